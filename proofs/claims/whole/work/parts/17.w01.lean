/-- SureSums$Curve.piecesWithMost(LSureSums$Program;III)I -/
def mz_0 : am_Y := (fun pc => am_q0.lookup pc, 10, 1)
theorem mh_0 : am_Ys 0 = some mz_0 := rfl
theorem w0_0 {ext : Nat → List Value → am_M → Option am_R} {d : Nat} {P : am_R → Prop} (I : Nat → Nat → Int32) (L : Nat → Nat → Int64) (D : Nat → Nat → UInt64) (xc : Nat) (xi : Nat) (xp : Nat) (xs : Nat) (xt : Nat) (xu : Nat) (v2 : Int32) (v3 : Int32) (v4 : Int32)
    (h : am_wp ext d mz_0 (3, [some (.ref 39), some (.ref 2), some (.int v2), some (.int v3), some (.int v4), some (.int 0), none, none, none, none], [], (I, L, D, am_rf (xt, xs, xi, xp, xu, xc))) P) : am_wp ext d mz_0 (0, [some (.ref 39), some (.ref 2), some (.int v2), some (.int v3), some (.int v4), none, none, none, none, none], [], (I, L, D, am_rf (xt, xs, xi, xp, xu, xc))) P := by
  refine am_wpb (c' := (3, [some (.ref 39), some (.ref 2), some (.int v2), some (.int v3), some (.int v4), some (.int 0), none, none, none, none], [], (I, L, D, am_rf (xt, xs, xi, xp, xu, xc)))) 2 rfl ?_
  exact h
theorem w0_3 {ext : Nat → List Value → am_M → Option am_R} {d : Nat} {P : am_R → Prop} (I : Nat → Nat → Int32) (L : Nat → Nat → Int64) (D : Nat → Nat → UInt64) (xc : Nat) (xi : Nat) (xp : Nat) (xs : Nat) (xt : Nat) (xu : Nat) (v2 : Int32) (v3 : Int32) (v4 : Int32) (v5 : Int32)
    (h : ((16 ≤ v5 → (am_wp ext d mz_0 (101, [some (.ref 39), none, none, none, none, some (.long (L 40 0)), none, some (.int 1), none, none], [], (I, L, D, am_rf (xt, xs, xi, xp, xu, xc))) P)) ∧ (¬ 16 ≤ v5 → (∃ (r1 : Int64) (I1 : Nat → Nat → Int32) (L1 : Nat → Nat → Int64) (D1 : Nat → Nat → UInt64), am_Rn ext d 82 [.int v3, .int v4, .int v5, .int 16] (I, L, D, am_rf (xt, xs, xi, xp, xu, xc)) (some (.long r1), (I1, L1, D1, am_rf (xt, xs, xi, xp, xu, xc))) ∧ (∃ (r2 : Int64) (I2 : Nat → Nat → Int32) (L2 : Nat → Nat → Int64) (D2 : Nat → Nat → UInt64), am_Rn ext d 82 [.int v3, .int v4, .int (v5 + 1), .int 16] (I1, L1, D1, am_rf (xt, xs, xi, xp, xu, xc)) (some (.long r2), (I2, L2, D2, am_rf (xt, xs, xi, xp, xu, xc))) ∧ (∃ (r3 : Int32) (I3 : Nat → Nat → Int32) (L3 : Nat → Nat → Int64) (D3 : Nat → Nat → UInt64), am_Rn ext d 60 [.ref 25, .ref 2, .int v2, .long r1, .long r2, .int 16] (I2, L2, D2, am_rf (xt, xs, xi, xp, xu, xc)) (some (.int r3), (I3, L3, D3, am_rf (xt, xs, xi, 2, xu, xc))) ∧ (((¬ r3 = 0 → (am_inb v5 17 = true ∧ (am_inb v5 17 = true ∧ (am_wp ext d mz_0 (3, [some (.ref 39), some (.ref 2), some (.int v2), some (.int v3), some (.int v4), some (.int (v5 + 1)), none, none, none, none], [], (I3, am_uL (am_uL L3 40 (Int32.toNatClampNeg v5) (L3 25 9)) 41 (Int32.toNatClampNeg v5) (L3 25 10), D3, am_rf (xt, xs, xi, 2, xu, xc))) P)))) ∧ (r3 = 0 → (P (some (.int 0), (I3, L3, D3, am_rf (xt, xs, xi, 2, xu, xc))))))))))))) : am_wp ext d mz_0 (3, [some (.ref 39), some (.ref 2), some (.int v2), some (.int v3), some (.int v4), some (.int v5), none, none, none, none], [], (I, L, D, am_rf (xt, xs, xi, xp, xu, xc))) P := by
  refine am_wpb (c' := (7, [some (.ref 39), some (.ref 2), some (.int v2), some (.int v3), some (.int v4), some (.int v5), none, none, none, none], [.int 16, .int v5], (I, L, D, am_rf (xt, xs, xi, xp, xu, xc)))) 2 rfl ?_
  refine am_b2_ge rfl (fun z => ?_) (fun z => ?_)
  · replace h := h.1 z
    refine am_wpb (c' := (95, [some (.ref 39), some (.ref 2), some (.int v2), some (.int v3), some (.int v4), some (.int v5), none, none, none, none], [.int 0, .ref 40], (I, L, D, am_rf (xt, xs, xi, xp, xu, xc)))) 3 rfl ?_
    refine am_wps (c' := (96, [some (.ref 39), some (.ref 2), some (.int v2), some (.int v3), some (.int v4), some (.int v5), none, none, none, none], [.long (L 40 0)], (I, L, D, am_rf (xt, xs, xi, xp, xu, xc)))) rfl rfl (am_s_lald rfl (by decide)) ?_
    refine am_wpb (c' := (101, [some (.ref 39), some (.ref 2), some (.int v2), some (.int v3), some (.int v4), some (.long (L 40 0)), none, some (.int 1), none, none], [], (I, L, D, am_rf (xt, xs, xi, xp, xu, xc)))) 3 rfl ?_
    exact am_fgt (l := [some (.ref 39), none, none, none, none, some (.long (L 40 0)), none, some (.int 1), none, none]) (am_le_of (am_leS (am_leN (am_leN (am_leN (am_leN (am_leS (am_leN (am_leS (am_leN (am_leN (am_leZ)))))))))))) h
  · replace h := h.2 z
    refine am_wpb (c' := (17, [some (.ref 39), some (.ref 2), some (.int v2), some (.int v3), some (.int v4), some (.int v5), none, none, none, none], [.int 16, .int v5, .int v4, .int v3], (I, L, D, am_rf (xt, xs, xi, xp, xu, xc)))) 4 rfl ?_
    obtain ⟨r1, I1, L1, D1, hr, h⟩ := h
    refine am_wp_inv (as := [.int v3, .int v4, .int v5, .int 16]) rfl rfl rfl rfl ⟨_, hr, ?_⟩
    show am_wp ext d mz_0 (20, [some (.ref 39), some (.ref 2), some (.int v2), some (.int v3), some (.int v4), some (.int v5), none, none, none, none], [.long r1], (I1, L1, D1, am_rf (xt, xs, xi, xp, xu, xc))) P
    refine am_wpb (c' := (31, [some (.ref 39), some (.ref 2), some (.int v2), some (.int v3), some (.int v4), some (.int v5), some (.long r1), none, none, none], [.int 16, .int (v5 + 1), .int v4, .int v3], (I1, L1, D1, am_rf (xt, xs, xi, xp, xu, xc)))) 7 rfl ?_
    obtain ⟨r2, I2, L2, D2, hr, h⟩ := h
    refine am_wp_inv (as := [.int v3, .int v4, .int (v5 + 1), .int 16]) rfl rfl rfl rfl ⟨_, hr, ?_⟩
    show am_wp ext d mz_0 (34, [some (.ref 39), some (.ref 2), some (.int v2), some (.int v3), some (.int v4), some (.int v5), some (.long r1), none, none, none], [.long r2], (I2, L2, D2, am_rf (xt, xs, xi, xp, xu, xc))) P
    refine am_wpb (c' := (48, [some (.ref 39), some (.ref 2), some (.int v2), some (.int v3), some (.int v4), some (.int v5), some (.long r1), none, some (.long r2), none], [.int 16, .long r2, .long r1, .int v2, .ref 2, .ref 25], (I2, L2, D2, am_rf (xt, xs, xi, xp, xu, xc)))) 8 rfl ?_
    obtain ⟨r3, I3, L3, D3, hr, h⟩ := h
    refine am_wp_inv (as := [.ref 25, .ref 2, .int v2, .long r1, .long r2, .int 16]) rfl rfl rfl rfl ⟨_, hr, ?_⟩
    show am_wp ext d mz_0 (51, [some (.ref 39), some (.ref 2), some (.int v2), some (.int v3), some (.int v4), some (.int v5), some (.long r1), none, some (.long r2), none], [.int r3], (I3, L3, D3, am_rf (xt, xs, xi, 2, xu, xc))) P
    refine am_b1_ne rfl (fun z => ?_) (fun z => ?_)
    · replace h := h.1 z
      refine am_wpb (c' := (69, [some (.ref 39), some (.ref 2), some (.int v2), some (.int v3), some (.int v4), some (.int v5), some (.long r1), none, some (.long r2), none], [.long (L3 25 9), .int v5, .ref 40], (I3, L3, D3, am_rf (xt, xs, xi, 2, xu, xc)))) 6 rfl ?_
      obtain ⟨o, h⟩ := h
      refine am_wps (c' := (70, [some (.ref 39), some (.ref 2), some (.int v2), some (.int v3), some (.int v4), some (.int v5), some (.long r1), none, some (.long r2), none], [], (I3, am_uL L3 40 (Int32.toNatClampNeg v5) (L3 25 9), D3, am_rf (xt, xs, xi, 2, xu, xc)))) rfl rfl (am_s_last rfl o) ?_
      refine am_wpb (c' := (83, [some (.ref 39), some (.ref 2), some (.int v2), some (.int v3), some (.int v4), some (.int v5), some (.long r1), none, some (.long r2), none], [.long (L3 25 10), .int v5, .ref 41], (I3, am_uL L3 40 (Int32.toNatClampNeg v5) (L3 25 9), D3, am_rf (xt, xs, xi, 2, xu, xc)))) 6 rfl ?_
      obtain ⟨o, h⟩ := h
      refine am_wps (c' := (84, [some (.ref 39), some (.ref 2), some (.int v2), some (.int v3), some (.int v4), some (.int v5), some (.long r1), none, some (.long r2), none], [], (I3, am_uL (am_uL L3 40 (Int32.toNatClampNeg v5) (L3 25 9)) 41 (Int32.toNatClampNeg v5) (L3 25 10), D3, am_rf (xt, xs, xi, 2, xu, xc)))) rfl rfl (am_s_last rfl o) ?_
      refine am_wpb (c' := (3, [some (.ref 39), some (.ref 2), some (.int v2), some (.int v3), some (.int v4), some (.int (v5 + 1)), some (.long r1), none, some (.long r2), none], [], (I3, am_uL (am_uL L3 40 (Int32.toNatClampNeg v5) (L3 25 9)) 41 (Int32.toNatClampNeg v5) (L3 25 10), D3, am_rf (xt, xs, xi, 2, xu, xc)))) 2 rfl ?_
      exact am_fgt (l := [some (.ref 39), some (.ref 2), some (.int v2), some (.int v3), some (.int v4), some (.int (v5 + 1)), none, none, none, none]) (am_le_of (am_leS (am_leS (am_leS (am_leS (am_leS (am_leS (am_leN (am_leN (am_leN (am_leN (am_leZ)))))))))))) h
    · replace h := h.2 z
      refine am_wpb (c' := (55, [some (.ref 39), some (.ref 2), some (.int v2), some (.int v3), some (.int v4), some (.int v5), some (.long r1), none, some (.long r2), none], [.int 0], (I3, L3, D3, am_rf (xt, xs, xi, 2, xu, xc)))) 1 rfl ?_
      exact am_ret_i rfl rfl h
theorem w0_101 {ext : Nat → List Value → am_M → Option am_R} {d : Nat} {P : am_R → Prop} (I : Nat → Nat → Int32) (L : Nat → Nat → Int64) (D : Nat → Nat → UInt64) (xc : Nat) (xi : Nat) (xp : Nat) (xs : Nat) (xt : Nat) (xu : Nat) (v5 : Int64) (v7 : Int32)
    (h : ((16 ≤ v7 → (am_wp ext d mz_0 (134, [some (.ref 39), none, none, none, none, some (.long v5), none, some (.int 0), some (.int 0), none], [], (I, L, D, am_rf (xt, xs, xi, xp, xu, xc))) P)) ∧ (¬ 16 ≤ v7 → (am_inb v7 17 = true ∧ (∃ (r1 : Int64) (I1 : Nat → Nat → Int32) (L1 : Nat → Nat → Int64) (D1 : Nat → Nat → UInt64), am_Rn ext d 203 [.long v5, .long (L 40 (Int32.toNatClampNeg v7))] (I, L, D, am_rf (xt, xs, xi, xp, xu, xc)) (some (.long r1), (I1, L1, D1, am_rf (xt, xs, xi, xp, xu, xc))) ∧ (am_wp ext d mz_0 (101, [some (.ref 39), none, none, none, none, some (.long r1), none, some (.int (v7 + 1)), none, none], [], (I1, L1, D1, am_rf (xt, xs, xi, xp, xu, xc))) P)))))) : am_wp ext d mz_0 (101, [some (.ref 39), none, none, none, none, some (.long v5), none, some (.int v7), none, none], [], (I, L, D, am_rf (xt, xs, xi, xp, xu, xc))) P := by
  refine am_wpb (c' := (105, [some (.ref 39), none, none, none, none, some (.long v5), none, some (.int v7), none, none], [.int 16, .int v7], (I, L, D, am_rf (xt, xs, xi, xp, xu, xc)))) 2 rfl ?_
  refine am_b2_ge rfl (fun z => ?_) (fun z => ?_)
  · replace h := h.1 z
    refine am_wpb (c' := (134, [some (.ref 39), none, none, none, none, some (.long v5), none, some (.int 0), some (.int 0), none], [], (I, L, D, am_rf (xt, xs, xi, xp, xu, xc)))) 4 rfl ?_
    exact h
  · replace h := h.2 z
    refine am_wpb (c' := (116, [some (.ref 39), none, none, none, none, some (.long v5), none, some (.int v7), none, none], [.int v7, .ref 40, .long v5], (I, L, D, am_rf (xt, xs, xi, xp, xu, xc)))) 4 rfl ?_
    obtain ⟨o, h⟩ := h
    refine am_wps (c' := (117, [some (.ref 39), none, none, none, none, some (.long v5), none, some (.int v7), none, none], [.long (L 40 (Int32.toNatClampNeg v7)), .long v5], (I, L, D, am_rf (xt, xs, xi, xp, xu, xc)))) rfl rfl (am_s_lald rfl o) ?_
    obtain ⟨r1, I1, L1, D1, hr, h⟩ := h
    refine am_wp_inv (as := [.long v5, .long (L 40 (Int32.toNatClampNeg v7))]) rfl rfl rfl rfl ⟨_, hr, ?_⟩
    show am_wp ext d mz_0 (120, [some (.ref 39), none, none, none, none, some (.long v5), none, some (.int v7), none, none], [.long r1], (I1, L1, D1, am_rf (xt, xs, xi, xp, xu, xc))) P
    refine am_wpb (c' := (101, [some (.ref 39), none, none, none, none, some (.long r1), none, some (.int (v7 + 1)), none, none], [], (I1, L1, D1, am_rf (xt, xs, xi, xp, xu, xc)))) 3 rfl ?_
    exact h
theorem w0_134 {ext : Nat → List Value → am_M → Option am_R} {d : Nat} {P : am_R → Prop} (I : Nat → Nat → Int32) (L : Nat → Nat → Int64) (D : Nat → Nat → UInt64) (xc : Nat) (xi : Nat) (xp : Nat) (xs : Nat) (xt : Nat) (xu : Nat) (v5 : Int64) (v7 : Int32) (v8 : Int32)
    (h : ((16 ≤ v8 → (P (some (.int v7), (I, L, D, am_rf (xt, xs, xi, xp, xu, xc))))) ∧ (¬ 16 ≤ v8 → (am_inb v8 17 = true ∧ ((((L 41 (Int32.toNatClampNeg v8)) < v5 → (am_wp ext d mz_0 (134, [some (.ref 39), none, none, none, none, some (.long v5), none, some (.int (v7 ||| 0)), some (.int (v8 + 1)), none], [], (I, L, D, am_rf (xt, xs, xi, xp, xu, xc))) P)) ∧ (¬ (L 41 (Int32.toNatClampNeg v8)) < v5 → (am_wp ext d mz_0 (134, [some (.ref 39), none, none, none, none, some (.long v5), none, some (.int (v7 ||| (1 <<< (v8 &&& 31)))), some (.int (v8 + 1)), none], [], (I, L, D, am_rf (xt, xs, xi, xp, xu, xc))) P)))))))) : am_wp ext d mz_0 (134, [some (.ref 39), none, none, none, none, some (.long v5), none, some (.int v7), some (.int v8), none], [], (I, L, D, am_rf (xt, xs, xi, xp, xu, xc))) P := by
  refine am_wpb (c' := (138, [some (.ref 39), none, none, none, none, some (.long v5), none, some (.int v7), some (.int v8), none], [.int 16, .int v8], (I, L, D, am_rf (xt, xs, xi, xp, xu, xc)))) 2 rfl ?_
  refine am_b2_ge rfl (fun z => ?_) (fun z => ?_)
  · replace h := h.1 z
    refine am_wpb (c' := (175, [some (.ref 39), none, none, none, none, some (.long v5), none, some (.int v7), some (.int v8), none], [.int v7], (I, L, D, am_rf (xt, xs, xi, xp, xu, xc)))) 1 rfl ?_
    exact am_ret_i rfl rfl h
  · replace h := h.2 z
    refine am_wpb (c' := (149, [some (.ref 39), none, none, none, none, some (.long v5), none, some (.int v7), some (.int v8), none], [.int v8, .ref 41, .int v7], (I, L, D, am_rf (xt, xs, xi, xp, xu, xc)))) 4 rfl ?_
    obtain ⟨o, h⟩ := h
    refine am_wps (c' := (150, [some (.ref 39), none, none, none, none, some (.long v5), none, some (.int v7), some (.int v8), none], [.long (L 41 (Int32.toNatClampNeg v8)), .int v7], (I, L, D, am_rf (xt, xs, xi, xp, xu, xc)))) rfl rfl (am_s_lald rfl o) ?_
    refine am_wpb (c' := (152, [some (.ref 39), none, none, none, none, some (.long v5), none, some (.int v7), some (.int v8), none], [.long v5, .long (L 41 (Int32.toNatClampNeg v8)), .int v7], (I, L, D, am_rf (xt, xs, xi, xp, xu, xc)))) 1 rfl ?_
    refine am_lc_lt rfl rfl (fun z => ?_) (fun z => ?_)
    · replace h := h.1 z
      refine am_wpb (c' := (134, [some (.ref 39), none, none, none, none, some (.long v5), none, some (.int (v7 ||| 0)), some (.int (v8 + 1)), none], [], (I, L, D, am_rf (xt, xs, xi, xp, xu, xc)))) 5 rfl ?_
      exact h
    · replace h := h.2 z
      refine am_wpb (c' := (134, [some (.ref 39), none, none, none, none, some (.long v5), none, some (.int (v7 ||| (1 <<< (v8 &&& 31)))), some (.int (v8 + 1)), none], [], (I, L, D, am_rf (xt, xs, xi, xp, xu, xc)))) 8 rfl ?_
      exact h
/-- SureSums$Curve.goTo(LSureSums$Program;II)V -/
def mz_1 : am_Y := (fun pc => am_q1.lookup pc, 4, 0)
theorem mh_1 : am_Ys 1 = some mz_1 := rfl
theorem w1_0 {ext : Nat → List Value → am_M → Option am_R} {d : Nat} {P : am_R → Prop} (I : Nat → Nat → Int32) (L : Nat → Nat → Int64) (D : Nat → Nat → UInt64) (xc : Nat) (xi : Nat) (xp : Nat) (xs : Nat) (xt : Nat) (xu : Nat) (v2 : Int32) (v3 : Int32)
    (h : ∃ (r1 : Int32) (I1 : Nat → Nat → Int32) (L1 : Nat → Nat → Int64) (D1 : Nat → Nat → UInt64), am_Rn ext d 60 [.ref 25, .ref 2, .int v2, .long ((Int32.toInt64 v3) <<< ((Int32.toInt64 16) &&& 63)), .long ((Int32.toInt64 (v3 + 1)) <<< ((Int32.toInt64 16) &&& 63)), .int 16] (am_uI (am_uI (am_uI I 39 4 v2) 39 5 v3) 39 9 0, L, D, am_rf (xt, xs, xi, xp, xu, 2)) (some (.int r1), (I1, L1, D1, am_rf (xt, xs, xi, 2, xu, 2))) ∧ ((r1 = 0 ∨ r1 = 1) ∧ (P (none, (am_uI I1 39 6 r1, am_uL (am_uL L1 39 7 (L1 25 9)) 39 8 (L1 25 10), D1, am_rf (xt, xs, xi, 2, xu, 2)))))) : am_wp ext d mz_1 (0, [some (.ref 39), some (.ref 2), some (.int v2), some (.int v3)], [], (I, L, D, am_rf (xt, xs, xi, xp, xu, xc))) P := by
  refine am_wpb (c' := (2, [some (.ref 39), some (.ref 2), some (.int v2), some (.int v3)], [.ref 2, .ref 39], (I, L, D, am_rf (xt, xs, xi, xp, xu, xc)))) 2 rfl ?_
  refine am_wps (c' := (5, [some (.ref 39), some (.ref 2), some (.int v2), some (.int v3)], [], (I, L, D, am_rf (xt, xs, xi, xp, xu, 2)))) rfl rfl (am_s_rput rfl rfl (am_rf_w5 _ _ _ _ _ _ _ _ _ _)) ?_
  refine am_wpb (c' := (41, [some (.ref 39), some (.ref 2), some (.int v2), some (.int v3)], [.int 16, .long ((Int32.toInt64 (v3 + 1)) <<< ((Int32.toInt64 16) &&& 63)), .long ((Int32.toInt64 v3) <<< ((Int32.toInt64 16) &&& 63)), .int v2, .ref 2, .ref 25, .ref 39], (am_uI (am_uI (am_uI I 39 4 v2) 39 5 v3) 39 9 0, L, D, am_rf (xt, xs, xi, xp, xu, 2)))) 25 rfl ?_
  obtain ⟨r1, I1, L1, D1, hr, h⟩ := h
  refine am_wp_inv (as := [.ref 25, .ref 2, .int v2, .long ((Int32.toInt64 v3) <<< ((Int32.toInt64 16) &&& 63)), .long ((Int32.toInt64 (v3 + 1)) <<< ((Int32.toInt64 16) &&& 63)), .int 16]) rfl rfl rfl rfl ⟨_, hr, ?_⟩
  show am_wp ext d mz_1 (44, [some (.ref 39), some (.ref 2), some (.int v2), some (.int v3)], [.int r1, .ref 39], (I1, L1, D1, am_rf (xt, xs, xi, 2, xu, 2))) P
  obtain ⟨o, h⟩ := h
  refine am_wps (c' := (47, [some (.ref 39), some (.ref 2), some (.int v2), some (.int v3)], [], (am_uI I1 39 6 r1, L1, D1, am_rf (xt, xs, xi, 2, xu, 2)))) rfl rfl (am_s_zput rfl rfl o) ?_
  refine am_wpb (c' := (69, [some (.ref 39), some (.ref 2), some (.int v2), some (.int v3)], [], (am_uI I1 39 6 r1, am_uL (am_uL L1 39 7 (L1 25 9)) 39 8 (L1 25 10), D1, am_rf (xt, xs, xi, 2, xu, 2)))) 10 rfl ?_
  exact am_ret_v rfl rfl h
/-- SureSums$Curve.kindOfSquare(I)I -/
def mz_2 : am_Y := (fun pc => am_q2.lookup pc, 10, 1)
theorem mh_2 : am_Ys 2 = some mz_2 := rfl
theorem w2_0 {ext : Nat → List Value → am_M → Option am_R} {d : Nat} {P : am_R → Prop} (I : Nat → Nat → Int32) (L : Nat → Nat → Int64) (D : Nat → Nat → UInt64) (xc : Nat) (xi : Nat) (xp : Nat) (xs : Nat) (xt : Nat) (xu : Nat) (v1 : Int32)
    (h : (((I 39 6) = 0 → (am_wp ext d mz_2 (46, [some (.ref 39), none, some (.long ((Int32.toInt64 v1) <<< ((Int32.toInt64 16) &&& 63))), none, some (.long ((Int32.toInt64 (v1 + 1)) <<< ((Int32.toInt64 16) &&& 63))), none, some (.int 0), none, none, none], [], (I, L, D, am_rf (xt, xs, xi, xp, xu, xc))) P)) ∧ (¬ (I 39 6) = 0 → (((((Int32.toInt64 (v1 + 1)) <<< ((Int32.toInt64 16) &&& 63)) < (L 39 7) → (P (some (.int 0), (I, L, D, am_rf (xt, xs, xi, xp, xu, xc))))) ∧ (¬ ((Int32.toInt64 (v1 + 1)) <<< ((Int32.toInt64 16) &&& 63)) < (L 39 7) → (((((Int32.toInt64 v1) <<< ((Int32.toInt64 16) &&& 63)) ≤ (L 39 8) → (am_wp ext d mz_2 (46, [some (.ref 39), none, some (.long ((Int32.toInt64 v1) <<< ((Int32.toInt64 16) &&& 63))), none, some (.long ((Int32.toInt64 (v1 + 1)) <<< ((Int32.toInt64 16) &&& 63))), none, some (.int 0), none, none, none], [], (I, L, D, am_rf (xt, xs, xi, xp, xu, xc))) P)) ∧ (¬ ((Int32.toInt64 v1) <<< ((Int32.toInt64 16) &&& 63)) ≤ (L 39 8) → (P (some (.int 0), (I, L, D, am_rf (xt, xs, xi, xp, xu, xc))))))))))))) : am_wp ext d mz_2 (0, [some (.ref 39), some (.int v1), none, none, none, none, none, none, none, none], [], (I, L, D, am_rf (xt, xs, xi, xp, xu, xc))) P := by
  refine am_wpb (c' := (19, [some (.ref 39), some (.int v1), some (.long ((Int32.toInt64 v1) <<< ((Int32.toInt64 16) &&& 63))), none, some (.long ((Int32.toInt64 (v1 + 1)) <<< ((Int32.toInt64 16) &&& 63))), none, none, none, none, none], [.int (I 39 6)], (I, L, D, am_rf (xt, xs, xi, xp, xu, xc)))) 14 rfl ?_
  refine am_b1_eq rfl (fun z => ?_) (fun z => ?_)
  · replace h := h.1 z
    refine am_wpb (c' := (46, [some (.ref 39), some (.int v1), some (.long ((Int32.toInt64 v1) <<< ((Int32.toInt64 16) &&& 63))), none, some (.long ((Int32.toInt64 (v1 + 1)) <<< ((Int32.toInt64 16) &&& 63))), none, some (.int 0), none, none, none], [], (I, L, D, am_rf (xt, xs, xi, xp, xu, xc)))) 2 rfl ?_
    exact am_fgt (l := [some (.ref 39), none, some (.long ((Int32.toInt64 v1) <<< ((Int32.toInt64 16) &&& 63))), none, some (.long ((Int32.toInt64 (v1 + 1)) <<< ((Int32.toInt64 16) &&& 63))), none, some (.int 0), none, none, none]) (am_le_of (am_leS (am_leN (am_leS (am_leN (am_leS (am_leN (am_leS (am_leN (am_leN (am_leN (am_leZ)))))))))))) h
  · replace h := h.2 z
    refine am_wpb (c' := (28, [some (.ref 39), some (.int v1), some (.long ((Int32.toInt64 v1) <<< ((Int32.toInt64 16) &&& 63))), none, some (.long ((Int32.toInt64 (v1 + 1)) <<< ((Int32.toInt64 16) &&& 63))), none, none, none, none, none], [.long ((Int32.toInt64 (v1 + 1)) <<< ((Int32.toInt64 16) &&& 63)), .long (L 39 7)], (I, L, D, am_rf (xt, xs, xi, xp, xu, xc)))) 3 rfl ?_
    refine am_lc_gt rfl rfl (fun z => ?_) (fun z => ?_)
    · replace h := h.1 z
      refine am_wpb (c' := (42, [some (.ref 39), some (.int v1), some (.long ((Int32.toInt64 v1) <<< ((Int32.toInt64 16) &&& 63))), none, some (.long ((Int32.toInt64 (v1 + 1)) <<< ((Int32.toInt64 16) &&& 63))), none, none, none, none, none], [.int 0], (I, L, D, am_rf (xt, xs, xi, xp, xu, xc)))) 1 rfl ?_
      exact am_ret_i rfl rfl h
    · replace h := h.2 z
      refine am_wpb (c' := (37, [some (.ref 39), some (.int v1), some (.long ((Int32.toInt64 v1) <<< ((Int32.toInt64 16) &&& 63))), none, some (.long ((Int32.toInt64 (v1 + 1)) <<< ((Int32.toInt64 16) &&& 63))), none, none, none, none, none], [.long ((Int32.toInt64 v1) <<< ((Int32.toInt64 16) &&& 63)), .long (L 39 8)], (I, L, D, am_rf (xt, xs, xi, xp, xu, xc)))) 3 rfl ?_
      refine am_lc_ge rfl rfl (fun z => ?_) (fun z => ?_)
      · replace h := h.1 z
        refine am_wpb (c' := (46, [some (.ref 39), some (.int v1), some (.long ((Int32.toInt64 v1) <<< ((Int32.toInt64 16) &&& 63))), none, some (.long ((Int32.toInt64 (v1 + 1)) <<< ((Int32.toInt64 16) &&& 63))), none, some (.int 0), none, none, none], [], (I, L, D, am_rf (xt, xs, xi, xp, xu, xc)))) 2 rfl ?_
        exact am_fgt (l := [some (.ref 39), none, some (.long ((Int32.toInt64 v1) <<< ((Int32.toInt64 16) &&& 63))), none, some (.long ((Int32.toInt64 (v1 + 1)) <<< ((Int32.toInt64 16) &&& 63))), none, some (.int 0), none, none, none]) (am_le_of (am_leS (am_leN (am_leS (am_leN (am_leS (am_leN (am_leS (am_leN (am_leN (am_leN (am_leZ)))))))))))) h
      · replace h := h.2 z
        refine am_wpb (c' := (42, [some (.ref 39), some (.int v1), some (.long ((Int32.toInt64 v1) <<< ((Int32.toInt64 16) &&& 63))), none, some (.long ((Int32.toInt64 (v1 + 1)) <<< ((Int32.toInt64 16) &&& 63))), none, none, none, none, none], [.int 0], (I, L, D, am_rf (xt, xs, xi, xp, xu, xc)))) 1 rfl ?_
        exact am_ret_i rfl rfl h
theorem w2_46 {ext : Nat → List Value → am_M → Option am_R} {d : Nat} {P : am_R → Prop} (I : Nat → Nat → Int32) (L : Nat → Nat → Int64) (D : Nat → Nat → UInt64) (xc : Nat) (xi : Nat) (xp : Nat) (xs : Nat) (xt : Nat) (xu : Nat) (v2 : Int64) (v4 : Int64) (v6 : Int32)
    (h : ((17 ≤ v6 → (P (some (.int 1), (I, L, D, am_rf (xt, xs, xi, xp, xu, xc))))) ∧ (¬ 17 ≤ v6 → (((v6 < (I 39 9) → (am_wp ext d mz_2 (156, [some (.ref 39), none, some (.long v2), none, some (.long v4), none, some (.int v6), none, none, none], [], (I, L, D, am_rf (xt, xs, xi, xp, xu, xc))) P)) ∧ (¬ v6 < (I 39 9) → (∃ (r1 : Int32) (I1 : Nat → Nat → Int32) (L1 : Nat → Nat → Int64) (D1 : Nat → Nat → UInt64), am_Rn ext d 60 [.ref 25, .ref xc, .int (I 39 4), .long (((Int32.toInt64 (I 39 5)) <<< ((Int32.toInt64 16) &&& 63)) + ((Int32.toInt64 v6) <<< ((Int32.toInt64 12) &&& 63))), .long (((Int32.toInt64 (I 39 5)) <<< ((Int32.toInt64 16) &&& 63)) + ((Int32.toInt64 v6) <<< ((Int32.toInt64 12) &&& 63))), .int 16] (I, L, D, am_rf (xt, xs, xi, xp, xu, xc)) (some (.int r1), (I1, L1, D1, am_rf (xt, xs, xi, xc, xu, xc))) ∧ (((r1 = 0 → (am_wp ext d mz_2 (124, [some (.ref 39), none, some (.long v2), none, some (.long v4), none, some (.int v6), none, none, some (.int r1)], [.long 1, .int v6, .ref 40], (I1, L1, D1, am_rf (xt, xs, xi, xc, xu, xc))) P)) ∧ (¬ r1 = 0 → (am_wp ext d mz_2 (124, [some (.ref 39), none, some (.long v2), none, some (.long v4), none, some (.int v6), none, none, some (.int r1)], [.long (L1 25 9), .int v6, .ref 40], (I1, L1, D1, am_rf (xt, xs, xi, xc, xu, xc))) P))))))))))) : am_wp ext d mz_2 (46, [some (.ref 39), none, some (.long v2), none, some (.long v4), none, some (.int v6), none, none, none], [], (I, L, D, am_rf (xt, xs, xi, xp, xu, xc))) P := by
  refine am_wpb (c' := (50, [some (.ref 39), none, some (.long v2), none, some (.long v4), none, some (.int v6), none, none, none], [.int 17, .int v6], (I, L, D, am_rf (xt, xs, xi, xp, xu, xc)))) 2 rfl ?_
  refine am_b2_ge rfl (fun z => ?_) (fun z => ?_)
  · replace h := h.1 z
    refine am_wpb (c' := (208, [some (.ref 39), none, some (.long v2), none, some (.long v4), none, some (.int v6), none, none, none], [.int 1], (I, L, D, am_rf (xt, xs, xi, xp, xu, xc)))) 1 rfl ?_
    exact am_ret_i rfl rfl h
  · replace h := h.2 z
    refine am_wpb (c' := (59, [some (.ref 39), none, some (.long v2), none, some (.long v4), none, some (.int v6), none, none, none], [.int (I 39 9), .int v6], (I, L, D, am_rf (xt, xs, xi, xp, xu, xc)))) 3 rfl ?_
    refine am_b2_lt rfl (fun z => ?_) (fun z => ?_)
    · replace h := h.1 z
      exact h
    · replace h := h.2 z
      refine am_wpb (c' := (97, [some (.ref 39), none, some (.long v2), none, some (.long v4), none, some (.int v6), some (.long (((Int32.toInt64 (I 39 5)) <<< ((Int32.toInt64 16) &&& 63)) + ((Int32.toInt64 v6) <<< ((Int32.toInt64 12) &&& 63)))), none, none], [.int 16, .long (((Int32.toInt64 (I 39 5)) <<< ((Int32.toInt64 16) &&& 63)) + ((Int32.toInt64 v6) <<< ((Int32.toInt64 12) &&& 63))), .long (((Int32.toInt64 (I 39 5)) <<< ((Int32.toInt64 16) &&& 63)) + ((Int32.toInt64 v6) <<< ((Int32.toInt64 12) &&& 63))), .int (I 39 4), .ref xc, .ref 25], (I, L, D, am_rf (xt, xs, xi, xp, xu, xc)))) 20 rfl ?_
      obtain ⟨r1, I1, L1, D1, hr, h⟩ := h
      refine am_wp_inv (as := [.ref 25, .ref xc, .int (I 39 4), .long (((Int32.toInt64 (I 39 5)) <<< ((Int32.toInt64 16) &&& 63)) + ((Int32.toInt64 v6) <<< ((Int32.toInt64 12) &&& 63))), .long (((Int32.toInt64 (I 39 5)) <<< ((Int32.toInt64 16) &&& 63)) + ((Int32.toInt64 v6) <<< ((Int32.toInt64 12) &&& 63))), .int 16]) rfl rfl rfl rfl ⟨_, hr, ?_⟩
      show am_wp ext d mz_2 (100, [some (.ref 39), none, some (.long v2), none, some (.long v4), none, some (.int v6), some (.long (((Int32.toInt64 (I 39 5)) <<< ((Int32.toInt64 16) &&& 63)) + ((Int32.toInt64 v6) <<< ((Int32.toInt64 12) &&& 63)))), none, none], [.int r1], (I1, L1, D1, am_rf (xt, xs, xi, xc, xu, xc))) P
      refine am_wpb (c' := (110, [some (.ref 39), none, some (.long v2), none, some (.long v4), none, some (.int v6), some (.long (((Int32.toInt64 (I 39 5)) <<< ((Int32.toInt64 16) &&& 63)) + ((Int32.toInt64 v6) <<< ((Int32.toInt64 12) &&& 63)))), none, some (.int r1)], [.int r1, .int v6, .ref 40], (I1, L1, D1, am_rf (xt, xs, xi, xc, xu, xc)))) 5 rfl ?_
      refine am_b1_eq rfl (fun z => ?_) (fun z => ?_)
      · replace h := h.1 z
        refine am_wpb (c' := (124, [some (.ref 39), none, some (.long v2), none, some (.long v4), none, some (.int v6), some (.long (((Int32.toInt64 (I 39 5)) <<< ((Int32.toInt64 16) &&& 63)) + ((Int32.toInt64 v6) <<< ((Int32.toInt64 12) &&& 63)))), none, some (.int r1)], [.long 1, .int v6, .ref 40], (I1, L1, D1, am_rf (xt, xs, xi, xc, xu, xc)))) 1 rfl ?_
        exact am_fgt (l := [some (.ref 39), none, some (.long v2), none, some (.long v4), none, some (.int v6), none, none, some (.int r1)]) (am_le_of (am_leS (am_leN (am_leS (am_leN (am_leS (am_leN (am_leS (am_leN (am_leN (am_leS (am_leZ)))))))))))) h
      · replace h := h.2 z
        refine am_wpb (c' := (124, [some (.ref 39), none, some (.long v2), none, some (.long v4), none, some (.int v6), some (.long (((Int32.toInt64 (I 39 5)) <<< ((Int32.toInt64 16) &&& 63)) + ((Int32.toInt64 v6) <<< ((Int32.toInt64 12) &&& 63)))), none, some (.int r1)], [.long (L1 25 9), .int v6, .ref 40], (I1, L1, D1, am_rf (xt, xs, xi, xc, xu, xc)))) 4 rfl ?_
        exact am_fgt (l := [some (.ref 39), none, some (.long v2), none, some (.long v4), none, some (.int v6), none, none, some (.int r1)]) (am_le_of (am_leS (am_leN (am_leS (am_leN (am_leS (am_leN (am_leS (am_leN (am_leN (am_leS (am_leZ)))))))))))) h
theorem w2_124 {ext : Nat → List Value → am_M → Option am_R} {d : Nat} {P : am_R → Prop} (I : Nat → Nat → Int32) (L : Nat → Nat → Int64) (D : Nat → Nat → UInt64) (xc : Nat) (xi : Nat) (xs : Nat) (xt : Nat) (xu : Nat) (v2 : Int64) (v4 : Int64) (v6 : Int32) (v9 : Int32) (s0 : Int64) (s1 : Int32)
    (h : am_inb s1 17 = true ∧ (((v9 = 0 → (am_inb v6 17 = true ∧ (am_wp ext d mz_2 (156, [some (.ref 39), none, some (.long v2), none, some (.long v4), none, some (.int v6), none, none, none], [], (am_uI I 39 9 (v6 + 1), am_uL (am_uL L 40 (Int32.toNatClampNeg s1) s0) 41 (Int32.toNatClampNeg v6) 0, D, am_rf (xt, xs, xi, xc, xu, xc))) P))) ∧ (¬ v9 = 0 → (am_inb v6 17 = true ∧ (am_wp ext d mz_2 (156, [some (.ref 39), none, some (.long v2), none, some (.long v4), none, some (.int v6), none, none, none], [], (am_uI I 39 9 (v6 + 1), am_uL (am_uL L 40 (Int32.toNatClampNeg s1) s0) 41 (Int32.toNatClampNeg v6) (L 25 10), D, am_rf (xt, xs, xi, xc, xu, xc))) P)))))) : am_wp ext d mz_2 (124, [some (.ref 39), none, some (.long v2), none, some (.long v4), none, some (.int v6), none, none, some (.int v9)], [.long s0, .int s1, .ref 40], (I, L, D, am_rf (xt, xs, xi, xc, xu, xc))) P := by
  obtain ⟨o, h⟩ := h
  refine am_wps (c' := (125, [some (.ref 39), none, some (.long v2), none, some (.long v4), none, some (.int v6), none, none, some (.int v9)], [], (I, am_uL L 40 (Int32.toNatClampNeg s1) s0, D, am_rf (xt, xs, xi, xc, xu, xc)))) rfl rfl (am_s_last rfl o) ?_
  refine am_wpb (c' := (133, [some (.ref 39), none, some (.long v2), none, some (.long v4), none, some (.int v6), none, none, some (.int v9)], [.int v9, .int v6, .ref 41], (I, am_uL L 40 (Int32.toNatClampNeg s1) s0, D, am_rf (xt, xs, xi, xc, xu, xc)))) 4 rfl ?_
  refine am_b1_eq rfl (fun z => ?_) (fun z => ?_)
  · replace h := h.1 z
    refine am_wpb (c' := (147, [some (.ref 39), none, some (.long v2), none, some (.long v4), none, some (.int v6), none, none, some (.int v9)], [.long 0, .int v6, .ref 41], (I, am_uL L 40 (Int32.toNatClampNeg s1) s0, D, am_rf (xt, xs, xi, xc, xu, xc)))) 1 rfl ?_
    obtain ⟨o, h⟩ := h
    refine am_wps (c' := (148, [some (.ref 39), none, some (.long v2), none, some (.long v4), none, some (.int v6), none, none, some (.int v9)], [], (I, am_uL (am_uL L 40 (Int32.toNatClampNeg s1) s0) 41 (Int32.toNatClampNeg v6) 0, D, am_rf (xt, xs, xi, xc, xu, xc)))) rfl rfl (am_s_last rfl o) ?_
    refine am_wpb (c' := (156, [some (.ref 39), none, some (.long v2), none, some (.long v4), none, some (.int v6), none, none, some (.int v9)], [], (am_uI I 39 9 (v6 + 1), am_uL (am_uL L 40 (Int32.toNatClampNeg s1) s0) 41 (Int32.toNatClampNeg v6) 0, D, am_rf (xt, xs, xi, xc, xu, xc)))) 5 rfl ?_
    exact am_fgt (l := [some (.ref 39), none, some (.long v2), none, some (.long v4), none, some (.int v6), none, none, none]) (am_le_of (am_leS (am_leN (am_leS (am_leN (am_leS (am_leN (am_leS (am_leN (am_leN (am_leN (am_leZ)))))))))))) h
  · replace h := h.2 z
    refine am_wpb (c' := (147, [some (.ref 39), none, some (.long v2), none, some (.long v4), none, some (.int v6), none, none, some (.int v9)], [.long (L 25 10), .int v6, .ref 41], (I, am_uL L 40 (Int32.toNatClampNeg s1) s0, D, am_rf (xt, xs, xi, xc, xu, xc)))) 4 rfl ?_
    obtain ⟨o, h⟩ := h
    refine am_wps (c' := (148, [some (.ref 39), none, some (.long v2), none, some (.long v4), none, some (.int v6), none, none, some (.int v9)], [], (I, am_uL (am_uL L 40 (Int32.toNatClampNeg s1) s0) 41 (Int32.toNatClampNeg v6) (L 25 10), D, am_rf (xt, xs, xi, xc, xu, xc)))) rfl rfl (am_s_last rfl o) ?_
    refine am_wpb (c' := (156, [some (.ref 39), none, some (.long v2), none, some (.long v4), none, some (.int v6), none, none, some (.int v9)], [], (am_uI I 39 9 (v6 + 1), am_uL (am_uL L 40 (Int32.toNatClampNeg s1) s0) 41 (Int32.toNatClampNeg v6) (L 25 10), D, am_rf (xt, xs, xi, xc, xu, xc)))) 5 rfl ?_
    exact am_fgt (l := [some (.ref 39), none, some (.long v2), none, some (.long v4), none, some (.int v6), none, none, none]) (am_le_of (am_leS (am_leN (am_leS (am_leN (am_leS (am_leN (am_leS (am_leN (am_leN (am_leN (am_leZ)))))))))))) h
theorem w2_156 {ext : Nat → List Value → am_M → Option am_R} {d : Nat} {P : am_R → Prop} (I : Nat → Nat → Int32) (L : Nat → Nat → Int64) (D : Nat → Nat → UInt64) (xc : Nat) (xi : Nat) (xp : Nat) (xs : Nat) (xt : Nat) (xu : Nat) (v2 : Int64) (v4 : Int64) (v6 : Int32)
    (h : am_inb v6 17 = true ∧ (am_inb v6 17 = true ∧ ((((L 41 (Int32.toNatClampNeg v6)) < (L 40 (Int32.toNatClampNeg v6)) → (am_wp ext d mz_2 (46, [some (.ref 39), none, some (.long v2), none, some (.long v4), none, some (.int (v6 + 1)), none, none, none], [], (I, L, D, am_rf (xt, xs, xi, xp, xu, xc))) P)) ∧ (¬ (L 41 (Int32.toNatClampNeg v6)) < (L 40 (Int32.toNatClampNeg v6)) → (am_inb v6 17 = true ∧ ((((L 40 (Int32.toNatClampNeg v6)) < v2 → (am_wp ext d mz_2 (46, [some (.ref 39), none, some (.long v2), none, some (.long v4), none, some (.int (v6 + 1)), none, none, none], [], (I, L, D, am_rf (xt, xs, xi, xp, xu, xc))) P)) ∧ (¬ (L 40 (Int32.toNatClampNeg v6)) < v2 → (am_inb v6 17 = true ∧ (((v4 < (L 41 (Int32.toNatClampNeg v6)) → (am_wp ext d mz_2 (46, [some (.ref 39), none, some (.long v2), none, some (.long v4), none, some (.int (v6 + 1)), none, none, none], [], (I, L, D, am_rf (xt, xs, xi, xp, xu, xc))) P)) ∧ (¬ v4 < (L 41 (Int32.toNatClampNeg v6)) → (P (some (.int 2), (I, L, D, am_rf (xt, xs, xi, xp, xu, xc))))))))))))))))) : am_wp ext d mz_2 (156, [some (.ref 39), none, some (.long v2), none, some (.long v4), none, some (.int v6), none, none, none], [], (I, L, D, am_rf (xt, xs, xi, xp, xu, xc))) P := by
  refine am_wpb (c' := (162, [some (.ref 39), none, some (.long v2), none, some (.long v4), none, some (.int v6), none, none, none], [.int v6, .ref 40], (I, L, D, am_rf (xt, xs, xi, xp, xu, xc)))) 3 rfl ?_
  obtain ⟨o, h⟩ := h
  refine am_wps (c' := (163, [some (.ref 39), none, some (.long v2), none, some (.long v4), none, some (.int v6), none, none, none], [.long (L 40 (Int32.toNatClampNeg v6))], (I, L, D, am_rf (xt, xs, xi, xp, xu, xc)))) rfl rfl (am_s_lald rfl o) ?_
  refine am_wpb (c' := (169, [some (.ref 39), none, some (.long v2), none, some (.long v4), none, some (.int v6), none, none, none], [.int v6, .ref 41, .long (L 40 (Int32.toNatClampNeg v6))], (I, L, D, am_rf (xt, xs, xi, xp, xu, xc)))) 3 rfl ?_
  obtain ⟨o, h⟩ := h
  refine am_wps (c' := (170, [some (.ref 39), none, some (.long v2), none, some (.long v4), none, some (.int v6), none, none, none], [.long (L 41 (Int32.toNatClampNeg v6)), .long (L 40 (Int32.toNatClampNeg v6))], (I, L, D, am_rf (xt, xs, xi, xp, xu, xc)))) rfl rfl (am_s_lald rfl o) ?_
  refine am_lc_gt rfl rfl (fun z => ?_) (fun z => ?_)
  · replace h := h.1 z
    refine am_wpb (c' := (46, [some (.ref 39), none, some (.long v2), none, some (.long v4), none, some (.int (v6 + 1)), none, none, none], [], (I, L, D, am_rf (xt, xs, xi, xp, xu, xc)))) 2 rfl ?_
    exact h
  · replace h := h.2 z
    refine am_wpb (c' := (180, [some (.ref 39), none, some (.long v2), none, some (.long v4), none, some (.int v6), none, none, none], [.int v6, .ref 40], (I, L, D, am_rf (xt, xs, xi, xp, xu, xc)))) 3 rfl ?_
    obtain ⟨o, h⟩ := h
    refine am_wps (c' := (181, [some (.ref 39), none, some (.long v2), none, some (.long v4), none, some (.int v6), none, none, none], [.long (L 40 (Int32.toNatClampNeg v6))], (I, L, D, am_rf (xt, xs, xi, xp, xu, xc)))) rfl rfl (am_s_lald rfl o) ?_
    refine am_wpb (c' := (182, [some (.ref 39), none, some (.long v2), none, some (.long v4), none, some (.int v6), none, none, none], [.long v2, .long (L 40 (Int32.toNatClampNeg v6))], (I, L, D, am_rf (xt, xs, xi, xp, xu, xc)))) 1 rfl ?_
    refine am_lc_lt rfl rfl (fun z => ?_) (fun z => ?_)
    · replace h := h.1 z
      refine am_wpb (c' := (46, [some (.ref 39), none, some (.long v2), none, some (.long v4), none, some (.int (v6 + 1)), none, none, none], [], (I, L, D, am_rf (xt, xs, xi, xp, xu, xc)))) 2 rfl ?_
      exact h
    · replace h := h.2 z
      refine am_wpb (c' := (192, [some (.ref 39), none, some (.long v2), none, some (.long v4), none, some (.int v6), none, none, none], [.int v6, .ref 41], (I, L, D, am_rf (xt, xs, xi, xp, xu, xc)))) 3 rfl ?_
      obtain ⟨o, h⟩ := h
      refine am_wps (c' := (193, [some (.ref 39), none, some (.long v2), none, some (.long v4), none, some (.int v6), none, none, none], [.long (L 41 (Int32.toNatClampNeg v6))], (I, L, D, am_rf (xt, xs, xi, xp, xu, xc)))) rfl rfl (am_s_lald rfl o) ?_
      refine am_wpb (c' := (195, [some (.ref 39), none, some (.long v2), none, some (.long v4), none, some (.int v6), none, none, none], [.long v4, .long (L 41 (Int32.toNatClampNeg v6))], (I, L, D, am_rf (xt, xs, xi, xp, xu, xc)))) 1 rfl ?_
      refine am_lc_gt rfl rfl (fun z => ?_) (fun z => ?_)
      · replace h := h.1 z
        refine am_wpb (c' := (46, [some (.ref 39), none, some (.long v2), none, some (.long v4), none, some (.int (v6 + 1)), none, none, none], [], (I, L, D, am_rf (xt, xs, xi, xp, xu, xc)))) 2 rfl ?_
        exact h
      · replace h := h.2 z
        refine am_wpb (c' := (200, [some (.ref 39), none, some (.long v2), none, some (.long v4), none, some (.int v6), none, none, none], [.int 2], (I, L, D, am_rf (xt, xs, xi, xp, xu, xc)))) 1 rfl ?_
        exact am_ret_i rfl rfl h
/-- SureSums$Doubles.forget(LSureSums$Program;)V -/
def mz_3 : am_Y := (fun pc => am_q3.lookup pc, 2, 0)
theorem mh_3 : am_Ys 3 = some mz_3 := rfl
theorem w3_0 {ext : Nat → List Value → am_M → Option am_R} {d : Nat} {P : am_R → Prop} (I : Nat → Nat → Int32) (L : Nat → Nat → Int64) (D : Nat → Nat → UInt64) (xc : Nat) (xi : Nat) (xp : Nat) (xs : Nat) (xt : Nat) (xu : Nat)
    (h : ∃ (I1 : Nat → Nat → Int32) (L1 : Nat → Nat → Int64) (D1 : Nat → Nat → UInt64), am_Rn ext d 207 [.ref 36, .int 0] (I, L, D, am_rf (xt, xs, xi, xp, 11, xc)) (none, (I1, L1, D1, am_rf (xt, xs, xi, xp, 11, xc))) ∧ (P (none, (I1, L1, D1, am_rf (xt, xs, xi, xp, 11, xc))))) : am_wp ext d mz_3 (0, [some (.ref 34), some (.ref 11)], [], (I, L, D, am_rf (xt, xs, xi, xp, xu, xc))) P := by
  refine am_wpb (c' := (2, [some (.ref 34), some (.ref 11)], [.ref 11, .ref 34], (I, L, D, am_rf (xt, xs, xi, xp, xu, xc)))) 2 rfl ?_
  refine am_wps (c' := (5, [some (.ref 34), some (.ref 11)], [], (I, L, D, am_rf (xt, xs, xi, xp, 11, xc)))) rfl rfl (am_s_rput rfl rfl (am_rf_w4 _ _ _ _ _ _ _ _ _ _)) ?_
  refine am_wpb (c' := (10, [some (.ref 34), some (.ref 11)], [.int 0, .ref 36], (I, L, D, am_rf (xt, xs, xi, xp, 11, xc)))) 3 rfl ?_
  obtain ⟨I1, L1, D1, hr, h⟩ := h
  refine am_wp_inv (as := [.ref 36, .int 0]) rfl rfl rfl rfl ⟨_, hr, ?_⟩
  show am_wp ext d mz_3 (13, [some (.ref 34), some (.ref 11)], [], (I1, L1, D1, am_rf (xt, xs, xi, xp, 11, xc))) P
  exact am_ret_v rfl rfl h
/-- SureSums$Doubles.reckon(I)Z -/
def mz_4 : am_Y := (fun pc => am_q4.lookup pc, 3, 2)
theorem mh_4 : am_Ys 4 = some mz_4 := rfl
theorem w4_0 {ext : Nat → List Value → am_M → Option am_R} {d : Nat} {P : am_R → Prop} (I : Nat → Nat → Int32) (L : Nat → Nat → Int64) (D : Nat → Nat → UInt64) (X : am_Rf) (v1 : Int32)
    (h : ∃ (I1 : Nat → Nat → Int32) (L1 : Nat → Nat → Int64) (D1 : Nat → Nat → UInt64), am_Rn ext d 5 [.ref 34, .int v1, .int 0] (am_uI I 34 4 0, L, D, am_rf X) (none, (I1, L1, D1, am_rf X)) ∧ (((¬ (I1 34 4) = 1 → ((((0 : Int32) = 0 → (P (some (.int 0), (I1, L1, am_uD D1 34 6 FP.dconst0, am_rf X)))) ∧ (¬ (0 : Int32) = 0 → (P (some (.int 0), (I1, L1, am_uD D1 34 6 (D1 37 0), am_rf X))))))) ∧ ((I1 34 4) = 1 → (((¬ (I1 38 0) = 0 → ((((0 : Int32) = 0 → (P (some (.int 0), (I1, L1, am_uD D1 34 6 FP.dconst0, am_rf X)))) ∧ (¬ (0 : Int32) = 0 → (P (some (.int 0), (I1, L1, am_uD D1 34 6 (D1 37 0), am_rf X))))))) ∧ ((I1 38 0) = 0 → ((((1 : Int32) = 0 → (P (some (.int 1), (I1, L1, am_uD D1 34 6 FP.dconst0, am_rf X)))) ∧ (¬ (1 : Int32) = 0 → (P (some (.int 1), (I1, L1, am_uD D1 34 6 (D1 37 0), am_rf X))))))))))))) : am_wp ext d mz_4 (0, [some (.ref 34), some (.int v1), none], [], (I, L, D, am_rf X)) P := by
  refine am_wpb (c' := (8, [some (.ref 34), some (.int v1), none], [.int 0, .int v1, .ref 34], (am_uI I 34 4 0, L, D, am_rf X))) 6 rfl ?_
  obtain ⟨I1, L1, D1, hr, h⟩ := h
  refine am_wp_inv (as := [.ref 34, .int v1, .int 0]) rfl rfl rfl rfl ⟨_, hr, ?_⟩
  show am_wp ext d mz_4 (11, [some (.ref 34), some (.int v1), none], [], (I1, L1, D1, am_rf X)) P
  refine am_wpb (c' := (16, [some (.ref 34), some (.int v1), none], [.int 1, .int (I1 34 4)], (I1, L1, D1, am_rf X))) 3 rfl ?_
  refine am_b2_ne rfl (fun z => ?_) (fun z => ?_)
  · replace h := h.1 z
    refine am_wpb (c' := (36, [some (.ref 34), some (.int v1), some (.int 0)], [.int 0, .ref 34], (I1, L1, D1, am_rf X))) 4 rfl ?_
    refine am_b1_eq rfl (fun z => ?_) (fun z => ?_)
    · replace h := h.1 z
      refine am_wpb (c' := (53, [some (.ref 34), some (.int v1), some (.int 0)], [.int 0], (I1, L1, am_uD D1 34 6 FP.dconst0, am_rf X))) 3 rfl ?_
      exact am_ret_z rfl rfl (Or.inl rfl) h
    · replace h := h.2 z
      refine am_wpb (c' := (44, [some (.ref 34), some (.int v1), some (.int 0)], [.int 0, .ref 37, .ref 34], (I1, L1, D1, am_rf X))) 3 rfl ?_
      refine am_wps (c' := (45, [some (.ref 34), some (.int v1), some (.int 0)], [.double (D1 37 0), .ref 34], (I1, L1, D1, am_rf X))) rfl rfl (am_s_dald rfl (by decide)) ?_
      refine am_wpb (c' := (53, [some (.ref 34), some (.int v1), some (.int 0)], [.int 0], (I1, L1, am_uD D1 34 6 (D1 37 0), am_rf X))) 3 rfl ?_
      exact am_ret_z rfl rfl (Or.inl rfl) h
  · replace h := h.2 z
    refine am_wpb (c' := (24, [some (.ref 34), some (.int v1), none], [.int 0, .ref 38], (I1, L1, D1, am_rf X))) 3 rfl ?_
    refine am_wps (c' := (25, [some (.ref 34), some (.int v1), none], [.int (I1 38 0)], (I1, L1, D1, am_rf X))) rfl rfl (am_s_zald rfl (by decide)) ?_
    refine am_b1_ne rfl (fun z => ?_) (fun z => ?_)
    · replace h := h.1 z
      refine am_wpb (c' := (36, [some (.ref 34), some (.int v1), some (.int 0)], [.int 0, .ref 34], (I1, L1, D1, am_rf X))) 4 rfl ?_
      refine am_b1_eq rfl (fun z => ?_) (fun z => ?_)
      · replace h := h.1 z
        refine am_wpb (c' := (53, [some (.ref 34), some (.int v1), some (.int 0)], [.int 0], (I1, L1, am_uD D1 34 6 FP.dconst0, am_rf X))) 3 rfl ?_
        exact am_ret_z rfl rfl (Or.inl rfl) h
      · replace h := h.2 z
        refine am_wpb (c' := (44, [some (.ref 34), some (.int v1), some (.int 0)], [.int 0, .ref 37, .ref 34], (I1, L1, D1, am_rf X))) 3 rfl ?_
        refine am_wps (c' := (45, [some (.ref 34), some (.int v1), some (.int 0)], [.double (D1 37 0), .ref 34], (I1, L1, D1, am_rf X))) rfl rfl (am_s_dald rfl (by decide)) ?_
        refine am_wpb (c' := (53, [some (.ref 34), some (.int v1), some (.int 0)], [.int 0], (I1, L1, am_uD D1 34 6 (D1 37 0), am_rf X))) 3 rfl ?_
        exact am_ret_z rfl rfl (Or.inl rfl) h
    · replace h := h.2 z
      refine am_wpb (c' := (36, [some (.ref 34), some (.int v1), some (.int 1)], [.int 1, .ref 34], (I1, L1, D1, am_rf X))) 5 rfl ?_
      refine am_b1_eq rfl (fun z => ?_) (fun z => ?_)
      · replace h := h.1 z
        refine am_wpb (c' := (53, [some (.ref 34), some (.int v1), some (.int 1)], [.int 1], (I1, L1, am_uD D1 34 6 FP.dconst0, am_rf X))) 3 rfl ?_
        exact am_ret_z rfl rfl (Or.inr rfl) h
      · replace h := h.2 z
        refine am_wpb (c' := (44, [some (.ref 34), some (.int v1), some (.int 1)], [.int 0, .ref 37, .ref 34], (I1, L1, D1, am_rf X))) 3 rfl ?_
        refine am_wps (c' := (45, [some (.ref 34), some (.int v1), some (.int 1)], [.double (D1 37 0), .ref 34], (I1, L1, D1, am_rf X))) rfl rfl (am_s_dald rfl (by decide)) ?_
        refine am_wpb (c' := (53, [some (.ref 34), some (.int v1), some (.int 1)], [.int 1], (I1, L1, am_uD D1 34 6 (D1 37 0), am_rf X))) 3 rfl ?_
        exact am_ret_z rfl rfl (Or.inr rfl) h
/-- SureSums$Doubles.numberLine(II)V -/
def mz_5 : am_Y := (fun pc => am_q5.lookup pc, 3, 0)
theorem mh_5 : am_Ys 5 = some mz_5 := rfl
theorem w5_0 {ext : Nat → List Value → am_M → Option am_R} {d : Nat} {P : am_R → Prop} (I : Nat → Nat → Int32) (L : Nat → Nat → Int64) (D : Nat → Nat → UInt64) (xc : Nat) (xi : Nat) (xp : Nat) (xs : Nat) (xt : Nat) (v1 : Int32) (v2 : Int32)
    (h : ∃ (r1 : Int32) (I1 : Nat → Nat → Int32) (L1 : Nat → Nat → Int64) (D1 : Nat → Nat → UInt64), am_Rn ext d 34 [.ref 2, .int v1] (I, L, D, am_rf (xt, xs, xi, xp, 2, xc)) (some (.int r1), (I1, L1, D1, am_rf (xt, xs, xi, xp, 2, xc))) ∧ (((r1 = 0 → (∃ (I2 : Nat → Nat → Int32) (L2 : Nat → Nat → Int64) (D2 : Nat → Nat → UInt64), am_Rn ext d 10 [.ref 34] (I1, L1, D1, am_rf (xt, xs, xi, xp, 2, xc)) (none, (I2, L2, D2, am_rf (xt, xs, xi, xp, 2, xc))) ∧ (P (none, (I2, L2, D2, am_rf (xt, xs, xi, xp, 2, xc)))))) ∧ (¬ r1 = 0 → (((v1 < 18 → (am_inb v1 18 = true ∧ (((¬ (I1 36 (Int32.toNatClampNeg v1)) = 0 → (am_wp ext d mz_5 (44, [some (.ref 34), some (.int v1), none], [], (I1, L1, D1, am_rf (xt, xs, xi, xp, 2, xc))) P)) ∧ ((I1 36 (Int32.toNatClampNeg v1)) = 0 → (∃ (I3 : Nat → Nat → Int32) (L3 : Nat → Nat → Int64) (D3 : Nat → Nat → UInt64), am_Rn ext d 7 [.ref 34, .int v1, .double FP.dconst0, .int 0, .int v2] (I1, L1, D1, am_rf (xt, xs, xi, xp, 2, xc)) (none, (I3, L3, D3, am_rf (xt, xs, xi, xp, 2, xc))) ∧ (∃ (I4 : Nat → Nat → Int32) (L4 : Nat → Nat → Int64) (D4 : Nat → Nat → UInt64), am_Rn ext d 6 [.ref 34, .int v1] (I3, L3, D3, am_rf (xt, xs, xi, xp, 2, xc)) (none, (I4, L4, D4, am_rf (xt, xs, xi, xp, 2, xc))) ∧ (am_wp ext d mz_5 (44, [some (.ref 34), some (.int v1), none], [], (I4, L4, D4, am_rf (xt, xs, xi, xp, 2, xc))) P)))))))) ∧ (¬ v1 < 18 → (∃ (I5 : Nat → Nat → Int32) (L5 : Nat → Nat → Int64) (D5 : Nat → Nat → UInt64), am_Rn ext d 10 [.ref 34] (I1, L1, D1, am_rf (xt, xs, xi, xp, 2, xc)) (none, (I5, L5, D5, am_rf (xt, xs, xi, xp, 2, xc))) ∧ (P (none, (I5, L5, D5, am_rf (xt, xs, xi, xp, 2, xc)))))))))))) : am_wp ext d mz_5 (0, [some (.ref 34), some (.int v1), some (.int v2)], [], (I, L, D, am_rf (xt, xs, xi, xp, 2, xc))) P := by
  refine am_wpb (c' := (5, [some (.ref 34), some (.int v1), some (.int v2)], [.int v1, .ref 2], (I, L, D, am_rf (xt, xs, xi, xp, 2, xc)))) 3 rfl ?_
  obtain ⟨r1, I1, L1, D1, hr, h⟩ := h
  refine am_wp_inv (as := [.ref 2, .int v1]) rfl rfl rfl rfl ⟨_, hr, ?_⟩
  show am_wp ext d mz_5 (8, [some (.ref 34), some (.int v1), some (.int v2)], [.int r1], (I1, L1, D1, am_rf (xt, xs, xi, xp, 2, xc))) P
  refine am_b1_eq rfl (fun z => ?_) (fun z => ?_)
  · replace h := h.1 z
    refine am_wpb (c' := (18, [some (.ref 34), some (.int v1), some (.int v2)], [.ref 34], (I1, L1, D1, am_rf (xt, xs, xi, xp, 2, xc)))) 1 rfl ?_
    obtain ⟨I2, L2, D2, hr, h⟩ := h
    refine am_wp_inv (as := [.ref 34]) rfl rfl rfl rfl ⟨_, hr, ?_⟩
    show am_wp ext d mz_5 (21, [some (.ref 34), some (.int v1), some (.int v2)], [], (I2, L2, D2, am_rf (xt, xs, xi, xp, 2, xc))) P
    exact am_ret_v rfl rfl h
  · replace h := h.2 z
    refine am_wpb (c' := (14, [some (.ref 34), some (.int v1), some (.int v2)], [.int 18, .int v1], (I1, L1, D1, am_rf (xt, xs, xi, xp, 2, xc)))) 2 rfl ?_
    refine am_b2_lt rfl (fun z => ?_) (fun z => ?_)
    · replace h := h.1 z
      refine am_wpb (c' := (27, [some (.ref 34), some (.int v1), some (.int v2)], [.int v1, .ref 36], (I1, L1, D1, am_rf (xt, xs, xi, xp, 2, xc)))) 3 rfl ?_
      obtain ⟨o, h⟩ := h
      refine am_wps (c' := (28, [some (.ref 34), some (.int v1), some (.int v2)], [.int (I1 36 (Int32.toNatClampNeg v1))], (I1, L1, D1, am_rf (xt, xs, xi, xp, 2, xc)))) rfl rfl (am_s_iald rfl o) ?_
      refine am_b1_ne rfl (fun z => ?_) (fun z => ?_)
      · replace h := h.1 z
        exact am_fgt (l := [some (.ref 34), some (.int v1), none]) (am_le_of (am_leS (am_leS (am_leN (am_leZ))))) h
      · replace h := h.2 z
        refine am_wpb (c' := (36, [some (.ref 34), some (.int v1), some (.int v2)], [.int v2, .int 0, .double FP.dconst0, .int v1, .ref 34], (I1, L1, D1, am_rf (xt, xs, xi, xp, 2, xc)))) 5 rfl ?_
        obtain ⟨I3, L3, D3, hr, h⟩ := h
        refine am_wp_inv (as := [.ref 34, .int v1, .double FP.dconst0, .int 0, .int v2]) rfl rfl rfl rfl ⟨_, hr, ?_⟩
        show am_wp ext d mz_5 (39, [some (.ref 34), some (.int v1), some (.int v2)], [], (I3, L3, D3, am_rf (xt, xs, xi, xp, 2, xc))) P
        refine am_wpb (c' := (41, [some (.ref 34), some (.int v1), some (.int v2)], [.int v1, .ref 34], (I3, L3, D3, am_rf (xt, xs, xi, xp, 2, xc)))) 2 rfl ?_
        obtain ⟨I4, L4, D4, hr, h⟩ := h
        refine am_wp_inv (as := [.ref 34, .int v1]) rfl rfl rfl rfl ⟨_, hr, ?_⟩
        show am_wp ext d mz_5 (44, [some (.ref 34), some (.int v1), some (.int v2)], [], (I4, L4, D4, am_rf (xt, xs, xi, xp, 2, xc))) P
        exact am_fgt (l := [some (.ref 34), some (.int v1), none]) (am_le_of (am_leS (am_leS (am_leN (am_leZ))))) h
    · replace h := h.2 z
      refine am_wpb (c' := (18, [some (.ref 34), some (.int v1), some (.int v2)], [.ref 34], (I1, L1, D1, am_rf (xt, xs, xi, xp, 2, xc)))) 1 rfl ?_
      obtain ⟨I5, L5, D5, hr, h⟩ := h
      refine am_wp_inv (as := [.ref 34]) rfl rfl rfl rfl ⟨_, hr, ?_⟩
      show am_wp ext d mz_5 (21, [some (.ref 34), some (.int v1), some (.int v2)], [], (I5, L5, D5, am_rf (xt, xs, xi, xp, 2, xc))) P
      exact am_ret_v rfl rfl h
theorem w5_44 {ext : Nat → List Value → am_M → Option am_R} {d : Nat} {P : am_R → Prop} (I : Nat → Nat → Int32) (L : Nat → Nat → Int64) (D : Nat → Nat → UInt64) (xc : Nat) (xi : Nat) (xp : Nat) (xs : Nat) (xt : Nat) (v1 : Int32)
    (h : am_inb v1 18 = true ∧ (((¬ (I 36 (Int32.toNatClampNeg v1)) = 1 → (∃ (I1 : Nat → Nat → Int32) (L1 : Nat → Nat → Int64) (D1 : Nat → Nat → UInt64), am_Rn ext d 10 [.ref 34] (I, L, D, am_rf (xt, xs, xi, xp, 2, xc)) (none, (I1, L1, D1, am_rf (xt, xs, xi, xp, 2, xc))) ∧ (P (none, (I1, L1, D1, am_rf (xt, xs, xi, xp, 2, xc)))))) ∧ ((I 36 (Int32.toNatClampNeg v1)) = 1 → (am_inb v1 18 = true ∧ (∃ (I2 : Nat → Nat → Int32) (L2 : Nat → Nat → Int64) (D2 : Nat → Nat → UInt64), am_Rn ext d 9 [.ref 34, .double (D 35 (Int32.toNatClampNeg v1))] (I, L, D, am_rf (xt, xs, xi, xp, 2, xc)) (none, (I2, L2, D2, am_rf (xt, xs, xi, xp, 2, xc))) ∧ (P (none, (I2, L2, D2, am_rf (xt, xs, xi, xp, 2, xc)))))))))) : am_wp ext d mz_5 (44, [some (.ref 34), some (.int v1), none], [], (I, L, D, am_rf (xt, xs, xi, xp, 2, xc))) P := by
  refine am_wpb (c' := (49, [some (.ref 34), some (.int v1), none], [.int v1, .ref 36], (I, L, D, am_rf (xt, xs, xi, xp, 2, xc)))) 3 rfl ?_
  obtain ⟨o, h⟩ := h
  refine am_wps (c' := (50, [some (.ref 34), some (.int v1), none], [.int (I 36 (Int32.toNatClampNeg v1))], (I, L, D, am_rf (xt, xs, xi, xp, 2, xc)))) rfl rfl (am_s_iald rfl o) ?_
  refine am_wpb (c' := (51, [some (.ref 34), some (.int v1), none], [.int 1, .int (I 36 (Int32.toNatClampNeg v1))], (I, L, D, am_rf (xt, xs, xi, xp, 2, xc)))) 1 rfl ?_
  refine am_b2_ne rfl (fun z => ?_) (fun z => ?_)
  · replace h := h.1 z
    refine am_wpb (c' := (68, [some (.ref 34), some (.int v1), none], [.ref 34], (I, L, D, am_rf (xt, xs, xi, xp, 2, xc)))) 1 rfl ?_
    obtain ⟨I1, L1, D1, hr, h⟩ := h
    refine am_wp_inv (as := [.ref 34]) rfl rfl rfl rfl ⟨_, hr, ?_⟩
    show am_wp ext d mz_5 (71, [some (.ref 34), some (.int v1), none], [], (I1, L1, D1, am_rf (xt, xs, xi, xp, 2, xc))) P
    exact am_ret_v rfl rfl h
  · replace h := h.2 z
    refine am_wpb (c' := (60, [some (.ref 34), some (.int v1), none], [.int v1, .ref 35, .ref 34], (I, L, D, am_rf (xt, xs, xi, xp, 2, xc)))) 4 rfl ?_
    obtain ⟨o, h⟩ := h
    refine am_wps (c' := (61, [some (.ref 34), some (.int v1), none], [.double (D 35 (Int32.toNatClampNeg v1)), .ref 34], (I, L, D, am_rf (xt, xs, xi, xp, 2, xc)))) rfl rfl (am_s_dald rfl o) ?_
    obtain ⟨I2, L2, D2, hr, h⟩ := h
    refine am_wp_inv (as := [.ref 34, .double (D 35 (Int32.toNatClampNeg v1))]) rfl rfl rfl rfl ⟨_, hr, ?_⟩
    show am_wp ext d mz_5 (64, [some (.ref 34), some (.int v1), none], [], (I2, L2, D2, am_rf (xt, xs, xi, xp, 2, xc))) P
    refine am_wpb (c' := (71, [some (.ref 34), some (.int v1), none], [], (I2, L2, D2, am_rf (xt, xs, xi, xp, 2, xc)))) 1 rfl ?_
    exact am_ret_v rfl rfl h
/-- SureSums$Doubles.keep(I)V -/
def mz_6 : am_Y := (fun pc => am_q6.lookup pc, 2, 0)
theorem mh_6 : am_Ys 6 = some mz_6 := rfl
theorem w6_0 {ext : Nat → List Value → am_M → Option am_R} {d : Nat} {P : am_R → Prop} (I : Nat → Nat → Int32) (L : Nat → Nat → Int64) (D : Nat → Nat → UInt64) (X : am_Rf) (v1 : Int32)
    (h : (((I 34 4) < 1 → (P (none, (I, L, D, am_rf X)))) ∧ (¬ (I 34 4) < 1 → (((v1 < 0 → (P (none, (I, L, D, am_rf X)))) ∧ (¬ v1 < 0 → (((v1 < 18 → (am_inb ((I 34 4) - 1) 100 = true ∧ (am_inb v1 18 = true ∧ (am_inb ((I 34 4) - 1) 100 = true ∧ ((((I 38 (Int32.toNatClampNeg ((I 34 4) - 1))) = 0 → (am_inb v1 18 = true ∧ (P (none, (am_uI (am_uI I 34 4 ((I 34 4) - 1)) 36 (Int32.toNatClampNeg v1) 1, L, am_uD D 35 (Int32.toNatClampNeg v1) (D 37 (Int32.toNatClampNeg ((I 34 4) - 1))), am_rf X))))) ∧ (¬ (I 38 (Int32.toNatClampNeg ((I 34 4) - 1))) = 0 → (am_inb v1 18 = true ∧ (P (none, (am_uI (am_uI I 34 4 ((I 34 4) - 1)) 36 (Int32.toNatClampNeg v1) 2, L, am_uD D 35 (Int32.toNatClampNeg v1) (D 37 (Int32.toNatClampNeg ((I 34 4) - 1))), am_rf X))))))))))) ∧ (¬ v1 < 18 → (P (none, (I, L, D, am_rf X)))))))))))) : am_wp ext d mz_6 (0, [some (.ref 34), some (.int v1)], [], (I, L, D, am_rf X)) P := by
  refine am_wpb (c' := (5, [some (.ref 34), some (.int v1)], [.int 1, .int (I 34 4)], (I, L, D, am_rf X))) 3 rfl ?_
  refine am_b2_lt rfl (fun z => ?_) (fun z => ?_)
  · replace h := h.1 z
    exact am_ret_v rfl rfl h
  · replace h := h.2 z
    refine am_wpb (c' := (9, [some (.ref 34), some (.int v1)], [.int v1], (I, L, D, am_rf X))) 1 rfl ?_
    refine am_b1_lt rfl (fun z => ?_) (fun z => ?_)
    · replace h := h.1 z
      exact am_ret_v rfl rfl h
    · replace h := h.2 z
      refine am_wpb (c' := (15, [some (.ref 34), some (.int v1)], [.int 18, .int v1], (I, L, D, am_rf X))) 2 rfl ?_
      refine am_b2_lt rfl (fun z => ?_) (fun z => ?_)
      · replace h := h.1 z
        refine am_wpb (c' := (42, [some (.ref 34), some (.int v1)], [.int ((I 34 4) - 1), .ref 37, .int v1, .ref 35], (am_uI I 34 4 ((I 34 4) - 1), L, D, am_rf X))) 13 rfl ?_
        obtain ⟨o, h⟩ := h
        refine am_wps (c' := (43, [some (.ref 34), some (.int v1)], [.double (D 37 (Int32.toNatClampNeg ((I 34 4) - 1))), .int v1, .ref 35], (am_uI I 34 4 ((I 34 4) - 1), L, D, am_rf X))) rfl rfl (am_s_dald rfl o) ?_
        obtain ⟨o, h⟩ := h
        refine am_wps (c' := (44, [some (.ref 34), some (.int v1)], [], (am_uI I 34 4 ((I 34 4) - 1), L, am_uD D 35 (Int32.toNatClampNeg v1) (D 37 (Int32.toNatClampNeg ((I 34 4) - 1))), am_rf X))) rfl rfl (am_s_dast rfl o) ?_
        refine am_wpb (c' := (57, [some (.ref 34), some (.int v1)], [.int ((I 34 4) - 1), .ref 38, .int v1, .ref 36], (am_uI I 34 4 ((I 34 4) - 1), L, am_uD D 35 (Int32.toNatClampNeg v1) (D 37 (Int32.toNatClampNeg ((I 34 4) - 1))), am_rf X))) 7 rfl ?_
        obtain ⟨o, h⟩ := h
        refine am_wps (c' := (58, [some (.ref 34), some (.int v1)], [.int (I 38 (Int32.toNatClampNeg ((I 34 4) - 1))), .int v1, .ref 36], (am_uI I 34 4 ((I 34 4) - 1), L, am_uD D 35 (Int32.toNatClampNeg v1) (D 37 (Int32.toNatClampNeg ((I 34 4) - 1))), am_rf X))) rfl rfl (am_s_zald rfl o) ?_
        refine am_b1_eq rfl (fun z => ?_) (fun z => ?_)
        · replace h := h.1 z
          refine am_wpb (c' := (66, [some (.ref 34), some (.int v1)], [.int 1, .int v1, .ref 36], (am_uI I 34 4 ((I 34 4) - 1), L, am_uD D 35 (Int32.toNatClampNeg v1) (D 37 (Int32.toNatClampNeg ((I 34 4) - 1))), am_rf X))) 1 rfl ?_
          obtain ⟨o, h⟩ := h
          refine am_wps (c' := (67, [some (.ref 34), some (.int v1)], [], (am_uI (am_uI I 34 4 ((I 34 4) - 1)) 36 (Int32.toNatClampNeg v1) 1, L, am_uD D 35 (Int32.toNatClampNeg v1) (D 37 (Int32.toNatClampNeg ((I 34 4) - 1))), am_rf X))) rfl rfl (am_s_iast rfl o) ?_
          exact am_ret_v rfl rfl h
        · replace h := h.2 z
          refine am_wpb (c' := (66, [some (.ref 34), some (.int v1)], [.int 2, .int v1, .ref 36], (am_uI I 34 4 ((I 34 4) - 1), L, am_uD D 35 (Int32.toNatClampNeg v1) (D 37 (Int32.toNatClampNeg ((I 34 4) - 1))), am_rf X))) 2 rfl ?_
          obtain ⟨o, h⟩ := h
          refine am_wps (c' := (67, [some (.ref 34), some (.int v1)], [], (am_uI (am_uI I 34 4 ((I 34 4) - 1)) 36 (Int32.toNatClampNeg v1) 2, L, am_uD D 35 (Int32.toNatClampNeg v1) (D 37 (Int32.toNatClampNeg ((I 34 4) - 1))), am_rf X))) rfl rfl (am_s_iast rfl o) ?_
          exact am_ret_v rfl rfl h
      · replace h := h.2 z
        exact am_ret_v rfl rfl h
/-- SureSums$Doubles.run(IDZI)V -/
def mz_7 : am_Y := (fun pc => am_q7.lookup pc, 9, 0)
theorem mh_7 : am_Ys 7 = some mz_7 := rfl
theorem w7_0 {ext : Nat → List Value → am_M → Option am_R} {d : Nat} {P : am_R → Prop} (I : Nat → Nat → Int32) (L : Nat → Nat → Int64) (D : Nat → Nat → UInt64) (xc : Nat) (xi : Nat) (xp : Nat) (xs : Nat) (xt : Nat) (v1 : Int32) (v2 : UInt64) (v4 : Int32) (v5 : Int32)
    (h : ∃ (r1 : Int32) (I1 : Nat → Nat → Int32) (L1 : Nat → Nat → Int64) (D1 : Nat → Nat → UInt64), am_Rn ext d 34 [.ref 2, .int v1] (I, L, D, am_rf (xt, xs, xi, xp, 2, xc)) (some (.int r1), (I1, L1, D1, am_rf (xt, xs, xi, xp, 2, xc))) ∧ (((r1 = 0 → (∃ (I2 : Nat → Nat → Int32) (L2 : Nat → Nat → Int64) (D2 : Nat → Nat → UInt64), am_Rn ext d 10 [.ref 34] (I1, L1, D1, am_rf (xt, xs, xi, xp, 2, xc)) (none, (I2, L2, D2, am_rf (xt, xs, xi, xp, 2, xc))) ∧ (P (none, (I2, L2, D2, am_rf (xt, xs, xi, xp, 2, xc)))))) ∧ (¬ r1 = 0 → (((v5 ≤ 18 → (am_inb v1 18 = true ∧ (∃ (r3 : Int32) (I3 : Nat → Nat → Int32) (L3 : Nat → Nat → Int64) (D3 : Nat → Nat → UInt64), am_Rn ext d 202 [.int (I1 6 (Int32.toNatClampNeg v1)), .int (I1 2 8)] (I1, L1, D1, am_rf (xt, xs, xi, xp, 2, xc)) (some (.int r3), (I3, L3, D3, am_rf (xt, xs, xi, xp, 2, xc))) ∧ (am_inb v1 18 = true ∧ (∃ (r4 : Int32) (I4 : Nat → Nat → Int32) (L4 : Nat → Nat → Int64) (D4 : Nat → Nat → UInt64), am_Rn ext d 201 [.int (I3 5 (Int32.toNatClampNeg v1)), .int 0] (I3, L3, D3, am_rf (xt, xs, xi, xp, 2, xc)) (some (.int r4), (I4, L4, D4, am_rf (xt, xs, xi, xp, 2, xc))) ∧ (am_wp ext d mz_7 (59, [some (.ref 34), none, some (.double v2), none, some (.int v4), some (.int v5), some (.int r3), some (.int r4), none], [], (I4, L4, D4, am_rf (xt, xs, xi, xp, 2, xc))) P)))))) ∧ (¬ v5 ≤ 18 → (∃ (I5 : Nat → Nat → Int32) (L5 : Nat → Nat → Int64) (D5 : Nat → Nat → UInt64), am_Rn ext d 10 [.ref 34] (I1, L1, D1, am_rf (xt, xs, xi, xp, 2, xc)) (none, (I5, L5, D5, am_rf (xt, xs, xi, xp, 2, xc))) ∧ (P (none, (I5, L5, D5, am_rf (xt, xs, xi, xp, 2, xc)))))))))))) : am_wp ext d mz_7 (0, [some (.ref 34), some (.int v1), some (.double v2), none, some (.int v4), some (.int v5), none, none, none], [], (I, L, D, am_rf (xt, xs, xi, xp, 2, xc))) P := by
  refine am_wpb (c' := (5, [some (.ref 34), some (.int v1), some (.double v2), none, some (.int v4), some (.int v5), none, none, none], [.int v1, .ref 2], (I, L, D, am_rf (xt, xs, xi, xp, 2, xc)))) 3 rfl ?_
  obtain ⟨r1, I1, L1, D1, hr, h⟩ := h
  refine am_wp_inv (as := [.ref 2, .int v1]) rfl rfl rfl rfl ⟨_, hr, ?_⟩
  show am_wp ext d mz_7 (8, [some (.ref 34), some (.int v1), some (.double v2), none, some (.int v4), some (.int v5), none, none, none], [.int r1], (I1, L1, D1, am_rf (xt, xs, xi, xp, 2, xc))) P
  refine am_b1_eq rfl (fun z => ?_) (fun z => ?_)
  · replace h := h.1 z
    refine am_wpb (c' := (19, [some (.ref 34), some (.int v1), some (.double v2), none, some (.int v4), some (.int v5), none, none, none], [.ref 34], (I1, L1, D1, am_rf (xt, xs, xi, xp, 2, xc)))) 1 rfl ?_
    obtain ⟨I2, L2, D2, hr, h⟩ := h
    refine am_wp_inv (as := [.ref 34]) rfl rfl rfl rfl ⟨_, hr, ?_⟩
    show am_wp ext d mz_7 (22, [some (.ref 34), some (.int v1), some (.double v2), none, some (.int v4), some (.int v5), none, none, none], [], (I2, L2, D2, am_rf (xt, xs, xi, xp, 2, xc))) P
    exact am_ret_v rfl rfl h
  · replace h := h.2 z
    refine am_wpb (c' := (15, [some (.ref 34), some (.int v1), some (.double v2), none, some (.int v4), some (.int v5), none, none, none], [.int 18, .int v5], (I1, L1, D1, am_rf (xt, xs, xi, xp, 2, xc)))) 2 rfl ?_
    refine am_b2_le rfl (fun z => ?_) (fun z => ?_)
    · replace h := h.1 z
      refine am_wpb (c' := (31, [some (.ref 34), some (.int v1), some (.double v2), none, some (.int v4), some (.int v5), none, none, none], [.int v1, .ref 6], (I1, L1, D1, am_rf (xt, xs, xi, xp, 2, xc)))) 4 rfl ?_
      obtain ⟨o, h⟩ := h
      refine am_wps (c' := (32, [some (.ref 34), some (.int v1), some (.double v2), none, some (.int v4), some (.int v5), none, none, none], [.int (I1 6 (Int32.toNatClampNeg v1))], (I1, L1, D1, am_rf (xt, xs, xi, xp, 2, xc)))) rfl rfl (am_s_iald rfl o) ?_
      refine am_wpb (c' := (39, [some (.ref 34), some (.int v1), some (.double v2), none, some (.int v4), some (.int v5), none, none, none], [.int (I1 2 8), .int (I1 6 (Int32.toNatClampNeg v1))], (I1, L1, D1, am_rf (xt, xs, xi, xp, 2, xc)))) 3 rfl ?_
      obtain ⟨r3, I3, L3, D3, hr, h⟩ := h
      refine am_wp_inv (as := [.int (I1 6 (Int32.toNatClampNeg v1)), .int (I1 2 8)]) rfl rfl rfl rfl ⟨_, hr, ?_⟩
      show am_wp ext d mz_7 (42, [some (.ref 34), some (.int v1), some (.double v2), none, some (.int v4), some (.int v5), none, none, none], [.int r3], (I3, L3, D3, am_rf (xt, xs, xi, xp, 2, xc))) P
      refine am_wpb (c' := (52, [some (.ref 34), some (.int v1), some (.double v2), none, some (.int v4), some (.int v5), some (.int r3), none, none], [.int v1, .ref 5], (I3, L3, D3, am_rf (xt, xs, xi, xp, 2, xc)))) 5 rfl ?_
      obtain ⟨o, h⟩ := h
      refine am_wps (c' := (53, [some (.ref 34), some (.int v1), some (.double v2), none, some (.int v4), some (.int v5), some (.int r3), none, none], [.int (I3 5 (Int32.toNatClampNeg v1))], (I3, L3, D3, am_rf (xt, xs, xi, xp, 2, xc)))) rfl rfl (am_s_iald rfl o) ?_
      refine am_wpb (c' := (54, [some (.ref 34), some (.int v1), some (.double v2), none, some (.int v4), some (.int v5), some (.int r3), none, none], [.int 0, .int (I3 5 (Int32.toNatClampNeg v1))], (I3, L3, D3, am_rf (xt, xs, xi, xp, 2, xc)))) 1 rfl ?_
      obtain ⟨r4, I4, L4, D4, hr, h⟩ := h
      refine am_wp_inv (as := [.int (I3 5 (Int32.toNatClampNeg v1)), .int 0]) rfl rfl rfl rfl ⟨_, hr, ?_⟩
      show am_wp ext d mz_7 (57, [some (.ref 34), some (.int v1), some (.double v2), none, some (.int v4), some (.int v5), some (.int r3), none, none], [.int r4], (I4, L4, D4, am_rf (xt, xs, xi, xp, 2, xc))) P
      refine am_wpb (c' := (59, [some (.ref 34), some (.int v1), some (.double v2), none, some (.int v4), some (.int v5), some (.int r3), some (.int r4), none], [], (I4, L4, D4, am_rf (xt, xs, xi, xp, 2, xc)))) 1 rfl ?_
      exact am_fgt (l := [some (.ref 34), none, some (.double v2), none, some (.int v4), some (.int v5), some (.int r3), some (.int r4), none]) (am_le_of (am_leS (am_leN (am_leS (am_leN (am_leS (am_leS (am_leS (am_leS (am_leN (am_leZ))))))))))) h
    · replace h := h.2 z
      refine am_wpb (c' := (19, [some (.ref 34), some (.int v1), some (.double v2), none, some (.int v4), some (.int v5), none, none, none], [.ref 34], (I1, L1, D1, am_rf (xt, xs, xi, xp, 2, xc)))) 1 rfl ?_
      obtain ⟨I5, L5, D5, hr, h⟩ := h
      refine am_wp_inv (as := [.ref 34]) rfl rfl rfl rfl ⟨_, hr, ?_⟩
      show am_wp ext d mz_7 (22, [some (.ref 34), some (.int v1), some (.double v2), none, some (.int v4), some (.int v5), none, none, none], [], (I5, L5, D5, am_rf (xt, xs, xi, xp, 2, xc))) P
      exact am_ret_v rfl rfl h
theorem w7_59 {ext : Nat → List Value → am_M → Option am_R} {d : Nat} {P : am_R → Prop} (I : Nat → Nat → Int32) (L : Nat → Nat → Int64) (D : Nat → Nat → UInt64) (xc : Nat) (xi : Nat) (xp : Nat) (xs : Nat) (xt : Nat) (v2 : UInt64) (v4 : Int32) (v5 : Int32) (v6 : Int32) (v7 : Int32)
    (h : ((v6 ≤ v7 → (P (none, (I, L, D, am_rf (xt, xs, xi, xp, 2, xc))))) ∧ (¬ v6 ≤ v7 → (am_inb v7 288 = true ∧ (((¬ (I 7 (Int32.toNatClampNeg v7)) = 1 → (∃ (r1 : Int32) (I1 : Nat → Nat → Int32) (L1 : Nat → Nat → Int64) (D1 : Nat → Nat → UInt64), am_Rn ext d 8 [.ref 34, .int (I 7 (Int32.toNatClampNeg v7)), .int v7, .int v5] (I, L, D, am_rf (xt, xs, xi, xp, 2, xc)) (some (.int r1), (I1, L1, D1, am_rf (xt, xs, xi, xp, 2, xc))) ∧ (∃ (r2 : Int32) (I2 : Nat → Nat → Int32) (L2 : Nat → Nat → Int64) (D2 : Nat → Nat → UInt64), am_Rn ext d 201 [.int v7, .int r1] (I1, L1, D1, am_rf (xt, xs, xi, xp, 2, xc)) (some (.int r2), (I2, L2, D2, am_rf (xt, xs, xi, xp, 2, xc))) ∧ (am_wp ext d mz_7 (59, [some (.ref 34), none, some (.double v2), none, some (.int v4), some (.int v5), some (.int v6), some (.int (r2 + 1)), none], [], (I2, L2, D2, am_rf (xt, xs, xi, xp, 2, xc))) P)))) ∧ ((I 7 (Int32.toNatClampNeg v7)) = 1 → (∃ (I3 : Nat → Nat → Int32) (L3 : Nat → Nat → Int64) (D3 : Nat → Nat → UInt64), am_Rn ext d 11 [.ref 34, .double v2, .int v4] (I, L, D, am_rf (xt, xs, xi, xp, 2, xc)) (none, (I3, L3, D3, am_rf (xt, xs, xi, xp, 2, xc))) ∧ (am_wp ext d mz_7 (59, [some (.ref 34), none, some (.double v2), none, some (.int v4), some (.int v5), some (.int v6), some (.int (v7 + 1)), none], [], (I3, L3, D3, am_rf (xt, xs, xi, xp, 2, xc))) P))))))))) : am_wp ext d mz_7 (59, [some (.ref 34), none, some (.double v2), none, some (.int v4), some (.int v5), some (.int v6), some (.int v7), none], [], (I, L, D, am_rf (xt, xs, xi, xp, 2, xc))) P := by
  refine am_wpb (c' := (63, [some (.ref 34), none, some (.double v2), none, some (.int v4), some (.int v5), some (.int v6), some (.int v7), none], [.int v6, .int v7], (I, L, D, am_rf (xt, xs, xi, xp, 2, xc)))) 2 rfl ?_
  refine am_b2_ge rfl (fun z => ?_) (fun z => ?_)
  · replace h := h.1 z
    exact am_ret_v rfl rfl h
  · replace h := h.2 z
    refine am_wpb (c' := (75, [some (.ref 34), none, some (.double v2), none, some (.int v4), some (.int v5), some (.int v6), some (.int v7), none], [.int v7, .ref 7], (I, L, D, am_rf (xt, xs, xi, xp, 2, xc)))) 4 rfl ?_
    obtain ⟨o, h⟩ := h
    refine am_wps (c' := (76, [some (.ref 34), none, some (.double v2), none, some (.int v4), some (.int v5), some (.int v6), some (.int v7), none], [.int (I 7 (Int32.toNatClampNeg v7))], (I, L, D, am_rf (xt, xs, xi, xp, 2, xc)))) rfl rfl (am_s_iald rfl o) ?_
    refine am_wpb (c' := (81, [some (.ref 34), none, some (.double v2), none, some (.int v4), some (.int v5), some (.int v6), some (.int v7), some (.int (I 7 (Int32.toNatClampNeg v7)))], [.int 1, .int (I 7 (Int32.toNatClampNeg v7))], (I, L, D, am_rf (xt, xs, xi, xp, 2, xc)))) 3 rfl ?_
    refine am_b2_ne rfl (fun z => ?_) (fun z => ?_)
    · replace h := h.1 z
      refine am_wpb (c' := (103, [some (.ref 34), none, some (.double v2), none, some (.int v4), some (.int v5), some (.int v6), some (.int v7), some (.int (I 7 (Int32.toNatClampNeg v7)))], [.int v5, .int v7, .int (I 7 (Int32.toNatClampNeg v7)), .ref 34, .int v7], (I, L, D, am_rf (xt, xs, xi, xp, 2, xc)))) 5 rfl ?_
      obtain ⟨r1, I1, L1, D1, hr, h⟩ := h
      refine am_wp_inv (as := [.ref 34, .int (I 7 (Int32.toNatClampNeg v7)), .int v7, .int v5]) rfl rfl rfl rfl ⟨_, hr, ?_⟩
      show am_wp ext d mz_7 (106, [some (.ref 34), none, some (.double v2), none, some (.int v4), some (.int v5), some (.int v6), some (.int v7), some (.int (I 7 (Int32.toNatClampNeg v7)))], [.int r1, .int v7], (I1, L1, D1, am_rf (xt, xs, xi, xp, 2, xc))) P
      obtain ⟨r2, I2, L2, D2, hr, h⟩ := h
      refine am_wp_inv (as := [.int v7, .int r1]) rfl rfl rfl rfl ⟨_, hr, ?_⟩
      show am_wp ext d mz_7 (109, [some (.ref 34), none, some (.double v2), none, some (.int v4), some (.int v5), some (.int v6), some (.int v7), some (.int (I 7 (Int32.toNatClampNeg v7)))], [.int r2], (I2, L2, D2, am_rf (xt, xs, xi, xp, 2, xc))) P
      refine am_wpb (c' := (59, [some (.ref 34), none, some (.double v2), none, some (.int v4), some (.int v5), some (.int v6), some (.int (r2 + 1)), some (.int (I 7 (Int32.toNatClampNeg v7)))], [], (I2, L2, D2, am_rf (xt, xs, xi, xp, 2, xc)))) 3 rfl ?_
      exact am_fgt (l := [some (.ref 34), none, some (.double v2), none, some (.int v4), some (.int v5), some (.int v6), some (.int (r2 + 1)), none]) (am_le_of (am_leS (am_leN (am_leS (am_leN (am_leS (am_leS (am_leS (am_leS (am_leN (am_leZ))))))))))) h
    · replace h := h.2 z
      refine am_wpb (c' := (88, [some (.ref 34), none, some (.double v2), none, some (.int v4), some (.int v5), some (.int v6), some (.int v7), some (.int (I 7 (Int32.toNatClampNeg v7)))], [.int v4, .double v2, .ref 34], (I, L, D, am_rf (xt, xs, xi, xp, 2, xc)))) 3 rfl ?_
      obtain ⟨I3, L3, D3, hr, h⟩ := h
      refine am_wp_inv (as := [.ref 34, .double v2, .int v4]) rfl rfl rfl rfl ⟨_, hr, ?_⟩
      show am_wp ext d mz_7 (91, [some (.ref 34), none, some (.double v2), none, some (.int v4), some (.int v5), some (.int v6), some (.int v7), some (.int (I 7 (Int32.toNatClampNeg v7)))], [], (I3, L3, D3, am_rf (xt, xs, xi, xp, 2, xc))) P
      refine am_wpb (c' := (59, [some (.ref 34), none, some (.double v2), none, some (.int v4), some (.int v5), some (.int v6), some (.int (v7 + 1)), some (.int (I 7 (Int32.toNatClampNeg v7)))], [], (I3, L3, D3, am_rf (xt, xs, xi, xp, 2, xc)))) 3 rfl ?_
      exact am_fgt (l := [some (.ref 34), none, some (.double v2), none, some (.int v4), some (.int v5), some (.int v6), some (.int (v7 + 1)), none]) (am_le_of (am_leS (am_leN (am_leS (am_leN (am_leS (am_leS (am_leS (am_leS (am_leN (am_leZ))))))))))) h
/-- SureSums$Doubles.perform(III)I -/
def mz_8 : am_Y := (fun pc => am_q8.lookup pc, 5, 1)
theorem mh_8 : am_Ys 8 = some mz_8 := rfl
theorem w8_0 {ext : Nat → List Value → am_M → Option am_R} {d : Nat} {P : am_R → Prop} (I : Nat → Nat → Int32) (L : Nat → Nat → Int64) (D : Nat → Nat → UInt64) (xc : Nat) (xi : Nat) (xp : Nat) (xs : Nat) (xt : Nat) (v1 : Int32) (v2 : Int32) (v3 : Int32)
    (h : ∃ (r1 : Int32) (I1 : Nat → Nat → Int32) (L1 : Nat → Nat → Int64) (D1 : Nat → Nat → UInt64), am_Rn ext d 39 [.ref 2, .int v2] (I, L, D, am_rf (xt, xs, xi, xp, 2, xc)) (some (.int r1), (I1, L1, D1, am_rf (xt, xs, xi, xp, 2, xc))) ∧ (((v1 = 0 → (∃ (I2 : Nat → Nat → Int32) (L2 : Nat → Nat → Int64) (D2 : Nat → Nat → UInt64), am_Rn ext d 9 [.ref 34, .double (FP.i2d r1)] (I1, L1, D1, am_rf (xt, xs, xi, xp, 2, xc)) (none, (I2, L2, D2, am_rf (xt, xs, xi, xp, 2, xc))) ∧ (P (some (.int v2), (I2, L2, D2, am_rf (xt, xs, xi, xp, 2, xc)))))) ∧ (v1 = 2 → (∃ (I3 : Nat → Nat → Int32) (L3 : Nat → Nat → Int64) (D3 : Nat → Nat → UInt64), am_Rn ext d 5 [.ref 34, .int r1, .int (v3 + 1)] (I1, L1, D1, am_rf (xt, xs, xi, xp, 2, xc)) (none, (I3, L3, D3, am_rf (xt, xs, xi, xp, 2, xc))) ∧ (P (some (.int v2), (I3, L3, D3, am_rf (xt, xs, xi, xp, 2, xc)))))) ∧ (v1 = 3 → (∃ (I4 : Nat → Nat → Int32) (L4 : Nat → Nat → Int64) (D4 : Nat → Nat → UInt64), am_Rn ext d 12 [.ref 34, .int r1, .int (v3 + 1)] (I1, L1, D1, am_rf (xt, xs, xi, xp, 2, xc)) (none, (I4, L4, D4, am_rf (xt, xs, xi, xp, 2, xc))) ∧ (P (some (.int v2), (I4, L4, D4, am_rf (xt, xs, xi, xp, 2, xc)))))) ∧ (v1 = 4 ∨ v1 = 5 ∨ v1 = 6 ∨ v1 = 7 → (∃ (I5 : Nat → Nat → Int32) (L5 : Nat → Nat → Int64) (D5 : Nat → Nat → UInt64), am_Rn ext d 10 [.ref 34] (I1, L1, D1, am_rf (xt, xs, xi, xp, 2, xc)) (none, (I5, L5, D5, am_rf (xt, xs, xi, xp, 2, xc))) ∧ (P (some (.int v2), (I5, L5, D5, am_rf (xt, xs, xi, xp, 2, xc)))))) ∧ (v1 = 8 ∨ v1 = 9 ∨ v1 = 10 → (∃ (I6 : Nat → Nat → Int32) (L6 : Nat → Nat → Int64) (D6 : Nat → Nat → UInt64), am_Rn ext d 14 [.ref 34, .int v1] (I1, L1, D1, am_rf (xt, xs, xi, xp, 2, xc)) (none, (I6, L6, D6, am_rf (xt, xs, xi, xp, 2, xc))) ∧ (P (some (.int v2), (I6, L6, D6, am_rf (xt, xs, xi, xp, 2, xc)))))) ∧ (v1 = 17 ∨ v1 = 18 → (∃ (r7 : Int32) (I7 : Nat → Nat → Int32) (L7 : Nat → Nat → Int64) (D7 : Nat → Nat → UInt64), am_Rn ext d 13 [.ref 34, .int v1] (I1, L1, D1, am_rf (xt, xs, xi, xp, 2, xc)) (some (.int r7), (I7, L7, D7, am_rf (xt, xs, xi, xp, 2, xc))) ∧ (((r7 = 0 → (P (some (.int r1), (I7, L7, D7, am_rf (xt, xs, xi, xp, 2, xc))))) ∧ (¬ r7 = 0 → (P (some (.int v2), (I7, L7, D7, am_rf (xt, xs, xi, xp, 2, xc))))))))) ∧ (v1 = 19 → (P (some (.int r1), (I1, L1, D1, am_rf (xt, xs, xi, xp, 2, xc))))) ∧ (v1 = 20 → (P (some (.int v2), (I1, L1, D1, am_rf (xt, xs, xi, xp, 2, xc))))) ∧ (¬ v1 = 0 ∧ ¬ v1 = 2 ∧ ¬ v1 = 3 ∧ ¬ v1 = 4 ∧ ¬ v1 = 5 ∧ ¬ v1 = 6 ∧ ¬ v1 = 7 ∧ ¬ v1 = 8 ∧ ¬ v1 = 9 ∧ ¬ v1 = 10 ∧ ¬ v1 = 17 ∧ ¬ v1 = 18 ∧ ¬ v1 = 19 ∧ ¬ v1 = 20 → (∃ (I8 : Nat → Nat → Int32) (L8 : Nat → Nat → Int64) (D8 : Nat → Nat → UInt64), am_Rn ext d 15 [.ref 34, .int v1] (I1, L1, D1, am_rf (xt, xs, xi, xp, 2, xc)) (none, (I8, L8, D8, am_rf (xt, xs, xi, xp, 2, xc))) ∧ (P (some (.int v2), (I8, L8, D8, am_rf (xt, xs, xi, xp, 2, xc))))))))) : am_wp ext d mz_8 (0, [some (.ref 34), some (.int v1), some (.int v2), some (.int v3), none], [], (I, L, D, am_rf (xt, xs, xi, xp, 2, xc))) P := by
  refine am_wpb (c' := (5, [some (.ref 34), some (.int v1), some (.int v2), some (.int v3), none], [.int v2, .ref 2], (I, L, D, am_rf (xt, xs, xi, xp, 2, xc)))) 3 rfl ?_
  obtain ⟨r1, I1, L1, D1, hr, h⟩ := h
  refine am_wp_inv (as := [.ref 2, .int v2]) rfl rfl rfl rfl ⟨_, hr, ?_⟩
  show am_wp ext d mz_8 (8, [some (.ref 34), some (.int v1), some (.int v2), some (.int v3), none], [.int r1], (I1, L1, D1, am_rf (xt, xs, xi, xp, 2, xc))) P
  refine am_wpb (c' := (11, [some (.ref 34), some (.int v1), some (.int v2), some (.int v3), some (.int r1)], [.int v1], (I1, L1, D1, am_rf (xt, xs, xi, xp, 2, xc)))) 2 rfl ?_
  have hsw := am_swc v1 0 20
  by_cases c0 : v1 = 0
  · replace h := h.1 c0
    have e := c0
    refine am_ts_in 0 rfl (by rw [e]; rfl) (by decide) rfl ?_
    refine am_wpb (c' := (112, [some (.ref 34), some (.int v1), some (.int v2), some (.int v3), some (.int r1)], [.double (FP.i2d r1), .ref 34], (I1, L1, D1, am_rf (xt, xs, xi, xp, 2, xc)))) 3 rfl ?_
    obtain ⟨I2, L2, D2, hr, h⟩ := h
    refine am_wp_inv (as := [.ref 34, .double (FP.i2d r1)]) rfl rfl rfl rfl ⟨_, hr, ?_⟩
    show am_wp ext d mz_8 (115, [some (.ref 34), some (.int v1), some (.int v2), some (.int v3), some (.int r1)], [], (I2, L2, D2, am_rf (xt, xs, xi, xp, 2, xc))) P
    refine am_wpb (c' := (116, [some (.ref 34), some (.int v1), some (.int v2), some (.int v3), some (.int r1)], [.int v2], (I2, L2, D2, am_rf (xt, xs, xi, xp, 2, xc)))) 1 rfl ?_
    exact am_ret_i rfl rfl h
  by_cases c1 : v1 = 2
  · replace h := h.2.1 c1
    have e := c1
    refine am_ts_in 2 rfl (by rw [e]; rfl) (by decide) rfl ?_
    refine am_wpb (c' := (123, [some (.ref 34), some (.int v1), some (.int v2), some (.int v3), some (.int r1)], [.int (v3 + 1), .int r1, .ref 34], (I1, L1, D1, am_rf (xt, xs, xi, xp, 2, xc)))) 5 rfl ?_
    obtain ⟨I3, L3, D3, hr, h⟩ := h
    refine am_wp_inv (as := [.ref 34, .int r1, .int (v3 + 1)]) rfl rfl rfl rfl ⟨_, hr, ?_⟩
    show am_wp ext d mz_8 (126, [some (.ref 34), some (.int v1), some (.int v2), some (.int v3), some (.int r1)], [], (I3, L3, D3, am_rf (xt, xs, xi, xp, 2, xc))) P
    refine am_wpb (c' := (127, [some (.ref 34), some (.int v1), some (.int v2), some (.int v3), some (.int r1)], [.int v2], (I3, L3, D3, am_rf (xt, xs, xi, xp, 2, xc)))) 1 rfl ?_
    exact am_ret_i rfl rfl h
  by_cases c2 : v1 = 3
  · replace h := h.2.2.1 c2
    have e := c2
    refine am_ts_in 3 rfl (by rw [e]; rfl) (by decide) rfl ?_
    refine am_wpb (c' := (134, [some (.ref 34), some (.int v1), some (.int v2), some (.int v3), some (.int r1)], [.int (v3 + 1), .int r1, .ref 34], (I1, L1, D1, am_rf (xt, xs, xi, xp, 2, xc)))) 5 rfl ?_
    obtain ⟨I4, L4, D4, hr, h⟩ := h
    refine am_wp_inv (as := [.ref 34, .int r1, .int (v3 + 1)]) rfl rfl rfl rfl ⟨_, hr, ?_⟩
    show am_wp ext d mz_8 (137, [some (.ref 34), some (.int v1), some (.int v2), some (.int v3), some (.int r1)], [], (I4, L4, D4, am_rf (xt, xs, xi, xp, 2, xc))) P
    refine am_wpb (c' := (138, [some (.ref 34), some (.int v1), some (.int v2), some (.int v3), some (.int r1)], [.int v2], (I4, L4, D4, am_rf (xt, xs, xi, xp, 2, xc)))) 1 rfl ?_
    exact am_ret_i rfl rfl h
  by_cases c3 : v1 = 4 ∨ v1 = 5 ∨ v1 = 6 ∨ v1 = 7
  · replace h := h.2.2.2.1 c3
    rcases c3 with e | e | e | e
    · refine am_ts_in 4 rfl (by rw [e]; rfl) (by decide) rfl ?_
      refine am_wpb (c' := (140, [some (.ref 34), some (.int v1), some (.int v2), some (.int v3), some (.int r1)], [.ref 34], (I1, L1, D1, am_rf (xt, xs, xi, xp, 2, xc)))) 1 rfl ?_
      obtain ⟨I5, L5, D5, hr, h⟩ := h
      refine am_wp_inv (as := [.ref 34]) rfl rfl rfl rfl ⟨_, hr, ?_⟩
      show am_wp ext d mz_8 (143, [some (.ref 34), some (.int v1), some (.int v2), some (.int v3), some (.int r1)], [], (I5, L5, D5, am_rf (xt, xs, xi, xp, 2, xc))) P
      refine am_wpb (c' := (144, [some (.ref 34), some (.int v1), some (.int v2), some (.int v3), some (.int r1)], [.int v2], (I5, L5, D5, am_rf (xt, xs, xi, xp, 2, xc)))) 1 rfl ?_
      exact am_ret_i rfl rfl h
    · refine am_ts_in 5 rfl (by rw [e]; rfl) (by decide) rfl ?_
      refine am_wpb (c' := (140, [some (.ref 34), some (.int v1), some (.int v2), some (.int v3), some (.int r1)], [.ref 34], (I1, L1, D1, am_rf (xt, xs, xi, xp, 2, xc)))) 1 rfl ?_
      obtain ⟨I5, L5, D5, hr, h⟩ := h
      refine am_wp_inv (as := [.ref 34]) rfl rfl rfl rfl ⟨_, hr, ?_⟩
      show am_wp ext d mz_8 (143, [some (.ref 34), some (.int v1), some (.int v2), some (.int v3), some (.int r1)], [], (I5, L5, D5, am_rf (xt, xs, xi, xp, 2, xc))) P
      refine am_wpb (c' := (144, [some (.ref 34), some (.int v1), some (.int v2), some (.int v3), some (.int r1)], [.int v2], (I5, L5, D5, am_rf (xt, xs, xi, xp, 2, xc)))) 1 rfl ?_
      exact am_ret_i rfl rfl h
    · refine am_ts_in 6 rfl (by rw [e]; rfl) (by decide) rfl ?_
      refine am_wpb (c' := (140, [some (.ref 34), some (.int v1), some (.int v2), some (.int v3), some (.int r1)], [.ref 34], (I1, L1, D1, am_rf (xt, xs, xi, xp, 2, xc)))) 1 rfl ?_
      obtain ⟨I5, L5, D5, hr, h⟩ := h
      refine am_wp_inv (as := [.ref 34]) rfl rfl rfl rfl ⟨_, hr, ?_⟩
      show am_wp ext d mz_8 (143, [some (.ref 34), some (.int v1), some (.int v2), some (.int v3), some (.int r1)], [], (I5, L5, D5, am_rf (xt, xs, xi, xp, 2, xc))) P
      refine am_wpb (c' := (144, [some (.ref 34), some (.int v1), some (.int v2), some (.int v3), some (.int r1)], [.int v2], (I5, L5, D5, am_rf (xt, xs, xi, xp, 2, xc)))) 1 rfl ?_
      exact am_ret_i rfl rfl h
    · refine am_ts_in 7 rfl (by rw [e]; rfl) (by decide) rfl ?_
      refine am_wpb (c' := (140, [some (.ref 34), some (.int v1), some (.int v2), some (.int v3), some (.int r1)], [.ref 34], (I1, L1, D1, am_rf (xt, xs, xi, xp, 2, xc)))) 1 rfl ?_
      obtain ⟨I5, L5, D5, hr, h⟩ := h
      refine am_wp_inv (as := [.ref 34]) rfl rfl rfl rfl ⟨_, hr, ?_⟩
      show am_wp ext d mz_8 (143, [some (.ref 34), some (.int v1), some (.int v2), some (.int v3), some (.int r1)], [], (I5, L5, D5, am_rf (xt, xs, xi, xp, 2, xc))) P
      refine am_wpb (c' := (144, [some (.ref 34), some (.int v1), some (.int v2), some (.int v3), some (.int r1)], [.int v2], (I5, L5, D5, am_rf (xt, xs, xi, xp, 2, xc)))) 1 rfl ?_
      exact am_ret_i rfl rfl h
  by_cases c4 : v1 = 8 ∨ v1 = 9 ∨ v1 = 10
  · replace h := h.2.2.2.2.1 c4
    rcases c4 with e | e | e
    · refine am_ts_in 8 rfl (by rw [e]; rfl) (by decide) rfl ?_
      refine am_wpb (c' := (147, [some (.ref 34), some (.int v1), some (.int v2), some (.int v3), some (.int r1)], [.int v1, .ref 34], (I1, L1, D1, am_rf (xt, xs, xi, xp, 2, xc)))) 2 rfl ?_
      obtain ⟨I6, L6, D6, hr, h⟩ := h
      refine am_wp_inv (as := [.ref 34, .int v1]) rfl rfl rfl rfl ⟨_, hr, ?_⟩
      show am_wp ext d mz_8 (150, [some (.ref 34), some (.int v1), some (.int v2), some (.int v3), some (.int r1)], [], (I6, L6, D6, am_rf (xt, xs, xi, xp, 2, xc))) P
      refine am_wpb (c' := (151, [some (.ref 34), some (.int v1), some (.int v2), some (.int v3), some (.int r1)], [.int v2], (I6, L6, D6, am_rf (xt, xs, xi, xp, 2, xc)))) 1 rfl ?_
      exact am_ret_i rfl rfl h
    · refine am_ts_in 9 rfl (by rw [e]; rfl) (by decide) rfl ?_
      refine am_wpb (c' := (147, [some (.ref 34), some (.int v1), some (.int v2), some (.int v3), some (.int r1)], [.int v1, .ref 34], (I1, L1, D1, am_rf (xt, xs, xi, xp, 2, xc)))) 2 rfl ?_
      obtain ⟨I6, L6, D6, hr, h⟩ := h
      refine am_wp_inv (as := [.ref 34, .int v1]) rfl rfl rfl rfl ⟨_, hr, ?_⟩
      show am_wp ext d mz_8 (150, [some (.ref 34), some (.int v1), some (.int v2), some (.int v3), some (.int r1)], [], (I6, L6, D6, am_rf (xt, xs, xi, xp, 2, xc))) P
      refine am_wpb (c' := (151, [some (.ref 34), some (.int v1), some (.int v2), some (.int v3), some (.int r1)], [.int v2], (I6, L6, D6, am_rf (xt, xs, xi, xp, 2, xc)))) 1 rfl ?_
      exact am_ret_i rfl rfl h
    · refine am_ts_in 10 rfl (by rw [e]; rfl) (by decide) rfl ?_
      refine am_wpb (c' := (147, [some (.ref 34), some (.int v1), some (.int v2), some (.int v3), some (.int r1)], [.int v1, .ref 34], (I1, L1, D1, am_rf (xt, xs, xi, xp, 2, xc)))) 2 rfl ?_
      obtain ⟨I6, L6, D6, hr, h⟩ := h
      refine am_wp_inv (as := [.ref 34, .int v1]) rfl rfl rfl rfl ⟨_, hr, ?_⟩
      show am_wp ext d mz_8 (150, [some (.ref 34), some (.int v1), some (.int v2), some (.int v3), some (.int r1)], [], (I6, L6, D6, am_rf (xt, xs, xi, xp, 2, xc))) P
      refine am_wpb (c' := (151, [some (.ref 34), some (.int v1), some (.int v2), some (.int v3), some (.int r1)], [.int v2], (I6, L6, D6, am_rf (xt, xs, xi, xp, 2, xc)))) 1 rfl ?_
      exact am_ret_i rfl rfl h
  by_cases c5 : v1 = 17 ∨ v1 = 18
  · replace h := h.2.2.2.2.2.1 c5
    rcases c5 with e | e
    · refine am_ts_in 17 rfl (by rw [e]; rfl) (by decide) rfl ?_
      refine am_wpb (c' := (154, [some (.ref 34), some (.int v1), some (.int v2), some (.int v3), some (.int r1)], [.int v1, .ref 34], (I1, L1, D1, am_rf (xt, xs, xi, xp, 2, xc)))) 2 rfl ?_
      obtain ⟨r7, I7, L7, D7, hr, h⟩ := h
      refine am_wp_inv (as := [.ref 34, .int v1]) rfl rfl rfl rfl ⟨_, hr, ?_⟩
      show am_wp ext d mz_8 (157, [some (.ref 34), some (.int v1), some (.int v2), some (.int v3), some (.int r1)], [.int r7], (I7, L7, D7, am_rf (xt, xs, xi, xp, 2, xc))) P
      refine am_b1_eq rfl (fun z => ?_) (fun z => ?_)
      · replace h := h.1 z
        refine am_wpb (c' := (166, [some (.ref 34), some (.int v1), some (.int v2), some (.int v3), some (.int r1)], [.int r1], (I7, L7, D7, am_rf (xt, xs, xi, xp, 2, xc)))) 1 rfl ?_
        exact am_ret_i rfl rfl h
      · replace h := h.2 z
        refine am_wpb (c' := (166, [some (.ref 34), some (.int v1), some (.int v2), some (.int v3), some (.int r1)], [.int v2], (I7, L7, D7, am_rf (xt, xs, xi, xp, 2, xc)))) 2 rfl ?_
        exact am_ret_i rfl rfl h
    · refine am_ts_in 18 rfl (by rw [e]; rfl) (by decide) rfl ?_
      refine am_wpb (c' := (154, [some (.ref 34), some (.int v1), some (.int v2), some (.int v3), some (.int r1)], [.int v1, .ref 34], (I1, L1, D1, am_rf (xt, xs, xi, xp, 2, xc)))) 2 rfl ?_
      obtain ⟨r7, I7, L7, D7, hr, h⟩ := h
      refine am_wp_inv (as := [.ref 34, .int v1]) rfl rfl rfl rfl ⟨_, hr, ?_⟩
      show am_wp ext d mz_8 (157, [some (.ref 34), some (.int v1), some (.int v2), some (.int v3), some (.int r1)], [.int r7], (I7, L7, D7, am_rf (xt, xs, xi, xp, 2, xc))) P
      refine am_b1_eq rfl (fun z => ?_) (fun z => ?_)
      · replace h := h.1 z
        refine am_wpb (c' := (166, [some (.ref 34), some (.int v1), some (.int v2), some (.int v3), some (.int r1)], [.int r1], (I7, L7, D7, am_rf (xt, xs, xi, xp, 2, xc)))) 1 rfl ?_
        exact am_ret_i rfl rfl h
      · replace h := h.2 z
        refine am_wpb (c' := (166, [some (.ref 34), some (.int v1), some (.int v2), some (.int v3), some (.int r1)], [.int v2], (I7, L7, D7, am_rf (xt, xs, xi, xp, 2, xc)))) 2 rfl ?_
        exact am_ret_i rfl rfl h
  by_cases c6 : v1 = 19
  · replace h := h.2.2.2.2.2.2.1 c6
    have e := c6
    refine am_ts_in 19 rfl (by rw [e]; rfl) (by decide) rfl ?_
    refine am_wpb (c' := (169, [some (.ref 34), some (.int v1), some (.int v2), some (.int v3), some (.int r1)], [.int r1], (I1, L1, D1, am_rf (xt, xs, xi, xp, 2, xc)))) 1 rfl ?_
    exact am_ret_i rfl rfl h
  by_cases c7 : v1 = 20
  · replace h := h.2.2.2.2.2.2.2.1 c7
    have e := c7
    refine am_ts_in 20 rfl (by rw [e]; rfl) (by decide) rfl ?_
    refine am_wpb (c' := (171, [some (.ref 34), some (.int v1), some (.int v2), some (.int v3), some (.int r1)], [.int v2], (I1, L1, D1, am_rf (xt, xs, xi, xp, 2, xc)))) 1 rfl ?_
    exact am_ret_i rfl rfl h
  replace h := h.2.2.2.2.2.2.2.2 ⟨fun e => c0 (e), fun e => c1 (e), fun e => c2 (e), fun e => c3 (Or.inl e), fun e => c3 (Or.inr (Or.inl e)), fun e => c3 (Or.inr (Or.inr (Or.inl e))), fun e => c3 (Or.inr (Or.inr (Or.inr (e)))), fun e => c4 (Or.inl e), fun e => c4 (Or.inr (Or.inl e)), fun e => c4 (Or.inr (Or.inr (e))), fun e => c5 (Or.inl e), fun e => c5 (Or.inr (e)), fun e => c6 (e), fun e => c7 (e)⟩
  rcases hsw with hsw | ⟨k, hk, hsw⟩
  · refine am_ts_out rfl hsw ?_
    refine am_wpb (c' := (174, [some (.ref 34), some (.int v1), some (.int v2), some (.int v3), some (.int r1)], [.int v1, .ref 34], (I1, L1, D1, am_rf (xt, xs, xi, xp, 2, xc)))) 2 rfl ?_
    obtain ⟨I8, L8, D8, hr, h⟩ := h
    refine am_wp_inv (as := [.ref 34, .int v1]) rfl rfl rfl rfl ⟨_, hr, ?_⟩
    show am_wp ext d mz_8 (177, [some (.ref 34), some (.int v1), some (.int v2), some (.int v3), some (.int r1)], [], (I8, L8, D8, am_rf (xt, xs, xi, xp, 2, xc))) P
    refine am_wpb (c' := (178, [some (.ref 34), some (.int v1), some (.int v2), some (.int v3), some (.int r1)], [.int v2], (I8, L8, D8, am_rf (xt, xs, xi, xp, 2, xc)))) 1 rfl ?_
    exact am_ret_i rfl rfl h
  · refine am_ts_in (t := 172) k rfl hsw (by omega) ?_ ?_
    · refine am_sw_d (bad := [0, 2, 3, 4, 5, 6, 7, 8, 9, 10, 17, 18, 19, 20]) hk (by decide) (fun hm => ?_)
      simp only [List.mem_cons, List.not_mem_nil, or_false] at hm
      rcases hm with e | e | e | e | e | e | e | e | e | e | e | e | e | e
      · exact c0 (am_i32 (v := 0) (by rw [hsw, e]; rfl))
      · exact c1 (am_i32 (v := 2) (by rw [hsw, e]; rfl))
      · exact c2 (am_i32 (v := 3) (by rw [hsw, e]; rfl))
      · exact c3 (Or.inl (am_i32 (v := 4) (by rw [hsw, e]; rfl)))
      · exact c3 (Or.inr (Or.inl (am_i32 (v := 5) (by rw [hsw, e]; rfl))))
      · exact c3 (Or.inr (Or.inr (Or.inl (am_i32 (v := 6) (by rw [hsw, e]; rfl)))))
      · exact c3 (Or.inr (Or.inr (Or.inr (am_i32 (v := 7) (by rw [hsw, e]; rfl)))))
      · exact c4 (Or.inl (am_i32 (v := 8) (by rw [hsw, e]; rfl)))
      · exact c4 (Or.inr (Or.inl (am_i32 (v := 9) (by rw [hsw, e]; rfl))))
      · exact c4 (Or.inr (Or.inr (am_i32 (v := 10) (by rw [hsw, e]; rfl))))
      · exact c5 (Or.inl (am_i32 (v := 17) (by rw [hsw, e]; rfl)))
      · exact c5 (Or.inr (am_i32 (v := 18) (by rw [hsw, e]; rfl)))
      · exact c6 (am_i32 (v := 19) (by rw [hsw, e]; rfl))
      · exact c7 (am_i32 (v := 20) (by rw [hsw, e]; rfl))
    · skip
      refine am_wpb (c' := (174, [some (.ref 34), some (.int v1), some (.int v2), some (.int v3), some (.int r1)], [.int v1, .ref 34], (I1, L1, D1, am_rf (xt, xs, xi, xp, 2, xc)))) 2 rfl ?_
      obtain ⟨I8, L8, D8, hr, h⟩ := h
      refine am_wp_inv (as := [.ref 34, .int v1]) rfl rfl rfl rfl ⟨_, hr, ?_⟩
      show am_wp ext d mz_8 (177, [some (.ref 34), some (.int v1), some (.int v2), some (.int v3), some (.int r1)], [], (I8, L8, D8, am_rf (xt, xs, xi, xp, 2, xc))) P
      refine am_wpb (c' := (178, [some (.ref 34), some (.int v1), some (.int v2), some (.int v3), some (.int r1)], [.int v2], (I8, L8, D8, am_rf (xt, xs, xi, xp, 2, xc)))) 1 rfl ?_
      exact am_ret_i rfl rfl h
/-- SureSums$Doubles.push(D)V -/
def mz_9 : am_Y := (fun pc => am_q9.lookup pc, 3, 0)
theorem mh_9 : am_Ys 9 = some mz_9 := rfl
theorem w9_0 {ext : Nat → List Value → am_M → Option am_R} {d : Nat} {P : am_R → Prop} (I : Nat → Nat → Int32) (L : Nat → Nat → Int64) (D : Nat → Nat → UInt64) (X : am_Rf) (v1 : UInt64)
    (h : ∃ (I1 : Nat → Nat → Int32) (L1 : Nat → Nat → Int64) (D1 : Nat → Nat → UInt64), am_Rn ext d 11 [.ref 34, .double v1, .int 0] (I, L, D, am_rf X) (none, (I1, L1, D1, am_rf X)) ∧ (P (none, (I1, L1, D1, am_rf X)))) : am_wp ext d mz_9 (0, [some (.ref 34), some (.double v1), none], [], (I, L, D, am_rf X)) P := by
  refine am_wpb (c' := (3, [some (.ref 34), some (.double v1), none], [.int 0, .double v1, .ref 34], (I, L, D, am_rf X))) 3 rfl ?_
  obtain ⟨I1, L1, D1, hr, h⟩ := h
  refine am_wp_inv (as := [.ref 34, .double v1, .int 0]) rfl rfl rfl rfl ⟨_, hr, ?_⟩
  show am_wp ext d mz_9 (6, [some (.ref 34), some (.double v1), none], [], (I1, L1, D1, am_rf X)) P
  exact am_ret_v rfl rfl h
/-- SureSums$Doubles.pushLost()V -/
def mz_10 : am_Y := (fun pc => am_q10.lookup pc, 1, 0)
theorem mh_10 : am_Ys 10 = some mz_10 := rfl
theorem w10_0 {ext : Nat → List Value → am_M → Option am_R} {d : Nat} {P : am_R → Prop} (I : Nat → Nat → Int32) (L : Nat → Nat → Int64) (D : Nat → Nat → UInt64) (X : am_Rf)
    (h : ∃ (I1 : Nat → Nat → Int32) (L1 : Nat → Nat → Int64) (D1 : Nat → Nat → UInt64), am_Rn ext d 11 [.ref 34, .double FP.dconst0, .int 1] (I, L, D, am_rf X) (none, (I1, L1, D1, am_rf X)) ∧ (P (none, (I1, L1, D1, am_rf X)))) : am_wp ext d mz_10 (0, [some (.ref 34)], [], (I, L, D, am_rf X)) P := by
  refine am_wpb (c' := (3, [some (.ref 34)], [.int 1, .double FP.dconst0, .ref 34], (I, L, D, am_rf X))) 3 rfl ?_
  obtain ⟨I1, L1, D1, hr, h⟩ := h
  refine am_wp_inv (as := [.ref 34, .double FP.dconst0, .int 1]) rfl rfl rfl rfl ⟨_, hr, ?_⟩
  show am_wp ext d mz_10 (6, [some (.ref 34)], [], (I1, L1, D1, am_rf X)) P
  exact am_ret_v rfl rfl h
/-- SureSums$Doubles.pushEither(DZ)V -/
def mz_11 : am_Y := (fun pc => am_q11.lookup pc, 4, 0)
theorem mh_11 : am_Ys 11 = some mz_11 := rfl
theorem w11_0 {ext : Nat → List Value → am_M → Option am_R} {d : Nat} {P : am_R → Prop} (I : Nat → Nat → Int32) (L : Nat → Nat → Int64) (D : Nat → Nat → UInt64) (X : am_Rf) (v1 : UInt64) (v3 : Int32)
    (h : ((100 ≤ (I 34 4) → (P (none, (I, L, D, am_rf X)))) ∧ (¬ 100 ≤ (I 34 4) → (am_inb (I 34 4) 100 = true ∧ (am_inb (I 34 4) 100 = true ∧ ((v3 = 0 ∨ v3 = 1) ∧ (P (none, (am_uI (am_uI I 38 (Int32.toNatClampNeg (I 34 4)) v3) 34 4 ((I 34 4) + 1), L, am_uD D 37 (Int32.toNatClampNeg (I 34 4)) v1, am_rf X))))))))) : am_wp ext d mz_11 (0, [some (.ref 34), some (.double v1), none, some (.int v3)], [], (I, L, D, am_rf X)) P := by
  refine am_wpb (c' := (6, [some (.ref 34), some (.double v1), none, some (.int v3)], [.int 100, .int (I 34 4)], (I, L, D, am_rf X))) 3 rfl ?_
  refine am_b2_ge rfl (fun z => ?_) (fun z => ?_)
  · replace h := h.1 z
    exact am_ret_v rfl rfl h
  · replace h := h.2 z
    refine am_wpb (c' := (18, [some (.ref 34), some (.double v1), none, some (.int v3)], [.double v1, .int (I 34 4), .ref 37], (I, L, D, am_rf X))) 5 rfl ?_
    obtain ⟨o, h⟩ := h
    refine am_wps (c' := (19, [some (.ref 34), some (.double v1), none, some (.int v3)], [], (I, L, am_uD D 37 (Int32.toNatClampNeg (I 34 4)) v1, am_rf X))) rfl rfl (am_s_dast rfl o) ?_
    refine am_wpb (c' := (28, [some (.ref 34), some (.double v1), none, some (.int v3)], [.int v3, .int (I 34 4), .ref 38], (I, L, am_uD D 37 (Int32.toNatClampNeg (I 34 4)) v1, am_rf X))) 5 rfl ?_
    obtain ⟨o, h⟩ := h
    obtain ⟨o2, h⟩ := h
    refine am_wps (c' := (29, [some (.ref 34), some (.double v1), none, some (.int v3)], [], (am_uI I 38 (Int32.toNatClampNeg (I 34 4)) v3, L, am_uD D 37 (Int32.toNatClampNeg (I 34 4)) v1, am_rf X))) rfl rfl (am_s_zast rfl o o2) ?_
    refine am_wpb (c' := (39, [some (.ref 34), some (.double v1), none, some (.int v3)], [], (am_uI (am_uI I 38 (Int32.toNatClampNeg (I 34 4)) v3) 34 4 ((I 34 4) + 1), L, am_uD D 37 (Int32.toNatClampNeg (I 34 4)) v1, am_rf X))) 6 rfl ?_
    exact am_ret_v rfl rfl h
/-- SureSums$Doubles.call(II)V -/
def mz_12 : am_Y := (fun pc => am_q12.lookup pc, 3, 0)
theorem mh_12 : am_Ys 12 = some mz_12 := rfl
theorem w12_0 {ext : Nat → List Value → am_M → Option am_R} {d : Nat} {P : am_R → Prop} (I : Nat → Nat → Int32) (L : Nat → Nat → Int64) (D : Nat → Nat → UInt64) (X : am_Rf) (v1 : Int32) (v2 : Int32)
    (h : (((I 34 4) < 1 → (P (none, (I, L, D, am_rf X)))) ∧ (¬ (I 34 4) < 1 → (am_inb ((I 34 4) - 1) 100 = true ∧ (am_inb ((I 34 4) - 1) 100 = true ∧ (∃ (I1 : Nat → Nat → Int32) (L1 : Nat → Nat → Int64) (D1 : Nat → Nat → UInt64), am_Rn ext d 7 [.ref 34, .int v1, .double (D 37 (Int32.toNatClampNeg ((I 34 4) - 1))), .int (I 38 (Int32.toNatClampNeg ((I 34 4) - 1))), .int v2] (am_uI I 34 4 ((I 34 4) - 1), L, D, am_rf X) (none, (I1, L1, D1, am_rf X)) ∧ (P (none, (I1, L1, D1, am_rf X))))))))) : am_wp ext d mz_12 (0, [some (.ref 34), some (.int v1), some (.int v2)], [], (I, L, D, am_rf X)) P := by
  refine am_wpb (c' := (5, [some (.ref 34), some (.int v1), some (.int v2)], [.int 1, .int (I 34 4)], (I, L, D, am_rf X))) 3 rfl ?_
  refine am_b2_lt rfl (fun z => ?_) (fun z => ?_)
  · replace h := h.1 z
    exact am_ret_v rfl rfl h
  · replace h := h.2 z
    refine am_wpb (c' := (28, [some (.ref 34), some (.int v1), some (.int v2)], [.int ((I 34 4) - 1), .ref 37, .int v1, .ref 34], (am_uI I 34 4 ((I 34 4) - 1), L, D, am_rf X))) 12 rfl ?_
    obtain ⟨o, h⟩ := h
    refine am_wps (c' := (29, [some (.ref 34), some (.int v1), some (.int v2)], [.double (D 37 (Int32.toNatClampNeg ((I 34 4) - 1))), .int v1, .ref 34], (am_uI I 34 4 ((I 34 4) - 1), L, D, am_rf X))) rfl rfl (am_s_dald rfl o) ?_
    refine am_wpb (c' := (37, [some (.ref 34), some (.int v1), some (.int v2)], [.int ((I 34 4) - 1), .ref 38, .double (D 37 (Int32.toNatClampNeg ((I 34 4) - 1))), .int v1, .ref 34], (am_uI I 34 4 ((I 34 4) - 1), L, D, am_rf X))) 4 rfl ?_
    obtain ⟨o, h⟩ := h
    refine am_wps (c' := (38, [some (.ref 34), some (.int v1), some (.int v2)], [.int (I 38 (Int32.toNatClampNeg ((I 34 4) - 1))), .double (D 37 (Int32.toNatClampNeg ((I 34 4) - 1))), .int v1, .ref 34], (am_uI I 34 4 ((I 34 4) - 1), L, D, am_rf X))) rfl rfl (am_s_zald rfl o) ?_
    refine am_wpb (c' := (39, [some (.ref 34), some (.int v1), some (.int v2)], [.int v2, .int (I 38 (Int32.toNatClampNeg ((I 34 4) - 1))), .double (D 37 (Int32.toNatClampNeg ((I 34 4) - 1))), .int v1, .ref 34], (am_uI I 34 4 ((I 34 4) - 1), L, D, am_rf X))) 1 rfl ?_
    obtain ⟨I1, L1, D1, hr, h⟩ := h
    refine am_wp_inv (as := [.ref 34, .int v1, .double (D 37 (Int32.toNatClampNeg ((I 34 4) - 1))), .int (I 38 (Int32.toNatClampNeg ((I 34 4) - 1))), .int v2]) rfl rfl rfl rfl ⟨_, hr, ?_⟩
    show am_wp ext d mz_12 (42, [some (.ref 34), some (.int v1), some (.int v2)], [], (I1, L1, D1, am_rf X)) P
    exact am_ret_v rfl rfl h
/-- SureSums$Doubles.isBelow(I)Z -/
def mz_13 : am_Y := (fun pc => am_q13.lookup pc, 2, 2)
theorem mh_13 : am_Ys 13 = some mz_13 := rfl
theorem w13_0 {ext : Nat → List Value → am_M → Option am_R} {d : Nat} {P : am_R → Prop} (I : Nat → Nat → Int32) (L : Nat → Nat → Int64) (D : Nat → Nat → UInt64) (X : am_Rf) (v1 : Int32)
    (h : ((2 ≤ (I 34 4) → (am_inb ((I 34 4) - 2) 100 = true ∧ (((¬ (I 38 (Int32.toNatClampNeg ((I 34 4) - 2))) = 0 → (P (some (.int 0), (am_uI I 34 4 ((I 34 4) - 2), L, D, am_rf X)))) ∧ ((I 38 (Int32.toNatClampNeg ((I 34 4) - 2))) = 0 → (am_inb (((I 34 4) - 2) + 1) 100 = true ∧ ((((I 38 (Int32.toNatClampNeg (((I 34 4) - 2) + 1))) = 0 → (((¬ v1 = 17 → (am_inb (((I 34 4) - 2) + 1) 100 = true ∧ (am_inb ((I 34 4) - 2) 100 = true ∧ (((0 ≤ (Op.cmpValue (FP.dcmp (D 37 (Int32.toNatClampNeg (((I 34 4) - 2) + 1))) (D 37 (Int32.toNatClampNeg ((I 34 4) - 2)))) .g) → (P (some (.int 0), (am_uI I 34 4 ((I 34 4) - 2), L, D, am_rf X)))) ∧ (¬ 0 ≤ (Op.cmpValue (FP.dcmp (D 37 (Int32.toNatClampNeg (((I 34 4) - 2) + 1))) (D 37 (Int32.toNatClampNeg ((I 34 4) - 2)))) .g) → (P (some (.int 1), (am_uI I 34 4 ((I 34 4) - 2), L, D, am_rf X))))))))) ∧ (v1 = 17 → (am_inb ((I 34 4) - 2) 100 = true ∧ (am_inb (((I 34 4) - 2) + 1) 100 = true ∧ (((0 ≤ (Op.cmpValue (FP.dcmp (D 37 (Int32.toNatClampNeg ((I 34 4) - 2))) (D 37 (Int32.toNatClampNeg (((I 34 4) - 2) + 1)))) .g) → (P (some (.int 0), (am_uI I 34 4 ((I 34 4) - 2), L, D, am_rf X)))) ∧ (¬ 0 ≤ (Op.cmpValue (FP.dcmp (D 37 (Int32.toNatClampNeg ((I 34 4) - 2))) (D 37 (Int32.toNatClampNeg (((I 34 4) - 2) + 1)))) .g) → (P (some (.int 1), (am_uI I 34 4 ((I 34 4) - 2), L, D, am_rf X)))))))))))) ∧ (¬ (I 38 (Int32.toNatClampNeg (((I 34 4) - 2) + 1))) = 0 → (P (some (.int 0), (am_uI I 34 4 ((I 34 4) - 2), L, D, am_rf X)))))))))))) ∧ (¬ 2 ≤ (I 34 4) → (P (some (.int 0), (I, L, D, am_rf X)))))) : am_wp ext d mz_13 (0, [some (.ref 34), some (.int v1)], [], (I, L, D, am_rf X)) P := by
  refine am_wpb (c' := (5, [some (.ref 34), some (.int v1)], [.int 2, .int (I 34 4)], (I, L, D, am_rf X))) 3 rfl ?_
  refine am_b2_ge rfl (fun z => ?_) (fun z => ?_)
  · replace h := h.1 z
    refine am_wpb (c' := (28, [some (.ref 34), some (.int v1)], [.int ((I 34 4) - 2), .ref 38], (am_uI I 34 4 ((I 34 4) - 2), L, D, am_rf X))) 10 rfl ?_
    obtain ⟨o, h⟩ := h
    refine am_wps (c' := (29, [some (.ref 34), some (.int v1)], [.int (I 38 (Int32.toNatClampNeg ((I 34 4) - 2)))], (am_uI I 34 4 ((I 34 4) - 2), L, D, am_rf X))) rfl rfl (am_s_zald rfl o) ?_
    refine am_b1_ne rfl (fun z => ?_) (fun z => ?_)
    · replace h := h.1 z
      refine am_wpb (c' := (47, [some (.ref 34), some (.int v1)], [.int 0], (am_uI I 34 4 ((I 34 4) - 2), L, D, am_rf X))) 1 rfl ?_
      exact am_ret_z rfl rfl (Or.inl rfl) h
    · replace h := h.2 z
      refine am_wpb (c' := (42, [some (.ref 34), some (.int v1)], [.int (((I 34 4) - 2) + 1), .ref 38], (am_uI I 34 4 ((I 34 4) - 2), L, D, am_rf X))) 6 rfl ?_
      obtain ⟨o, h⟩ := h
      refine am_wps (c' := (43, [some (.ref 34), some (.int v1)], [.int (I 38 (Int32.toNatClampNeg (((I 34 4) - 2) + 1)))], (am_uI I 34 4 ((I 34 4) - 2), L, D, am_rf X))) rfl rfl (am_s_zald rfl o) ?_
      refine am_b1_eq rfl (fun z => ?_) (fun z => ?_)
      · replace h := h.1 z
        refine am_wpb (c' := (51, [some (.ref 34), some (.int v1)], [.int 17, .int v1], (am_uI I 34 4 ((I 34 4) - 2), L, D, am_rf X))) 2 rfl ?_
        refine am_b2_ne rfl (fun z => ?_) (fun z => ?_)
        · replace h := h.1 z
          refine am_wpb (c' := (96, [some (.ref 34), some (.int v1)], [.int (((I 34 4) - 2) + 1), .ref 37], (am_uI I 34 4 ((I 34 4) - 2), L, D, am_rf X))) 6 rfl ?_
          obtain ⟨o, h⟩ := h
          refine am_wps (c' := (97, [some (.ref 34), some (.int v1)], [.double (D 37 (Int32.toNatClampNeg (((I 34 4) - 2) + 1)))], (am_uI I 34 4 ((I 34 4) - 2), L, D, am_rf X))) rfl rfl (am_s_dald rfl o) ?_
          refine am_wpb (c' := (105, [some (.ref 34), some (.int v1)], [.int ((I 34 4) - 2), .ref 37, .double (D 37 (Int32.toNatClampNeg (((I 34 4) - 2) + 1)))], (am_uI I 34 4 ((I 34 4) - 2), L, D, am_rf X))) 4 rfl ?_
          obtain ⟨o, h⟩ := h
          refine am_wps (c' := (106, [some (.ref 34), some (.int v1)], [.double (D 37 (Int32.toNatClampNeg ((I 34 4) - 2))), .double (D 37 (Int32.toNatClampNeg (((I 34 4) - 2) + 1)))], (am_uI I 34 4 ((I 34 4) - 2), L, D, am_rf X))) rfl rfl (am_s_dald rfl o) ?_
          refine am_wpb (c' := (107, [some (.ref 34), some (.int v1)], [.int (Op.cmpValue (FP.dcmp (D 37 (Int32.toNatClampNeg (((I 34 4) - 2) + 1))) (D 37 (Int32.toNatClampNeg ((I 34 4) - 2)))) .g)], (am_uI I 34 4 ((I 34 4) - 2), L, D, am_rf X))) 1 rfl ?_
          refine am_b1_ge rfl (fun z => ?_) (fun z => ?_)
          · replace h := h.1 z
            refine am_wpb (c' := (115, [some (.ref 34), some (.int v1)], [.int 0], (am_uI I 34 4 ((I 34 4) - 2), L, D, am_rf X))) 1 rfl ?_
            exact am_ret_z rfl rfl (Or.inl rfl) h
          · replace h := h.2 z
            refine am_wpb (c' := (115, [some (.ref 34), some (.int v1)], [.int 1], (am_uI I 34 4 ((I 34 4) - 2), L, D, am_rf X))) 2 rfl ?_
            exact am_ret_z rfl rfl (Or.inr rfl) h
        · replace h := h.2 z
          refine am_wpb (c' := (62, [some (.ref 34), some (.int v1)], [.int ((I 34 4) - 2), .ref 37], (am_uI I 34 4 ((I 34 4) - 2), L, D, am_rf X))) 4 rfl ?_
          obtain ⟨o, h⟩ := h
          refine am_wps (c' := (63, [some (.ref 34), some (.int v1)], [.double (D 37 (Int32.toNatClampNeg ((I 34 4) - 2)))], (am_uI I 34 4 ((I 34 4) - 2), L, D, am_rf X))) rfl rfl (am_s_dald rfl o) ?_
          refine am_wpb (c' := (73, [some (.ref 34), some (.int v1)], [.int (((I 34 4) - 2) + 1), .ref 37, .double (D 37 (Int32.toNatClampNeg ((I 34 4) - 2)))], (am_uI I 34 4 ((I 34 4) - 2), L, D, am_rf X))) 6 rfl ?_
          obtain ⟨o, h⟩ := h
          refine am_wps (c' := (74, [some (.ref 34), some (.int v1)], [.double (D 37 (Int32.toNatClampNeg (((I 34 4) - 2) + 1))), .double (D 37 (Int32.toNatClampNeg ((I 34 4) - 2)))], (am_uI I 34 4 ((I 34 4) - 2), L, D, am_rf X))) rfl rfl (am_s_dald rfl o) ?_
          refine am_wpb (c' := (75, [some (.ref 34), some (.int v1)], [.int (Op.cmpValue (FP.dcmp (D 37 (Int32.toNatClampNeg ((I 34 4) - 2))) (D 37 (Int32.toNatClampNeg (((I 34 4) - 2) + 1)))) .g)], (am_uI I 34 4 ((I 34 4) - 2), L, D, am_rf X))) 1 rfl ?_
          refine am_b1_ge rfl (fun z => ?_) (fun z => ?_)
          · replace h := h.1 z
            refine am_wpb (c' := (115, [some (.ref 34), some (.int v1)], [.int 0], (am_uI I 34 4 ((I 34 4) - 2), L, D, am_rf X))) 2 rfl ?_
            exact am_ret_z rfl rfl (Or.inl rfl) h
          · replace h := h.2 z
            refine am_wpb (c' := (115, [some (.ref 34), some (.int v1)], [.int 1], (am_uI I 34 4 ((I 34 4) - 2), L, D, am_rf X))) 2 rfl ?_
            exact am_ret_z rfl rfl (Or.inr rfl) h
      · replace h := h.2 z
        refine am_wpb (c' := (47, [some (.ref 34), some (.int v1)], [.int 0], (am_uI I 34 4 ((I 34 4) - 2), L, D, am_rf X))) 1 rfl ?_
        exact am_ret_z rfl rfl (Or.inl rfl) h
  · replace h := h.2 z
    refine am_wpb (c' := (9, [some (.ref 34), some (.int v1)], [.int 0], (I, L, D, am_rf X))) 1 rfl ?_
    exact am_ret_z rfl rfl (Or.inl rfl) h
/-- SureSums$Doubles.ofOne(I)V -/
def mz_14 : am_Y := (fun pc => am_q14.lookup pc, 4, 0)
theorem mh_14 : am_Ys 14 = some mz_14 := rfl
theorem w14_0 {ext : Nat → List Value → am_M → Option am_R} {d : Nat} {P : am_R → Prop} (I : Nat → Nat → Int32) (L : Nat → Nat → Int64) (D : Nat → Nat → UInt64) (X : am_Rf) (v1 : Int32)
    (h : ((1 ≤ (I 34 4) → (am_inb ((I 34 4) - 1) 100 = true ∧ (am_inb ((I 34 4) - 1) 100 = true ∧ (((¬ (I 38 (Int32.toNatClampNeg ((I 34 4) - 1))) = 0 → (∃ (I1 : Nat → Nat → Int32) (L1 : Nat → Nat → Int64) (D1 : Nat → Nat → UInt64), am_Rn ext d 10 [.ref 34] (am_uI I 34 4 ((I 34 4) - 1), L, D, am_rf X) (none, (I1, L1, D1, am_rf X)) ∧ (P (none, (I1, L1, D1, am_rf X))))) ∧ ((I 38 (Int32.toNatClampNeg ((I 34 4) - 1))) = 0 → (((¬ v1 = 9 → (am_wp ext d mz_14 (60, [some (.ref 34), some (.int v1), some (.double (D 37 (Int32.toNatClampNeg ((I 34 4) - 1)))), none], [], (am_uI I 34 4 ((I 34 4) - 1), L, D, am_rf X)) P)) ∧ (v1 = 9 → (((0 ≤ (Op.cmpValue (FP.dcmp (D 37 (Int32.toNatClampNeg ((I 34 4) - 1))) FP.dconst0) .g) → (am_wp ext d mz_14 (60, [some (.ref 34), some (.int v1), some (.double (D 37 (Int32.toNatClampNeg ((I 34 4) - 1)))), none], [], (am_uI I 34 4 ((I 34 4) - 1), L, D, am_rf X)) P)) ∧ (¬ 0 ≤ (Op.cmpValue (FP.dcmp (D 37 (Int32.toNatClampNeg ((I 34 4) - 1))) FP.dconst0) .g) → (∃ (I2 : Nat → Nat → Int32) (L2 : Nat → Nat → Int64) (D2 : Nat → Nat → UInt64), am_Rn ext d 10 [.ref 34] (am_uI I 34 4 ((I 34 4) - 1), L, D, am_rf X) (none, (I2, L2, D2, am_rf X)) ∧ (P (none, (I2, L2, D2, am_rf X)))))))))))))))) ∧ (¬ 1 ≤ (I 34 4) → (P (none, (I, L, D, am_rf X)))))) : am_wp ext d mz_14 (0, [some (.ref 34), some (.int v1), none, none], [], (I, L, D, am_rf X)) P := by
  refine am_wpb (c' := (5, [some (.ref 34), some (.int v1), none, none], [.int 1, .int (I 34 4)], (I, L, D, am_rf X))) 3 rfl ?_
  refine am_b2_ge rfl (fun z => ?_) (fun z => ?_)
  · replace h := h.1 z
    refine am_wpb (c' := (27, [some (.ref 34), some (.int v1), none, none], [.int ((I 34 4) - 1), .ref 37], (am_uI I 34 4 ((I 34 4) - 1), L, D, am_rf X))) 10 rfl ?_
    obtain ⟨o, h⟩ := h
    refine am_wps (c' := (28, [some (.ref 34), some (.int v1), none, none], [.double (D 37 (Int32.toNatClampNeg ((I 34 4) - 1)))], (am_uI I 34 4 ((I 34 4) - 1), L, D, am_rf X))) rfl rfl (am_s_dald rfl o) ?_
    refine am_wpb (c' := (37, [some (.ref 34), some (.int v1), some (.double (D 37 (Int32.toNatClampNeg ((I 34 4) - 1)))), none], [.int ((I 34 4) - 1), .ref 38], (am_uI I 34 4 ((I 34 4) - 1), L, D, am_rf X))) 5 rfl ?_
    obtain ⟨o, h⟩ := h
    refine am_wps (c' := (38, [some (.ref 34), some (.int v1), some (.double (D 37 (Int32.toNatClampNeg ((I 34 4) - 1)))), none], [.int (I 38 (Int32.toNatClampNeg ((I 34 4) - 1)))], (am_uI I 34 4 ((I 34 4) - 1), L, D, am_rf X))) rfl rfl (am_s_zald rfl o) ?_
    refine am_b1_ne rfl (fun z => ?_) (fun z => ?_)
    · replace h := h.1 z
      refine am_wpb (c' := (54, [some (.ref 34), some (.int v1), some (.double (D 37 (Int32.toNatClampNeg ((I 34 4) - 1)))), none], [.ref 34], (am_uI I 34 4 ((I 34 4) - 1), L, D, am_rf X))) 1 rfl ?_
      obtain ⟨I1, L1, D1, hr, h⟩ := h
      refine am_wp_inv (as := [.ref 34]) rfl rfl rfl rfl ⟨_, hr, ?_⟩
      show am_wp ext d mz_14 (57, [some (.ref 34), some (.int v1), some (.double (D 37 (Int32.toNatClampNeg ((I 34 4) - 1)))), none], [], (I1, L1, D1, am_rf X)) P
      refine am_wpb (c' := (126, [some (.ref 34), some (.int v1), some (.double (D 37 (Int32.toNatClampNeg ((I 34 4) - 1)))), none], [], (I1, L1, D1, am_rf X))) 1 rfl ?_
      exact am_ret_v rfl rfl h
    · replace h := h.2 z
      refine am_wpb (c' := (44, [some (.ref 34), some (.int v1), some (.double (D 37 (Int32.toNatClampNeg ((I 34 4) - 1)))), none], [.int 9, .int v1], (am_uI I 34 4 ((I 34 4) - 1), L, D, am_rf X))) 2 rfl ?_
      refine am_b2_ne rfl (fun z => ?_) (fun z => ?_)
      · replace h := h.1 z
        exact h
      · replace h := h.2 z
        refine am_wpb (c' := (50, [some (.ref 34), some (.int v1), some (.double (D 37 (Int32.toNatClampNeg ((I 34 4) - 1)))), none], [.int (Op.cmpValue (FP.dcmp (D 37 (Int32.toNatClampNeg ((I 34 4) - 1))) FP.dconst0) .g)], (am_uI I 34 4 ((I 34 4) - 1), L, D, am_rf X))) 3 rfl ?_
        refine am_b1_ge rfl (fun z => ?_) (fun z => ?_)
        · replace h := h.1 z
          exact h
        · replace h := h.2 z
          refine am_wpb (c' := (54, [some (.ref 34), some (.int v1), some (.double (D 37 (Int32.toNatClampNeg ((I 34 4) - 1)))), none], [.ref 34], (am_uI I 34 4 ((I 34 4) - 1), L, D, am_rf X))) 1 rfl ?_
          obtain ⟨I2, L2, D2, hr, h⟩ := h
          refine am_wp_inv (as := [.ref 34]) rfl rfl rfl rfl ⟨_, hr, ?_⟩
          show am_wp ext d mz_14 (57, [some (.ref 34), some (.int v1), some (.double (D 37 (Int32.toNatClampNeg ((I 34 4) - 1)))), none], [], (I2, L2, D2, am_rf X)) P
          refine am_wpb (c' := (126, [some (.ref 34), some (.int v1), some (.double (D 37 (Int32.toNatClampNeg ((I 34 4) - 1)))), none], [], (I2, L2, D2, am_rf X))) 1 rfl ?_
          exact am_ret_v rfl rfl h
  · replace h := h.2 z
    exact am_ret_v rfl rfl h
theorem w14_60 {ext : Nat → List Value → am_M → Option am_R} {d : Nat} {P : am_R → Prop} (I : Nat → Nat → Int32) (L : Nat → Nat → Int64) (D : Nat → Nat → UInt64) (X : am_Rf) (v1 : Int32) (v2 : UInt64)
    (h : ((¬ v1 = 8 → (((¬ v1 = 9 → (((0 < (Op.cmpValue (FP.dcmp v2 FP.dconst0) .g) → (∃ (I1 : Nat → Nat → Int32) (L1 : Nat → Nat → Int64) (D1 : Nat → Nat → UInt64), am_Rn ext d 9 [.ref 34, .double v2] (I, L, D, am_rf X) (none, (I1, L1, D1, am_rf X)) ∧ (P (none, (I1, L1, D1, am_rf X))))) ∧ (¬ 0 < (Op.cmpValue (FP.dcmp v2 FP.dconst0) .g) → (am_nn (FP.dsub FP.dconst0 v2) = true ∧ (∃ (I2 : Nat → Nat → Int32) (L2 : Nat → Nat → Int64) (D2 : Nat → Nat → UInt64), am_Rn ext d 9 [.ref 34, .double (FP.dsub FP.dconst0 v2)] (I, L, D, am_rf X) (none, (I2, L2, D2, am_rf X)) ∧ (P (none, (I2, L2, D2, am_rf X))))))))) ∧ (v1 = 9 → ((((Op.cmpValue (FP.dcmp v2 FP.dconst0) .l) = 0 → (∃ (I3 : Nat → Nat → Int32) (L3 : Nat → Nat → Int64) (D3 : Nat → Nat → UInt64), am_Rn ext d 9 [.ref 34, .double v2] (I, L, D, am_rf X) (none, (I3, L3, D3, am_rf X)) ∧ (P (none, (I3, L3, D3, am_rf X))))) ∧ (¬ (Op.cmpValue (FP.dcmp v2 FP.dconst0) .l) = 0 → (∃ (r4 : Int32) (I4 : Nat → Nat → Int32) (L4 : Nat → Nat → Int64) (D4 : Nat → Nat → UInt64), am_Rn ext d 17 [.double v2] (I, L, D, am_rf X) (some (.int r4), (I4, L4, D4, am_rf X)) ∧ (((r4 = 0 → (∃ (r5 : UInt64) (I5 : Nat → Nat → Int32) (L5 : Nat → Nat → Int64) (D5 : Nat → Nat → UInt64), am_Rn ext d 19 [.double v2] (I4, L4, D4, am_rf X) (some (.double r5), (I5, L5, D5, am_rf X)) ∧ (∃ (I6 : Nat → Nat → Int32) (L6 : Nat → Nat → Int64) (D6 : Nat → Nat → UInt64), am_Rn ext d 9 [.ref 34, .double r5] (I5, L5, D5, am_rf X) (none, (I6, L6, D6, am_rf X)) ∧ (P (none, (I6, L6, D6, am_rf X)))))) ∧ (¬ r4 = 0 → (∃ (I7 : Nat → Nat → Int32) (L7 : Nat → Nat → Int64) (D7 : Nat → Nat → UInt64), am_Rn ext d 9 [.ref 34, .double v2] (I4, L4, D4, am_rf X) (none, (I7, L7, D7, am_rf X)) ∧ (P (none, (I7, L7, D7, am_rf X))))))))))))))) ∧ (v1 = 8 → (∃ (I8 : Nat → Nat → Int32) (L8 : Nat → Nat → Int64) (D8 : Nat → Nat → UInt64), am_Rn ext d 9 [.ref 34, .double (FP.dneg v2)] (I, L, D, am_rf X) (none, (I8, L8, D8, am_rf X)) ∧ (P (none, (I8, L8, D8, am_rf X))))))) : am_wp ext d mz_14 (60, [some (.ref 34), some (.int v1), some (.double v2), none], [], (I, L, D, am_rf X)) P := by
  refine am_wpb (c' := (63, [some (.ref 34), some (.int v1), some (.double v2), none], [.int 8, .int v1], (I, L, D, am_rf X))) 2 rfl ?_
  refine am_b2_ne rfl (fun z => ?_) (fun z => ?_)
  · replace h := h.1 z
    refine am_wpb (c' := (78, [some (.ref 34), some (.int v1), some (.double v2), none], [.int 9, .int v1], (I, L, D, am_rf X))) 2 rfl ?_
    refine am_b2_ne rfl (fun z => ?_) (fun z => ?_)
    · replace h := h.1 z
      refine am_wpb (c' := (113, [some (.ref 34), some (.int v1), some (.double v2), none], [.int (Op.cmpValue (FP.dcmp v2 FP.dconst0) .g), .ref 34], (I, L, D, am_rf X))) 4 rfl ?_
      refine am_b1_gt rfl (fun z => ?_) (fun z => ?_)
      · replace h := h.1 z
        refine am_wpb (c' := (123, [some (.ref 34), some (.int v1), some (.double v2), none], [.double v2, .ref 34], (I, L, D, am_rf X))) 1 rfl ?_
        obtain ⟨I1, L1, D1, hr, h⟩ := h
        refine am_wp_inv (as := [.ref 34, .double v2]) rfl rfl rfl rfl ⟨_, hr, ?_⟩
        show am_wp ext d mz_14 (126, [some (.ref 34), some (.int v1), some (.double v2), none], [], (I1, L1, D1, am_rf X)) P
        exact am_ret_v rfl rfl h
      · replace h := h.2 z
        refine am_wpb (c' := (118, [some (.ref 34), some (.int v1), some (.double v2), none], [.double v2, .double FP.dconst0, .ref 34], (I, L, D, am_rf X))) 2 rfl ?_
        obtain ⟨o, h⟩ := h
        refine am_wps (c' := (119, [some (.ref 34), some (.int v1), some (.double v2), none], [.double (FP.dsub FP.dconst0 v2), .ref 34], (I, L, D, am_rf X))) rfl rfl (am_s_dsub o) ?_
        refine am_wpb (c' := (123, [some (.ref 34), some (.int v1), some (.double v2), none], [.double (FP.dsub FP.dconst0 v2), .ref 34], (I, L, D, am_rf X))) 1 rfl ?_
        obtain ⟨I2, L2, D2, hr, h⟩ := h
        refine am_wp_inv (as := [.ref 34, .double (FP.dsub FP.dconst0 v2)]) rfl rfl rfl rfl ⟨_, hr, ?_⟩
        show am_wp ext d mz_14 (126, [some (.ref 34), some (.int v1), some (.double v2), none], [], (I2, L2, D2, am_rf X)) P
        exact am_ret_v rfl rfl h
    · replace h := h.2 z
      refine am_wpb (c' := (85, [some (.ref 34), some (.int v1), some (.double v2), none], [.int (Op.cmpValue (FP.dcmp v2 FP.dconst0) .l), .ref 34], (I, L, D, am_rf X))) 4 rfl ?_
      refine am_b1_eq rfl (fun z => ?_) (fun z => ?_)
      · replace h := h.1 z
        refine am_wpb (c' := (103, [some (.ref 34), some (.int v1), some (.double v2), none], [.double v2, .ref 34], (I, L, D, am_rf X))) 2 rfl ?_
        obtain ⟨I3, L3, D3, hr, h⟩ := h
        refine am_wp_inv (as := [.ref 34, .double v2]) rfl rfl rfl rfl ⟨_, hr, ?_⟩
        show am_wp ext d mz_14 (106, [some (.ref 34), some (.int v1), some (.double v2), none], [], (I3, L3, D3, am_rf X)) P
        refine am_wpb (c' := (126, [some (.ref 34), some (.int v1), some (.double v2), none], [], (I3, L3, D3, am_rf X))) 1 rfl ?_
        exact am_ret_v rfl rfl h
      · replace h := h.2 z
        refine am_wpb (c' := (89, [some (.ref 34), some (.int v1), some (.double v2), none], [.double v2, .ref 34], (I, L, D, am_rf X))) 1 rfl ?_
        obtain ⟨r4, I4, L4, D4, hr, h⟩ := h
        refine am_wp_inv (as := [.double v2]) rfl rfl rfl rfl ⟨_, hr, ?_⟩
        show am_wp ext d mz_14 (92, [some (.ref 34), some (.int v1), some (.double v2), none], [.int r4, .ref 34], (I4, L4, D4, am_rf X)) P
        refine am_b1_eq rfl (fun z => ?_) (fun z => ?_)
        · replace h := h.1 z
          refine am_wpb (c' := (100, [some (.ref 34), some (.int v1), some (.double v2), none], [.double v2, .ref 34], (I4, L4, D4, am_rf X))) 1 rfl ?_
          obtain ⟨r5, I5, L5, D5, hr, h⟩ := h
          refine am_wp_inv (as := [.double v2]) rfl rfl rfl rfl ⟨_, hr, ?_⟩
          show am_wp ext d mz_14 (103, [some (.ref 34), some (.int v1), some (.double v2), none], [.double r5, .ref 34], (I5, L5, D5, am_rf X)) P
          obtain ⟨I6, L6, D6, hr, h⟩ := h
          refine am_wp_inv (as := [.ref 34, .double r5]) rfl rfl rfl rfl ⟨_, hr, ?_⟩
          show am_wp ext d mz_14 (106, [some (.ref 34), some (.int v1), some (.double v2), none], [], (I6, L6, D6, am_rf X)) P
          refine am_wpb (c' := (126, [some (.ref 34), some (.int v1), some (.double v2), none], [], (I6, L6, D6, am_rf X))) 1 rfl ?_
          exact am_ret_v rfl rfl h
        · replace h := h.2 z
          refine am_wpb (c' := (103, [some (.ref 34), some (.int v1), some (.double v2), none], [.double v2, .ref 34], (I4, L4, D4, am_rf X))) 2 rfl ?_
          obtain ⟨I7, L7, D7, hr, h⟩ := h
          refine am_wp_inv (as := [.ref 34, .double v2]) rfl rfl rfl rfl ⟨_, hr, ?_⟩
          show am_wp ext d mz_14 (106, [some (.ref 34), some (.int v1), some (.double v2), none], [], (I7, L7, D7, am_rf X)) P
          refine am_wpb (c' := (126, [some (.ref 34), some (.int v1), some (.double v2), none], [], (I7, L7, D7, am_rf X))) 1 rfl ?_
          exact am_ret_v rfl rfl h
  · replace h := h.2 z
    refine am_wpb (c' := (69, [some (.ref 34), some (.int v1), some (.double v2), none], [.double (FP.dneg v2), .ref 34], (I, L, D, am_rf X))) 3 rfl ?_
    obtain ⟨I8, L8, D8, hr, h⟩ := h
    refine am_wp_inv (as := [.ref 34, .double (FP.dneg v2)]) rfl rfl rfl rfl ⟨_, hr, ?_⟩
    show am_wp ext d mz_14 (72, [some (.ref 34), some (.int v1), some (.double v2), none], [], (I8, L8, D8, am_rf X)) P
    refine am_wpb (c' := (126, [some (.ref 34), some (.int v1), some (.double v2), none], [], (I8, L8, D8, am_rf X))) 1 rfl ?_
    exact am_ret_v rfl rfl h
