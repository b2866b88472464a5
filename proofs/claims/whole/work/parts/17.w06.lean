/-- SureSums$Spans.rootUp(J)J -/
def mz_75 : am_Y := (fun pc => am_q75.lookup pc, 4, 3)
theorem mh_75 : am_Ys 75 = some mz_75 := rfl
theorem w75_0 {ext : Nat → List Value → am_M → Option am_R} {d : Nat} {P : am_R → Prop} (I : Nat → Nat → Int32) (L : Nat → Nat → Int64) (D : Nat → Nat → UInt64) (X : am_Rf) (v0 : Int64)
    (h : ∃ (r1 : Int64) (I1 : Nat → Nat → Int32) (L1 : Nat → Nat → Int64) (D1 : Nat → Nat → UInt64), am_Rn ext d 74 [.long v0] (I, L, D, am_rf X) (some (.long r1), (I1, L1, D1, am_rf X)) ∧ (((¬ (r1 * r1) = v0 → (P (some (.long (r1 + 1)), (I1, L1, D1, am_rf X)))) ∧ ((r1 * r1) = v0 → (P (some (.long r1), (I1, L1, D1, am_rf X))))))) : am_wp ext d mz_75 (0, [some (.long v0), none, none, none], [], (I, L, D, am_rf X)) P := by
  refine am_wpb (c' := (1, [some (.long v0), none, none, none], [.long v0], (I, L, D, am_rf X))) 1 rfl ?_
  obtain ⟨r1, I1, L1, D1, hr, h⟩ := h
  refine am_wp_inv (as := [.long v0]) rfl rfl rfl rfl ⟨_, hr, ?_⟩
  show am_wp ext d mz_75 (4, [some (.long v0), none, none, none], [.long r1], (I1, L1, D1, am_rf X)) P
  refine am_wpb (c' := (9, [some (.long v0), none, some (.long r1), none], [.long v0, .long (r1 * r1)], (I1, L1, D1, am_rf X))) 5 rfl ?_
  refine am_lc_ne rfl rfl (fun z => ?_) (fun z => ?_)
  · replace h := h.1 z
    refine am_wpb (c' := (20, [some (.long v0), none, some (.long r1), none], [.long (r1 + 1)], (I1, L1, D1, am_rf X))) 3 rfl ?_
    exact am_ret_l rfl rfl h
  · replace h := h.2 z
    refine am_wpb (c' := (20, [some (.long v0), none, some (.long r1), none], [.long r1], (I1, L1, D1, am_rf X))) 2 rfl ?_
    exact am_ret_l rfl rfl h
/-- SureSums$Spans.choose(III)I -/
def mz_76 : am_Y := (fun pc => am_q76.lookup pc, 7, 1)
theorem mh_76 : am_Ys 76 = some mz_76 := rfl
theorem w76_0 {ext : Nat → List Value → am_M → Option am_R} {d : Nat} {P : am_R → Prop} (I : Nat → Nat → Int32) (L : Nat → Nat → Int64) (D : Nat → Nat → UInt64) (xc : Nat) (xi : Nat) (xs : Nat) (xt : Nat) (xu : Nat) (v1 : Int32) (v2 : Int32) (v3 : Int32)
    (h : (((I 25 3) < 2 → (P (some (.int v3), (I, L, D, am_rf (xt, xs, xi, 2, xu, xc))))) ∧ (¬ (I 25 3) < 2 → ((((I 25 4) < 96 → (((¬ v1 = 17 → (am_wp ext d mz_76 (48, [some (.ref 25), some (.int v1), some (.int v2), some (.int v3), none, none, none], [.int (((I 25 3) - 2) + 1)], (am_uI I 25 3 ((I 25 3) - 2), L, D, am_rf (xt, xs, xi, 2, xu, xc))) P)) ∧ (v1 = 17 → (am_wp ext d mz_76 (48, [some (.ref 25), some (.int v1), some (.int v2), some (.int v3), none, none, none], [.int ((I 25 3) - 2)], (am_uI I 25 3 ((I 25 3) - 2), L, D, am_rf (xt, xs, xi, 2, xu, xc))) P))))) ∧ (¬ (I 25 4) < 96 → (P (some (.int v3), (I, L, D, am_rf (xt, xs, xi, 2, xu, xc)))))))))) : am_wp ext d mz_76 (0, [some (.ref 25), some (.int v1), some (.int v2), some (.int v3), none, none, none], [], (I, L, D, am_rf (xt, xs, xi, 2, xu, xc))) P := by
  refine am_wpb (c' := (5, [some (.ref 25), some (.int v1), some (.int v2), some (.int v3), none, none, none], [.int 2, .int (I 25 3)], (I, L, D, am_rf (xt, xs, xi, 2, xu, xc)))) 3 rfl ?_
  refine am_b2_lt rfl (fun z => ?_) (fun z => ?_)
  · replace h := h.1 z
    refine am_wpb (c' := (18, [some (.ref 25), some (.int v1), some (.int v2), some (.int v3), none, none, none], [.int v3], (I, L, D, am_rf (xt, xs, xi, 2, xu, xc)))) 1 rfl ?_
    exact am_ret_i rfl rfl h
  · replace h := h.2 z
    refine am_wpb (c' := (14, [some (.ref 25), some (.int v1), some (.int v2), some (.int v3), none, none, none], [.int 96, .int (I 25 4)], (I, L, D, am_rf (xt, xs, xi, 2, xu, xc)))) 3 rfl ?_
    refine am_b2_lt rfl (fun z => ?_) (fun z => ?_)
    · replace h := h.1 z
      refine am_wpb (c' := (32, [some (.ref 25), some (.int v1), some (.int v2), some (.int v3), none, none, none], [.int 17, .int v1], (am_uI I 25 3 ((I 25 3) - 2), L, D, am_rf (xt, xs, xi, 2, xu, xc)))) 8 rfl ?_
      refine am_b2_ne rfl (fun z => ?_) (fun z => ?_)
      · replace h := h.1 z
        refine am_wpb (c' := (48, [some (.ref 25), some (.int v1), some (.int v2), some (.int v3), none, none, none], [.int (((I 25 3) - 2) + 1)], (am_uI I 25 3 ((I 25 3) - 2), L, D, am_rf (xt, xs, xi, 2, xu, xc)))) 4 rfl ?_
        exact h
      · replace h := h.2 z
        refine am_wpb (c' := (48, [some (.ref 25), some (.int v1), some (.int v2), some (.int v3), none, none, none], [.int ((I 25 3) - 2)], (am_uI I 25 3 ((I 25 3) - 2), L, D, am_rf (xt, xs, xi, 2, xu, xc)))) 3 rfl ?_
        exact h
    · replace h := h.2 z
      refine am_wpb (c' := (18, [some (.ref 25), some (.int v1), some (.int v2), some (.int v3), none, none, none], [.int v3], (I, L, D, am_rf (xt, xs, xi, 2, xu, xc)))) 1 rfl ?_
      exact am_ret_i rfl rfl h
theorem w76_48 {ext : Nat → List Value → am_M → Option am_R} {d : Nat} {P : am_R → Prop} (I : Nat → Nat → Int32) (L : Nat → Nat → Int64) (D : Nat → Nat → UInt64) (xc : Nat) (xi : Nat) (xs : Nat) (xt : Nat) (xu : Nat) (v1 : Int32) (v2 : Int32) (v3 : Int32) (s0 : Int32)
    (h : ((¬ v1 = 17 → (am_wp ext d mz_76 (69, [some (.ref 25), none, some (.int v2), some (.int v3), some (.int s0), none, none], [.int (I 25 3)], (I, L, D, am_rf (xt, xs, xi, 2, xu, xc))) P)) ∧ (v1 = 17 → (am_wp ext d mz_76 (69, [some (.ref 25), none, some (.int v2), some (.int v3), some (.int s0), none, none], [.int ((I 25 3) + 1)], (I, L, D, am_rf (xt, xs, xi, 2, xu, xc))) P)))) : am_wp ext d mz_76 (48, [some (.ref 25), some (.int v1), some (.int v2), some (.int v3), none, none, none], [.int s0], (I, L, D, am_rf (xt, xs, xi, 2, xu, xc))) P := by
  refine am_wpb (c' := (53, [some (.ref 25), some (.int v1), some (.int v2), some (.int v3), some (.int s0), none, none], [.int 17, .int v1], (I, L, D, am_rf (xt, xs, xi, 2, xu, xc)))) 3 rfl ?_
  refine am_b2_ne rfl (fun z => ?_) (fun z => ?_)
  · replace h := h.1 z
    refine am_wpb (c' := (69, [some (.ref 25), some (.int v1), some (.int v2), some (.int v3), some (.int s0), none, none], [.int (I 25 3)], (I, L, D, am_rf (xt, xs, xi, 2, xu, xc)))) 2 rfl ?_
    exact am_fgt (l := [some (.ref 25), none, some (.int v2), some (.int v3), some (.int s0), none, none]) (am_le_of (am_leS (am_leN (am_leS (am_leS (am_leS (am_leN (am_leN (am_leZ))))))))) h
  · replace h := h.2 z
    refine am_wpb (c' := (69, [some (.ref 25), some (.int v1), some (.int v2), some (.int v3), some (.int s0), none, none], [.int ((I 25 3) + 1)], (I, L, D, am_rf (xt, xs, xi, 2, xu, xc)))) 5 rfl ?_
    exact am_fgt (l := [some (.ref 25), none, some (.int v2), some (.int v3), some (.int s0), none, none]) (am_le_of (am_leS (am_leN (am_leS (am_leS (am_leS (am_leN (am_leN (am_leZ))))))))) h
theorem w76_69 {ext : Nat → List Value → am_M → Option am_R} {d : Nat} {P : am_R → Prop} (I : Nat → Nat → Int32) (L : Nat → Nat → Int64) (D : Nat → Nat → UInt64) (xc : Nat) (xi : Nat) (xs : Nat) (xt : Nat) (xu : Nat) (v2 : Int32) (v3 : Int32) (v4 : Int32) (s0 : Int32)
    (h : am_inb (I 25 3) 100 = true ∧ (am_inb (I 25 3) 100 = true ∧ ((((L 27 (Int32.toNatClampNeg (I 25 3))) < (L 26 (Int32.toNatClampNeg (I 25 3))) → (∃ (I1 : Nat → Nat → Int32) (L1 : Nat → Nat → Int64) (D1 : Nat → Nat → UInt64), am_Rn ext d 64 [.ref 25, .long 1, .long 0] (I, L, D, am_rf (xt, xs, xi, 2, xu, xc)) (none, (I1, L1, D1, am_rf (xt, xs, xi, 2, xu, xc))) ∧ (∃ (r2 : Int32) (I2 : Nat → Nat → Int32) (L2 : Nat → Nat → Int64) (D2 : Nat → Nat → UInt64), am_Rn ext d 39 [.ref 2, .int v2] (I1, L1, D1, am_rf (xt, xs, xi, 2, xu, xc)) (some (.int r2), (I2, L2, D2, am_rf (xt, xs, xi, 2, xu, xc))) ∧ (P (some (.int r2), (I2, L2, D2, am_rf (xt, xs, xi, 2, xu, xc))))))) ∧ (¬ (L 27 (Int32.toNatClampNeg (I 25 3))) < (L 26 (Int32.toNatClampNeg (I 25 3))) → (am_inb ((I 25 3) + 1) 100 = true ∧ (am_inb ((I 25 3) + 1) 100 = true ∧ ((((L 26 (Int32.toNatClampNeg ((I 25 3) + 1))) ≤ (L 27 (Int32.toNatClampNeg ((I 25 3) + 1))) → (am_inb v4 100 = true ∧ (am_inb s0 100 = true ∧ ((((L 26 (Int32.toNatClampNeg s0)) ≤ (L 27 (Int32.toNatClampNeg v4)) → (am_inb v4 100 = true ∧ (am_inb s0 100 = true ∧ ((((L 26 (Int32.toNatClampNeg v4)) < (L 27 (Int32.toNatClampNeg s0)) → (am_inb (I 25 4) 96 = true ∧ (am_wp ext d mz_76 (206, [some (.ref 25), none, some (.int v2), some (.int v3), none, none, none], [], (am_uI I 28 (Int32.toNatClampNeg (I 25 4)) 3, L, D, am_rf (xt, xs, xi, 2, xu, xc))) P))) ∧ (¬ (L 26 (Int32.toNatClampNeg v4)) < (L 27 (Int32.toNatClampNeg s0)) → (am_inb (I 25 4) 96 = true ∧ (am_wp ext d mz_76 (206, [some (.ref 25), none, some (.int v2), some (.int v3), none, none, none], [], (am_uI I 28 (Int32.toNatClampNeg (I 25 4)) 2, L, D, am_rf (xt, xs, xi, 2, xu, xc))) P)))))))) ∧ (¬ (L 26 (Int32.toNatClampNeg s0)) ≤ (L 27 (Int32.toNatClampNeg v4)) → (am_inb (I 25 4) 96 = true ∧ (am_wp ext d mz_76 (206, [some (.ref 25), none, some (.int v2), some (.int v3), none, none, none], [], (am_uI I 28 (Int32.toNatClampNeg (I 25 4)) 1, L, D, am_rf (xt, xs, xi, 2, xu, xc))) P)))))))) ∧ (¬ (L 26 (Int32.toNatClampNeg ((I 25 3) + 1))) ≤ (L 27 (Int32.toNatClampNeg ((I 25 3) + 1))) → (∃ (I3 : Nat → Nat → Int32) (L3 : Nat → Nat → Int64) (D3 : Nat → Nat → UInt64), am_Rn ext d 64 [.ref 25, .long 1, .long 0] (I, L, D, am_rf (xt, xs, xi, 2, xu, xc)) (none, (I3, L3, D3, am_rf (xt, xs, xi, 2, xu, xc))) ∧ (∃ (r4 : Int32) (I4 : Nat → Nat → Int32) (L4 : Nat → Nat → Int64) (D4 : Nat → Nat → UInt64), am_Rn ext d 39 [.ref 2, .int v2] (I3, L3, D3, am_rf (xt, xs, xi, 2, xu, xc)) (some (.int r4), (I4, L4, D4, am_rf (xt, xs, xi, 2, xu, xc))) ∧ (P (some (.int r4), (I4, L4, D4, am_rf (xt, xs, xi, 2, xu, xc)))))))))))))))) : am_wp ext d mz_76 (69, [some (.ref 25), none, some (.int v2), some (.int v3), some (.int v4), none, none], [.int s0], (I, L, D, am_rf (xt, xs, xi, 2, xu, xc))) P := by
  refine am_wpb (c' := (79, [some (.ref 25), none, some (.int v2), some (.int v3), some (.int v4), some (.int s0), none], [.int (I 25 3), .ref 26], (I, L, D, am_rf (xt, xs, xi, 2, xu, xc)))) 5 rfl ?_
  obtain ⟨o, h⟩ := h
  refine am_wps (c' := (80, [some (.ref 25), none, some (.int v2), some (.int v3), some (.int v4), some (.int s0), none], [.long (L 26 (Int32.toNatClampNeg (I 25 3)))], (I, L, D, am_rf (xt, xs, xi, 2, xu, xc)))) rfl rfl (am_s_lald rfl o) ?_
  refine am_wpb (c' := (88, [some (.ref 25), none, some (.int v2), some (.int v3), some (.int v4), some (.int s0), none], [.int (I 25 3), .ref 27, .long (L 26 (Int32.toNatClampNeg (I 25 3)))], (I, L, D, am_rf (xt, xs, xi, 2, xu, xc)))) 4 rfl ?_
  obtain ⟨o, h⟩ := h
  refine am_wps (c' := (89, [some (.ref 25), none, some (.int v2), some (.int v3), some (.int v4), some (.int s0), none], [.long (L 27 (Int32.toNatClampNeg (I 25 3))), .long (L 26 (Int32.toNatClampNeg (I 25 3)))], (I, L, D, am_rf (xt, xs, xi, 2, xu, xc)))) rfl rfl (am_s_lald rfl o) ?_
  refine am_lc_gt rfl rfl (fun z => ?_) (fun z => ?_)
  · replace h := h.1 z
    refine am_wpb (c' := (122, [some (.ref 25), none, some (.int v2), some (.int v3), some (.int v4), some (.int s0), none], [.long 0, .long 1, .ref 25], (I, L, D, am_rf (xt, xs, xi, 2, xu, xc)))) 3 rfl ?_
    obtain ⟨I1, L1, D1, hr, h⟩ := h
    refine am_wp_inv (as := [.ref 25, .long 1, .long 0]) rfl rfl rfl rfl ⟨_, hr, ?_⟩
    show am_wp ext d mz_76 (125, [some (.ref 25), none, some (.int v2), some (.int v3), some (.int v4), some (.int s0), none], [], (I1, L1, D1, am_rf (xt, xs, xi, 2, xu, xc))) P
    refine am_wpb (c' := (130, [some (.ref 25), none, some (.int v2), some (.int v3), some (.int v4), some (.int s0), none], [.int v2, .ref 2], (I1, L1, D1, am_rf (xt, xs, xi, 2, xu, xc)))) 3 rfl ?_
    obtain ⟨r2, I2, L2, D2, hr, h⟩ := h
    refine am_wp_inv (as := [.ref 2, .int v2]) rfl rfl rfl rfl ⟨_, hr, ?_⟩
    show am_wp ext d mz_76 (133, [some (.ref 25), none, some (.int v2), some (.int v3), some (.int v4), some (.int s0), none], [.int r2], (I2, L2, D2, am_rf (xt, xs, xi, 2, xu, xc))) P
    exact am_ret_i rfl rfl h
  · replace h := h.2 z
    refine am_wpb (c' := (103, [some (.ref 25), none, some (.int v2), some (.int v3), some (.int v4), some (.int s0), none], [.int ((I 25 3) + 1), .ref 26], (I, L, D, am_rf (xt, xs, xi, 2, xu, xc)))) 6 rfl ?_
    obtain ⟨o, h⟩ := h
    refine am_wps (c' := (104, [some (.ref 25), none, some (.int v2), some (.int v3), some (.int v4), some (.int s0), none], [.long (L 26 (Int32.toNatClampNeg ((I 25 3) + 1)))], (I, L, D, am_rf (xt, xs, xi, 2, xu, xc)))) rfl rfl (am_s_lald rfl o) ?_
    refine am_wpb (c' := (114, [some (.ref 25), none, some (.int v2), some (.int v3), some (.int v4), some (.int s0), none], [.int ((I 25 3) + 1), .ref 27, .long (L 26 (Int32.toNatClampNeg ((I 25 3) + 1)))], (I, L, D, am_rf (xt, xs, xi, 2, xu, xc)))) 6 rfl ?_
    obtain ⟨o, h⟩ := h
    refine am_wps (c' := (115, [some (.ref 25), none, some (.int v2), some (.int v3), some (.int v4), some (.int s0), none], [.long (L 27 (Int32.toNatClampNeg ((I 25 3) + 1))), .long (L 26 (Int32.toNatClampNeg ((I 25 3) + 1)))], (I, L, D, am_rf (xt, xs, xi, 2, xu, xc)))) rfl rfl (am_s_lald rfl o) ?_
    refine am_lc_le rfl rfl (fun z => ?_) (fun z => ?_)
    · replace h := h.1 z
      refine am_wpb (c' := (140, [some (.ref 25), none, some (.int v2), some (.int v3), some (.int v4), some (.int s0), none], [.int v4, .ref 27], (I, L, D, am_rf (xt, xs, xi, 2, xu, xc)))) 3 rfl ?_
      obtain ⟨o, h⟩ := h
      refine am_wps (c' := (141, [some (.ref 25), none, some (.int v2), some (.int v3), some (.int v4), some (.int s0), none], [.long (L 27 (Int32.toNatClampNeg v4))], (I, L, D, am_rf (xt, xs, xi, 2, xu, xc)))) rfl rfl (am_s_lald rfl o) ?_
      refine am_wpb (c' := (147, [some (.ref 25), none, some (.int v2), some (.int v3), some (.int v4), some (.int s0), none], [.int s0, .ref 26, .long (L 27 (Int32.toNatClampNeg v4))], (I, L, D, am_rf (xt, xs, xi, 2, xu, xc)))) 3 rfl ?_
      obtain ⟨o, h⟩ := h
      refine am_wps (c' := (148, [some (.ref 25), none, some (.int v2), some (.int v3), some (.int v4), some (.int s0), none], [.long (L 26 (Int32.toNatClampNeg s0)), .long (L 27 (Int32.toNatClampNeg v4))], (I, L, D, am_rf (xt, xs, xi, 2, xu, xc)))) rfl rfl (am_s_lald rfl o) ?_
      refine am_lc_ge rfl rfl (fun z => ?_) (fun z => ?_)
      · replace h := h.1 z
        refine am_wpb (c' := (171, [some (.ref 25), none, some (.int v2), some (.int v3), some (.int v4), some (.int s0), none], [.int v4, .ref 26], (I, L, D, am_rf (xt, xs, xi, 2, xu, xc)))) 3 rfl ?_
        obtain ⟨o, h⟩ := h
        refine am_wps (c' := (172, [some (.ref 25), none, some (.int v2), some (.int v3), some (.int v4), some (.int s0), none], [.long (L 26 (Int32.toNatClampNeg v4))], (I, L, D, am_rf (xt, xs, xi, 2, xu, xc)))) rfl rfl (am_s_lald rfl o) ?_
        refine am_wpb (c' := (178, [some (.ref 25), none, some (.int v2), some (.int v3), some (.int v4), some (.int s0), none], [.int s0, .ref 27, .long (L 26 (Int32.toNatClampNeg v4))], (I, L, D, am_rf (xt, xs, xi, 2, xu, xc)))) 3 rfl ?_
        obtain ⟨o, h⟩ := h
        refine am_wps (c' := (179, [some (.ref 25), none, some (.int v2), some (.int v3), some (.int v4), some (.int s0), none], [.long (L 27 (Int32.toNatClampNeg s0)), .long (L 26 (Int32.toNatClampNeg v4))], (I, L, D, am_rf (xt, xs, xi, 2, xu, xc)))) rfl rfl (am_s_lald rfl o) ?_
        refine am_lc_lt rfl rfl (fun z => ?_) (fun z => ?_)
        · replace h := h.1 z
          refine am_wpb (c' := (205, [some (.ref 25), none, some (.int v2), some (.int v3), some (.int v4), some (.int s0), none], [.int 3, .int (I 25 4), .ref 28], (I, L, D, am_rf (xt, xs, xi, 2, xu, xc)))) 5 rfl ?_
          obtain ⟨o, h⟩ := h
          refine am_wps (c' := (206, [some (.ref 25), none, some (.int v2), some (.int v3), some (.int v4), some (.int s0), none], [], (am_uI I 28 (Int32.toNatClampNeg (I 25 4)) 3, L, D, am_rf (xt, xs, xi, 2, xu, xc)))) rfl rfl (am_s_iast rfl o) ?_
          exact am_fgt (l := [some (.ref 25), none, some (.int v2), some (.int v3), none, none, none]) (am_le_of (am_leS (am_leN (am_leS (am_leS (am_leN (am_leN (am_leN (am_leZ))))))))) h
        · replace h := h.2 z
          refine am_wpb (c' := (192, [some (.ref 25), none, some (.int v2), some (.int v3), some (.int v4), some (.int s0), none], [.int 2, .int (I 25 4), .ref 28], (I, L, D, am_rf (xt, xs, xi, 2, xu, xc)))) 5 rfl ?_
          obtain ⟨o, h⟩ := h
          refine am_wps (c' := (193, [some (.ref 25), none, some (.int v2), some (.int v3), some (.int v4), some (.int s0), none], [], (am_uI I 28 (Int32.toNatClampNeg (I 25 4)) 2, L, D, am_rf (xt, xs, xi, 2, xu, xc)))) rfl rfl (am_s_iast rfl o) ?_
          refine am_wpb (c' := (206, [some (.ref 25), none, some (.int v2), some (.int v3), some (.int v4), some (.int s0), none], [], (am_uI I 28 (Int32.toNatClampNeg (I 25 4)) 2, L, D, am_rf (xt, xs, xi, 2, xu, xc)))) 1 rfl ?_
          exact am_fgt (l := [some (.ref 25), none, some (.int v2), some (.int v3), none, none, none]) (am_le_of (am_leS (am_leN (am_leS (am_leS (am_leN (am_leN (am_leN (am_leZ))))))))) h
      · replace h := h.2 z
        refine am_wpb (c' := (161, [some (.ref 25), none, some (.int v2), some (.int v3), some (.int v4), some (.int s0), none], [.int 1, .int (I 25 4), .ref 28], (I, L, D, am_rf (xt, xs, xi, 2, xu, xc)))) 5 rfl ?_
        obtain ⟨o, h⟩ := h
        refine am_wps (c' := (162, [some (.ref 25), none, some (.int v2), some (.int v3), some (.int v4), some (.int s0), none], [], (am_uI I 28 (Int32.toNatClampNeg (I 25 4)) 1, L, D, am_rf (xt, xs, xi, 2, xu, xc)))) rfl rfl (am_s_iast rfl o) ?_
        refine am_wpb (c' := (206, [some (.ref 25), none, some (.int v2), some (.int v3), some (.int v4), some (.int s0), none], [], (am_uI I 28 (Int32.toNatClampNeg (I 25 4)) 1, L, D, am_rf (xt, xs, xi, 2, xu, xc)))) 1 rfl ?_
        exact am_fgt (l := [some (.ref 25), none, some (.int v2), some (.int v3), none, none, none]) (am_le_of (am_leS (am_leN (am_leS (am_leS (am_leN (am_leN (am_leN (am_leZ))))))))) h
    · replace h := h.2 z
      refine am_wpb (c' := (122, [some (.ref 25), none, some (.int v2), some (.int v3), some (.int v4), some (.int s0), none], [.long 0, .long 1, .ref 25], (I, L, D, am_rf (xt, xs, xi, 2, xu, xc)))) 3 rfl ?_
      obtain ⟨I3, L3, D3, hr, h⟩ := h
      refine am_wp_inv (as := [.ref 25, .long 1, .long 0]) rfl rfl rfl rfl ⟨_, hr, ?_⟩
      show am_wp ext d mz_76 (125, [some (.ref 25), none, some (.int v2), some (.int v3), some (.int v4), some (.int s0), none], [], (I3, L3, D3, am_rf (xt, xs, xi, 2, xu, xc))) P
      refine am_wpb (c' := (130, [some (.ref 25), none, some (.int v2), some (.int v3), some (.int v4), some (.int s0), none], [.int v2, .ref 2], (I3, L3, D3, am_rf (xt, xs, xi, 2, xu, xc)))) 3 rfl ?_
      obtain ⟨r4, I4, L4, D4, hr, h⟩ := h
      refine am_wp_inv (as := [.ref 2, .int v2]) rfl rfl rfl rfl ⟨_, hr, ?_⟩
      show am_wp ext d mz_76 (133, [some (.ref 25), none, some (.int v2), some (.int v3), some (.int v4), some (.int s0), none], [.int r4], (I4, L4, D4, am_rf (xt, xs, xi, 2, xu, xc))) P
      exact am_ret_i rfl rfl h
theorem w76_206 {ext : Nat → List Value → am_M → Option am_R} {d : Nat} {P : am_R → Prop} (I : Nat → Nat → Int32) (L : Nat → Nat → Int64) (D : Nat → Nat → UInt64) (xc : Nat) (xi : Nat) (xs : Nat) (xt : Nat) (xu : Nat) (v2 : Int32) (v3 : Int32)
    (h : am_inb (I 25 4) 96 = true ∧ (((¬ (I 28 (Int32.toNatClampNeg (I 25 4))) = 2 → (P (some (.int v3), (am_uI I 25 4 ((I 25 4) + 1), L, D, am_rf (xt, xs, xi, 2, xu, xc))))) ∧ ((I 28 (Int32.toNatClampNeg (I 25 4))) = 2 → (P (some (.int v2), (am_uI I 25 4 ((I 25 4) + 1), L, D, am_rf (xt, xs, xi, 2, xu, xc)))))))) : am_wp ext d mz_76 (206, [some (.ref 25), none, some (.int v2), some (.int v3), none, none, none], [], (I, L, D, am_rf (xt, xs, xi, 2, xu, xc))) P := by
  refine am_wpb (c' := (214, [some (.ref 25), none, some (.int v2), some (.int v3), none, none, none], [.int (I 25 4), .ref 28], (I, L, D, am_rf (xt, xs, xi, 2, xu, xc)))) 4 rfl ?_
  obtain ⟨o, h⟩ := h
  refine am_wps (c' := (215, [some (.ref 25), none, some (.int v2), some (.int v3), none, none, none], [.int (I 28 (Int32.toNatClampNeg (I 25 4)))], (I, L, D, am_rf (xt, xs, xi, 2, xu, xc)))) rfl rfl (am_s_iald rfl o) ?_
  refine am_wpb (c' := (216, [some (.ref 25), none, some (.int v2), some (.int v3), none, none, none], [.int 2, .int (I 28 (Int32.toNatClampNeg (I 25 4)))], (I, L, D, am_rf (xt, xs, xi, 2, xu, xc)))) 1 rfl ?_
  refine am_b2_ne rfl (fun z => ?_) (fun z => ?_)
  · replace h := h.1 z
    refine am_wpb (c' := (238, [some (.ref 25), none, some (.int v2), some (.int v3), none, none, some (.int v3)], [.int v3], (am_uI I 25 4 ((I 25 4) + 1), L, D, am_rf (xt, xs, xi, 2, xu, xc)))) 9 rfl ?_
    exact am_ret_i rfl rfl h
  · replace h := h.2 z
    refine am_wpb (c' := (238, [some (.ref 25), none, some (.int v2), some (.int v3), none, none, some (.int v2)], [.int v2], (am_uI I 25 4 ((I 25 4) + 1), L, D, am_rf (xt, xs, xi, 2, xu, xc)))) 10 rfl ?_
    exact am_ret_i rfl rfl h
/-- SureSums$Spans.passMark(II)I -/
def mz_77 : am_Y := (fun pc => am_q77.lookup pc, 4, 1)
theorem mh_77 : am_Ys 77 = some mz_77 := rfl
theorem w77_0 {ext : Nat → List Value → am_M → Option am_R} {d : Nat} {P : am_R → Prop} (I : Nat → Nat → Int32) (L : Nat → Nat → Int64) (D : Nat → Nat → UInt64) (xc : Nat) (xi : Nat) (xs : Nat) (xt : Nat) (xu : Nat) (v1 : Int32) (v2 : Int32)
    (h : ((1 ≤ (I 25 4) → (am_inb ((I 25 4) - 1) 96 = true ∧ (((¬ v1 = 19 → (((¬ (I 28 (Int32.toNatClampNeg ((I 25 4) - 1))) = 3 → (P (some (.int v2), (am_uI I 25 4 ((I 25 4) - 1), L, D, am_rf (xt, xs, xi, 2, xu, xc))))) ∧ ((I 28 (Int32.toNatClampNeg ((I 25 4) - 1))) = 3 → (∃ (I1 : Nat → Nat → Int32) (L1 : Nat → Nat → Int64) (D1 : Nat → Nat → UInt64), am_Rn ext d 78 [.ref 25] (am_uI I 25 4 ((I 25 4) - 1), L, D, am_rf (xt, xs, xi, 2, xu, xc)) (none, (I1, L1, D1, am_rf (xt, xs, xi, 2, xu, xc))) ∧ (P (some (.int v2), (I1, L1, D1, am_rf (xt, xs, xi, 2, xu, xc))))))))) ∧ (v1 = 19 → (((¬ (I 28 (Int32.toNatClampNeg ((I 25 4) - 1))) = 1 → (((¬ (I 28 (Int32.toNatClampNeg ((I 25 4) - 1))) = 1 → (P (some (.int v2), (am_uI I 25 4 ((I 25 4) - 0), L, D, am_rf (xt, xs, xi, 2, xu, xc))))) ∧ ((I 28 (Int32.toNatClampNeg ((I 25 4) - 1))) = 1 → (∃ (r2 : Int32) (I2 : Nat → Nat → Int32) (L2 : Nat → Nat → Int64) (D2 : Nat → Nat → UInt64), am_Rn ext d 39 [.ref 2, .int v2] (am_uI I 25 4 ((I 25 4) - 0), L, D, am_rf (xt, xs, xi, 2, xu, xc)) (some (.int r2), (I2, L2, D2, am_rf (xt, xs, xi, 2, xu, xc))) ∧ (P (some (.int r2), (I2, L2, D2, am_rf (xt, xs, xi, 2, xu, xc))))))))) ∧ ((I 28 (Int32.toNatClampNeg ((I 25 4) - 1))) = 1 → (((¬ (I 28 (Int32.toNatClampNeg ((I 25 4) - 1))) = 1 → (P (some (.int v2), (am_uI I 25 4 ((I 25 4) - 1), L, D, am_rf (xt, xs, xi, 2, xu, xc))))) ∧ ((I 28 (Int32.toNatClampNeg ((I 25 4) - 1))) = 1 → (∃ (r3 : Int32) (I3 : Nat → Nat → Int32) (L3 : Nat → Nat → Int64) (D3 : Nat → Nat → UInt64), am_Rn ext d 39 [.ref 2, .int v2] (am_uI I 25 4 ((I 25 4) - 1), L, D, am_rf (xt, xs, xi, 2, xu, xc)) (some (.int r3), (I3, L3, D3, am_rf (xt, xs, xi, 2, xu, xc))) ∧ (P (some (.int r3), (I3, L3, D3, am_rf (xt, xs, xi, 2, xu, xc)))))))))))))))) ∧ (¬ 1 ≤ (I 25 4) → (P (some (.int v2), (I, L, D, am_rf (xt, xs, xi, 2, xu, xc))))))) : am_wp ext d mz_77 (0, [some (.ref 25), some (.int v1), some (.int v2), none], [], (I, L, D, am_rf (xt, xs, xi, 2, xu, xc))) P := by
  refine am_wpb (c' := (5, [some (.ref 25), some (.int v1), some (.int v2), none], [.int 1, .int (I 25 4)], (I, L, D, am_rf (xt, xs, xi, 2, xu, xc)))) 3 rfl ?_
  refine am_b2_ge rfl (fun z => ?_) (fun z => ?_)
  · replace h := h.1 z
    refine am_wpb (c' := (20, [some (.ref 25), some (.int v1), some (.int v2), none], [.int ((I 25 4) - 1), .ref 28], (I, L, D, am_rf (xt, xs, xi, 2, xu, xc)))) 6 rfl ?_
    obtain ⟨o, h⟩ := h
    refine am_wps (c' := (21, [some (.ref 25), some (.int v1), some (.int v2), none], [.int (I 28 (Int32.toNatClampNeg ((I 25 4) - 1)))], (I, L, D, am_rf (xt, xs, xi, 2, xu, xc)))) rfl rfl (am_s_iald rfl o) ?_
    refine am_wpb (c' := (25, [some (.ref 25), some (.int v1), some (.int v2), some (.int (I 28 (Int32.toNatClampNeg ((I 25 4) - 1))))], [.int 19, .int v1], (I, L, D, am_rf (xt, xs, xi, 2, xu, xc)))) 3 rfl ?_
    refine am_b2_ne rfl (fun z => ?_) (fun z => ?_)
    · replace h := h.1 z
      refine am_wpb (c' := (77, [some (.ref 25), some (.int v1), some (.int v2), some (.int (I 28 (Int32.toNatClampNeg ((I 25 4) - 1))))], [.int 3, .int (I 28 (Int32.toNatClampNeg ((I 25 4) - 1)))], (am_uI I 25 4 ((I 25 4) - 1), L, D, am_rf (xt, xs, xi, 2, xu, xc)))) 8 rfl ?_
      refine am_b2_ne rfl (fun z => ?_) (fun z => ?_)
      · replace h := h.1 z
        refine am_wpb (c' := (85, [some (.ref 25), some (.int v1), some (.int v2), some (.int (I 28 (Int32.toNatClampNeg ((I 25 4) - 1))))], [.int v2], (am_uI I 25 4 ((I 25 4) - 1), L, D, am_rf (xt, xs, xi, 2, xu, xc)))) 1 rfl ?_
        exact am_ret_i rfl rfl h
      · replace h := h.2 z
        refine am_wpb (c' := (81, [some (.ref 25), some (.int v1), some (.int v2), some (.int (I 28 (Int32.toNatClampNeg ((I 25 4) - 1))))], [.ref 25], (am_uI I 25 4 ((I 25 4) - 1), L, D, am_rf (xt, xs, xi, 2, xu, xc)))) 1 rfl ?_
        obtain ⟨I1, L1, D1, hr, h⟩ := h
        refine am_wp_inv (as := [.ref 25]) rfl rfl rfl rfl ⟨_, hr, ?_⟩
        show am_wp ext d mz_77 (84, [some (.ref 25), some (.int v1), some (.int v2), some (.int (I 28 (Int32.toNatClampNeg ((I 25 4) - 1))))], [], (I1, L1, D1, am_rf (xt, xs, xi, 2, xu, xc))) P
        refine am_wpb (c' := (85, [some (.ref 25), some (.int v1), some (.int v2), some (.int (I 28 (Int32.toNatClampNeg ((I 25 4) - 1))))], [.int v2], (I1, L1, D1, am_rf (xt, xs, xi, 2, xu, xc)))) 1 rfl ?_
        exact am_ret_i rfl rfl h
    · replace h := h.2 z
      refine am_wpb (c' := (35, [some (.ref 25), some (.int v1), some (.int v2), some (.int (I 28 (Int32.toNatClampNeg ((I 25 4) - 1))))], [.int 1, .int (I 28 (Int32.toNatClampNeg ((I 25 4) - 1))), .int (I 25 4), .ref 25], (I, L, D, am_rf (xt, xs, xi, 2, xu, xc)))) 5 rfl ?_
      refine am_b2_ne rfl (fun z => ?_) (fun z => ?_)
      · replace h := h.1 z
        refine am_wpb (c' := (49, [some (.ref 25), some (.int v1), some (.int v2), some (.int (I 28 (Int32.toNatClampNeg ((I 25 4) - 1))))], [.int 1, .int (I 28 (Int32.toNatClampNeg ((I 25 4) - 1)))], (am_uI I 25 4 ((I 25 4) - 0), L, D, am_rf (xt, xs, xi, 2, xu, xc)))) 5 rfl ?_
        refine am_b2_ne rfl (fun z => ?_) (fun z => ?_)
        · replace h := h.1 z
          refine am_wpb (c' := (64, [some (.ref 25), some (.int v1), some (.int v2), some (.int (I 28 (Int32.toNatClampNeg ((I 25 4) - 1))))], [.int v2], (am_uI I 25 4 ((I 25 4) - 0), L, D, am_rf (xt, xs, xi, 2, xu, xc)))) 1 rfl ?_
          exact am_ret_i rfl rfl h
        · replace h := h.2 z
          refine am_wpb (c' := (57, [some (.ref 25), some (.int v1), some (.int v2), some (.int (I 28 (Int32.toNatClampNeg ((I 25 4) - 1))))], [.int v2, .ref 2], (am_uI I 25 4 ((I 25 4) - 0), L, D, am_rf (xt, xs, xi, 2, xu, xc)))) 3 rfl ?_
          obtain ⟨r2, I2, L2, D2, hr, h⟩ := h
          refine am_wp_inv (as := [.ref 2, .int v2]) rfl rfl rfl rfl ⟨_, hr, ?_⟩
          show am_wp ext d mz_77 (60, [some (.ref 25), some (.int v1), some (.int v2), some (.int (I 28 (Int32.toNatClampNeg ((I 25 4) - 1))))], [.int r2], (I2, L2, D2, am_rf (xt, xs, xi, 2, xu, xc))) P
          refine am_wpb (c' := (64, [some (.ref 25), some (.int v1), some (.int v2), some (.int (I 28 (Int32.toNatClampNeg ((I 25 4) - 1))))], [.int r2], (I2, L2, D2, am_rf (xt, xs, xi, 2, xu, xc)))) 1 rfl ?_
          exact am_ret_i rfl rfl h
      · replace h := h.2 z
        refine am_wpb (c' := (49, [some (.ref 25), some (.int v1), some (.int v2), some (.int (I 28 (Int32.toNatClampNeg ((I 25 4) - 1))))], [.int 1, .int (I 28 (Int32.toNatClampNeg ((I 25 4) - 1)))], (am_uI I 25 4 ((I 25 4) - 1), L, D, am_rf (xt, xs, xi, 2, xu, xc)))) 6 rfl ?_
        refine am_b2_ne rfl (fun z => ?_) (fun z => ?_)
        · replace h := h.1 z
          refine am_wpb (c' := (64, [some (.ref 25), some (.int v1), some (.int v2), some (.int (I 28 (Int32.toNatClampNeg ((I 25 4) - 1))))], [.int v2], (am_uI I 25 4 ((I 25 4) - 1), L, D, am_rf (xt, xs, xi, 2, xu, xc)))) 1 rfl ?_
          exact am_ret_i rfl rfl h
        · replace h := h.2 z
          refine am_wpb (c' := (57, [some (.ref 25), some (.int v1), some (.int v2), some (.int (I 28 (Int32.toNatClampNeg ((I 25 4) - 1))))], [.int v2, .ref 2], (am_uI I 25 4 ((I 25 4) - 1), L, D, am_rf (xt, xs, xi, 2, xu, xc)))) 3 rfl ?_
          obtain ⟨r3, I3, L3, D3, hr, h⟩ := h
          refine am_wp_inv (as := [.ref 2, .int v2]) rfl rfl rfl rfl ⟨_, hr, ?_⟩
          show am_wp ext d mz_77 (60, [some (.ref 25), some (.int v1), some (.int v2), some (.int (I 28 (Int32.toNatClampNeg ((I 25 4) - 1))))], [.int r3], (I3, L3, D3, am_rf (xt, xs, xi, 2, xu, xc))) P
          refine am_wpb (c' := (64, [some (.ref 25), some (.int v1), some (.int v2), some (.int (I 28 (Int32.toNatClampNeg ((I 25 4) - 1))))], [.int r3], (I3, L3, D3, am_rf (xt, xs, xi, 2, xu, xc)))) 1 rfl ?_
          exact am_ret_i rfl rfl h
  · replace h := h.2 z
    refine am_wpb (c' := (9, [some (.ref 25), some (.int v1), some (.int v2), none], [.int v2], (I, L, D, am_rf (xt, xs, xi, 2, xu, xc)))) 1 rfl ?_
    exact am_ret_i rfl rfl h
/-- SureSums$Spans.joinTwo()V -/
def mz_78 : am_Y := (fun pc => am_q78.lookup pc, 1, 0)
theorem mh_78 : am_Ys 78 = some mz_78 := rfl
theorem w78_0 {ext : Nat → List Value → am_M → Option am_R} {d : Nat} {P : am_R → Prop} (I : Nat → Nat → Int32) (L : Nat → Nat → Int64) (D : Nat → Nat → UInt64) (X : am_Rf)
    (h : ((2 ≤ (I 25 3) → (am_inb ((I 25 3) - 2) 100 = true ∧ (am_inb ((I 25 3) - 2) 100 = true ∧ ((((L 27 (Int32.toNatClampNeg ((I 25 3) - 2))) < (L 26 (Int32.toNatClampNeg ((I 25 3) - 2))) → (∃ (I1 : Nat → Nat → Int32) (L1 : Nat → Nat → Int64) (D1 : Nat → Nat → UInt64), am_Rn ext d 64 [.ref 25, .long 1, .long 0] (am_uI I 25 3 ((I 25 3) - 2), L, D, am_rf X) (none, (I1, L1, D1, am_rf X)) ∧ (P (none, (I1, L1, D1, am_rf X))))) ∧ (¬ (L 27 (Int32.toNatClampNeg ((I 25 3) - 2))) < (L 26 (Int32.toNatClampNeg ((I 25 3) - 2))) → (am_inb (((I 25 3) - 2) + 1) 100 = true ∧ (am_inb (((I 25 3) - 2) + 1) 100 = true ∧ ((((L 26 (Int32.toNatClampNeg (((I 25 3) - 2) + 1))) ≤ (L 27 (Int32.toNatClampNeg (((I 25 3) - 2) + 1))) → (am_inb ((I 25 3) - 2) 100 = true ∧ (am_inb (((I 25 3) - 2) + 1) 100 = true ∧ (∃ (r2 : Int64) (I2 : Nat → Nat → Int32) (L2 : Nat → Nat → Int64) (D2 : Nat → Nat → UInt64), am_Rn ext d 204 [.long (L 26 (Int32.toNatClampNeg ((I 25 3) - 2))), .long (L 26 (Int32.toNatClampNeg (((I 25 3) - 2) + 1)))] (am_uI I 25 3 ((I 25 3) - 2), L, D, am_rf X) (some (.long r2), (I2, L2, D2, am_rf X)) ∧ (am_inb (I2 25 3) 100 = true ∧ (am_inb ((I2 25 3) + 1) 100 = true ∧ (∃ (r3 : Int64) (I3 : Nat → Nat → Int32) (L3 : Nat → Nat → Int64) (D3 : Nat → Nat → UInt64), am_Rn ext d 203 [.long (L2 27 (Int32.toNatClampNeg (I2 25 3))), .long (L2 27 (Int32.toNatClampNeg ((I2 25 3) + 1)))] (I2, L2, D2, am_rf X) (some (.long r3), (I3, L3, D3, am_rf X)) ∧ (∃ (I4 : Nat → Nat → Int32) (L4 : Nat → Nat → Int64) (D4 : Nat → Nat → UInt64), am_Rn ext d 64 [.ref 25, .long r2, .long r3] (I3, L3, D3, am_rf X) (none, (I4, L4, D4, am_rf X)) ∧ (P (none, (I4, L4, D4, am_rf X))))))))))) ∧ (¬ (L 26 (Int32.toNatClampNeg (((I 25 3) - 2) + 1))) ≤ (L 27 (Int32.toNatClampNeg (((I 25 3) - 2) + 1))) → (∃ (I5 : Nat → Nat → Int32) (L5 : Nat → Nat → Int64) (D5 : Nat → Nat → UInt64), am_Rn ext d 64 [.ref 25, .long 1, .long 0] (am_uI I 25 3 ((I 25 3) - 2), L, D, am_rf X) (none, (I5, L5, D5, am_rf X)) ∧ (P (none, (I5, L5, D5, am_rf X))))))))))))))) ∧ (¬ 2 ≤ (I 25 3) → (P (none, (I, L, D, am_rf X)))))) : am_wp ext d mz_78 (0, [some (.ref 25)], [], (I, L, D, am_rf X)) P := by
  refine am_wpb (c' := (5, [some (.ref 25)], [.int 2, .int (I 25 3)], (I, L, D, am_rf X))) 3 rfl ?_
  refine am_b2_ge rfl (fun z => ?_) (fun z => ?_)
  · replace h := h.1 z
    refine am_wpb (c' := (27, [some (.ref 25)], [.int ((I 25 3) - 2), .ref 26], (am_uI I 25 3 ((I 25 3) - 2), L, D, am_rf X))) 10 rfl ?_
    obtain ⟨o, h⟩ := h
    refine am_wps (c' := (28, [some (.ref 25)], [.long (L 26 (Int32.toNatClampNeg ((I 25 3) - 2)))], (am_uI I 25 3 ((I 25 3) - 2), L, D, am_rf X))) rfl rfl (am_s_lald rfl o) ?_
    refine am_wpb (c' := (36, [some (.ref 25)], [.int ((I 25 3) - 2), .ref 27, .long (L 26 (Int32.toNatClampNeg ((I 25 3) - 2)))], (am_uI I 25 3 ((I 25 3) - 2), L, D, am_rf X))) 4 rfl ?_
    obtain ⟨o, h⟩ := h
    refine am_wps (c' := (37, [some (.ref 25)], [.long (L 27 (Int32.toNatClampNeg ((I 25 3) - 2))), .long (L 26 (Int32.toNatClampNeg ((I 25 3) - 2)))], (am_uI I 25 3 ((I 25 3) - 2), L, D, am_rf X))) rfl rfl (am_s_lald rfl o) ?_
    refine am_lc_gt rfl rfl (fun z => ?_) (fun z => ?_)
    · replace h := h.1 z
      refine am_wpb (c' := (70, [some (.ref 25)], [.long 0, .long 1, .ref 25], (am_uI I 25 3 ((I 25 3) - 2), L, D, am_rf X))) 3 rfl ?_
      obtain ⟨I1, L1, D1, hr, h⟩ := h
      refine am_wp_inv (as := [.ref 25, .long 1, .long 0]) rfl rfl rfl rfl ⟨_, hr, ?_⟩
      show am_wp ext d mz_78 (73, [some (.ref 25)], [], (I1, L1, D1, am_rf X)) P
      refine am_wpb (c' := (126, [some (.ref 25)], [], (I1, L1, D1, am_rf X))) 1 rfl ?_
      exact am_ret_v rfl rfl h
    · replace h := h.2 z
      refine am_wpb (c' := (51, [some (.ref 25)], [.int (((I 25 3) - 2) + 1), .ref 26], (am_uI I 25 3 ((I 25 3) - 2), L, D, am_rf X))) 6 rfl ?_
      obtain ⟨o, h⟩ := h
      refine am_wps (c' := (52, [some (.ref 25)], [.long (L 26 (Int32.toNatClampNeg (((I 25 3) - 2) + 1)))], (am_uI I 25 3 ((I 25 3) - 2), L, D, am_rf X))) rfl rfl (am_s_lald rfl o) ?_
      refine am_wpb (c' := (62, [some (.ref 25)], [.int (((I 25 3) - 2) + 1), .ref 27, .long (L 26 (Int32.toNatClampNeg (((I 25 3) - 2) + 1)))], (am_uI I 25 3 ((I 25 3) - 2), L, D, am_rf X))) 6 rfl ?_
      obtain ⟨o, h⟩ := h
      refine am_wps (c' := (63, [some (.ref 25)], [.long (L 27 (Int32.toNatClampNeg (((I 25 3) - 2) + 1))), .long (L 26 (Int32.toNatClampNeg (((I 25 3) - 2) + 1)))], (am_uI I 25 3 ((I 25 3) - 2), L, D, am_rf X))) rfl rfl (am_s_lald rfl o) ?_
      refine am_lc_le rfl rfl (fun z => ?_) (fun z => ?_)
      · replace h := h.1 z
        refine am_wpb (c' := (85, [some (.ref 25)], [.int ((I 25 3) - 2), .ref 26, .ref 25], (am_uI I 25 3 ((I 25 3) - 2), L, D, am_rf X))) 5 rfl ?_
        obtain ⟨o, h⟩ := h
        refine am_wps (c' := (86, [some (.ref 25)], [.long (L 26 (Int32.toNatClampNeg ((I 25 3) - 2))), .ref 25], (am_uI I 25 3 ((I 25 3) - 2), L, D, am_rf X))) rfl rfl (am_s_lald rfl o) ?_
        refine am_wpb (c' := (96, [some (.ref 25)], [.int (((I 25 3) - 2) + 1), .ref 26, .long (L 26 (Int32.toNatClampNeg ((I 25 3) - 2))), .ref 25], (am_uI I 25 3 ((I 25 3) - 2), L, D, am_rf X))) 6 rfl ?_
        obtain ⟨o, h⟩ := h
        refine am_wps (c' := (97, [some (.ref 25)], [.long (L 26 (Int32.toNatClampNeg (((I 25 3) - 2) + 1))), .long (L 26 (Int32.toNatClampNeg ((I 25 3) - 2))), .ref 25], (am_uI I 25 3 ((I 25 3) - 2), L, D, am_rf X))) rfl rfl (am_s_lald rfl o) ?_
        obtain ⟨r2, I2, L2, D2, hr, h⟩ := h
        refine am_wp_inv (as := [.long (L 26 (Int32.toNatClampNeg ((I 25 3) - 2))), .long (L 26 (Int32.toNatClampNeg (((I 25 3) - 2) + 1)))]) rfl rfl rfl rfl ⟨_, hr, ?_⟩
        show am_wp ext d mz_78 (100, [some (.ref 25)], [.long r2, .ref 25], (I2, L2, D2, am_rf X)) P
        refine am_wpb (c' := (108, [some (.ref 25)], [.int (I2 25 3), .ref 27, .long r2, .ref 25], (I2, L2, D2, am_rf X))) 4 rfl ?_
        obtain ⟨o, h⟩ := h
        refine am_wps (c' := (109, [some (.ref 25)], [.long (L2 27 (Int32.toNatClampNeg (I2 25 3))), .long r2, .ref 25], (I2, L2, D2, am_rf X))) rfl rfl (am_s_lald rfl o) ?_
        refine am_wpb (c' := (119, [some (.ref 25)], [.int ((I2 25 3) + 1), .ref 27, .long (L2 27 (Int32.toNatClampNeg (I2 25 3))), .long r2, .ref 25], (I2, L2, D2, am_rf X))) 6 rfl ?_
        obtain ⟨o, h⟩ := h
        refine am_wps (c' := (120, [some (.ref 25)], [.long (L2 27 (Int32.toNatClampNeg ((I2 25 3) + 1))), .long (L2 27 (Int32.toNatClampNeg (I2 25 3))), .long r2, .ref 25], (I2, L2, D2, am_rf X))) rfl rfl (am_s_lald rfl o) ?_
        obtain ⟨r3, I3, L3, D3, hr, h⟩ := h
        refine am_wp_inv (as := [.long (L2 27 (Int32.toNatClampNeg (I2 25 3))), .long (L2 27 (Int32.toNatClampNeg ((I2 25 3) + 1)))]) rfl rfl rfl rfl ⟨_, hr, ?_⟩
        show am_wp ext d mz_78 (123, [some (.ref 25)], [.long r3, .long r2, .ref 25], (I3, L3, D3, am_rf X)) P
        obtain ⟨I4, L4, D4, hr, h⟩ := h
        refine am_wp_inv (as := [.ref 25, .long r2, .long r3]) rfl rfl rfl rfl ⟨_, hr, ?_⟩
        show am_wp ext d mz_78 (126, [some (.ref 25)], [], (I4, L4, D4, am_rf X)) P
        exact am_ret_v rfl rfl h
      · replace h := h.2 z
        refine am_wpb (c' := (70, [some (.ref 25)], [.long 0, .long 1, .ref 25], (am_uI I 25 3 ((I 25 3) - 2), L, D, am_rf X))) 3 rfl ?_
        obtain ⟨I5, L5, D5, hr, h⟩ := h
        refine am_wp_inv (as := [.ref 25, .long 1, .long 0]) rfl rfl rfl rfl ⟨_, hr, ?_⟩
        show am_wp ext d mz_78 (73, [some (.ref 25)], [], (I5, L5, D5, am_rf X)) P
        refine am_wpb (c' := (126, [some (.ref 25)], [], (I5, L5, D5, am_rf X))) 1 rfl ?_
        exact am_ret_v rfl rfl h
  · replace h := h.2 z
    exact am_ret_v rfl rfl h
/-- SureSums$Spans.nought(III)V -/
def mz_79 : am_Y := (fun pc => am_q79.lookup pc, 15, 0)
theorem mh_79 : am_Ys 79 = some mz_79 := rfl
theorem w79_0 {ext : Nat → List Value → am_M → Option am_R} {d : Nat} {P : am_R → Prop} (I : Nat → Nat → Int32) (L : Nat → Nat → Int64) (D : Nat → Nat → UInt64) (xc : Nat) (xi : Nat) (xs : Nat) (xt : Nat) (xu : Nat) (v1 : Int32) (v2 : Int32) (v3 : Int32)
    (h : am_inb v2 288 = true ∧ (am_inb v2 288 = true ∧ (∃ (r1 : Int32) (I1 : Nat → Nat → Int32) (L1 : Nat → Nat → Int64) (D1 : Nat → Nat → UInt64), am_Rn ext d 80 [.ref 25, .int v1, .long ((Int32.toInt64 (I 9 (Int32.toNatClampNeg v2))) <<< ((Int32.toInt64 (I 25 6)) &&& 63)), .int v3] (I, L, D, am_rf (xt, xs, xi, 2, xu, xc)) (some (.int r1), (I1, L1, D1, am_rf (xt, xs, xi, 2, xu, xc))) ∧ (∃ (r2 : Int32) (I2 : Nat → Nat → Int32) (L2 : Nat → Nat → Int64) (D2 : Nat → Nat → UInt64), am_Rn ext d 80 [.ref 25, .int v1, .long ((Int32.toInt64 (I 10 (Int32.toNatClampNeg v2))) <<< ((Int32.toInt64 (I 25 6)) &&& 63)), .int v3] (I1, L1, D1, am_rf (xt, xs, xi, 2, xu, xc)) (some (.int r2), (I2, L2, D2, am_rf (xt, xs, xi, 2, xu, xc))) ∧ ((((r1 * r2) = (-1) → (am_wp ext d mz_79 (76, [some (.ref 25), some (.int v1), none, some (.int v3), some (.long ((Int32.toInt64 (I 9 (Int32.toNatClampNeg v2))) <<< ((Int32.toInt64 (I 25 6)) &&& 63))), none, some (.long ((Int32.toInt64 (I 10 (Int32.toNatClampNeg v2))) <<< ((Int32.toInt64 (I 25 6)) &&& 63))), none, some (.int r1), some (.int r2), some (.int 1), some (.int 0), none, none, none], [], (I2, L2, D2, am_rf (xt, xs, xi, 2, xu, xc))) P)) ∧ (¬ (r1 * r2) = (-1) → (∃ (I3 : Nat → Nat → Int32) (L3 : Nat → Nat → Int64) (D3 : Nat → Nat → UInt64), am_Rn ext d 64 [.ref 25, .long 1, .long 0] (I2, L2, D2, am_rf (xt, xs, xi, 2, xu, xc)) (none, (I3, L3, D3, am_rf (xt, xs, xi, 2, xu, xc))) ∧ (P (none, (I3, L3, D3, am_rf (xt, xs, xi, 2, xu, xc)))))))))))) : am_wp ext d mz_79 (0, [some (.ref 25), some (.int v1), some (.int v2), some (.int v3), none, none, none, none, none, none, none, none, none, none, none], [], (I, L, D, am_rf (xt, xs, xi, 2, xu, xc))) P := by
  refine am_wpb (c' := (8, [some (.ref 25), some (.int v1), some (.int v2), some (.int v3), none, none, none, none, none, none, none, none, none, none, none], [.int v2, .ref 9], (I, L, D, am_rf (xt, xs, xi, 2, xu, xc)))) 4 rfl ?_
  obtain ⟨o, h⟩ := h
  refine am_wps (c' := (9, [some (.ref 25), some (.int v1), some (.int v2), some (.int v3), none, none, none, none, none, none, none, none, none, none, none], [.int (I 9 (Int32.toNatClampNeg v2))], (I, L, D, am_rf (xt, xs, xi, 2, xu, xc)))) rfl rfl (am_s_iald rfl o) ?_
  refine am_wpb (c' := (25, [some (.ref 25), some (.int v1), some (.int v2), some (.int v3), some (.long ((Int32.toInt64 (I 9 (Int32.toNatClampNeg v2))) <<< ((Int32.toInt64 (I 25 6)) &&& 63))), none, none, none, none, none, none, none, none, none, none], [.int v2, .ref 10], (I, L, D, am_rf (xt, xs, xi, 2, xu, xc)))) 9 rfl ?_
  obtain ⟨o, h⟩ := h
  refine am_wps (c' := (26, [some (.ref 25), some (.int v1), some (.int v2), some (.int v3), some (.long ((Int32.toInt64 (I 9 (Int32.toNatClampNeg v2))) <<< ((Int32.toInt64 (I 25 6)) &&& 63))), none, none, none, none, none, none, none, none, none, none], [.int (I 10 (Int32.toNatClampNeg v2))], (I, L, D, am_rf (xt, xs, xi, 2, xu, xc)))) rfl rfl (am_s_iald rfl o) ?_
  refine am_wpb (c' := (39, [some (.ref 25), some (.int v1), some (.int v2), some (.int v3), some (.long ((Int32.toInt64 (I 9 (Int32.toNatClampNeg v2))) <<< ((Int32.toInt64 (I 25 6)) &&& 63))), none, some (.long ((Int32.toInt64 (I 10 (Int32.toNatClampNeg v2))) <<< ((Int32.toInt64 (I 25 6)) &&& 63))), none, none, none, none, none, none, none, none], [.int v3, .long ((Int32.toInt64 (I 9 (Int32.toNatClampNeg v2))) <<< ((Int32.toInt64 (I 25 6)) &&& 63)), .int v1, .ref 25], (I, L, D, am_rf (xt, xs, xi, 2, xu, xc)))) 9 rfl ?_
  obtain ⟨r1, I1, L1, D1, hr, h⟩ := h
  refine am_wp_inv (as := [.ref 25, .int v1, .long ((Int32.toInt64 (I 9 (Int32.toNatClampNeg v2))) <<< ((Int32.toInt64 (I 25 6)) &&& 63)), .int v3]) rfl rfl rfl rfl ⟨_, hr, ?_⟩
  show am_wp ext d mz_79 (42, [some (.ref 25), some (.int v1), some (.int v2), some (.int v3), some (.long ((Int32.toInt64 (I 9 (Int32.toNatClampNeg v2))) <<< ((Int32.toInt64 (I 25 6)) &&& 63))), none, some (.long ((Int32.toInt64 (I 10 (Int32.toNatClampNeg v2))) <<< ((Int32.toInt64 (I 25 6)) &&& 63))), none, none, none, none, none, none, none, none], [.int r1], (I1, L1, D1, am_rf (xt, xs, xi, 2, xu, xc))) P
  refine am_wpb (c' := (49, [some (.ref 25), some (.int v1), some (.int v2), some (.int v3), some (.long ((Int32.toInt64 (I 9 (Int32.toNatClampNeg v2))) <<< ((Int32.toInt64 (I 25 6)) &&& 63))), none, some (.long ((Int32.toInt64 (I 10 (Int32.toNatClampNeg v2))) <<< ((Int32.toInt64 (I 25 6)) &&& 63))), none, some (.int r1), none, none, none, none, none, none], [.int v3, .long ((Int32.toInt64 (I 10 (Int32.toNatClampNeg v2))) <<< ((Int32.toInt64 (I 25 6)) &&& 63)), .int v1, .ref 25], (I1, L1, D1, am_rf (xt, xs, xi, 2, xu, xc)))) 5 rfl ?_
  obtain ⟨r2, I2, L2, D2, hr, h⟩ := h
  refine am_wp_inv (as := [.ref 25, .int v1, .long ((Int32.toInt64 (I 10 (Int32.toNatClampNeg v2))) <<< ((Int32.toInt64 (I 25 6)) &&& 63)), .int v3]) rfl rfl rfl rfl ⟨_, hr, ?_⟩
  show am_wp ext d mz_79 (52, [some (.ref 25), some (.int v1), some (.int v2), some (.int v3), some (.long ((Int32.toInt64 (I 9 (Int32.toNatClampNeg v2))) <<< ((Int32.toInt64 (I 25 6)) &&& 63))), none, some (.long ((Int32.toInt64 (I 10 (Int32.toNatClampNeg v2))) <<< ((Int32.toInt64 (I 25 6)) &&& 63))), none, some (.int r1), none, none, none, none, none, none], [.int r2], (I2, L2, D2, am_rf (xt, xs, xi, 2, xu, xc))) P
  refine am_wpb (c' := (60, [some (.ref 25), some (.int v1), some (.int v2), some (.int v3), some (.long ((Int32.toInt64 (I 9 (Int32.toNatClampNeg v2))) <<< ((Int32.toInt64 (I 25 6)) &&& 63))), none, some (.long ((Int32.toInt64 (I 10 (Int32.toNatClampNeg v2))) <<< ((Int32.toInt64 (I 25 6)) &&& 63))), none, some (.int r1), some (.int r2), none, none, none, none, none], [.int (-1), .int (r1 * r2)], (I2, L2, D2, am_rf (xt, xs, xi, 2, xu, xc)))) 5 rfl ?_
  refine am_b2_eq rfl (fun z => ?_) (fun z => ?_)
  · replace h := h.1 z
    refine am_wpb (c' := (76, [some (.ref 25), some (.int v1), some (.int v2), some (.int v3), some (.long ((Int32.toInt64 (I 9 (Int32.toNatClampNeg v2))) <<< ((Int32.toInt64 (I 25 6)) &&& 63))), none, some (.long ((Int32.toInt64 (I 10 (Int32.toNatClampNeg v2))) <<< ((Int32.toInt64 (I 25 6)) &&& 63))), none, some (.int r1), some (.int r2), some (.int 1), some (.int 0), none, none, none], [], (I2, L2, D2, am_rf (xt, xs, xi, 2, xu, xc)))) 4 rfl ?_
    exact am_fgt (l := [some (.ref 25), some (.int v1), none, some (.int v3), some (.long ((Int32.toInt64 (I 9 (Int32.toNatClampNeg v2))) <<< ((Int32.toInt64 (I 25 6)) &&& 63))), none, some (.long ((Int32.toInt64 (I 10 (Int32.toNatClampNeg v2))) <<< ((Int32.toInt64 (I 25 6)) &&& 63))), none, some (.int r1), some (.int r2), some (.int 1), some (.int 0), none, none, none]) (am_le_of (am_leS (am_leS (am_leN (am_leS (am_leS (am_leN (am_leS (am_leN (am_leS (am_leS (am_leS (am_leS (am_leN (am_leN (am_leN (am_leZ))))))))))))))))) h
  · replace h := h.2 z
    refine am_wpb (c' := (66, [some (.ref 25), some (.int v1), some (.int v2), some (.int v3), some (.long ((Int32.toInt64 (I 9 (Int32.toNatClampNeg v2))) <<< ((Int32.toInt64 (I 25 6)) &&& 63))), none, some (.long ((Int32.toInt64 (I 10 (Int32.toNatClampNeg v2))) <<< ((Int32.toInt64 (I 25 6)) &&& 63))), none, some (.int r1), some (.int r2), none, none, none, none, none], [.long 0, .long 1, .ref 25], (I2, L2, D2, am_rf (xt, xs, xi, 2, xu, xc)))) 3 rfl ?_
    obtain ⟨I3, L3, D3, hr, h⟩ := h
    refine am_wp_inv (as := [.ref 25, .long 1, .long 0]) rfl rfl rfl rfl ⟨_, hr, ?_⟩
    show am_wp ext d mz_79 (69, [some (.ref 25), some (.int v1), some (.int v2), some (.int v3), some (.long ((Int32.toInt64 (I 9 (Int32.toNatClampNeg v2))) <<< ((Int32.toInt64 (I 25 6)) &&& 63))), none, some (.long ((Int32.toInt64 (I 10 (Int32.toNatClampNeg v2))) <<< ((Int32.toInt64 (I 25 6)) &&& 63))), none, some (.int r1), some (.int r2), none, none, none, none, none], [], (I3, L3, D3, am_rf (xt, xs, xi, 2, xu, xc))) P
    exact am_ret_v rfl rfl h
theorem w79_76 {ext : Nat → List Value → am_M → Option am_R} {d : Nat} {P : am_R → Prop} (I : Nat → Nat → Int32) (L : Nat → Nat → Int64) (D : Nat → Nat → UInt64) (xc : Nat) (xi : Nat) (xs : Nat) (xt : Nat) (xu : Nat) (v1 : Int32) (v3 : Int32) (v4 : Int64) (v6 : Int64) (v8 : Int32) (v9 : Int32) (v10 : Int32) (v11 : Int32)
    (h : ((64 ≤ v11 → (∃ (I1 : Nat → Nat → Int32) (L1 : Nat → Nat → Int64) (D1 : Nat → Nat → UInt64), am_Rn ext d 64 [.ref 25, .long v4, .long v6] (I, L, D, am_rf (xt, xs, xi, 2, xu, xc)) (none, (I1, L1, D1, am_rf (xt, xs, xi, 2, xu, xc))) ∧ (P (none, (I1, L1, D1, am_rf (xt, xs, xi, 2, xu, xc)))))) ∧ (¬ 64 ≤ v11 → (((v10 = 0 → (∃ (I2 : Nat → Nat → Int32) (L2 : Nat → Nat → Int64) (D2 : Nat → Nat → UInt64), am_Rn ext d 64 [.ref 25, .long v4, .long v6] (I, L, D, am_rf (xt, xs, xi, 2, xu, xc)) (none, (I2, L2, D2, am_rf (xt, xs, xi, 2, xu, xc))) ∧ (P (none, (I2, L2, D2, am_rf (xt, xs, xi, 2, xu, xc)))))) ∧ (¬ v10 = 0 → ((((v6 - v4) ≤ 1 → (∃ (I3 : Nat → Nat → Int32) (L3 : Nat → Nat → Int64) (D3 : Nat → Nat → UInt64), am_Rn ext d 64 [.ref 25, .long v4, .long v6] (I, L, D, am_rf (xt, xs, xi, 2, xu, xc)) (none, (I3, L3, D3, am_rf (xt, xs, xi, 2, xu, xc))) ∧ (P (none, (I3, L3, D3, am_rf (xt, xs, xi, 2, xu, xc)))))) ∧ (¬ (v6 - v4) ≤ 1 → (∃ (r4 : Int32) (I4 : Nat → Nat → Int32) (L4 : Nat → Nat → Int64) (D4 : Nat → Nat → UInt64), am_Rn ext d 80 [.ref 25, .int v1, .long ((v4 + v6) >>> ((Int32.toInt64 1) &&& 63)), .int v3] (I, L, D, am_rf (xt, xs, xi, 2, xu, xc)) (some (.int r4), (I4, L4, D4, am_rf (xt, xs, xi, 2, xu, xc))) ∧ (((r4 = 0 → (am_wp ext d mz_79 (127, [some (.ref 25), some (.int v1), none, some (.int v3), some (.long v4), none, some (.long v6), none, some (.int v8), some (.int v9), none, some (.int v11), some (.long ((v4 + v6) >>> ((Int32.toInt64 1) &&& 63))), none, some (.int r4)], [.int 0], (I4, L4, D4, am_rf (xt, xs, xi, 2, xu, xc))) P)) ∧ (¬ r4 = 0 → (am_wp ext d mz_79 (127, [some (.ref 25), some (.int v1), none, some (.int v3), some (.long v4), none, some (.long v6), none, some (.int v8), some (.int v9), none, some (.int v11), some (.long ((v4 + v6) >>> ((Int32.toInt64 1) &&& 63))), none, some (.int r4)], [.int 1], (I4, L4, D4, am_rf (xt, xs, xi, 2, xu, xc))) P)))))))))))))) : am_wp ext d mz_79 (76, [some (.ref 25), some (.int v1), none, some (.int v3), some (.long v4), none, some (.long v6), none, some (.int v8), some (.int v9), some (.int v10), some (.int v11), none, none, none], [], (I, L, D, am_rf (xt, xs, xi, 2, xu, xc))) P := by
  refine am_wpb (c' := (80, [some (.ref 25), some (.int v1), none, some (.int v3), some (.long v4), none, some (.long v6), none, some (.int v8), some (.int v9), some (.int v10), some (.int v11), none, none, none], [.int 64, .int v11], (I, L, D, am_rf (xt, xs, xi, 2, xu, xc)))) 2 rfl ?_
  refine am_b2_ge rfl (fun z => ?_) (fun z => ?_)
  · replace h := h.1 z
    refine am_wpb (c' := (172, [some (.ref 25), some (.int v1), none, some (.int v3), some (.long v4), none, some (.long v6), none, some (.int v8), some (.int v9), some (.int v10), some (.int v11), none, none, none], [.long v6, .long v4, .ref 25], (I, L, D, am_rf (xt, xs, xi, 2, xu, xc)))) 3 rfl ?_
    obtain ⟨I1, L1, D1, hr, h⟩ := h
    refine am_wp_inv (as := [.ref 25, .long v4, .long v6]) rfl rfl rfl rfl ⟨_, hr, ?_⟩
    show am_wp ext d mz_79 (175, [some (.ref 25), some (.int v1), none, some (.int v3), some (.long v4), none, some (.long v6), none, some (.int v8), some (.int v9), some (.int v10), some (.int v11), none, none, none], [], (I1, L1, D1, am_rf (xt, xs, xi, 2, xu, xc))) P
    exact am_ret_v rfl rfl h
  · replace h := h.2 z
    refine am_wpb (c' := (85, [some (.ref 25), some (.int v1), none, some (.int v3), some (.long v4), none, some (.long v6), none, some (.int v8), some (.int v9), some (.int v10), some (.int v11), none, none, none], [.int v10], (I, L, D, am_rf (xt, xs, xi, 2, xu, xc)))) 1 rfl ?_
    refine am_b1_eq rfl (fun z => ?_) (fun z => ?_)
    · replace h := h.1 z
      refine am_wpb (c' := (172, [some (.ref 25), some (.int v1), none, some (.int v3), some (.long v4), none, some (.long v6), none, some (.int v8), some (.int v9), some (.int v10), some (.int v11), none, none, none], [.long v6, .long v4, .ref 25], (I, L, D, am_rf (xt, xs, xi, 2, xu, xc)))) 3 rfl ?_
      obtain ⟨I2, L2, D2, hr, h⟩ := h
      refine am_wp_inv (as := [.ref 25, .long v4, .long v6]) rfl rfl rfl rfl ⟨_, hr, ?_⟩
      show am_wp ext d mz_79 (175, [some (.ref 25), some (.int v1), none, some (.int v3), some (.long v4), none, some (.long v6), none, some (.int v8), some (.int v9), some (.int v10), some (.int v11), none, none, none], [], (I2, L2, D2, am_rf (xt, xs, xi, 2, xu, xc))) P
      exact am_ret_v rfl rfl h
    · replace h := h.2 z
      refine am_wpb (c' := (94, [some (.ref 25), some (.int v1), none, some (.int v3), some (.long v4), none, some (.long v6), none, some (.int v8), some (.int v9), some (.int v10), some (.int v11), none, none, none], [.long 1, .long (v6 - v4)], (I, L, D, am_rf (xt, xs, xi, 2, xu, xc)))) 4 rfl ?_
      refine am_lc_le rfl rfl (fun z => ?_) (fun z => ?_)
      · replace h := h.1 z
        refine am_wpb (c' := (172, [some (.ref 25), some (.int v1), none, some (.int v3), some (.long v4), none, some (.long v6), none, some (.int v8), some (.int v9), some (.int v10), some (.int v11), none, none, none], [.long v6, .long v4, .ref 25], (I, L, D, am_rf (xt, xs, xi, 2, xu, xc)))) 3 rfl ?_
        obtain ⟨I3, L3, D3, hr, h⟩ := h
        refine am_wp_inv (as := [.ref 25, .long v4, .long v6]) rfl rfl rfl rfl ⟨_, hr, ?_⟩
        show am_wp ext d mz_79 (175, [some (.ref 25), some (.int v1), none, some (.int v3), some (.long v4), none, some (.long v6), none, some (.int v8), some (.int v9), some (.int v10), some (.int v11), none, none, none], [], (I3, L3, D3, am_rf (xt, xs, xi, 2, xu, xc))) P
        exact am_ret_v rfl rfl h
      · replace h := h.2 z
        refine am_wpb (c' := (112, [some (.ref 25), some (.int v1), none, some (.int v3), some (.long v4), none, some (.long v6), none, some (.int v8), some (.int v9), some (.int v10), some (.int v11), some (.long ((v4 + v6) >>> ((Int32.toInt64 1) &&& 63))), none, none], [.int v3, .long ((v4 + v6) >>> ((Int32.toInt64 1) &&& 63)), .int v1, .ref 25], (I, L, D, am_rf (xt, xs, xi, 2, xu, xc)))) 10 rfl ?_
        obtain ⟨r4, I4, L4, D4, hr, h⟩ := h
        refine am_wp_inv (as := [.ref 25, .int v1, .long ((v4 + v6) >>> ((Int32.toInt64 1) &&& 63)), .int v3]) rfl rfl rfl rfl ⟨_, hr, ?_⟩
        show am_wp ext d mz_79 (115, [some (.ref 25), some (.int v1), none, some (.int v3), some (.long v4), none, some (.long v6), none, some (.int v8), some (.int v9), some (.int v10), some (.int v11), some (.long ((v4 + v6) >>> ((Int32.toInt64 1) &&& 63))), none, none], [.int r4], (I4, L4, D4, am_rf (xt, xs, xi, 2, xu, xc))) P
        refine am_wpb (c' := (119, [some (.ref 25), some (.int v1), none, some (.int v3), some (.long v4), none, some (.long v6), none, some (.int v8), some (.int v9), some (.int v10), some (.int v11), some (.long ((v4 + v6) >>> ((Int32.toInt64 1) &&& 63))), none, some (.int r4)], [.int r4], (I4, L4, D4, am_rf (xt, xs, xi, 2, xu, xc)))) 2 rfl ?_
        refine am_b1_eq rfl (fun z => ?_) (fun z => ?_)
        · replace h := h.1 z
          refine am_wpb (c' := (127, [some (.ref 25), some (.int v1), none, some (.int v3), some (.long v4), none, some (.long v6), none, some (.int v8), some (.int v9), some (.int v10), some (.int v11), some (.long ((v4 + v6) >>> ((Int32.toInt64 1) &&& 63))), none, some (.int r4)], [.int 0], (I4, L4, D4, am_rf (xt, xs, xi, 2, xu, xc)))) 1 rfl ?_
          exact am_fgt (l := [some (.ref 25), some (.int v1), none, some (.int v3), some (.long v4), none, some (.long v6), none, some (.int v8), some (.int v9), none, some (.int v11), some (.long ((v4 + v6) >>> ((Int32.toInt64 1) &&& 63))), none, some (.int r4)]) (am_le_of (am_leS (am_leS (am_leN (am_leS (am_leS (am_leN (am_leS (am_leN (am_leS (am_leS (am_leN (am_leS (am_leS (am_leN (am_leS (am_leZ))))))))))))))))) h
        · replace h := h.2 z
          refine am_wpb (c' := (127, [some (.ref 25), some (.int v1), none, some (.int v3), some (.long v4), none, some (.long v6), none, some (.int v8), some (.int v9), some (.int v10), some (.int v11), some (.long ((v4 + v6) >>> ((Int32.toInt64 1) &&& 63))), none, some (.int r4)], [.int 1], (I4, L4, D4, am_rf (xt, xs, xi, 2, xu, xc)))) 2 rfl ?_
          exact am_fgt (l := [some (.ref 25), some (.int v1), none, some (.int v3), some (.long v4), none, some (.long v6), none, some (.int v8), some (.int v9), none, some (.int v11), some (.long ((v4 + v6) >>> ((Int32.toInt64 1) &&& 63))), none, some (.int r4)]) (am_le_of (am_leS (am_leS (am_leN (am_leS (am_leS (am_leN (am_leS (am_leN (am_leS (am_leS (am_leN (am_leS (am_leS (am_leN (am_leS (am_leZ))))))))))))))))) h
theorem w79_127 {ext : Nat → List Value → am_M → Option am_R} {d : Nat} {P : am_R → Prop} (I : Nat → Nat → Int32) (L : Nat → Nat → Int64) (D : Nat → Nat → UInt64) (xc : Nat) (xi : Nat) (xs : Nat) (xt : Nat) (xu : Nat) (v1 : Int32) (v3 : Int32) (v4 : Int64) (v6 : Int64) (v8 : Int32) (v9 : Int32) (v11 : Int32) (v12 : Int64) (v14 : Int32) (s0 : Int32)
    (h : ((¬ v14 = v8 → (((¬ v14 = v9 → (am_wp ext d mz_79 (76, [some (.ref 25), some (.int v1), none, some (.int v3), some (.long v4), none, some (.long v6), none, some (.int v8), some (.int v9), some (.int s0), some (.int (v11 + 1)), none, none, none], [], (I, L, D, am_rf (xt, xs, xi, 2, xu, xc))) P)) ∧ (v14 = v9 → (am_wp ext d mz_79 (76, [some (.ref 25), some (.int v1), none, some (.int v3), some (.long v4), none, some (.long v12), none, some (.int v8), some (.int v9), some (.int s0), some (.int (v11 + 1)), none, none, none], [], (I, L, D, am_rf (xt, xs, xi, 2, xu, xc))) P))))) ∧ (v14 = v8 → (((¬ v14 = v9 → (am_wp ext d mz_79 (76, [some (.ref 25), some (.int v1), none, some (.int v3), some (.long v12), none, some (.long v6), none, some (.int v8), some (.int v9), some (.int s0), some (.int (v11 + 1)), none, none, none], [], (I, L, D, am_rf (xt, xs, xi, 2, xu, xc))) P)) ∧ (v14 = v9 → (am_wp ext d mz_79 (76, [some (.ref 25), some (.int v1), none, some (.int v3), some (.long v12), none, some (.long v12), none, some (.int v8), some (.int v9), some (.int s0), some (.int (v11 + 1)), none, none, none], [], (I, L, D, am_rf (xt, xs, xi, 2, xu, xc))) P))))))) : am_wp ext d mz_79 (127, [some (.ref 25), some (.int v1), none, some (.int v3), some (.long v4), none, some (.long v6), none, some (.int v8), some (.int v9), none, some (.int v11), some (.long v12), none, some (.int v14)], [.int s0], (I, L, D, am_rf (xt, xs, xi, 2, xu, xc))) P := by
  refine am_wpb (c' := (133, [some (.ref 25), some (.int v1), none, some (.int v3), some (.long v4), none, some (.long v6), none, some (.int v8), some (.int v9), some (.int s0), some (.int v11), some (.long v12), none, some (.int v14)], [.int v8, .int v14], (I, L, D, am_rf (xt, xs, xi, 2, xu, xc)))) 3 rfl ?_
  refine am_b2_ne rfl (fun z => ?_) (fun z => ?_)
  · replace h := h.1 z
    refine am_wpb (c' := (149, [some (.ref 25), some (.int v1), none, some (.int v3), some (.long v4), none, some (.long v6), none, some (.int v8), some (.int v9), some (.int s0), some (.int v11), some (.long v12), none, some (.int v14)], [.int v9, .int v14], (I, L, D, am_rf (xt, xs, xi, 2, xu, xc)))) 4 rfl ?_
    refine am_b2_ne rfl (fun z => ?_) (fun z => ?_)
    · replace h := h.1 z
      refine am_wpb (c' := (76, [some (.ref 25), some (.int v1), none, some (.int v3), some (.long v4), none, some (.long v6), none, some (.int v8), some (.int v9), some (.int s0), some (.int (v11 + 1)), some (.long v12), none, some (.int v14)], [], (I, L, D, am_rf (xt, xs, xi, 2, xu, xc)))) 4 rfl ?_
      exact am_fgt (l := [some (.ref 25), some (.int v1), none, some (.int v3), some (.long v4), none, some (.long v6), none, some (.int v8), some (.int v9), some (.int s0), some (.int (v11 + 1)), none, none, none]) (am_le_of (am_leS (am_leS (am_leN (am_leS (am_leS (am_leN (am_leS (am_leN (am_leS (am_leS (am_leS (am_leS (am_leN (am_leN (am_leN (am_leZ))))))))))))))))) h
    · replace h := h.2 z
      refine am_wpb (c' := (76, [some (.ref 25), some (.int v1), none, some (.int v3), some (.long v4), none, some (.long v12), none, some (.int v8), some (.int v9), some (.int s0), some (.int (v11 + 1)), some (.long v12), none, some (.int v14)], [], (I, L, D, am_rf (xt, xs, xi, 2, xu, xc)))) 5 rfl ?_
      exact am_fgt (l := [some (.ref 25), some (.int v1), none, some (.int v3), some (.long v4), none, some (.long v12), none, some (.int v8), some (.int v9), some (.int s0), some (.int (v11 + 1)), none, none, none]) (am_le_of (am_leS (am_leS (am_leN (am_leS (am_leS (am_leN (am_leS (am_leN (am_leS (am_leS (am_leS (am_leS (am_leN (am_leN (am_leN (am_leZ))))))))))))))))) h
  · replace h := h.2 z
    refine am_wpb (c' := (149, [some (.ref 25), some (.int v1), none, some (.int v3), some (.long v12), none, some (.long v6), none, some (.int v8), some (.int v9), some (.int s0), some (.int v11), some (.long v12), none, some (.int v14)], [.int v9, .int v14], (I, L, D, am_rf (xt, xs, xi, 2, xu, xc)))) 5 rfl ?_
    refine am_b2_ne rfl (fun z => ?_) (fun z => ?_)
    · replace h := h.1 z
      refine am_wpb (c' := (76, [some (.ref 25), some (.int v1), none, some (.int v3), some (.long v12), none, some (.long v6), none, some (.int v8), some (.int v9), some (.int s0), some (.int (v11 + 1)), some (.long v12), none, some (.int v14)], [], (I, L, D, am_rf (xt, xs, xi, 2, xu, xc)))) 4 rfl ?_
      exact am_fgt (l := [some (.ref 25), some (.int v1), none, some (.int v3), some (.long v12), none, some (.long v6), none, some (.int v8), some (.int v9), some (.int s0), some (.int (v11 + 1)), none, none, none]) (am_le_of (am_leS (am_leS (am_leN (am_leS (am_leS (am_leN (am_leS (am_leN (am_leS (am_leS (am_leS (am_leS (am_leN (am_leN (am_leN (am_leZ))))))))))))))))) h
    · replace h := h.2 z
      refine am_wpb (c' := (76, [some (.ref 25), some (.int v1), none, some (.int v3), some (.long v12), none, some (.long v12), none, some (.int v8), some (.int v9), some (.int s0), some (.int (v11 + 1)), some (.long v12), none, some (.int v14)], [], (I, L, D, am_rf (xt, xs, xi, 2, xu, xc)))) 5 rfl ?_
      exact am_fgt (l := [some (.ref 25), some (.int v1), none, some (.int v3), some (.long v12), none, some (.long v12), none, some (.int v8), some (.int v9), some (.int s0), some (.int (v11 + 1)), none, none, none]) (am_le_of (am_leS (am_leS (am_leN (am_leS (am_leS (am_leN (am_leS (am_leN (am_leS (am_leS (am_leS (am_leS (am_leN (am_leN (am_leN (am_leZ))))))))))))))))) h
/-- SureSums$Spans.signOver(IJI)I -/
def mz_80 : am_Y := (fun pc => am_q80.lookup pc, 5, 1)
theorem mh_80 : am_Ys 80 = some mz_80 := rfl
theorem w80_0 {ext : Nat → List Value → am_M → Option am_R} {d : Nat} {P : am_R → Prop} (I : Nat → Nat → Int32) (L : Nat → Nat → Int64) (D : Nat → Nat → UInt64) (X : am_Rf) (v1 : Int32) (v2 : Int64) (v4 : Int32)
    (h : ∃ (I1 : Nat → Nat → Int32) (L1 : Nat → Nat → Int64) (D1 : Nat → Nat → UInt64), am_Rn ext d 62 [.ref 25, .int v1, .long v2, .long v2, .int v4] (I, L, D, am_rf X) (none, (I1, L1, D1, am_rf X)) ∧ (∃ (r2 : Int32) (I2 : Nat → Nat → Int32) (L2 : Nat → Nat → Int64) (D2 : Nat → Nat → UInt64), am_Rn ext d 61 [.ref 25] (I1, L1, D1, am_rf X) (some (.int r2), (I2, L2, D2, am_rf X)) ∧ (((¬ r2 = 0 → (((0 ≤ (L2 25 10) → ((((L2 25 9) ≤ 0 → (P (some (.int 0), (I2, L2, D2, am_rf X)))) ∧ (¬ (L2 25 9) ≤ 0 → (P (some (.int 1), (I2, L2, D2, am_rf X))))))) ∧ (¬ 0 ≤ (L2 25 10) → (P (some (.int (-1)), (I2, L2, D2, am_rf X))))))) ∧ (r2 = 0 → (P (some (.int 0), (I2, L2, D2, am_rf X)))))))) : am_wp ext d mz_80 (0, [some (.ref 25), some (.int v1), some (.long v2), none, some (.int v4)], [], (I, L, D, am_rf X)) P := by
  refine am_wpb (c' := (6, [some (.ref 25), some (.int v1), some (.long v2), none, some (.int v4)], [.int v4, .long v2, .long v2, .int v1, .ref 25], (I, L, D, am_rf X))) 5 rfl ?_
  obtain ⟨I1, L1, D1, hr, h⟩ := h
  refine am_wp_inv (as := [.ref 25, .int v1, .long v2, .long v2, .int v4]) rfl rfl rfl rfl ⟨_, hr, ?_⟩
  show am_wp ext d mz_80 (9, [some (.ref 25), some (.int v1), some (.long v2), none, some (.int v4)], [], (I1, L1, D1, am_rf X)) P
  refine am_wpb (c' := (10, [some (.ref 25), some (.int v1), some (.long v2), none, some (.int v4)], [.ref 25], (I1, L1, D1, am_rf X))) 1 rfl ?_
  obtain ⟨r2, I2, L2, D2, hr, h⟩ := h
  refine am_wp_inv (as := [.ref 25]) rfl rfl rfl rfl ⟨_, hr, ?_⟩
  show am_wp ext d mz_80 (13, [some (.ref 25), some (.int v1), some (.long v2), none, some (.int v4)], [.int r2], (I2, L2, D2, am_rf X)) P
  refine am_b1_ne rfl (fun z => ?_) (fun z => ?_)
  · replace h := h.1 z
    refine am_wpb (c' := (23, [some (.ref 25), some (.int v1), some (.long v2), none, some (.int v4)], [.long 0, .long (L2 25 10)], (I2, L2, D2, am_rf X))) 3 rfl ?_
    refine am_lc_ge rfl rfl (fun z => ?_) (fun z => ?_)
    · replace h := h.1 z
      refine am_wpb (c' := (34, [some (.ref 25), some (.int v1), some (.long v2), none, some (.int v4)], [.long 0, .long (L2 25 9)], (I2, L2, D2, am_rf X))) 3 rfl ?_
      refine am_lc_le rfl rfl (fun z => ?_) (fun z => ?_)
      · replace h := h.1 z
        refine am_wpb (c' := (43, [some (.ref 25), some (.int v1), some (.long v2), none, some (.int v4)], [.int 0], (I2, L2, D2, am_rf X))) 1 rfl ?_
        exact am_ret_i rfl rfl h
      · replace h := h.2 z
        refine am_wpb (c' := (43, [some (.ref 25), some (.int v1), some (.long v2), none, some (.int v4)], [.int 1], (I2, L2, D2, am_rf X))) 2 rfl ?_
        exact am_ret_i rfl rfl h
    · replace h := h.2 z
      refine am_wpb (c' := (28, [some (.ref 25), some (.int v1), some (.long v2), none, some (.int v4)], [.int (-1)], (I2, L2, D2, am_rf X))) 1 rfl ?_
      exact am_ret_i rfl rfl h
  · replace h := h.2 z
    refine am_wpb (c' := (17, [some (.ref 25), some (.int v1), some (.long v2), none, some (.int v4)], [.int 0], (I2, L2, D2, am_rf X))) 1 rfl ?_
    exact am_ret_i rfl rfl h
/-- SureSums$Spans.overPieces(IIII)V -/
def mz_81 : am_Y := (fun pc => am_q81.lookup pc, 15, 0)
theorem mh_81 : am_Ys 81 = some mz_81 := rfl
theorem w81_0 {ext : Nat → List Value → am_M → Option am_R} {d : Nat} {P : am_R → Prop} (I : Nat → Nat → Int32) (L : Nat → Nat → Int64) (D : Nat → Nat → UInt64) (xc : Nat) (xi : Nat) (xs : Nat) (xt : Nat) (xu : Nat) (v1 : Int32) (v2 : Int32) (v3 : Int32) (v4 : Int32)
    (h : am_wp ext d mz_81 (19, [some (.ref 25), some (.int v1), some (.int v2), some (.int v3), some (.int v4), some (.int (1 <<< (((I 25 6) / 4) &&& 31))), some (.long 0), none, some (.long 0), none, some (.int 0), none, none, none, none], [], (I, L, D, am_rf (xt, xs, xi, 2, xu, xc))) P) : am_wp ext d mz_81 (0, [some (.ref 25), some (.int v1), some (.int v2), some (.int v3), some (.int v4), none, none, none, none, none, none, none, none, none, none], [], (I, L, D, am_rf (xt, xs, xi, 2, xu, xc))) P := by
  refine am_wpb (c' := (6, [some (.ref 25), some (.int v1), some (.int v2), some (.int v3), some (.int v4), none, none, none, none, none, none, none, none, none, none], [.int 4, .int (I 25 6), .int 1], (I, L, D, am_rf (xt, xs, xi, 2, xu, xc)))) 4 rfl ?_
  refine am_wps (c' := (7, [some (.ref 25), some (.int v1), some (.int v2), some (.int v3), some (.int v4), none, none, none, none, none, none, none, none, none, none], [.int ((I 25 6) / 4), .int 1], (I, L, D, am_rf (xt, xs, xi, 2, xu, xc)))) rfl rfl (am_s_idiv (by decide)) ?_
  refine am_wpb (c' := (19, [some (.ref 25), some (.int v1), some (.int v2), some (.int v3), some (.int v4), some (.int (1 <<< (((I 25 6) / 4) &&& 31))), some (.long 0), none, some (.long 0), none, some (.int 0), none, none, none, none], [], (I, L, D, am_rf (xt, xs, xi, 2, xu, xc)))) 8 rfl ?_
  exact h
theorem w81_19 {ext : Nat → List Value → am_M → Option am_R} {d : Nat} {P : am_R → Prop} (I : Nat → Nat → Int32) (L : Nat → Nat → Int64) (D : Nat → Nat → UInt64) (xc : Nat) (xi : Nat) (xs : Nat) (xt : Nat) (xu : Nat) (v1 : Int32) (v2 : Int32) (v3 : Int32) (v4 : Int32) (v5 : Int32) (v6 : Int64) (v8 : Int64) (v10 : Int32)
    (h : ((v5 ≤ v10 → (∃ (I1 : Nat → Nat → Int32) (L1 : Nat → Nat → Int64) (D1 : Nat → Nat → UInt64), am_Rn ext d 64 [.ref 25, .long v6, .long v8] (I, L, D, am_rf (xt, xs, xi, 2, xu, xc)) (none, (I1, L1, D1, am_rf (xt, xs, xi, 2, xu, xc))) ∧ (P (none, (I1, L1, D1, am_rf (xt, xs, xi, 2, xu, xc)))))) ∧ (¬ v5 ≤ v10 → (am_inb v3 288 = true ∧ (am_inb v3 288 = true ∧ (∃ (r2 : Int64) (I2 : Nat → Nat → Int32) (L2 : Nat → Nat → Int64) (D2 : Nat → Nat → UInt64), am_Rn ext d 82 [.int (I 9 (Int32.toNatClampNeg v3)), .int (I 10 (Int32.toNatClampNeg v3)), .int v10, .int (I 25 6)] (I, L, D, am_rf (xt, xs, xi, 2, xu, xc)) (some (.long r2), (I2, L2, D2, am_rf (xt, xs, xi, 2, xu, xc))) ∧ (am_inb v3 288 = true ∧ (am_inb v3 288 = true ∧ (∃ (r3 : Int64) (I3 : Nat → Nat → Int32) (L3 : Nat → Nat → Int64) (D3 : Nat → Nat → UInt64), am_Rn ext d 82 [.int (I2 9 (Int32.toNatClampNeg v3)), .int (I2 10 (Int32.toNatClampNeg v3)), .int (v10 + 1), .int (I2 25 6)] (I2, L2, D2, am_rf (xt, xs, xi, 2, xu, xc)) (some (.long r3), (I3, L3, D3, am_rf (xt, xs, xi, 2, xu, xc))) ∧ (∃ (I4 : Nat → Nat → Int32) (L4 : Nat → Nat → Int64) (D4 : Nat → Nat → UInt64), am_Rn ext d 62 [.ref 25, .int v2, .long r2, .long r3, .int v4] (I3, L3, D3, am_rf (xt, xs, xi, 2, xu, xc)) (none, (I4, L4, D4, am_rf (xt, xs, xi, 2, xu, xc))) ∧ (∃ (r5 : Int32) (I5 : Nat → Nat → Int32) (L5 : Nat → Nat → Int64) (D5 : Nat → Nat → UInt64), am_Rn ext d 61 [.ref 25] (I4, L4, D4, am_rf (xt, xs, xi, 2, xu, xc)) (some (.int r5), (I5, L5, D5, am_rf (xt, xs, xi, 2, xu, xc))) ∧ (((¬ r5 = 0 → (((¬ v1 = 5 → (((¬ v10 = 0 → (((¬ v1 = 6 → (∃ (r6 : Int64) (I6 : Nat → Nat → Int32) (L6 : Nat → Nat → Int64) (D6 : Nat → Nat → UInt64), am_Rn ext d 204 [.long v6, .long (L5 25 9)] (I5, L5, D5, am_rf (xt, xs, xi, 2, xu, xc)) (some (.long r6), (I6, L6, D6, am_rf (xt, xs, xi, 2, xu, xc))) ∧ (∃ (r7 : Int64) (I7 : Nat → Nat → Int32) (L7 : Nat → Nat → Int64) (D7 : Nat → Nat → UInt64), am_Rn ext d 204 [.long v8, .long (L6 25 10)] (I6, L6, D6, am_rf (xt, xs, xi, 2, xu, xc)) (some (.long r7), (I7, L7, D7, am_rf (xt, xs, xi, 2, xu, xc))) ∧ (am_wp ext d mz_81 (19, [some (.ref 25), some (.int v1), some (.int v2), some (.int v3), some (.int v4), some (.int v5), some (.long r6), none, some (.long r7), none, some (.int (v10 + 1)), none, none, none, none], [], (I7, L7, D7, am_rf (xt, xs, xi, 2, xu, xc))) P)))) ∧ (v1 = 6 → (∃ (r8 : Int64) (I8 : Nat → Nat → Int32) (L8 : Nat → Nat → Int64) (D8 : Nat → Nat → UInt64), am_Rn ext d 203 [.long v6, .long (L5 25 9)] (I5, L5, D5, am_rf (xt, xs, xi, 2, xu, xc)) (some (.long r8), (I8, L8, D8, am_rf (xt, xs, xi, 2, xu, xc))) ∧ (∃ (r9 : Int64) (I9 : Nat → Nat → Int32) (L9 : Nat → Nat → Int64) (D9 : Nat → Nat → UInt64), am_Rn ext d 203 [.long v8, .long (L8 25 10)] (I8, L8, D8, am_rf (xt, xs, xi, 2, xu, xc)) (some (.long r9), (I9, L9, D9, am_rf (xt, xs, xi, 2, xu, xc))) ∧ (am_wp ext d mz_81 (19, [some (.ref 25), some (.int v1), some (.int v2), some (.int v3), some (.int v4), some (.int v5), some (.long r8), none, some (.long r9), none, some (.int (v10 + 1)), none, none, none, none], [], (I9, L9, D9, am_rf (xt, xs, xi, 2, xu, xc))) P))))))) ∧ (v10 = 0 → (am_wp ext d mz_81 (19, [some (.ref 25), some (.int v1), some (.int v2), some (.int v3), some (.int v4), some (.int v5), some (.long (L5 25 9)), none, some (.long (L5 25 10)), none, some (.int (v10 + 1)), none, none, none, none], [], (I5, L5, D5, am_rf (xt, xs, xi, 2, xu, xc))) P))))) ∧ (v1 = 5 → (∃ (r10 : Int64) (I10 : Nat → Nat → Int32) (L10 : Nat → Nat → Int64) (D10 : Nat → Nat → UInt64), am_Rn ext d 70 [.ref 25, .long ((L5 25 9) * (r3 - r2))] (I5, L5, D5, am_rf (xt, xs, xi, 2, xu, xc)) (some (.long r10), (I10, L10, D10, am_rf (xt, xs, xi, 2, xu, xc))) ∧ (∃ (r11 : Int64) (I11 : Nat → Nat → Int32) (L11 : Nat → Nat → Int64) (D11 : Nat → Nat → UInt64), am_Rn ext d 71 [.ref 25, .long ((L10 25 10) * (r3 - r2))] (I10, L10, D10, am_rf (xt, xs, xi, 2, xu, xc)) (some (.long r11), (I11, L11, D11, am_rf (xt, xs, xi, 2, xu, xc))) ∧ (am_wp ext d mz_81 (19, [some (.ref 25), some (.int v1), some (.int v2), some (.int v3), some (.int v4), some (.int v5), some (.long (v6 + r10)), none, some (.long (v8 + r11)), none, some (.int (v10 + 1)), none, none, none, none], [], (I11, L11, D11, am_rf (xt, xs, xi, 2, xu, xc))) P))))))) ∧ (r5 = 0 → (∃ (I12 : Nat → Nat → Int32) (L12 : Nat → Nat → Int64) (D12 : Nat → Nat → UInt64), am_Rn ext d 64 [.ref 25, .long 1, .long 0] (I5, L5, D5, am_rf (xt, xs, xi, 2, xu, xc)) (none, (I12, L12, D12, am_rf (xt, xs, xi, 2, xu, xc))) ∧ (P (none, (I12, L12, D12, am_rf (xt, xs, xi, 2, xu, xc))))))))))))))))))) : am_wp ext d mz_81 (19, [some (.ref 25), some (.int v1), some (.int v2), some (.int v3), some (.int v4), some (.int v5), some (.long v6), none, some (.long v8), none, some (.int v10), none, none, none, none], [], (I, L, D, am_rf (xt, xs, xi, 2, xu, xc))) P := by
  refine am_wpb (c' := (23, [some (.ref 25), some (.int v1), some (.int v2), some (.int v3), some (.int v4), some (.int v5), some (.long v6), none, some (.long v8), none, some (.int v10), none, none, none, none], [.int v5, .int v10], (I, L, D, am_rf (xt, xs, xi, 2, xu, xc)))) 2 rfl ?_
  refine am_b2_ge rfl (fun z => ?_) (fun z => ?_)
  · replace h := h.1 z
    refine am_wpb (c' := (241, [some (.ref 25), some (.int v1), some (.int v2), some (.int v3), some (.int v4), some (.int v5), some (.long v6), none, some (.long v8), none, some (.int v10), none, none, none, none], [.long v8, .long v6, .ref 25], (I, L, D, am_rf (xt, xs, xi, 2, xu, xc)))) 3 rfl ?_
    obtain ⟨I1, L1, D1, hr, h⟩ := h
    refine am_wp_inv (as := [.ref 25, .long v6, .long v8]) rfl rfl rfl rfl ⟨_, hr, ?_⟩
    show am_wp ext d mz_81 (244, [some (.ref 25), some (.int v1), some (.int v2), some (.int v3), some (.int v4), some (.int v5), some (.long v6), none, some (.long v8), none, some (.int v10), none, none, none, none], [], (I1, L1, D1, am_rf (xt, xs, xi, 2, xu, xc))) P
    exact am_ret_v rfl rfl h
  · replace h := h.2 z
    refine am_wpb (c' := (34, [some (.ref 25), some (.int v1), some (.int v2), some (.int v3), some (.int v4), some (.int v5), some (.long v6), none, some (.long v8), none, some (.int v10), none, none, none, none], [.int v3, .ref 9], (I, L, D, am_rf (xt, xs, xi, 2, xu, xc)))) 4 rfl ?_
    obtain ⟨o, h⟩ := h
    refine am_wps (c' := (35, [some (.ref 25), some (.int v1), some (.int v2), some (.int v3), some (.int v4), some (.int v5), some (.long v6), none, some (.long v8), none, some (.int v10), none, none, none, none], [.int (I 9 (Int32.toNatClampNeg v3))], (I, L, D, am_rf (xt, xs, xi, 2, xu, xc)))) rfl rfl (am_s_iald rfl o) ?_
    refine am_wpb (c' := (43, [some (.ref 25), some (.int v1), some (.int v2), some (.int v3), some (.int v4), some (.int v5), some (.long v6), none, some (.long v8), none, some (.int v10), none, none, none, none], [.int v3, .ref 10, .int (I 9 (Int32.toNatClampNeg v3))], (I, L, D, am_rf (xt, xs, xi, 2, xu, xc)))) 4 rfl ?_
    obtain ⟨o, h⟩ := h
    refine am_wps (c' := (44, [some (.ref 25), some (.int v1), some (.int v2), some (.int v3), some (.int v4), some (.int v5), some (.long v6), none, some (.long v8), none, some (.int v10), none, none, none, none], [.int (I 10 (Int32.toNatClampNeg v3)), .int (I 9 (Int32.toNatClampNeg v3))], (I, L, D, am_rf (xt, xs, xi, 2, xu, xc)))) rfl rfl (am_s_iald rfl o) ?_
    refine am_wpb (c' := (50, [some (.ref 25), some (.int v1), some (.int v2), some (.int v3), some (.int v4), some (.int v5), some (.long v6), none, some (.long v8), none, some (.int v10), none, none, none, none], [.int (I 25 6), .int v10, .int (I 10 (Int32.toNatClampNeg v3)), .int (I 9 (Int32.toNatClampNeg v3))], (I, L, D, am_rf (xt, xs, xi, 2, xu, xc)))) 3 rfl ?_
    obtain ⟨r2, I2, L2, D2, hr, h⟩ := h
    refine am_wp_inv (as := [.int (I 9 (Int32.toNatClampNeg v3)), .int (I 10 (Int32.toNatClampNeg v3)), .int v10, .int (I 25 6)]) rfl rfl rfl rfl ⟨_, hr, ?_⟩
    show am_wp ext d mz_81 (53, [some (.ref 25), some (.int v1), some (.int v2), some (.int v3), some (.int v4), some (.int v5), some (.long v6), none, some (.long v8), none, some (.int v10), none, none, none, none], [.long r2], (I2, L2, D2, am_rf (xt, xs, xi, 2, xu, xc))) P
    refine am_wpb (c' := (63, [some (.ref 25), some (.int v1), some (.int v2), some (.int v3), some (.int v4), some (.int v5), some (.long v6), none, some (.long v8), none, some (.int v10), some (.long r2), none, none, none], [.int v3, .ref 9], (I2, L2, D2, am_rf (xt, xs, xi, 2, xu, xc)))) 5 rfl ?_
    obtain ⟨o, h⟩ := h
    refine am_wps (c' := (64, [some (.ref 25), some (.int v1), some (.int v2), some (.int v3), some (.int v4), some (.int v5), some (.long v6), none, some (.long v8), none, some (.int v10), some (.long r2), none, none, none], [.int (I2 9 (Int32.toNatClampNeg v3))], (I2, L2, D2, am_rf (xt, xs, xi, 2, xu, xc)))) rfl rfl (am_s_iald rfl o) ?_
    refine am_wpb (c' := (72, [some (.ref 25), some (.int v1), some (.int v2), some (.int v3), some (.int v4), some (.int v5), some (.long v6), none, some (.long v8), none, some (.int v10), some (.long r2), none, none, none], [.int v3, .ref 10, .int (I2 9 (Int32.toNatClampNeg v3))], (I2, L2, D2, am_rf (xt, xs, xi, 2, xu, xc)))) 4 rfl ?_
    obtain ⟨o, h⟩ := h
    refine am_wps (c' := (73, [some (.ref 25), some (.int v1), some (.int v2), some (.int v3), some (.int v4), some (.int v5), some (.long v6), none, some (.long v8), none, some (.int v10), some (.long r2), none, none, none], [.int (I2 10 (Int32.toNatClampNeg v3)), .int (I2 9 (Int32.toNatClampNeg v3))], (I2, L2, D2, am_rf (xt, xs, xi, 2, xu, xc)))) rfl rfl (am_s_iald rfl o) ?_
    refine am_wpb (c' := (81, [some (.ref 25), some (.int v1), some (.int v2), some (.int v3), some (.int v4), some (.int v5), some (.long v6), none, some (.long v8), none, some (.int v10), some (.long r2), none, none, none], [.int (I2 25 6), .int (v10 + 1), .int (I2 10 (Int32.toNatClampNeg v3)), .int (I2 9 (Int32.toNatClampNeg v3))], (I2, L2, D2, am_rf (xt, xs, xi, 2, xu, xc)))) 5 rfl ?_
    obtain ⟨r3, I3, L3, D3, hr, h⟩ := h
    refine am_wp_inv (as := [.int (I2 9 (Int32.toNatClampNeg v3)), .int (I2 10 (Int32.toNatClampNeg v3)), .int (v10 + 1), .int (I2 25 6)]) rfl rfl rfl rfl ⟨_, hr, ?_⟩
    show am_wp ext d mz_81 (84, [some (.ref 25), some (.int v1), some (.int v2), some (.int v3), some (.int v4), some (.int v5), some (.long v6), none, some (.long v8), none, some (.int v10), some (.long r2), none, none, none], [.long r3], (I3, L3, D3, am_rf (xt, xs, xi, 2, xu, xc))) P
    refine am_wpb (c' := (94, [some (.ref 25), some (.int v1), some (.int v2), some (.int v3), some (.int v4), some (.int v5), some (.long v6), none, some (.long v8), none, some (.int v10), some (.long r2), none, some (.long r3), none], [.int v4, .long r3, .long r2, .int v2, .ref 25], (I3, L3, D3, am_rf (xt, xs, xi, 2, xu, xc)))) 6 rfl ?_
    obtain ⟨I4, L4, D4, hr, h⟩ := h
    refine am_wp_inv (as := [.ref 25, .int v2, .long r2, .long r3, .int v4]) rfl rfl rfl rfl ⟨_, hr, ?_⟩
    show am_wp ext d mz_81 (97, [some (.ref 25), some (.int v1), some (.int v2), some (.int v3), some (.int v4), some (.int v5), some (.long v6), none, some (.long v8), none, some (.int v10), some (.long r2), none, some (.long r3), none], [], (I4, L4, D4, am_rf (xt, xs, xi, 2, xu, xc))) P
    refine am_wpb (c' := (98, [some (.ref 25), some (.int v1), some (.int v2), some (.int v3), some (.int v4), some (.int v5), some (.long v6), none, some (.long v8), none, some (.int v10), some (.long r2), none, some (.long r3), none], [.ref 25], (I4, L4, D4, am_rf (xt, xs, xi, 2, xu, xc)))) 1 rfl ?_
    obtain ⟨r5, I5, L5, D5, hr, h⟩ := h
    refine am_wp_inv (as := [.ref 25]) rfl rfl rfl rfl ⟨_, hr, ?_⟩
    show am_wp ext d mz_81 (101, [some (.ref 25), some (.int v1), some (.int v2), some (.int v3), some (.int v4), some (.int v5), some (.long v6), none, some (.long v8), none, some (.int v10), some (.long r2), none, some (.long r3), none], [.int r5], (I5, L5, D5, am_rf (xt, xs, xi, 2, xu, xc))) P
    refine am_b1_ne rfl (fun z => ?_) (fun z => ?_)
    · replace h := h.1 z
      refine am_wpb (c' := (113, [some (.ref 25), some (.int v1), some (.int v2), some (.int v3), some (.int v4), some (.int v5), some (.long v6), none, some (.long v8), none, some (.int v10), some (.long r2), none, some (.long r3), none], [.int 5, .int v1], (I5, L5, D5, am_rf (xt, xs, xi, 2, xu, xc)))) 2 rfl ?_
      refine am_b2_ne rfl (fun z => ?_) (fun z => ?_)
      · replace h := h.1 z
        refine am_wpb (c' := (159, [some (.ref 25), some (.int v1), some (.int v2), some (.int v3), some (.int v4), some (.int v5), some (.long v6), none, some (.long v8), none, some (.int v10), some (.long r2), none, some (.long r3), none], [.int v10], (I5, L5, D5, am_rf (xt, xs, xi, 2, xu, xc)))) 1 rfl ?_
        refine am_b1_ne rfl (fun z => ?_) (fun z => ?_)
        · replace h := h.1 z
          refine am_wpb (c' := (180, [some (.ref 25), some (.int v1), some (.int v2), some (.int v3), some (.int v4), some (.int v5), some (.long v6), none, some (.long v8), none, some (.int v10), some (.long r2), none, some (.long r3), none], [.int 6, .int v1], (I5, L5, D5, am_rf (xt, xs, xi, 2, xu, xc)))) 2 rfl ?_
          refine am_b2_ne rfl (fun z => ?_) (fun z => ?_)
          · replace h := h.1 z
            refine am_wpb (c' := (214, [some (.ref 25), some (.int v1), some (.int v2), some (.int v3), some (.int v4), some (.int v5), some (.long v6), none, some (.long v8), none, some (.int v10), some (.long r2), none, some (.long r3), none], [.long (L5 25 9), .long v6], (I5, L5, D5, am_rf (xt, xs, xi, 2, xu, xc)))) 3 rfl ?_
            obtain ⟨r6, I6, L6, D6, hr, h⟩ := h
            refine am_wp_inv (as := [.long v6, .long (L5 25 9)]) rfl rfl rfl rfl ⟨_, hr, ?_⟩
            show am_wp ext d mz_81 (217, [some (.ref 25), some (.int v1), some (.int v2), some (.int v3), some (.int v4), some (.int v5), some (.long v6), none, some (.long v8), none, some (.int v10), some (.long r2), none, some (.long r3), none], [.long r6], (I6, L6, D6, am_rf (xt, xs, xi, 2, xu, xc))) P
            refine am_wpb (c' := (225, [some (.ref 25), some (.int v1), some (.int v2), some (.int v3), some (.int v4), some (.int v5), some (.long r6), none, some (.long v8), none, some (.int v10), some (.long r2), none, some (.long r3), none], [.long (L6 25 10), .long v8], (I6, L6, D6, am_rf (xt, xs, xi, 2, xu, xc)))) 4 rfl ?_
            obtain ⟨r7, I7, L7, D7, hr, h⟩ := h
            refine am_wp_inv (as := [.long v8, .long (L6 25 10)]) rfl rfl rfl rfl ⟨_, hr, ?_⟩
            show am_wp ext d mz_81 (228, [some (.ref 25), some (.int v1), some (.int v2), some (.int v3), some (.int v4), some (.int v5), some (.long r6), none, some (.long v8), none, some (.int v10), some (.long r2), none, some (.long r3), none], [.long r7], (I7, L7, D7, am_rf (xt, xs, xi, 2, xu, xc))) P
            refine am_wpb (c' := (19, [some (.ref 25), some (.int v1), some (.int v2), some (.int v3), some (.int v4), some (.int v5), some (.long r6), none, some (.long r7), none, some (.int (v10 + 1)), some (.long r2), none, some (.long r3), none], [], (I7, L7, D7, am_rf (xt, xs, xi, 2, xu, xc)))) 3 rfl ?_
            exact am_fgt (l := [some (.ref 25), some (.int v1), some (.int v2), some (.int v3), some (.int v4), some (.int v5), some (.long r6), none, some (.long r7), none, some (.int (v10 + 1)), none, none, none, none]) (am_le_of (am_leS (am_leS (am_leS (am_leS (am_leS (am_leS (am_leS (am_leN (am_leS (am_leN (am_leS (am_leN (am_leN (am_leN (am_leN (am_leZ))))))))))))))))) h
          · replace h := h.2 z
            refine am_wpb (c' := (189, [some (.ref 25), some (.int v1), some (.int v2), some (.int v3), some (.int v4), some (.int v5), some (.long v6), none, some (.long v8), none, some (.int v10), some (.long r2), none, some (.long r3), none], [.long (L5 25 9), .long v6], (I5, L5, D5, am_rf (xt, xs, xi, 2, xu, xc)))) 3 rfl ?_
            obtain ⟨r8, I8, L8, D8, hr, h⟩ := h
            refine am_wp_inv (as := [.long v6, .long (L5 25 9)]) rfl rfl rfl rfl ⟨_, hr, ?_⟩
            show am_wp ext d mz_81 (192, [some (.ref 25), some (.int v1), some (.int v2), some (.int v3), some (.int v4), some (.int v5), some (.long v6), none, some (.long v8), none, some (.int v10), some (.long r2), none, some (.long r3), none], [.long r8], (I8, L8, D8, am_rf (xt, xs, xi, 2, xu, xc))) P
            refine am_wpb (c' := (200, [some (.ref 25), some (.int v1), some (.int v2), some (.int v3), some (.int v4), some (.int v5), some (.long r8), none, some (.long v8), none, some (.int v10), some (.long r2), none, some (.long r3), none], [.long (L8 25 10), .long v8], (I8, L8, D8, am_rf (xt, xs, xi, 2, xu, xc)))) 4 rfl ?_
            obtain ⟨r9, I9, L9, D9, hr, h⟩ := h
            refine am_wp_inv (as := [.long v8, .long (L8 25 10)]) rfl rfl rfl rfl ⟨_, hr, ?_⟩
            show am_wp ext d mz_81 (203, [some (.ref 25), some (.int v1), some (.int v2), some (.int v3), some (.int v4), some (.int v5), some (.long r8), none, some (.long v8), none, some (.int v10), some (.long r2), none, some (.long r3), none], [.long r9], (I9, L9, D9, am_rf (xt, xs, xi, 2, xu, xc))) P
            refine am_wpb (c' := (19, [some (.ref 25), some (.int v1), some (.int v2), some (.int v3), some (.int v4), some (.int v5), some (.long r8), none, some (.long r9), none, some (.int (v10 + 1)), some (.long r2), none, some (.long r3), none], [], (I9, L9, D9, am_rf (xt, xs, xi, 2, xu, xc)))) 4 rfl ?_
            exact am_fgt (l := [some (.ref 25), some (.int v1), some (.int v2), some (.int v3), some (.int v4), some (.int v5), some (.long r8), none, some (.long r9), none, some (.int (v10 + 1)), none, none, none, none]) (am_le_of (am_leS (am_leS (am_leS (am_leS (am_leS (am_leS (am_leS (am_leN (am_leS (am_leN (am_leS (am_leN (am_leN (am_leN (am_leN (am_leZ))))))))))))))))) h
        · replace h := h.2 z
          refine am_wpb (c' := (19, [some (.ref 25), some (.int v1), some (.int v2), some (.int v3), some (.int v4), some (.int v5), some (.long (L5 25 9)), none, some (.long (L5 25 10)), none, some (.int (v10 + 1)), some (.long r2), none, some (.long r3), none], [], (I5, L5, D5, am_rf (xt, xs, xi, 2, xu, xc)))) 9 rfl ?_
          exact am_fgt (l := [some (.ref 25), some (.int v1), some (.int v2), some (.int v3), some (.int v4), some (.int v5), some (.long (L5 25 9)), none, some (.long (L5 25 10)), none, some (.int (v10 + 1)), none, none, none, none]) (am_le_of (am_leS (am_leS (am_leS (am_leS (am_leS (am_leS (am_leS (am_leN (am_leS (am_leN (am_leS (am_leN (am_leN (am_leN (am_leN (am_leZ))))))))))))))))) h
      · replace h := h.2 z
        refine am_wpb (c' := (129, [some (.ref 25), some (.int v1), some (.int v2), some (.int v3), some (.int v4), some (.int v5), some (.long v6), none, some (.long v8), none, some (.int v10), some (.long r2), none, some (.long r3), none], [.long ((L5 25 9) * (r3 - r2)), .ref 25, .long v6], (I5, L5, D5, am_rf (xt, xs, xi, 2, xu, xc)))) 8 rfl ?_
        obtain ⟨r10, I10, L10, D10, hr, h⟩ := h
        refine am_wp_inv (as := [.ref 25, .long ((L5 25 9) * (r3 - r2))]) rfl rfl rfl rfl ⟨_, hr, ?_⟩
        show am_wp ext d mz_81 (132, [some (.ref 25), some (.int v1), some (.int v2), some (.int v3), some (.int v4), some (.int v5), some (.long v6), none, some (.long v8), none, some (.int v10), some (.long r2), none, some (.long r3), none], [.long r10, .long v6], (I10, L10, D10, am_rf (xt, xs, xi, 2, xu, xc))) P
        refine am_wpb (c' := (148, [some (.ref 25), some (.int v1), some (.int v2), some (.int v3), some (.int v4), some (.int v5), some (.long (v6 + r10)), none, some (.long v8), none, some (.int v10), some (.long r2), none, some (.long r3), none], [.long ((L10 25 10) * (r3 - r2)), .ref 25, .long v8], (I10, L10, D10, am_rf (xt, xs, xi, 2, xu, xc)))) 10 rfl ?_
        obtain ⟨r11, I11, L11, D11, hr, h⟩ := h
        refine am_wp_inv (as := [.ref 25, .long ((L10 25 10) * (r3 - r2))]) rfl rfl rfl rfl ⟨_, hr, ?_⟩
        show am_wp ext d mz_81 (151, [some (.ref 25), some (.int v1), some (.int v2), some (.int v3), some (.int v4), some (.int v5), some (.long (v6 + r10)), none, some (.long v8), none, some (.int v10), some (.long r2), none, some (.long r3), none], [.long r11, .long v8], (I11, L11, D11, am_rf (xt, xs, xi, 2, xu, xc))) P
        refine am_wpb (c' := (19, [some (.ref 25), some (.int v1), some (.int v2), some (.int v3), some (.int v4), some (.int v5), some (.long (v6 + r10)), none, some (.long (v8 + r11)), none, some (.int (v10 + 1)), some (.long r2), none, some (.long r3), none], [], (I11, L11, D11, am_rf (xt, xs, xi, 2, xu, xc)))) 5 rfl ?_
        exact am_fgt (l := [some (.ref 25), some (.int v1), some (.int v2), some (.int v3), some (.int v4), some (.int v5), some (.long (v6 + r10)), none, some (.long (v8 + r11)), none, some (.int (v10 + 1)), none, none, none, none]) (am_le_of (am_leS (am_leS (am_leS (am_leS (am_leS (am_leS (am_leS (am_leN (am_leS (am_leN (am_leS (am_leN (am_leN (am_leN (am_leN (am_leZ))))))))))))))))) h
    · replace h := h.2 z
      refine am_wpb (c' := (107, [some (.ref 25), some (.int v1), some (.int v2), some (.int v3), some (.int v4), some (.int v5), some (.long v6), none, some (.long v8), none, some (.int v10), some (.long r2), none, some (.long r3), none], [.long 0, .long 1, .ref 25], (I5, L5, D5, am_rf (xt, xs, xi, 2, xu, xc)))) 3 rfl ?_
      obtain ⟨I12, L12, D12, hr, h⟩ := h
      refine am_wp_inv (as := [.ref 25, .long 1, .long 0]) rfl rfl rfl rfl ⟨_, hr, ?_⟩
      show am_wp ext d mz_81 (110, [some (.ref 25), some (.int v1), some (.int v2), some (.int v3), some (.int v4), some (.int v5), some (.long v6), none, some (.long v8), none, some (.int v10), some (.long r2), none, some (.long r3), none], [], (I12, L12, D12, am_rf (xt, xs, xi, 2, xu, xc))) P
      exact am_ret_v rfl rfl h
/-- SureSums$Spans.pieceEnd(IIII)J -/
def mz_82 : am_Y := (fun pc => am_q82.lookup pc, 6, 3)
theorem mh_82 : am_Ys 82 = some mz_82 := rfl
theorem w82_0 {ext : Nat → List Value → am_M → Option am_R} {d : Nat} {P : am_R → Prop} (I : Nat → Nat → Int32) (L : Nat → Nat → Int64) (D : Nat → Nat → UInt64) (X : am_Rf) (v0 : Int32) (v1 : Int32) (v2 : Int32) (v3 : Int32)
    (h : P (some (.long (((Int32.toInt64 v0) <<< ((Int32.toInt64 v3) &&& 63)) + ((((Int32.toInt64 (v1 - v0)) * (Int32.toInt64 v2)) <<< ((Int32.toInt64 v3) &&& 63)) >>> ((Int32.toInt64 (v3 / 4)) &&& 63)))), (I, L, D, am_rf X))) : am_wp ext d mz_82 (0, [some (.int v0), some (.int v1), some (.int v2), some (.int v3), none, none], [], (I, L, D, am_rf X)) P := by
  refine am_wpb (c' := (11, [some (.int v0), some (.int v1), some (.int v2), some (.int v3), none, none], [.int 4, .int v3, .long (((Int32.toInt64 (v1 - v0)) * (Int32.toInt64 v2)) <<< ((Int32.toInt64 v3) &&& 63))], (I, L, D, am_rf X))) 11 rfl ?_
  refine am_wps (c' := (12, [some (.int v0), some (.int v1), some (.int v2), some (.int v3), none, none], [.int (v3 / 4), .long (((Int32.toInt64 (v1 - v0)) * (Int32.toInt64 v2)) <<< ((Int32.toInt64 v3) &&& 63))], (I, L, D, am_rf X))) rfl rfl (am_s_idiv (by decide)) ?_
  refine am_wpb (c' := (22, [some (.int v0), some (.int v1), some (.int v2), some (.int v3), some (.long ((((Int32.toInt64 (v1 - v0)) * (Int32.toInt64 v2)) <<< ((Int32.toInt64 v3) &&& 63)) >>> ((Int32.toInt64 (v3 / 4)) &&& 63))), none], [.long (((Int32.toInt64 v0) <<< ((Int32.toInt64 v3) &&& 63)) + ((((Int32.toInt64 (v1 - v0)) * (Int32.toInt64 v2)) <<< ((Int32.toInt64 v3) &&& 63)) >>> ((Int32.toInt64 (v3 / 4)) &&& 63)))], (I, L, D, am_rf X))) 8 rfl ?_
  exact am_ret_l rfl rfl h
/-- SureSums$Tokens.cut([II)V -/
def mz_83 : am_Y := (fun pc => am_q83.lookup pc, 6, 0)
theorem mh_83 : am_Ys 83 = some mz_83 := rfl
theorem w83_0 {ext : Nat → List Value → am_M → Option am_R} {d : Nat} {P : am_R → Prop} (I : Nat → Nat → Int32) (L : Nat → Nat → Int64) (D : Nat → Nat → UInt64) (X : am_Rf) (v2 : Int32)
    (h : am_wp ext d mz_83 (10, [some (.ref 21), some (.ref 1), some (.int v2), some (.int 0), some (.int 0), none], [], (am_uI I 21 3 0, L, D, am_rf X)) P) : am_wp ext d mz_83 (0, [some (.ref 21), some (.ref 1), some (.int v2), none, none, none], [], (I, L, D, am_rf X)) P := by
  refine am_wpb (c' := (10, [some (.ref 21), some (.ref 1), some (.int v2), some (.int 0), some (.int 0), none], [], (am_uI I 21 3 0, L, D, am_rf X))) 7 rfl ?_
  exact h
theorem w83_10 {ext : Nat → List Value → am_M → Option am_R} {d : Nat} {P : am_R → Prop} (I : Nat → Nat → Int32) (L : Nat → Nat → Int64) (D : Nat → Nat → UInt64) (X : am_Rf) (v2 : Int32) (v3 : Int32) (v4 : Int32)
    (h : ((v2 ≤ v4 → (∃ (I1 : Nat → Nat → Int32) (L1 : Nat → Nat → Int64) (D1 : Nat → Nat → UInt64), am_Rn ext d 84 [.ref 21, .int 0, .int v2, .int 0] (I, L, D, am_rf X) (none, (I1, L1, D1, am_rf X)) ∧ (P (none, (I1, L1, D1, am_rf X))))) ∧ (¬ v2 ≤ v4 → (((v2 ≤ v3 → (∃ (I2 : Nat → Nat → Int32) (L2 : Nat → Nat → Int64) (D2 : Nat → Nat → UInt64), am_Rn ext d 84 [.ref 21, .int 0, .int v2, .int 0] (I, L, D, am_rf X) (none, (I2, L2, D2, am_rf X)) ∧ (P (none, (I2, L2, D2, am_rf X))))) ∧ (¬ v2 ≤ v3 → (∃ (r3 : Int32) (I3 : Nat → Nat → Int32) (L3 : Nat → Nat → Int64) (D3 : Nat → Nat → UInt64), am_Rn ext d 88 [.ref 1, .int v3] (I, L, D, am_rf X) (some (.int r3), (I3, L3, D3, am_rf X)) ∧ (((r3 = 32 → (am_wp ext d mz_83 (10, [some (.ref 21), some (.ref 1), some (.int v2), some (.int (v3 + 1)), some (.int (v4 + 1)), none], [], (I3, L3, D3, am_rf X)) P)) ∧ (¬ r3 = 32 → (((¬ r3 = 10 → (∃ (r4 : Int32) (I4 : Nat → Nat → Int32) (L4 : Nat → Nat → Int64) (D4 : Nat → Nat → UInt64), am_Rn ext d 89 [.int r3] (I3, L3, D3, am_rf X) (some (.int r4), (I4, L4, D4, am_rf X)) ∧ (((r4 = 0 → (∃ (r5 : Int32) (I5 : Nat → Nat → Int32) (L5 : Nat → Nat → Int64) (D5 : Nat → Nat → UInt64), am_Rn ext d 90 [.int r3] (I4, L4, D4, am_rf X) (some (.int r5), (I5, L5, D5, am_rf X)) ∧ (((r5 = 0 → (∃ (r6 : Int32) (I6 : Nat → Nat → Int32) (L6 : Nat → Nat → Int64) (D6 : Nat → Nat → UInt64), am_Rn ext d 91 [.int r3] (I5, L5, D5, am_rf X) (some (.int r6), (I6, L6, D6, am_rf X)) ∧ (((r6 = 0 → (∃ (I7 : Nat → Nat → Int32) (L7 : Nat → Nat → Int64) (D7 : Nat → Nat → UInt64), am_Rn ext d 84 [.ref 21, .int 1, .int v3, .int 0] (I6, L6, D6, am_rf X) (none, (I7, L7, D7, am_rf X)) ∧ (am_wp ext d mz_83 (10, [some (.ref 21), some (.ref 1), some (.int v2), some (.int (v3 + 1)), some (.int (v4 + 1)), none], [], (I7, L7, D7, am_rf X)) P))) ∧ (¬ r6 = 0 → (∃ (I8 : Nat → Nat → Int32) (L8 : Nat → Nat → Int64) (D8 : Nat → Nat → UInt64), am_Rn ext d 84 [.ref 21, .int r3, .int v3, .int 0] (I6, L6, D6, am_rf X) (none, (I8, L8, D8, am_rf X)) ∧ (am_wp ext d mz_83 (10, [some (.ref 21), some (.ref 1), some (.int v2), some (.int (v3 + 1)), some (.int (v4 + 1)), none], [], (I8, L8, D8, am_rf X)) P))))))) ∧ (¬ r5 = 0 → (∃ (r9 : Int32) (I9 : Nat → Nat → Int32) (L9 : Nat → Nat → Int64) (D9 : Nat → Nat → UInt64), am_Rn ext d 86 [.ref 21, .ref 1, .int v3, .int v2] (I5, L5, D5, am_rf X) (some (.int r9), (I9, L9, D9, am_rf X)) ∧ (am_wp ext d mz_83 (10, [some (.ref 21), some (.ref 1), some (.int v2), some (.int r9), some (.int (v4 + 1)), none], [], (I9, L9, D9, am_rf X)) P))))))) ∧ (¬ r4 = 0 → (∃ (r10 : Int32) (I10 : Nat → Nat → Int32) (L10 : Nat → Nat → Int64) (D10 : Nat → Nat → UInt64), am_Rn ext d 85 [.ref 21, .ref 1, .int v3, .int v2] (I4, L4, D4, am_rf X) (some (.int r10), (I10, L10, D10, am_rf X)) ∧ (am_wp ext d mz_83 (10, [some (.ref 21), some (.ref 1), some (.int v2), some (.int r10), some (.int (v4 + 1)), none], [], (I10, L10, D10, am_rf X)) P))))))) ∧ (r3 = 10 → (am_wp ext d mz_83 (10, [some (.ref 21), some (.ref 1), some (.int v2), some (.int (v3 + 1)), some (.int (v4 + 1)), none], [], (I3, L3, D3, am_rf X)) P)))))))))))))) : am_wp ext d mz_83 (10, [some (.ref 21), some (.ref 1), some (.int v2), some (.int v3), some (.int v4), none], [], (I, L, D, am_rf X)) P := by
  refine am_wpb (c' := (13, [some (.ref 21), some (.ref 1), some (.int v2), some (.int v3), some (.int v4), none], [.int v2, .int v4], (I, L, D, am_rf X))) 2 rfl ?_
  refine am_b2_ge rfl (fun z => ?_) (fun z => ?_)
  · replace h := h.1 z
    refine am_wpb (c' := (119, [some (.ref 21), some (.ref 1), some (.int v2), some (.int v3), some (.int v4), none], [.int 0, .int v2, .int 0, .ref 21], (I, L, D, am_rf X))) 4 rfl ?_
    obtain ⟨I1, L1, D1, hr, h⟩ := h
    refine am_wp_inv (as := [.ref 21, .int 0, .int v2, .int 0]) rfl rfl rfl rfl ⟨_, hr, ?_⟩
    show am_wp ext d mz_83 (122, [some (.ref 21), some (.ref 1), some (.int v2), some (.int v3), some (.int v4), none], [], (I1, L1, D1, am_rf X)) P
    exact am_ret_v rfl rfl h
  · replace h := h.2 z
    refine am_wpb (c' := (18, [some (.ref 21), some (.ref 1), some (.int v2), some (.int v3), some (.int v4), none], [.int v2, .int v3], (I, L, D, am_rf X))) 2 rfl ?_
    refine am_b2_ge rfl (fun z => ?_) (fun z => ?_)
    · replace h := h.1 z
      refine am_wpb (c' := (119, [some (.ref 21), some (.ref 1), some (.int v2), some (.int v3), some (.int v4), none], [.int 0, .int v2, .int 0, .ref 21], (I, L, D, am_rf X))) 4 rfl ?_
      obtain ⟨I2, L2, D2, hr, h⟩ := h
      refine am_wp_inv (as := [.ref 21, .int 0, .int v2, .int 0]) rfl rfl rfl rfl ⟨_, hr, ?_⟩
      show am_wp ext d mz_83 (122, [some (.ref 21), some (.ref 1), some (.int v2), some (.int v3), some (.int v4), none], [], (I2, L2, D2, am_rf X)) P
      exact am_ret_v rfl rfl h
    · replace h := h.2 z
      refine am_wpb (c' := (23, [some (.ref 21), some (.ref 1), some (.int v2), some (.int v3), some (.int v4), none], [.int v3, .ref 1], (I, L, D, am_rf X))) 2 rfl ?_
      obtain ⟨r3, I3, L3, D3, hr, h⟩ := h
      refine am_wp_inv (as := [.ref 1, .int v3]) rfl rfl rfl rfl ⟨_, hr, ?_⟩
      show am_wp ext d mz_83 (26, [some (.ref 21), some (.ref 1), some (.int v2), some (.int v3), some (.int v4), none], [.int r3], (I3, L3, D3, am_rf X)) P
      refine am_wpb (c' := (32, [some (.ref 21), some (.ref 1), some (.int v2), some (.int v3), some (.int v4), some (.int r3)], [.int 32, .int r3], (I3, L3, D3, am_rf X))) 3 rfl ?_
      refine am_b2_eq rfl (fun z => ?_) (fun z => ?_)
      · replace h := h.1 z
        refine am_wpb (c' := (10, [some (.ref 21), some (.ref 1), some (.int v2), some (.int (v3 + 1)), some (.int (v4 + 1)), some (.int r3)], [], (I3, L3, D3, am_rf X))) 4 rfl ?_
        exact am_fgt (l := [some (.ref 21), some (.ref 1), some (.int v2), some (.int (v3 + 1)), some (.int (v4 + 1)), none]) (am_le_of (am_leS (am_leS (am_leS (am_leS (am_leS (am_leN (am_leZ)))))))) h
      · replace h := h.2 z
        refine am_wpb (c' := (39, [some (.ref 21), some (.ref 1), some (.int v2), some (.int v3), some (.int v4), some (.int r3)], [.int 10, .int r3], (I3, L3, D3, am_rf X))) 2 rfl ?_
        refine am_b2_ne rfl (fun z => ?_) (fun z => ?_)
        · replace h := h.1 z
          refine am_wpb (c' := (50, [some (.ref 21), some (.ref 1), some (.int v2), some (.int v3), some (.int v4), some (.int r3)], [.int r3], (I3, L3, D3, am_rf X))) 1 rfl ?_
          obtain ⟨r4, I4, L4, D4, hr, h⟩ := h
          refine am_wp_inv (as := [.int r3]) rfl rfl rfl rfl ⟨_, hr, ?_⟩
          show am_wp ext d mz_83 (53, [some (.ref 21), some (.ref 1), some (.int v2), some (.int v3), some (.int v4), some (.int r3)], [.int r4], (I4, L4, D4, am_rf X)) P
          refine am_b1_eq rfl (fun z => ?_) (fun z => ?_)
          · replace h := h.1 z
            refine am_wpb (c' := (69, [some (.ref 21), some (.ref 1), some (.int v2), some (.int v3), some (.int v4), some (.int r3)], [.int r3], (I4, L4, D4, am_rf X))) 1 rfl ?_
            obtain ⟨r5, I5, L5, D5, hr, h⟩ := h
            refine am_wp_inv (as := [.int r3]) rfl rfl rfl rfl ⟨_, hr, ?_⟩
            show am_wp ext d mz_83 (72, [some (.ref 21), some (.ref 1), some (.int v2), some (.int v3), some (.int v4), some (.int r3)], [.int r5], (I5, L5, D5, am_rf X)) P
            refine am_b1_eq rfl (fun z => ?_) (fun z => ?_)
            · replace h := h.1 z
              refine am_wpb (c' := (89, [some (.ref 21), some (.ref 1), some (.int v2), some (.int v3), some (.int v4), some (.int r3)], [.int r3, .ref 21], (I5, L5, D5, am_rf X))) 2 rfl ?_
              obtain ⟨r6, I6, L6, D6, hr, h⟩ := h
              refine am_wp_inv (as := [.int r3]) rfl rfl rfl rfl ⟨_, hr, ?_⟩
              show am_wp ext d mz_83 (92, [some (.ref 21), some (.ref 1), some (.int v2), some (.int v3), some (.int v4), some (.int r3)], [.int r6, .ref 21], (I6, L6, D6, am_rf X)) P
              refine am_b1_eq rfl (fun z => ?_) (fun z => ?_)
              · replace h := h.1 z
                refine am_wpb (c' := (103, [some (.ref 21), some (.ref 1), some (.int v2), some (.int v3), some (.int v4), some (.int r3)], [.int 0, .int v3, .int 1, .ref 21], (I6, L6, D6, am_rf X))) 3 rfl ?_
                obtain ⟨I7, L7, D7, hr, h⟩ := h
                refine am_wp_inv (as := [.ref 21, .int 1, .int v3, .int 0]) rfl rfl rfl rfl ⟨_, hr, ?_⟩
                show am_wp ext d mz_83 (106, [some (.ref 21), some (.ref 1), some (.int v2), some (.int v3), some (.int v4), some (.int r3)], [], (I7, L7, D7, am_rf X)) P
                refine am_wpb (c' := (10, [some (.ref 21), some (.ref 1), some (.int v2), some (.int (v3 + 1)), some (.int (v4 + 1)), some (.int r3)], [], (I7, L7, D7, am_rf X))) 3 rfl ?_
                exact am_fgt (l := [some (.ref 21), some (.ref 1), some (.int v2), some (.int (v3 + 1)), some (.int (v4 + 1)), none]) (am_le_of (am_leS (am_leS (am_leS (am_leS (am_leS (am_leN (am_leZ)))))))) h
              · replace h := h.2 z
                refine am_wpb (c' := (103, [some (.ref 21), some (.ref 1), some (.int v2), some (.int v3), some (.int v4), some (.int r3)], [.int 0, .int v3, .int r3, .ref 21], (I6, L6, D6, am_rf X))) 4 rfl ?_
                obtain ⟨I8, L8, D8, hr, h⟩ := h
                refine am_wp_inv (as := [.ref 21, .int r3, .int v3, .int 0]) rfl rfl rfl rfl ⟨_, hr, ?_⟩
                show am_wp ext d mz_83 (106, [some (.ref 21), some (.ref 1), some (.int v2), some (.int v3), some (.int v4), some (.int r3)], [], (I8, L8, D8, am_rf X)) P
                refine am_wpb (c' := (10, [some (.ref 21), some (.ref 1), some (.int v2), some (.int (v3 + 1)), some (.int (v4 + 1)), some (.int r3)], [], (I8, L8, D8, am_rf X))) 3 rfl ?_
                exact am_fgt (l := [some (.ref 21), some (.ref 1), some (.int v2), some (.int (v3 + 1)), some (.int (v4 + 1)), none]) (am_le_of (am_leS (am_leS (am_leS (am_leS (am_leS (am_leN (am_leZ)))))))) h
            · replace h := h.2 z
              refine am_wpb (c' := (79, [some (.ref 21), some (.ref 1), some (.int v2), some (.int v3), some (.int v4), some (.int r3)], [.int v2, .int v3, .ref 1, .ref 21], (I5, L5, D5, am_rf X))) 4 rfl ?_
              obtain ⟨r9, I9, L9, D9, hr, h⟩ := h
              refine am_wp_inv (as := [.ref 21, .ref 1, .int v3, .int v2]) rfl rfl rfl rfl ⟨_, hr, ?_⟩
              show am_wp ext d mz_83 (82, [some (.ref 21), some (.ref 1), some (.int v2), some (.int v3), some (.int v4), some (.int r3)], [.int r9], (I9, L9, D9, am_rf X)) P
              refine am_wpb (c' := (10, [some (.ref 21), some (.ref 1), some (.int v2), some (.int r9), some (.int (v4 + 1)), some (.int r3)], [], (I9, L9, D9, am_rf X))) 4 rfl ?_
              exact am_fgt (l := [some (.ref 21), some (.ref 1), some (.int v2), some (.int r9), some (.int (v4 + 1)), none]) (am_le_of (am_leS (am_leS (am_leS (am_leS (am_leS (am_leN (am_leZ)))))))) h
          · replace h := h.2 z
            refine am_wpb (c' := (60, [some (.ref 21), some (.ref 1), some (.int v2), some (.int v3), some (.int v4), some (.int r3)], [.int v2, .int v3, .ref 1, .ref 21], (I4, L4, D4, am_rf X))) 4 rfl ?_
            obtain ⟨r10, I10, L10, D10, hr, h⟩ := h
            refine am_wp_inv (as := [.ref 21, .ref 1, .int v3, .int v2]) rfl rfl rfl rfl ⟨_, hr, ?_⟩
            show am_wp ext d mz_83 (63, [some (.ref 21), some (.ref 1), some (.int v2), some (.int v3), some (.int v4), some (.int r3)], [.int r10], (I10, L10, D10, am_rf X)) P
            refine am_wpb (c' := (10, [some (.ref 21), some (.ref 1), some (.int v2), some (.int r10), some (.int (v4 + 1)), some (.int r3)], [], (I10, L10, D10, am_rf X))) 4 rfl ?_
            exact am_fgt (l := [some (.ref 21), some (.ref 1), some (.int v2), some (.int r10), some (.int (v4 + 1)), none]) (am_le_of (am_leS (am_leS (am_leS (am_leS (am_leS (am_leN (am_leZ)))))))) h
        · replace h := h.2 z
          refine am_wpb (c' := (10, [some (.ref 21), some (.ref 1), some (.int v2), some (.int (v3 + 1)), some (.int (v4 + 1)), some (.int r3)], [], (I3, L3, D3, am_rf X))) 4 rfl ?_
          exact am_fgt (l := [some (.ref 21), some (.ref 1), some (.int v2), some (.int (v3 + 1)), some (.int (v4 + 1)), none]) (am_le_of (am_leS (am_leS (am_leS (am_leS (am_leS (am_leN (am_leZ)))))))) h
/-- SureSums$Tokens.add(III)V -/
def mz_84 : am_Y := (fun pc => am_q84.lookup pc, 4, 0)
theorem mh_84 : am_Ys 84 = some mz_84 := rfl
theorem w84_0 {ext : Nat → List Value → am_M → Option am_R} {d : Nat} {P : am_R → Prop} (I : Nat → Nat → Int32) (L : Nat → Nat → Int64) (D : Nat → Nat → UInt64) (X : am_Rf) (v1 : Int32) (v2 : Int32) (v3 : Int32)
    (h : ((500 < (I 21 3) → (P (none, (I, L, D, am_rf X)))) ∧ (¬ 500 < (I 21 3) → (am_inb (I 21 3) 501 = true ∧ (am_inb (I 21 3) 501 = true ∧ (am_inb (I 21 3) 501 = true ∧ (P (none, (am_uI (am_uI (am_uI (am_uI I 22 (Int32.toNatClampNeg (I 21 3)) v1) 23 (Int32.toNatClampNeg (I 21 3)) v2) 24 (Int32.toNatClampNeg (I 21 3)) v3) 21 3 ((I 21 3) + 1), L, D, am_rf X))))))))) : am_wp ext d mz_84 (0, [some (.ref 21), some (.int v1), some (.int v2), some (.int v3)], [], (I, L, D, am_rf X)) P := by
  refine am_wpb (c' := (7, [some (.ref 21), some (.int v1), some (.int v2), some (.int v3)], [.int 500, .int (I 21 3)], (I, L, D, am_rf X))) 3 rfl ?_
  refine am_b2_gt rfl (fun z => ?_) (fun z => ?_)
  · replace h := h.1 z
    exact am_ret_v rfl rfl h
  · replace h := h.2 z
    refine am_wpb (c' := (19, [some (.ref 21), some (.int v1), some (.int v2), some (.int v3)], [.int v1, .int (I 21 3), .ref 22], (I, L, D, am_rf X))) 5 rfl ?_
    obtain ⟨o, h⟩ := h
    refine am_wps (c' := (20, [some (.ref 21), some (.int v1), some (.int v2), some (.int v3)], [], (am_uI I 22 (Int32.toNatClampNeg (I 21 3)) v1, L, D, am_rf X))) rfl rfl (am_s_iast rfl o) ?_
    refine am_wpb (c' := (29, [some (.ref 21), some (.int v1), some (.int v2), some (.int v3)], [.int v2, .int (I 21 3), .ref 23], (am_uI I 22 (Int32.toNatClampNeg (I 21 3)) v1, L, D, am_rf X))) 5 rfl ?_
    obtain ⟨o, h⟩ := h
    refine am_wps (c' := (30, [some (.ref 21), some (.int v1), some (.int v2), some (.int v3)], [], (am_uI (am_uI I 22 (Int32.toNatClampNeg (I 21 3)) v1) 23 (Int32.toNatClampNeg (I 21 3)) v2, L, D, am_rf X))) rfl rfl (am_s_iast rfl o) ?_
    refine am_wpb (c' := (39, [some (.ref 21), some (.int v1), some (.int v2), some (.int v3)], [.int v3, .int (I 21 3), .ref 24], (am_uI (am_uI I 22 (Int32.toNatClampNeg (I 21 3)) v1) 23 (Int32.toNatClampNeg (I 21 3)) v2, L, D, am_rf X))) 5 rfl ?_
    obtain ⟨o, h⟩ := h
    refine am_wps (c' := (40, [some (.ref 21), some (.int v1), some (.int v2), some (.int v3)], [], (am_uI (am_uI (am_uI I 22 (Int32.toNatClampNeg (I 21 3)) v1) 23 (Int32.toNatClampNeg (I 21 3)) v2) 24 (Int32.toNatClampNeg (I 21 3)) v3, L, D, am_rf X))) rfl rfl (am_s_iast rfl o) ?_
    refine am_wpb (c' := (50, [some (.ref 21), some (.int v1), some (.int v2), some (.int v3)], [], (am_uI (am_uI (am_uI (am_uI I 22 (Int32.toNatClampNeg (I 21 3)) v1) 23 (Int32.toNatClampNeg (I 21 3)) v2) 24 (Int32.toNatClampNeg (I 21 3)) v3) 21 3 ((I 21 3) + 1), L, D, am_rf X))) 6 rfl ?_
    exact am_ret_v rfl rfl h
/-- SureSums$Tokens.takeNumber([III)I -/
def mz_85 : am_Y := (fun pc => am_q85.lookup pc, 6, 1)
theorem mh_85 : am_Ys 85 = some mz_85 := rfl
theorem w85_0 {ext : Nat → List Value → am_M → Option am_R} {d : Nat} {P : am_R → Prop} (I : Nat → Nat → Int32) (L : Nat → Nat → Int64) (D : Nat → Nat → UInt64) (X : am_Rf) (v2 : Int32) (v3 : Int32)
    (h : am_wp ext d mz_85 (6, [some (.ref 21), some (.ref 1), some (.int v2), some (.int v3), some (.int 0), some (.int v2)], [], (I, L, D, am_rf X)) P) : am_wp ext d mz_85 (0, [some (.ref 21), some (.ref 1), some (.int v2), some (.int v3), none, none], [], (I, L, D, am_rf X)) P := by
  refine am_wpb (c' := (6, [some (.ref 21), some (.ref 1), some (.int v2), some (.int v3), some (.int 0), some (.int v2)], [], (I, L, D, am_rf X))) 4 rfl ?_
  exact h
theorem w85_6 {ext : Nat → List Value → am_M → Option am_R} {d : Nat} {P : am_R → Prop} (I : Nat → Nat → Int32) (L : Nat → Nat → Int64) (D : Nat → Nat → UInt64) (X : am_Rf) (v2 : Int32) (v3 : Int32) (v4 : Int32) (v5 : Int32)
    (h : ((v3 ≤ v5 → (∃ (I1 : Nat → Nat → Int32) (L1 : Nat → Nat → Int64) (D1 : Nat → Nat → UInt64), am_Rn ext d 84 [.ref 21, .int 2, .int v2, .int v4] (I, L, D, am_rf X) (none, (I1, L1, D1, am_rf X)) ∧ (P (some (.int v5), (I1, L1, D1, am_rf X))))) ∧ (¬ v3 ≤ v5 → (∃ (r2 : Int32) (I2 : Nat → Nat → Int32) (L2 : Nat → Nat → Int64) (D2 : Nat → Nat → UInt64), am_Rn ext d 88 [.ref 1, .int v5] (I, L, D, am_rf X) (some (.int r2), (I2, L2, D2, am_rf X)) ∧ (∃ (r3 : Int32) (I3 : Nat → Nat → Int32) (L3 : Nat → Nat → Int64) (D3 : Nat → Nat → UInt64), am_Rn ext d 89 [.int r2] (I2, L2, D2, am_rf X) (some (.int r3), (I3, L3, D3, am_rf X)) ∧ (((r3 = 0 → (∃ (I4 : Nat → Nat → Int32) (L4 : Nat → Nat → Int64) (D4 : Nat → Nat → UInt64), am_Rn ext d 84 [.ref 21, .int 2, .int v2, .int v4] (I3, L3, D3, am_rf X) (none, (I4, L4, D4, am_rf X)) ∧ (P (some (.int v5), (I4, L4, D4, am_rf X))))) ∧ (¬ r3 = 0 → (∃ (r5 : Int32) (I5 : Nat → Nat → Int32) (L5 : Nat → Nat → Int64) (D5 : Nat → Nat → UInt64), am_Rn ext d 88 [.ref 1, .int v5] (I3, L3, D3, am_rf X) (some (.int r5), (I5, L5, D5, am_rf X)) ∧ (∃ (r6 : Int32) (I6 : Nat → Nat → Int32) (L6 : Nat → Nat → Int64) (D6 : Nat → Nat → UInt64), am_Rn ext d 202 [.int (((v4 * 10) + r5) - 48), .int 1000] (I5, L5, D5, am_rf X) (some (.int r6), (I6, L6, D6, am_rf X)) ∧ (am_wp ext d mz_85 (6, [some (.ref 21), some (.ref 1), some (.int v2), some (.int v3), some (.int r6), some (.int (v5 + 1))], [], (I6, L6, D6, am_rf X)) P))))))))))) : am_wp ext d mz_85 (6, [some (.ref 21), some (.ref 1), some (.int v2), some (.int v3), some (.int v4), some (.int v5)], [], (I, L, D, am_rf X)) P := by
  refine am_wpb (c' := (9, [some (.ref 21), some (.ref 1), some (.int v2), some (.int v3), some (.int v4), some (.int v5)], [.int v3, .int v5], (I, L, D, am_rf X))) 2 rfl ?_
  refine am_b2_ge rfl (fun z => ?_) (fun z => ?_)
  · replace h := h.1 z
    refine am_wpb (c' := (58, [some (.ref 21), some (.ref 1), some (.int v2), some (.int v3), some (.int v4), some (.int v5)], [.int v4, .int v2, .int 2, .ref 21], (I, L, D, am_rf X))) 4 rfl ?_
    obtain ⟨I1, L1, D1, hr, h⟩ := h
    refine am_wp_inv (as := [.ref 21, .int 2, .int v2, .int v4]) rfl rfl rfl rfl ⟨_, hr, ?_⟩
    show am_wp ext d mz_85 (61, [some (.ref 21), some (.ref 1), some (.int v2), some (.int v3), some (.int v4), some (.int v5)], [], (I1, L1, D1, am_rf X)) P
    refine am_wpb (c' := (63, [some (.ref 21), some (.ref 1), some (.int v2), some (.int v3), some (.int v4), some (.int v5)], [.int v5], (I1, L1, D1, am_rf X))) 1 rfl ?_
    exact am_ret_i rfl rfl h
  · replace h := h.2 z
    refine am_wpb (c' := (15, [some (.ref 21), some (.ref 1), some (.int v2), some (.int v3), some (.int v4), some (.int v5)], [.int v5, .ref 1], (I, L, D, am_rf X))) 2 rfl ?_
    obtain ⟨r2, I2, L2, D2, hr, h⟩ := h
    refine am_wp_inv (as := [.ref 1, .int v5]) rfl rfl rfl rfl ⟨_, hr, ?_⟩
    show am_wp ext d mz_85 (18, [some (.ref 21), some (.ref 1), some (.int v2), some (.int v3), some (.int v4), some (.int v5)], [.int r2], (I2, L2, D2, am_rf X)) P
    obtain ⟨r3, I3, L3, D3, hr, h⟩ := h
    refine am_wp_inv (as := [.int r2]) rfl rfl rfl rfl ⟨_, hr, ?_⟩
    show am_wp ext d mz_85 (21, [some (.ref 21), some (.ref 1), some (.int v2), some (.int v3), some (.int v4), some (.int v5)], [.int r3], (I3, L3, D3, am_rf X)) P
    refine am_b1_eq rfl (fun z => ?_) (fun z => ?_)
    · replace h := h.1 z
      refine am_wpb (c' := (58, [some (.ref 21), some (.ref 1), some (.int v2), some (.int v3), some (.int v4), some (.int v5)], [.int v4, .int v2, .int 2, .ref 21], (I3, L3, D3, am_rf X))) 4 rfl ?_
      obtain ⟨I4, L4, D4, hr, h⟩ := h
      refine am_wp_inv (as := [.ref 21, .int 2, .int v2, .int v4]) rfl rfl rfl rfl ⟨_, hr, ?_⟩
      show am_wp ext d mz_85 (61, [some (.ref 21), some (.ref 1), some (.int v2), some (.int v3), some (.int v4), some (.int v5)], [], (I4, L4, D4, am_rf X)) P
      refine am_wpb (c' := (63, [some (.ref 21), some (.ref 1), some (.int v2), some (.int v3), some (.int v4), some (.int v5)], [.int v5], (I4, L4, D4, am_rf X))) 1 rfl ?_
      exact am_ret_i rfl rfl h
    · replace h := h.2 z
      refine am_wpb (c' := (32, [some (.ref 21), some (.ref 1), some (.int v2), some (.int v3), some (.int v4), some (.int v5)], [.int v5, .ref 1, .int (v4 * 10)], (I3, L3, D3, am_rf X))) 5 rfl ?_
      obtain ⟨r5, I5, L5, D5, hr, h⟩ := h
      refine am_wp_inv (as := [.ref 1, .int v5]) rfl rfl rfl rfl ⟨_, hr, ?_⟩
      show am_wp ext d mz_85 (35, [some (.ref 21), some (.ref 1), some (.int v2), some (.int v3), some (.int v4), some (.int v5)], [.int r5, .int (v4 * 10)], (I5, L5, D5, am_rf X)) P
      refine am_wpb (c' := (42, [some (.ref 21), some (.ref 1), some (.int v2), some (.int v3), some (.int v4), some (.int v5)], [.int 1000, .int (((v4 * 10) + r5) - 48)], (I5, L5, D5, am_rf X))) 4 rfl ?_
      obtain ⟨r6, I6, L6, D6, hr, h⟩ := h
      refine am_wp_inv (as := [.int (((v4 * 10) + r5) - 48), .int 1000]) rfl rfl rfl rfl ⟨_, hr, ?_⟩
      show am_wp ext d mz_85 (45, [some (.ref 21), some (.ref 1), some (.int v2), some (.int v3), some (.int v4), some (.int v5)], [.int r6], (I6, L6, D6, am_rf X)) P
      refine am_wpb (c' := (6, [some (.ref 21), some (.ref 1), some (.int v2), some (.int v3), some (.int r6), some (.int (v5 + 1))], [], (I6, L6, D6, am_rf X))) 3 rfl ?_
      exact h
/-- SureSums$Tokens.takeWord([III)I -/
def mz_86 : am_Y := (fun pc => am_q86.lookup pc, 5, 1)
theorem mh_86 : am_Ys 86 = some mz_86 := rfl
theorem w86_0 {ext : Nat → List Value → am_M → Option am_R} {d : Nat} {P : am_R → Prop} (I : Nat → Nat → Int32) (L : Nat → Nat → Int64) (D : Nat → Nat → UInt64) (X : am_Rf) (v2 : Int32) (v3 : Int32)
    (h : am_wp ext d mz_86 (3, [some (.ref 21), some (.ref 1), some (.int v2), some (.int v3), some (.int v2)], [], (I, L, D, am_rf X)) P) : am_wp ext d mz_86 (0, [some (.ref 21), some (.ref 1), some (.int v2), some (.int v3), none], [], (I, L, D, am_rf X)) P := by
  refine am_wpb (c' := (3, [some (.ref 21), some (.ref 1), some (.int v2), some (.int v3), some (.int v2)], [], (I, L, D, am_rf X))) 2 rfl ?_
  exact h
theorem w86_3 {ext : Nat → List Value → am_M → Option am_R} {d : Nat} {P : am_R → Prop} (I : Nat → Nat → Int32) (L : Nat → Nat → Int64) (D : Nat → Nat → UInt64) (X : am_Rf) (v2 : Int32) (v3 : Int32) (v4 : Int32)
    (h : ((v3 ≤ v4 → (am_wp ext d mz_86 (27, [some (.ref 21), some (.ref 1), some (.int v2), none, some (.int v4)], [], (I, L, D, am_rf X)) P)) ∧ (¬ v3 ≤ v4 → (∃ (r1 : Int32) (I1 : Nat → Nat → Int32) (L1 : Nat → Nat → Int64) (D1 : Nat → Nat → UInt64), am_Rn ext d 88 [.ref 1, .int v4] (I, L, D, am_rf X) (some (.int r1), (I1, L1, D1, am_rf X)) ∧ (∃ (r2 : Int32) (I2 : Nat → Nat → Int32) (L2 : Nat → Nat → Int64) (D2 : Nat → Nat → UInt64), am_Rn ext d 90 [.int r1] (I1, L1, D1, am_rf X) (some (.int r2), (I2, L2, D2, am_rf X)) ∧ (((r2 = 0 → (am_wp ext d mz_86 (27, [some (.ref 21), some (.ref 1), some (.int v2), none, some (.int v4)], [], (I2, L2, D2, am_rf X)) P)) ∧ (¬ r2 = 0 → (am_wp ext d mz_86 (3, [some (.ref 21), some (.ref 1), some (.int v2), some (.int v3), some (.int (v4 + 1))], [], (I2, L2, D2, am_rf X)) P))))))))) : am_wp ext d mz_86 (3, [some (.ref 21), some (.ref 1), some (.int v2), some (.int v3), some (.int v4)], [], (I, L, D, am_rf X)) P := by
  refine am_wpb (c' := (6, [some (.ref 21), some (.ref 1), some (.int v2), some (.int v3), some (.int v4)], [.int v3, .int v4], (I, L, D, am_rf X))) 2 rfl ?_
  refine am_b2_ge rfl (fun z => ?_) (fun z => ?_)
  · replace h := h.1 z
    exact am_fgt (l := [some (.ref 21), some (.ref 1), some (.int v2), none, some (.int v4)]) (am_le_of (am_leS (am_leS (am_leS (am_leN (am_leS (am_leZ))))))) h
  · replace h := h.2 z
    refine am_wpb (c' := (12, [some (.ref 21), some (.ref 1), some (.int v2), some (.int v3), some (.int v4)], [.int v4, .ref 1], (I, L, D, am_rf X))) 2 rfl ?_
    obtain ⟨r1, I1, L1, D1, hr, h⟩ := h
    refine am_wp_inv (as := [.ref 1, .int v4]) rfl rfl rfl rfl ⟨_, hr, ?_⟩
    show am_wp ext d mz_86 (15, [some (.ref 21), some (.ref 1), some (.int v2), some (.int v3), some (.int v4)], [.int r1], (I1, L1, D1, am_rf X)) P
    obtain ⟨r2, I2, L2, D2, hr, h⟩ := h
    refine am_wp_inv (as := [.int r1]) rfl rfl rfl rfl ⟨_, hr, ?_⟩
    show am_wp ext d mz_86 (18, [some (.ref 21), some (.ref 1), some (.int v2), some (.int v3), some (.int v4)], [.int r2], (I2, L2, D2, am_rf X)) P
    refine am_b1_eq rfl (fun z => ?_) (fun z => ?_)
    · replace h := h.1 z
      exact am_fgt (l := [some (.ref 21), some (.ref 1), some (.int v2), none, some (.int v4)]) (am_le_of (am_leS (am_leS (am_leS (am_leN (am_leS (am_leZ))))))) h
    · replace h := h.2 z
      refine am_wpb (c' := (3, [some (.ref 21), some (.ref 1), some (.int v2), some (.int v3), some (.int (v4 + 1))], [], (I2, L2, D2, am_rf X))) 2 rfl ?_
      exact h
theorem w86_27 {ext : Nat → List Value → am_M → Option am_R} {d : Nat} {P : am_R → Prop} (I : Nat → Nat → Int32) (L : Nat → Nat → Int64) (D : Nat → Nat → UInt64) (X : am_Rf) (v2 : Int32) (v4 : Int32)
    (h : ((¬ (v4 - v2) = 1 → (∃ (r1 : Int32) (I1 : Nat → Nat → Int32) (L1 : Nat → Nat → Int64) (D1 : Nat → Nat → UInt64), am_Rn ext d 87 [.ref 1, .int v2, .int v4] (I, L, D, am_rf X) (some (.int r1), (I1, L1, D1, am_rf X)) ∧ (∃ (I2 : Nat → Nat → Int32) (L2 : Nat → Nat → Int64) (D2 : Nat → Nat → UInt64), am_Rn ext d 84 [.ref 21, .int r1, .int v2, .int 0] (I1, L1, D1, am_rf X) (none, (I2, L2, D2, am_rf X)) ∧ (P (some (.int v4), (I2, L2, D2, am_rf X)))))) ∧ ((v4 - v2) = 1 → (∃ (r3 : Int32) (I3 : Nat → Nat → Int32) (L3 : Nat → Nat → Int64) (D3 : Nat → Nat → UInt64), am_Rn ext d 88 [.ref 1, .int v2] (I, L, D, am_rf X) (some (.int r3), (I3, L3, D3, am_rf X)) ∧ (∃ (I4 : Nat → Nat → Int32) (L4 : Nat → Nat → Int64) (D4 : Nat → Nat → UInt64), am_Rn ext d 84 [.ref 21, .int 3, .int v2, .int (r3 - 97)] (I3, L3, D3, am_rf X) (none, (I4, L4, D4, am_rf X)) ∧ (P (some (.int v4), (I4, L4, D4, am_rf X)))))))) : am_wp ext d mz_86 (27, [some (.ref 21), some (.ref 1), some (.int v2), none, some (.int v4)], [], (I, L, D, am_rf X)) P := by
  refine am_wpb (c' := (32, [some (.ref 21), some (.ref 1), some (.int v2), none, some (.int v4)], [.int 1, .int (v4 - v2)], (I, L, D, am_rf X))) 4 rfl ?_
  refine am_b2_ne rfl (fun z => ?_) (fun z => ?_)
  · replace h := h.1 z
    refine am_wpb (c' := (57, [some (.ref 21), some (.ref 1), some (.int v2), none, some (.int v4)], [.int v4, .int v2, .ref 1, .ref 21], (I, L, D, am_rf X))) 4 rfl ?_
    obtain ⟨r1, I1, L1, D1, hr, h⟩ := h
    refine am_wp_inv (as := [.ref 1, .int v2, .int v4]) rfl rfl rfl rfl ⟨_, hr, ?_⟩
    show am_wp ext d mz_86 (60, [some (.ref 21), some (.ref 1), some (.int v2), none, some (.int v4)], [.int r1, .ref 21], (I1, L1, D1, am_rf X)) P
    refine am_wpb (c' := (62, [some (.ref 21), some (.ref 1), some (.int v2), none, some (.int v4)], [.int 0, .int v2, .int r1, .ref 21], (I1, L1, D1, am_rf X))) 2 rfl ?_
    obtain ⟨I2, L2, D2, hr, h⟩ := h
    refine am_wp_inv (as := [.ref 21, .int r1, .int v2, .int 0]) rfl rfl rfl rfl ⟨_, hr, ?_⟩
    show am_wp ext d mz_86 (65, [some (.ref 21), some (.ref 1), some (.int v2), none, some (.int v4)], [], (I2, L2, D2, am_rf X)) P
    refine am_wpb (c' := (67, [some (.ref 21), some (.ref 1), some (.int v2), none, some (.int v4)], [.int v4], (I2, L2, D2, am_rf X))) 1 rfl ?_
    exact am_ret_i rfl rfl h
  · replace h := h.2 z
    refine am_wpb (c' := (40, [some (.ref 21), some (.ref 1), some (.int v2), none, some (.int v4)], [.int v2, .ref 1, .int v2, .int 3, .ref 21], (I, L, D, am_rf X))) 5 rfl ?_
    obtain ⟨r3, I3, L3, D3, hr, h⟩ := h
    refine am_wp_inv (as := [.ref 1, .int v2]) rfl rfl rfl rfl ⟨_, hr, ?_⟩
    show am_wp ext d mz_86 (43, [some (.ref 21), some (.ref 1), some (.int v2), none, some (.int v4)], [.int r3, .int v2, .int 3, .ref 21], (I3, L3, D3, am_rf X)) P
    refine am_wpb (c' := (46, [some (.ref 21), some (.ref 1), some (.int v2), none, some (.int v4)], [.int (r3 - 97), .int v2, .int 3, .ref 21], (I3, L3, D3, am_rf X))) 2 rfl ?_
    obtain ⟨I4, L4, D4, hr, h⟩ := h
    refine am_wp_inv (as := [.ref 21, .int 3, .int v2, .int (r3 - 97)]) rfl rfl rfl rfl ⟨_, hr, ?_⟩
    show am_wp ext d mz_86 (49, [some (.ref 21), some (.ref 1), some (.int v2), none, some (.int v4)], [], (I4, L4, D4, am_rf X)) P
    refine am_wpb (c' := (67, [some (.ref 21), some (.ref 1), some (.int v2), none, some (.int v4)], [.int v4], (I4, L4, D4, am_rf X))) 2 rfl ?_
    exact am_ret_i rfl rfl h
