/-- SureSums$Doubles.ofTwo(I)V -/
def mz_15 : am_Y := (fun pc => am_q15.lookup pc, 6, 0)
theorem mh_15 : am_Ys 15 = some mz_15 := rfl
theorem w15_0 {ext : Nat → List Value → am_M → Option am_R} {d : Nat} {P : am_R → Prop} (I : Nat → Nat → Int32) (L : Nat → Nat → Int64) (D : Nat → Nat → UInt64) (X : am_Rf) (v1 : Int32)
    (h : ((2 ≤ (I 34 4) → (am_inb ((I 34 4) - 2) 100 = true ∧ (am_inb (((I 34 4) - 2) + 1) 100 = true ∧ (am_inb ((I 34 4) - 2) 100 = true ∧ (((¬ (I 38 (Int32.toNatClampNeg ((I 34 4) - 2))) = 0 → (∃ (I1 : Nat → Nat → Int32) (L1 : Nat → Nat → Int64) (D1 : Nat → Nat → UInt64), am_Rn ext d 10 [.ref 34] (am_uI I 34 4 ((I 34 4) - 2), L, D, am_rf X) (none, (I1, L1, D1, am_rf X)) ∧ (P (none, (I1, L1, D1, am_rf X))))) ∧ ((I 38 (Int32.toNatClampNeg ((I 34 4) - 2))) = 0 → (am_inb (((I 34 4) - 2) + 1) 100 = true ∧ (((¬ (I 38 (Int32.toNatClampNeg (((I 34 4) - 2) + 1))) = 0 → (∃ (I2 : Nat → Nat → Int32) (L2 : Nat → Nat → Int64) (D2 : Nat → Nat → UInt64), am_Rn ext d 10 [.ref 34] (am_uI I 34 4 ((I 34 4) - 2), L, D, am_rf X) (none, (I2, L2, D2, am_rf X)) ∧ (P (none, (I2, L2, D2, am_rf X))))) ∧ ((I 38 (Int32.toNatClampNeg (((I 34 4) - 2) + 1))) = 0 → (∃ (r3 : Int32) (I3 : Nat → Nat → Int32) (L3 : Nat → Nat → Int64) (D3 : Nat → Nat → UInt64), am_Rn ext d 16 [.int v1, .double (D 37 (Int32.toNatClampNeg ((I 34 4) - 2))), .double (D 37 (Int32.toNatClampNeg (((I 34 4) - 2) + 1)))] (am_uI I 34 4 ((I 34 4) - 2), L, D, am_rf X) (some (.int r3), (I3, L3, D3, am_rf X)) ∧ (((r3 = 0 → (((v1 = 11 → (am_nn (FP.dadd (D 37 (Int32.toNatClampNeg ((I 34 4) - 2))) (D 37 (Int32.toNatClampNeg (((I 34 4) - 2) + 1)))) = true ∧ (∃ (I4 : Nat → Nat → Int32) (L4 : Nat → Nat → Int64) (D4 : Nat → Nat → UInt64), am_Rn ext d 9 [.ref 34, .double (FP.dadd (D 37 (Int32.toNatClampNeg ((I 34 4) - 2))) (D 37 (Int32.toNatClampNeg (((I 34 4) - 2) + 1))))] (I3, L3, D3, am_rf X) (none, (I4, L4, D4, am_rf X)) ∧ (P (none, (I4, L4, D4, am_rf X)))))) ∧ (v1 = 12 → (am_nn (FP.dsub (D 37 (Int32.toNatClampNeg ((I 34 4) - 2))) (D 37 (Int32.toNatClampNeg (((I 34 4) - 2) + 1)))) = true ∧ (∃ (I5 : Nat → Nat → Int32) (L5 : Nat → Nat → Int64) (D5 : Nat → Nat → UInt64), am_Rn ext d 9 [.ref 34, .double (FP.dsub (D 37 (Int32.toNatClampNeg ((I 34 4) - 2))) (D 37 (Int32.toNatClampNeg (((I 34 4) - 2) + 1))))] (I3, L3, D3, am_rf X) (none, (I5, L5, D5, am_rf X)) ∧ (P (none, (I5, L5, D5, am_rf X)))))) ∧ (v1 = 13 → (am_nn (FP.dmul (D 37 (Int32.toNatClampNeg ((I 34 4) - 2))) (D 37 (Int32.toNatClampNeg (((I 34 4) - 2) + 1)))) = true ∧ (∃ (I6 : Nat → Nat → Int32) (L6 : Nat → Nat → Int64) (D6 : Nat → Nat → UInt64), am_Rn ext d 9 [.ref 34, .double (FP.dmul (D 37 (Int32.toNatClampNeg ((I 34 4) - 2))) (D 37 (Int32.toNatClampNeg (((I 34 4) - 2) + 1))))] (I3, L3, D3, am_rf X) (none, (I6, L6, D6, am_rf X)) ∧ (P (none, (I6, L6, D6, am_rf X)))))) ∧ (v1 = 14 → (am_nn (FP.ddiv (D 37 (Int32.toNatClampNeg ((I 34 4) - 2))) (D 37 (Int32.toNatClampNeg (((I 34 4) - 2) + 1)))) = true ∧ (∃ (I7 : Nat → Nat → Int32) (L7 : Nat → Nat → Int64) (D7 : Nat → Nat → UInt64), am_Rn ext d 9 [.ref 34, .double (FP.ddiv (D 37 (Int32.toNatClampNeg ((I 34 4) - 2))) (D 37 (Int32.toNatClampNeg (((I 34 4) - 2) + 1))))] (I3, L3, D3, am_rf X) (none, (I7, L7, D7, am_rf X)) ∧ (P (none, (I7, L7, D7, am_rf X)))))) ∧ (v1 = 15 → (∃ (r8 : UInt64) (I8 : Nat → Nat → Int32) (L8 : Nat → Nat → Int64) (D8 : Nat → Nat → UInt64), am_Rn ext d 18 [.double (D 37 (Int32.toNatClampNeg ((I 34 4) - 2))), .double (D 37 (Int32.toNatClampNeg (((I 34 4) - 2) + 1)))] (I3, L3, D3, am_rf X) (some (.double r8), (I8, L8, D8, am_rf X)) ∧ (∃ (I9 : Nat → Nat → Int32) (L9 : Nat → Nat → Int64) (D9 : Nat → Nat → UInt64), am_Rn ext d 9 [.ref 34, .double r8] (I8, L8, D8, am_rf X) (none, (I9, L9, D9, am_rf X)) ∧ (P (none, (I9, L9, D9, am_rf X)))))) ∧ (¬ v1 = 11 ∧ ¬ v1 = 12 ∧ ¬ v1 = 13 ∧ ¬ v1 = 14 ∧ ¬ v1 = 15 → (∃ (r10 : UInt64) (I10 : Nat → Nat → Int32) (L10 : Nat → Nat → Int64) (D10 : Nat → Nat → UInt64), am_Rn ext d 18 [.double (FP.dneg (D 37 (Int32.toNatClampNeg ((I 34 4) - 2)))), .double (FP.dneg (D 37 (Int32.toNatClampNeg (((I 34 4) - 2) + 1))))] (I3, L3, D3, am_rf X) (some (.double r10), (I10, L10, D10, am_rf X)) ∧ (∃ (I11 : Nat → Nat → Int32) (L11 : Nat → Nat → Int64) (D11 : Nat → Nat → UInt64), am_Rn ext d 9 [.ref 34, .double (FP.dneg r10)] (I10, L10, D10, am_rf X) (none, (I11, L11, D11, am_rf X)) ∧ (P (none, (I11, L11, D11, am_rf X))))))))) ∧ (¬ r3 = 0 → (∃ (I12 : Nat → Nat → Int32) (L12 : Nat → Nat → Int64) (D12 : Nat → Nat → UInt64), am_Rn ext d 10 [.ref 34] (I3, L3, D3, am_rf X) (none, (I12, L12, D12, am_rf X)) ∧ (P (none, (I12, L12, D12, am_rf X))))))))))))))))))) ∧ (¬ 2 ≤ (I 34 4) → (P (none, (I, L, D, am_rf X)))))) : am_wp ext d mz_15 (0, [some (.ref 34), some (.int v1), none, none, none, none], [], (I, L, D, am_rf X)) P := by
  refine am_wpb (c' := (5, [some (.ref 34), some (.int v1), none, none, none, none], [.int 2, .int (I 34 4)], (I, L, D, am_rf X))) 3 rfl ?_
  refine am_b2_ge rfl (fun z => ?_) (fun z => ?_)
  · replace h := h.1 z
    refine am_wpb (c' := (27, [some (.ref 34), some (.int v1), none, none, none, none], [.int ((I 34 4) - 2), .ref 37], (am_uI I 34 4 ((I 34 4) - 2), L, D, am_rf X))) 10 rfl ?_
    obtain ⟨o, h⟩ := h
    refine am_wps (c' := (28, [some (.ref 34), some (.int v1), none, none, none, none], [.double (D 37 (Int32.toNatClampNeg ((I 34 4) - 2)))], (am_uI I 34 4 ((I 34 4) - 2), L, D, am_rf X))) rfl rfl (am_s_dald rfl o) ?_
    refine am_wpb (c' := (39, [some (.ref 34), some (.int v1), some (.double (D 37 (Int32.toNatClampNeg ((I 34 4) - 2)))), none, none, none], [.int (((I 34 4) - 2) + 1), .ref 37], (am_uI I 34 4 ((I 34 4) - 2), L, D, am_rf X))) 7 rfl ?_
    obtain ⟨o, h⟩ := h
    refine am_wps (c' := (40, [some (.ref 34), some (.int v1), some (.double (D 37 (Int32.toNatClampNeg ((I 34 4) - 2)))), none, none, none], [.double (D 37 (Int32.toNatClampNeg (((I 34 4) - 2) + 1)))], (am_uI I 34 4 ((I 34 4) - 2), L, D, am_rf X))) rfl rfl (am_s_dald rfl o) ?_
    refine am_wpb (c' := (50, [some (.ref 34), some (.int v1), some (.double (D 37 (Int32.toNatClampNeg ((I 34 4) - 2)))), none, some (.double (D 37 (Int32.toNatClampNeg (((I 34 4) - 2) + 1)))), none], [.int ((I 34 4) - 2), .ref 38], (am_uI I 34 4 ((I 34 4) - 2), L, D, am_rf X))) 5 rfl ?_
    obtain ⟨o, h⟩ := h
    refine am_wps (c' := (51, [some (.ref 34), some (.int v1), some (.double (D 37 (Int32.toNatClampNeg ((I 34 4) - 2)))), none, some (.double (D 37 (Int32.toNatClampNeg (((I 34 4) - 2) + 1)))), none], [.int (I 38 (Int32.toNatClampNeg ((I 34 4) - 2)))], (am_uI I 34 4 ((I 34 4) - 2), L, D, am_rf X))) rfl rfl (am_s_zald rfl o) ?_
    refine am_b1_ne rfl (fun z => ?_) (fun z => ?_)
    · replace h := h.1 z
      refine am_wpb (c' := (79, [some (.ref 34), some (.int v1), some (.double (D 37 (Int32.toNatClampNeg ((I 34 4) - 2)))), none, some (.double (D 37 (Int32.toNatClampNeg (((I 34 4) - 2) + 1)))), none], [.ref 34], (am_uI I 34 4 ((I 34 4) - 2), L, D, am_rf X))) 1 rfl ?_
      obtain ⟨I1, L1, D1, hr, h⟩ := h
      refine am_wp_inv (as := [.ref 34]) rfl rfl rfl rfl ⟨_, hr, ?_⟩
      show am_wp ext d mz_15 (82, [some (.ref 34), some (.int v1), some (.double (D 37 (Int32.toNatClampNeg ((I 34 4) - 2)))), none, some (.double (D 37 (Int32.toNatClampNeg (((I 34 4) - 2) + 1)))), none], [], (I1, L1, D1, am_rf X)) P
      exact am_ret_v rfl rfl h
    · replace h := h.2 z
      refine am_wpb (c' := (64, [some (.ref 34), some (.int v1), some (.double (D 37 (Int32.toNatClampNeg ((I 34 4) - 2)))), none, some (.double (D 37 (Int32.toNatClampNeg (((I 34 4) - 2) + 1)))), none], [.int (((I 34 4) - 2) + 1), .ref 38], (am_uI I 34 4 ((I 34 4) - 2), L, D, am_rf X))) 6 rfl ?_
      obtain ⟨o, h⟩ := h
      refine am_wps (c' := (65, [some (.ref 34), some (.int v1), some (.double (D 37 (Int32.toNatClampNeg ((I 34 4) - 2)))), none, some (.double (D 37 (Int32.toNatClampNeg (((I 34 4) - 2) + 1)))), none], [.int (I 38 (Int32.toNatClampNeg (((I 34 4) - 2) + 1)))], (am_uI I 34 4 ((I 34 4) - 2), L, D, am_rf X))) rfl rfl (am_s_zald rfl o) ?_
      refine am_b1_ne rfl (fun z => ?_) (fun z => ?_)
      · replace h := h.1 z
        refine am_wpb (c' := (79, [some (.ref 34), some (.int v1), some (.double (D 37 (Int32.toNatClampNeg ((I 34 4) - 2)))), none, some (.double (D 37 (Int32.toNatClampNeg (((I 34 4) - 2) + 1)))), none], [.ref 34], (am_uI I 34 4 ((I 34 4) - 2), L, D, am_rf X))) 1 rfl ?_
        obtain ⟨I2, L2, D2, hr, h⟩ := h
        refine am_wp_inv (as := [.ref 34]) rfl rfl rfl rfl ⟨_, hr, ?_⟩
        show am_wp ext d mz_15 (82, [some (.ref 34), some (.int v1), some (.double (D 37 (Int32.toNatClampNeg ((I 34 4) - 2)))), none, some (.double (D 37 (Int32.toNatClampNeg (((I 34 4) - 2) + 1)))), none], [], (I2, L2, D2, am_rf X)) P
        exact am_ret_v rfl rfl h
      · replace h := h.2 z
        refine am_wpb (c' := (72, [some (.ref 34), some (.int v1), some (.double (D 37 (Int32.toNatClampNeg ((I 34 4) - 2)))), none, some (.double (D 37 (Int32.toNatClampNeg (((I 34 4) - 2) + 1)))), none], [.double (D 37 (Int32.toNatClampNeg (((I 34 4) - 2) + 1))), .double (D 37 (Int32.toNatClampNeg ((I 34 4) - 2))), .int v1], (am_uI I 34 4 ((I 34 4) - 2), L, D, am_rf X))) 3 rfl ?_
        obtain ⟨r3, I3, L3, D3, hr, h⟩ := h
        refine am_wp_inv (as := [.int v1, .double (D 37 (Int32.toNatClampNeg ((I 34 4) - 2))), .double (D 37 (Int32.toNatClampNeg (((I 34 4) - 2) + 1)))]) rfl rfl rfl rfl ⟨_, hr, ?_⟩
        show am_wp ext d mz_15 (75, [some (.ref 34), some (.int v1), some (.double (D 37 (Int32.toNatClampNeg ((I 34 4) - 2)))), none, some (.double (D 37 (Int32.toNatClampNeg (((I 34 4) - 2) + 1)))), none], [.int r3], (I3, L3, D3, am_rf X)) P
        refine am_b1_eq rfl (fun z => ?_) (fun z => ?_)
        · replace h := h.1 z
          refine am_wpb (c' := (84, [some (.ref 34), some (.int v1), some (.double (D 37 (Int32.toNatClampNeg ((I 34 4) - 2)))), none, some (.double (D 37 (Int32.toNatClampNeg (((I 34 4) - 2) + 1)))), none], [.int v1], (I3, L3, D3, am_rf X))) 1 rfl ?_
          have hsw := am_swc v1 11 4
          by_cases c0 : v1 = 11
          · replace h := h.1 c0
            have e := c0
            refine am_ts_in 0 rfl (by rw [e]; rfl) (by decide) rfl ?_
            refine am_wpb (c' := (124, [some (.ref 34), some (.int v1), some (.double (D 37 (Int32.toNatClampNeg ((I 34 4) - 2)))), none, some (.double (D 37 (Int32.toNatClampNeg (((I 34 4) - 2) + 1)))), none], [.double (D 37 (Int32.toNatClampNeg (((I 34 4) - 2) + 1))), .double (D 37 (Int32.toNatClampNeg ((I 34 4) - 2))), .ref 34], (I3, L3, D3, am_rf X))) 3 rfl ?_
            obtain ⟨o, h⟩ := h
            refine am_wps (c' := (125, [some (.ref 34), some (.int v1), some (.double (D 37 (Int32.toNatClampNeg ((I 34 4) - 2)))), none, some (.double (D 37 (Int32.toNatClampNeg (((I 34 4) - 2) + 1)))), none], [.double (FP.dadd (D 37 (Int32.toNatClampNeg ((I 34 4) - 2))) (D 37 (Int32.toNatClampNeg (((I 34 4) - 2) + 1)))), .ref 34], (I3, L3, D3, am_rf X))) rfl rfl (am_s_dadd o) ?_
            obtain ⟨I4, L4, D4, hr, h⟩ := h
            refine am_wp_inv (as := [.ref 34, .double (FP.dadd (D 37 (Int32.toNatClampNeg ((I 34 4) - 2))) (D 37 (Int32.toNatClampNeg (((I 34 4) - 2) + 1))))]) rfl rfl rfl rfl ⟨_, hr, ?_⟩
            show am_wp ext d mz_15 (128, [some (.ref 34), some (.int v1), some (.double (D 37 (Int32.toNatClampNeg ((I 34 4) - 2)))), none, some (.double (D 37 (Int32.toNatClampNeg (((I 34 4) - 2) + 1)))), none], [], (I4, L4, D4, am_rf X)) P
            refine am_wpb (c' := (190, [some (.ref 34), some (.int v1), some (.double (D 37 (Int32.toNatClampNeg ((I 34 4) - 2)))), none, some (.double (D 37 (Int32.toNatClampNeg (((I 34 4) - 2) + 1)))), none], [], (I4, L4, D4, am_rf X))) 1 rfl ?_
            exact am_ret_v rfl rfl h
          by_cases c1 : v1 = 12
          · replace h := h.2.1 c1
            have e := c1
            refine am_ts_in 1 rfl (by rw [e]; rfl) (by decide) rfl ?_
            refine am_wpb (c' := (135, [some (.ref 34), some (.int v1), some (.double (D 37 (Int32.toNatClampNeg ((I 34 4) - 2)))), none, some (.double (D 37 (Int32.toNatClampNeg (((I 34 4) - 2) + 1)))), none], [.double (D 37 (Int32.toNatClampNeg (((I 34 4) - 2) + 1))), .double (D 37 (Int32.toNatClampNeg ((I 34 4) - 2))), .ref 34], (I3, L3, D3, am_rf X))) 3 rfl ?_
            obtain ⟨o, h⟩ := h
            refine am_wps (c' := (136, [some (.ref 34), some (.int v1), some (.double (D 37 (Int32.toNatClampNeg ((I 34 4) - 2)))), none, some (.double (D 37 (Int32.toNatClampNeg (((I 34 4) - 2) + 1)))), none], [.double (FP.dsub (D 37 (Int32.toNatClampNeg ((I 34 4) - 2))) (D 37 (Int32.toNatClampNeg (((I 34 4) - 2) + 1)))), .ref 34], (I3, L3, D3, am_rf X))) rfl rfl (am_s_dsub o) ?_
            obtain ⟨I5, L5, D5, hr, h⟩ := h
            refine am_wp_inv (as := [.ref 34, .double (FP.dsub (D 37 (Int32.toNatClampNeg ((I 34 4) - 2))) (D 37 (Int32.toNatClampNeg (((I 34 4) - 2) + 1))))]) rfl rfl rfl rfl ⟨_, hr, ?_⟩
            show am_wp ext d mz_15 (139, [some (.ref 34), some (.int v1), some (.double (D 37 (Int32.toNatClampNeg ((I 34 4) - 2)))), none, some (.double (D 37 (Int32.toNatClampNeg (((I 34 4) - 2) + 1)))), none], [], (I5, L5, D5, am_rf X)) P
            refine am_wpb (c' := (190, [some (.ref 34), some (.int v1), some (.double (D 37 (Int32.toNatClampNeg ((I 34 4) - 2)))), none, some (.double (D 37 (Int32.toNatClampNeg (((I 34 4) - 2) + 1)))), none], [], (I5, L5, D5, am_rf X))) 1 rfl ?_
            exact am_ret_v rfl rfl h
          by_cases c2 : v1 = 13
          · replace h := h.2.2.1 c2
            have e := c2
            refine am_ts_in 2 rfl (by rw [e]; rfl) (by decide) rfl ?_
            refine am_wpb (c' := (146, [some (.ref 34), some (.int v1), some (.double (D 37 (Int32.toNatClampNeg ((I 34 4) - 2)))), none, some (.double (D 37 (Int32.toNatClampNeg (((I 34 4) - 2) + 1)))), none], [.double (D 37 (Int32.toNatClampNeg (((I 34 4) - 2) + 1))), .double (D 37 (Int32.toNatClampNeg ((I 34 4) - 2))), .ref 34], (I3, L3, D3, am_rf X))) 3 rfl ?_
            obtain ⟨o, h⟩ := h
            refine am_wps (c' := (147, [some (.ref 34), some (.int v1), some (.double (D 37 (Int32.toNatClampNeg ((I 34 4) - 2)))), none, some (.double (D 37 (Int32.toNatClampNeg (((I 34 4) - 2) + 1)))), none], [.double (FP.dmul (D 37 (Int32.toNatClampNeg ((I 34 4) - 2))) (D 37 (Int32.toNatClampNeg (((I 34 4) - 2) + 1)))), .ref 34], (I3, L3, D3, am_rf X))) rfl rfl (am_s_dmul o) ?_
            obtain ⟨I6, L6, D6, hr, h⟩ := h
            refine am_wp_inv (as := [.ref 34, .double (FP.dmul (D 37 (Int32.toNatClampNeg ((I 34 4) - 2))) (D 37 (Int32.toNatClampNeg (((I 34 4) - 2) + 1))))]) rfl rfl rfl rfl ⟨_, hr, ?_⟩
            show am_wp ext d mz_15 (150, [some (.ref 34), some (.int v1), some (.double (D 37 (Int32.toNatClampNeg ((I 34 4) - 2)))), none, some (.double (D 37 (Int32.toNatClampNeg (((I 34 4) - 2) + 1)))), none], [], (I6, L6, D6, am_rf X)) P
            refine am_wpb (c' := (190, [some (.ref 34), some (.int v1), some (.double (D 37 (Int32.toNatClampNeg ((I 34 4) - 2)))), none, some (.double (D 37 (Int32.toNatClampNeg (((I 34 4) - 2) + 1)))), none], [], (I6, L6, D6, am_rf X))) 1 rfl ?_
            exact am_ret_v rfl rfl h
          by_cases c3 : v1 = 14
          · replace h := h.2.2.2.1 c3
            have e := c3
            refine am_ts_in 3 rfl (by rw [e]; rfl) (by decide) rfl ?_
            refine am_wpb (c' := (157, [some (.ref 34), some (.int v1), some (.double (D 37 (Int32.toNatClampNeg ((I 34 4) - 2)))), none, some (.double (D 37 (Int32.toNatClampNeg (((I 34 4) - 2) + 1)))), none], [.double (D 37 (Int32.toNatClampNeg (((I 34 4) - 2) + 1))), .double (D 37 (Int32.toNatClampNeg ((I 34 4) - 2))), .ref 34], (I3, L3, D3, am_rf X))) 3 rfl ?_
            obtain ⟨o, h⟩ := h
            refine am_wps (c' := (158, [some (.ref 34), some (.int v1), some (.double (D 37 (Int32.toNatClampNeg ((I 34 4) - 2)))), none, some (.double (D 37 (Int32.toNatClampNeg (((I 34 4) - 2) + 1)))), none], [.double (FP.ddiv (D 37 (Int32.toNatClampNeg ((I 34 4) - 2))) (D 37 (Int32.toNatClampNeg (((I 34 4) - 2) + 1)))), .ref 34], (I3, L3, D3, am_rf X))) rfl rfl (am_s_ddiv o) ?_
            obtain ⟨I7, L7, D7, hr, h⟩ := h
            refine am_wp_inv (as := [.ref 34, .double (FP.ddiv (D 37 (Int32.toNatClampNeg ((I 34 4) - 2))) (D 37 (Int32.toNatClampNeg (((I 34 4) - 2) + 1))))]) rfl rfl rfl rfl ⟨_, hr, ?_⟩
            show am_wp ext d mz_15 (161, [some (.ref 34), some (.int v1), some (.double (D 37 (Int32.toNatClampNeg ((I 34 4) - 2)))), none, some (.double (D 37 (Int32.toNatClampNeg (((I 34 4) - 2) + 1)))), none], [], (I7, L7, D7, am_rf X)) P
            refine am_wpb (c' := (190, [some (.ref 34), some (.int v1), some (.double (D 37 (Int32.toNatClampNeg ((I 34 4) - 2)))), none, some (.double (D 37 (Int32.toNatClampNeg (((I 34 4) - 2) + 1)))), none], [], (I7, L7, D7, am_rf X))) 1 rfl ?_
            exact am_ret_v rfl rfl h
          by_cases c4 : v1 = 15
          · replace h := h.2.2.2.2.1 c4
            have e := c4
            refine am_ts_in 4 rfl (by rw [e]; rfl) (by decide) rfl ?_
            refine am_wpb (c' := (168, [some (.ref 34), some (.int v1), some (.double (D 37 (Int32.toNatClampNeg ((I 34 4) - 2)))), none, some (.double (D 37 (Int32.toNatClampNeg (((I 34 4) - 2) + 1)))), none], [.double (D 37 (Int32.toNatClampNeg (((I 34 4) - 2) + 1))), .double (D 37 (Int32.toNatClampNeg ((I 34 4) - 2))), .ref 34], (I3, L3, D3, am_rf X))) 3 rfl ?_
            obtain ⟨r8, I8, L8, D8, hr, h⟩ := h
            refine am_wp_inv (as := [.double (D 37 (Int32.toNatClampNeg ((I 34 4) - 2))), .double (D 37 (Int32.toNatClampNeg (((I 34 4) - 2) + 1)))]) rfl rfl rfl rfl ⟨_, hr, ?_⟩
            show am_wp ext d mz_15 (171, [some (.ref 34), some (.int v1), some (.double (D 37 (Int32.toNatClampNeg ((I 34 4) - 2)))), none, some (.double (D 37 (Int32.toNatClampNeg (((I 34 4) - 2) + 1)))), none], [.double r8, .ref 34], (I8, L8, D8, am_rf X)) P
            obtain ⟨I9, L9, D9, hr, h⟩ := h
            refine am_wp_inv (as := [.ref 34, .double r8]) rfl rfl rfl rfl ⟨_, hr, ?_⟩
            show am_wp ext d mz_15 (174, [some (.ref 34), some (.int v1), some (.double (D 37 (Int32.toNatClampNeg ((I 34 4) - 2)))), none, some (.double (D 37 (Int32.toNatClampNeg (((I 34 4) - 2) + 1)))), none], [], (I9, L9, D9, am_rf X)) P
            refine am_wpb (c' := (190, [some (.ref 34), some (.int v1), some (.double (D 37 (Int32.toNatClampNeg ((I 34 4) - 2)))), none, some (.double (D 37 (Int32.toNatClampNeg (((I 34 4) - 2) + 1)))), none], [], (I9, L9, D9, am_rf X))) 1 rfl ?_
            exact am_ret_v rfl rfl h
          replace h := h.2.2.2.2.2 ⟨fun e => c0 (e), fun e => c1 (e), fun e => c2 (e), fun e => c3 (e), fun e => c4 (e)⟩
          rcases hsw with hsw | ⟨k, hk, hsw⟩
          · refine am_ts_out rfl hsw ?_
            refine am_wpb (c' := (183, [some (.ref 34), some (.int v1), some (.double (D 37 (Int32.toNatClampNeg ((I 34 4) - 2)))), none, some (.double (D 37 (Int32.toNatClampNeg (((I 34 4) - 2) + 1)))), none], [.double (FP.dneg (D 37 (Int32.toNatClampNeg (((I 34 4) - 2) + 1)))), .double (FP.dneg (D 37 (Int32.toNatClampNeg ((I 34 4) - 2)))), .ref 34], (I3, L3, D3, am_rf X))) 5 rfl ?_
            obtain ⟨r10, I10, L10, D10, hr, h⟩ := h
            refine am_wp_inv (as := [.double (FP.dneg (D 37 (Int32.toNatClampNeg ((I 34 4) - 2)))), .double (FP.dneg (D 37 (Int32.toNatClampNeg (((I 34 4) - 2) + 1))))]) rfl rfl rfl rfl ⟨_, hr, ?_⟩
            show am_wp ext d mz_15 (186, [some (.ref 34), some (.int v1), some (.double (D 37 (Int32.toNatClampNeg ((I 34 4) - 2)))), none, some (.double (D 37 (Int32.toNatClampNeg (((I 34 4) - 2) + 1)))), none], [.double r10, .ref 34], (I10, L10, D10, am_rf X)) P
            refine am_wpb (c' := (187, [some (.ref 34), some (.int v1), some (.double (D 37 (Int32.toNatClampNeg ((I 34 4) - 2)))), none, some (.double (D 37 (Int32.toNatClampNeg (((I 34 4) - 2) + 1)))), none], [.double (FP.dneg r10), .ref 34], (I10, L10, D10, am_rf X))) 1 rfl ?_
            obtain ⟨I11, L11, D11, hr, h⟩ := h
            refine am_wp_inv (as := [.ref 34, .double (FP.dneg r10)]) rfl rfl rfl rfl ⟨_, hr, ?_⟩
            show am_wp ext d mz_15 (190, [some (.ref 34), some (.int v1), some (.double (D 37 (Int32.toNatClampNeg ((I 34 4) - 2)))), none, some (.double (D 37 (Int32.toNatClampNeg (((I 34 4) - 2) + 1)))), none], [], (I11, L11, D11, am_rf X)) P
            exact am_ret_v rfl rfl h
          · refine am_ts_in (t := 177) k rfl hsw (by omega) ?_ ?_
            · refine am_sw_d (bad := [0, 1, 2, 3, 4]) hk (by decide) (fun hm => ?_)
              simp only [List.mem_cons, List.not_mem_nil, or_false] at hm
              rcases hm with e | e | e | e | e
              · exact c0 (am_i32 (v := 11) (by rw [hsw, e]; rfl))
              · exact c1 (am_i32 (v := 12) (by rw [hsw, e]; rfl))
              · exact c2 (am_i32 (v := 13) (by rw [hsw, e]; rfl))
              · exact c3 (am_i32 (v := 14) (by rw [hsw, e]; rfl))
              · exact c4 (am_i32 (v := 15) (by rw [hsw, e]; rfl))
            · skip
              refine am_wpb (c' := (183, [some (.ref 34), some (.int v1), some (.double (D 37 (Int32.toNatClampNeg ((I 34 4) - 2)))), none, some (.double (D 37 (Int32.toNatClampNeg (((I 34 4) - 2) + 1)))), none], [.double (FP.dneg (D 37 (Int32.toNatClampNeg (((I 34 4) - 2) + 1)))), .double (FP.dneg (D 37 (Int32.toNatClampNeg ((I 34 4) - 2)))), .ref 34], (I3, L3, D3, am_rf X))) 5 rfl ?_
              obtain ⟨r10, I10, L10, D10, hr, h⟩ := h
              refine am_wp_inv (as := [.double (FP.dneg (D 37 (Int32.toNatClampNeg ((I 34 4) - 2)))), .double (FP.dneg (D 37 (Int32.toNatClampNeg (((I 34 4) - 2) + 1))))]) rfl rfl rfl rfl ⟨_, hr, ?_⟩
              show am_wp ext d mz_15 (186, [some (.ref 34), some (.int v1), some (.double (D 37 (Int32.toNatClampNeg ((I 34 4) - 2)))), none, some (.double (D 37 (Int32.toNatClampNeg (((I 34 4) - 2) + 1)))), none], [.double r10, .ref 34], (I10, L10, D10, am_rf X)) P
              refine am_wpb (c' := (187, [some (.ref 34), some (.int v1), some (.double (D 37 (Int32.toNatClampNeg ((I 34 4) - 2)))), none, some (.double (D 37 (Int32.toNatClampNeg (((I 34 4) - 2) + 1)))), none], [.double (FP.dneg r10), .ref 34], (I10, L10, D10, am_rf X))) 1 rfl ?_
              obtain ⟨I11, L11, D11, hr, h⟩ := h
              refine am_wp_inv (as := [.ref 34, .double (FP.dneg r10)]) rfl rfl rfl rfl ⟨_, hr, ?_⟩
              show am_wp ext d mz_15 (190, [some (.ref 34), some (.int v1), some (.double (D 37 (Int32.toNatClampNeg ((I 34 4) - 2)))), none, some (.double (D 37 (Int32.toNatClampNeg (((I 34 4) - 2) + 1)))), none], [], (I11, L11, D11, am_rf X)) P
              exact am_ret_v rfl rfl h
        · replace h := h.2 z
          refine am_wpb (c' := (79, [some (.ref 34), some (.int v1), some (.double (D 37 (Int32.toNatClampNeg ((I 34 4) - 2)))), none, some (.double (D 37 (Int32.toNatClampNeg (((I 34 4) - 2) + 1)))), none], [.ref 34], (I3, L3, D3, am_rf X))) 1 rfl ?_
          obtain ⟨I12, L12, D12, hr, h⟩ := h
          refine am_wp_inv (as := [.ref 34]) rfl rfl rfl rfl ⟨_, hr, ?_⟩
          show am_wp ext d mz_15 (82, [some (.ref 34), some (.int v1), some (.double (D 37 (Int32.toNatClampNeg ((I 34 4) - 2)))), none, some (.double (D 37 (Int32.toNatClampNeg (((I 34 4) - 2) + 1)))), none], [], (I12, L12, D12, am_rf X)) P
          exact am_ret_v rfl rfl h
  · replace h := h.2 z
    exact am_ret_v rfl rfl h
/-- SureSums$Doubles.losesNumber(IDD)Z -/
def mz_16 : am_Y := (fun pc => am_q16.lookup pc, 6, 2)
theorem mh_16 : am_Ys 16 = some mz_16 := rfl
theorem w16_0 {ext : Nat → List Value → am_M → Option am_R} {d : Nat} {P : am_R → Prop} (I : Nat → Nat → Int32) (L : Nat → Nat → Int64) (D : Nat → Nat → UInt64) (X : am_Rf) (v0 : Int32) (v1 : UInt64) (v3 : UInt64)
    (h : ∃ (r1 : Int32) (I1 : Nat → Nat → Int32) (L1 : Nat → Nat → Int64) (D1 : Nat → Nat → UInt64), am_Rn ext d 17 [.double v1] (I, L, D, am_rf X) (some (.int r1), (I1, L1, D1, am_rf X)) ∧ (((r1 = 0 → (am_wp ext d mz_16 (18, [some (.int v0), some (.double v1), none, some (.double v3), none, none], [], (I1, L1, D1, am_rf X)) P)) ∧ (¬ r1 = 0 → (∃ (r2 : Int32) (I2 : Nat → Nat → Int32) (L2 : Nat → Nat → Int64) (D2 : Nat → Nat → UInt64), am_Rn ext d 17 [.double v3] (I1, L1, D1, am_rf X) (some (.int r2), (I2, L2, D2, am_rf X)) ∧ (((r2 = 0 → (am_wp ext d mz_16 (18, [some (.int v0), some (.double v1), none, some (.double v3), none, none], [], (I2, L2, D2, am_rf X)) P)) ∧ (¬ r2 = 0 → (am_wp ext d mz_16 (19, [some (.int v0), some (.double v1), none, some (.double v3), none, none], [.int 1], (I2, L2, D2, am_rf X)) P))))))))) : am_wp ext d mz_16 (0, [some (.int v0), some (.double v1), none, some (.double v3), none, none], [], (I, L, D, am_rf X)) P := by
  refine am_wpb (c' := (1, [some (.int v0), some (.double v1), none, some (.double v3), none, none], [.double v1], (I, L, D, am_rf X))) 1 rfl ?_
  obtain ⟨r1, I1, L1, D1, hr, h⟩ := h
  refine am_wp_inv (as := [.double v1]) rfl rfl rfl rfl ⟨_, hr, ?_⟩
  show am_wp ext d mz_16 (4, [some (.int v0), some (.double v1), none, some (.double v3), none, none], [.int r1], (I1, L1, D1, am_rf X)) P
  refine am_b1_eq rfl (fun z => ?_) (fun z => ?_)
  · replace h := h.1 z
    exact h
  · replace h := h.2 z
    refine am_wpb (c' := (8, [some (.int v0), some (.double v1), none, some (.double v3), none, none], [.double v3], (I1, L1, D1, am_rf X))) 1 rfl ?_
    obtain ⟨r2, I2, L2, D2, hr, h⟩ := h
    refine am_wp_inv (as := [.double v3]) rfl rfl rfl rfl ⟨_, hr, ?_⟩
    show am_wp ext d mz_16 (11, [some (.int v0), some (.double v1), none, some (.double v3), none, none], [.int r2], (I2, L2, D2, am_rf X)) P
    refine am_b1_eq rfl (fun z => ?_) (fun z => ?_)
    · replace h := h.1 z
      exact h
    · replace h := h.2 z
      refine am_wpb (c' := (19, [some (.int v0), some (.double v1), none, some (.double v3), none, none], [.int 1], (I2, L2, D2, am_rf X))) 2 rfl ?_
      exact h
theorem w16_18 {ext : Nat → List Value → am_M → Option am_R} {d : Nat} {P : am_R → Prop} (I : Nat → Nat → Int32) (L : Nat → Nat → Int64) (D : Nat → Nat → UInt64) (X : am_Rf) (v0 : Int32) (v1 : UInt64) (v3 : UInt64)
    (h : am_wp ext d mz_16 (19, [some (.int v0), some (.double v1), none, some (.double v3), none, none], [.int 0], (I, L, D, am_rf X)) P) : am_wp ext d mz_16 (18, [some (.int v0), some (.double v1), none, some (.double v3), none, none], [], (I, L, D, am_rf X)) P := by
  refine am_wpb (c' := (19, [some (.int v0), some (.double v1), none, some (.double v3), none, none], [.int 0], (I, L, D, am_rf X))) 1 rfl ?_
  exact h
theorem w16_19 {ext : Nat → List Value → am_M → Option am_R} {d : Nat} {P : am_R → Prop} (I : Nat → Nat → Int32) (L : Nat → Nat → Int64) (D : Nat → Nat → UInt64) (X : am_Rf) (v0 : Int32) (v1 : UInt64) (v3 : UInt64) (s0 : Int32)
    (h : ((v0 = 11 → (((s0 = 0 → (P (some (.int 0), (I, L, D, am_rf X)))) ∧ (¬ s0 = 0 → ((((Op.cmpValue (FP.dcmp v1 FP.dconst0) .l) ≤ 0 → ((((Op.cmpValue (FP.dcmp v3 FP.dconst0) .l) ≤ 0 → ((((0 : Int32) = 0 → (P (some (.int 0), (I, L, D, am_rf X)))) ∧ (¬ (0 : Int32) = 0 → (P (some (.int 1), (I, L, D, am_rf X))))))) ∧ (¬ (Op.cmpValue (FP.dcmp v3 FP.dconst0) .l) ≤ 0 → ((((0 : Int32) = 1 → (P (some (.int 0), (I, L, D, am_rf X)))) ∧ (¬ (0 : Int32) = 1 → (P (some (.int 1), (I, L, D, am_rf X)))))))))) ∧ (¬ (Op.cmpValue (FP.dcmp v1 FP.dconst0) .l) ≤ 0 → ((((Op.cmpValue (FP.dcmp v3 FP.dconst0) .l) ≤ 0 → ((((1 : Int32) = 0 → (P (some (.int 0), (I, L, D, am_rf X)))) ∧ (¬ (1 : Int32) = 0 → (P (some (.int 1), (I, L, D, am_rf X))))))) ∧ (¬ (Op.cmpValue (FP.dcmp v3 FP.dconst0) .l) ≤ 0 → ((((1 : Int32) = 1 → (P (some (.int 0), (I, L, D, am_rf X)))) ∧ (¬ (1 : Int32) = 1 → (P (some (.int 1), (I, L, D, am_rf X)))))))))))))))) ∧ (v0 = 12 → (((s0 = 0 → (P (some (.int 0), (I, L, D, am_rf X)))) ∧ (¬ s0 = 0 → ((((Op.cmpValue (FP.dcmp v1 FP.dconst0) .l) ≤ 0 → ((((Op.cmpValue (FP.dcmp v3 FP.dconst0) .l) ≤ 0 → (((¬ (0 : Int32) = 0 → (P (some (.int 0), (I, L, D, am_rf X)))) ∧ ((0 : Int32) = 0 → (P (some (.int 1), (I, L, D, am_rf X))))))) ∧ (¬ (Op.cmpValue (FP.dcmp v3 FP.dconst0) .l) ≤ 0 → (((¬ (0 : Int32) = 1 → (P (some (.int 0), (I, L, D, am_rf X)))) ∧ ((0 : Int32) = 1 → (P (some (.int 1), (I, L, D, am_rf X)))))))))) ∧ (¬ (Op.cmpValue (FP.dcmp v1 FP.dconst0) .l) ≤ 0 → ((((Op.cmpValue (FP.dcmp v3 FP.dconst0) .l) ≤ 0 → (((¬ (1 : Int32) = 0 → (P (some (.int 0), (I, L, D, am_rf X)))) ∧ ((1 : Int32) = 0 → (P (some (.int 1), (I, L, D, am_rf X))))))) ∧ (¬ (Op.cmpValue (FP.dcmp v3 FP.dconst0) .l) ≤ 0 → (((¬ (1 : Int32) = 1 → (P (some (.int 0), (I, L, D, am_rf X)))) ∧ ((1 : Int32) = 1 → (P (some (.int 1), (I, L, D, am_rf X)))))))))))))))) ∧ (v0 = 13 → (∃ (r1 : Int32) (I1 : Nat → Nat → Int32) (L1 : Nat → Nat → Int64) (D1 : Nat → Nat → UInt64), am_Rn ext d 17 [.double v1] (I, L, D, am_rf X) (some (.int r1), (I1, L1, D1, am_rf X)) ∧ (((r1 = 0 → (((¬ (Op.cmpValue (FP.dcmp v1 FP.dconst0) .l) = 0 → (P (some (.int 0), (I1, L1, D1, am_rf X)))) ∧ ((Op.cmpValue (FP.dcmp v1 FP.dconst0) .l) = 0 → (∃ (r2 : Int32) (I2 : Nat → Nat → Int32) (L2 : Nat → Nat → Int64) (D2 : Nat → Nat → UInt64), am_Rn ext d 17 [.double v3] (I1, L1, D1, am_rf X) (some (.int r2), (I2, L2, D2, am_rf X)) ∧ (((r2 = 0 → (P (some (.int 0), (I2, L2, D2, am_rf X)))) ∧ (¬ r2 = 0 → (P (some (.int 1), (I2, L2, D2, am_rf X))))))))))) ∧ (¬ r1 = 0 → ((((Op.cmpValue (FP.dcmp v3 FP.dconst0) .l) = 0 → (P (some (.int 1), (I1, L1, D1, am_rf X)))) ∧ (¬ (Op.cmpValue (FP.dcmp v3 FP.dconst0) .l) = 0 → (((¬ (Op.cmpValue (FP.dcmp v1 FP.dconst0) .l) = 0 → (P (some (.int 0), (I1, L1, D1, am_rf X)))) ∧ ((Op.cmpValue (FP.dcmp v1 FP.dconst0) .l) = 0 → (∃ (r3 : Int32) (I3 : Nat → Nat → Int32) (L3 : Nat → Nat → Int64) (D3 : Nat → Nat → UInt64), am_Rn ext d 17 [.double v3] (I1, L1, D1, am_rf X) (some (.int r3), (I3, L3, D3, am_rf X)) ∧ (((r3 = 0 → (P (some (.int 0), (I3, L3, D3, am_rf X)))) ∧ (¬ r3 = 0 → (P (some (.int 1), (I3, L3, D3, am_rf X)))))))))))))))))) ∧ (v0 = 14 → (((¬ s0 = 0 → (P (some (.int 1), (I, L, D, am_rf X)))) ∧ (s0 = 0 → (((¬ (Op.cmpValue (FP.dcmp v1 FP.dconst0) .l) = 0 → (P (some (.int 0), (I, L, D, am_rf X)))) ∧ ((Op.cmpValue (FP.dcmp v1 FP.dconst0) .l) = 0 → (((¬ (Op.cmpValue (FP.dcmp v3 FP.dconst0) .l) = 0 → (P (some (.int 0), (I, L, D, am_rf X)))) ∧ ((Op.cmpValue (FP.dcmp v3 FP.dconst0) .l) = 0 → (P (some (.int 1), (I, L, D, am_rf X))))))))))))) ∧ (¬ v0 = 11 ∧ ¬ v0 = 12 ∧ ¬ v0 = 13 ∧ ¬ v0 = 14 → (P (some (.int 0), (I, L, D, am_rf X)))))) : am_wp ext d mz_16 (19, [some (.int v0), some (.double v1), none, some (.double v3), none, none], [.int s0], (I, L, D, am_rf X)) P := by
  refine am_wpb (c' := (22, [some (.int v0), some (.double v1), none, some (.double v3), none, some (.int s0)], [.int v0], (I, L, D, am_rf X))) 2 rfl ?_
  have hsw := am_swc v0 11 3
  by_cases c0 : v0 = 11
  · replace h := h.1 c0
    have e := c0
    refine am_ts_in 0 rfl (by rw [e]; rfl) (by decide) rfl ?_
    refine am_wpb (c' := (54, [some (.int v0), some (.double v1), none, some (.double v3), none, some (.int s0)], [.int s0], (I, L, D, am_rf X))) 1 rfl ?_
    refine am_b1_eq rfl (fun z => ?_) (fun z => ?_)
    · replace h := h.1 z
      refine am_wpb (c' := (87, [some (.int v0), some (.double v1), none, some (.double v3), none, some (.int s0)], [.int 0], (I, L, D, am_rf X))) 1 rfl ?_
      exact am_ret_z rfl rfl (Or.inl rfl) h
    · replace h := h.2 z
      refine am_wpb (c' := (60, [some (.int v0), some (.double v1), none, some (.double v3), none, some (.int s0)], [.int (Op.cmpValue (FP.dcmp v1 FP.dconst0) .l)], (I, L, D, am_rf X))) 3 rfl ?_
      refine am_b1_le rfl (fun z => ?_) (fun z => ?_)
      · replace h := h.1 z
        refine am_wpb (c' := (71, [some (.int v0), some (.double v1), none, some (.double v3), none, some (.int s0)], [.int (Op.cmpValue (FP.dcmp v3 FP.dconst0) .l), .int 0], (I, L, D, am_rf X))) 4 rfl ?_
        refine am_b1_le rfl (fun z => ?_) (fun z => ?_)
        · replace h := h.1 z
          refine am_wpb (c' := (79, [some (.int v0), some (.double v1), none, some (.double v3), none, some (.int s0)], [.int 0, .int 0], (I, L, D, am_rf X))) 1 rfl ?_
          refine am_b2_eq rfl (fun z => ?_) (fun z => ?_)
          · replace h := h.1 z
            refine am_wpb (c' := (87, [some (.int v0), some (.double v1), none, some (.double v3), none, some (.int s0)], [.int 0], (I, L, D, am_rf X))) 1 rfl ?_
            exact am_ret_z rfl rfl (Or.inl rfl) h
          · replace h := h.2 z
            refine am_wpb (c' := (87, [some (.int v0), some (.double v1), none, some (.double v3), none, some (.int s0)], [.int 1], (I, L, D, am_rf X))) 2 rfl ?_
            exact am_ret_z rfl rfl (Or.inr rfl) h
        · replace h := h.2 z
          refine am_wpb (c' := (79, [some (.int v0), some (.double v1), none, some (.double v3), none, some (.int s0)], [.int 1, .int 0], (I, L, D, am_rf X))) 2 rfl ?_
          refine am_b2_eq rfl (fun z => ?_) (fun z => ?_)
          · replace h := h.1 z
            refine am_wpb (c' := (87, [some (.int v0), some (.double v1), none, some (.double v3), none, some (.int s0)], [.int 0], (I, L, D, am_rf X))) 1 rfl ?_
            exact am_ret_z rfl rfl (Or.inl rfl) h
          · replace h := h.2 z
            refine am_wpb (c' := (87, [some (.int v0), some (.double v1), none, some (.double v3), none, some (.int s0)], [.int 1], (I, L, D, am_rf X))) 2 rfl ?_
            exact am_ret_z rfl rfl (Or.inr rfl) h
      · replace h := h.2 z
        refine am_wpb (c' := (71, [some (.int v0), some (.double v1), none, some (.double v3), none, some (.int s0)], [.int (Op.cmpValue (FP.dcmp v3 FP.dconst0) .l), .int 1], (I, L, D, am_rf X))) 5 rfl ?_
        refine am_b1_le rfl (fun z => ?_) (fun z => ?_)
        · replace h := h.1 z
          refine am_wpb (c' := (79, [some (.int v0), some (.double v1), none, some (.double v3), none, some (.int s0)], [.int 0, .int 1], (I, L, D, am_rf X))) 1 rfl ?_
          refine am_b2_eq rfl (fun z => ?_) (fun z => ?_)
          · replace h := h.1 z
            refine am_wpb (c' := (87, [some (.int v0), some (.double v1), none, some (.double v3), none, some (.int s0)], [.int 0], (I, L, D, am_rf X))) 1 rfl ?_
            exact am_ret_z rfl rfl (Or.inl rfl) h
          · replace h := h.2 z
            refine am_wpb (c' := (87, [some (.int v0), some (.double v1), none, some (.double v3), none, some (.int s0)], [.int 1], (I, L, D, am_rf X))) 2 rfl ?_
            exact am_ret_z rfl rfl (Or.inr rfl) h
        · replace h := h.2 z
          refine am_wpb (c' := (79, [some (.int v0), some (.double v1), none, some (.double v3), none, some (.int s0)], [.int 1, .int 1], (I, L, D, am_rf X))) 2 rfl ?_
          refine am_b2_eq rfl (fun z => ?_) (fun z => ?_)
          · replace h := h.1 z
            refine am_wpb (c' := (87, [some (.int v0), some (.double v1), none, some (.double v3), none, some (.int s0)], [.int 0], (I, L, D, am_rf X))) 1 rfl ?_
            exact am_ret_z rfl rfl (Or.inl rfl) h
          · replace h := h.2 z
            refine am_wpb (c' := (87, [some (.int v0), some (.double v1), none, some (.double v3), none, some (.int s0)], [.int 1], (I, L, D, am_rf X))) 2 rfl ?_
            exact am_ret_z rfl rfl (Or.inr rfl) h
  by_cases c1 : v0 = 12
  · replace h := h.2.1 c1
    have e := c1
    refine am_ts_in 1 rfl (by rw [e]; rfl) (by decide) rfl ?_
    refine am_wpb (c' := (90, [some (.int v0), some (.double v1), none, some (.double v3), none, some (.int s0)], [.int s0], (I, L, D, am_rf X))) 1 rfl ?_
    refine am_b1_eq rfl (fun z => ?_) (fun z => ?_)
    · replace h := h.1 z
      refine am_wpb (c' := (123, [some (.int v0), some (.double v1), none, some (.double v3), none, some (.int s0)], [.int 0], (I, L, D, am_rf X))) 1 rfl ?_
      exact am_ret_z rfl rfl (Or.inl rfl) h
    · replace h := h.2 z
      refine am_wpb (c' := (96, [some (.int v0), some (.double v1), none, some (.double v3), none, some (.int s0)], [.int (Op.cmpValue (FP.dcmp v1 FP.dconst0) .l)], (I, L, D, am_rf X))) 3 rfl ?_
      refine am_b1_le rfl (fun z => ?_) (fun z => ?_)
      · replace h := h.1 z
        refine am_wpb (c' := (107, [some (.int v0), some (.double v1), none, some (.double v3), none, some (.int s0)], [.int (Op.cmpValue (FP.dcmp v3 FP.dconst0) .l), .int 0], (I, L, D, am_rf X))) 4 rfl ?_
        refine am_b1_le rfl (fun z => ?_) (fun z => ?_)
        · replace h := h.1 z
          refine am_wpb (c' := (115, [some (.int v0), some (.double v1), none, some (.double v3), none, some (.int s0)], [.int 0, .int 0], (I, L, D, am_rf X))) 1 rfl ?_
          refine am_b2_ne rfl (fun z => ?_) (fun z => ?_)
          · replace h := h.1 z
            refine am_wpb (c' := (123, [some (.int v0), some (.double v1), none, some (.double v3), none, some (.int s0)], [.int 0], (I, L, D, am_rf X))) 1 rfl ?_
            exact am_ret_z rfl rfl (Or.inl rfl) h
          · replace h := h.2 z
            refine am_wpb (c' := (123, [some (.int v0), some (.double v1), none, some (.double v3), none, some (.int s0)], [.int 1], (I, L, D, am_rf X))) 2 rfl ?_
            exact am_ret_z rfl rfl (Or.inr rfl) h
        · replace h := h.2 z
          refine am_wpb (c' := (115, [some (.int v0), some (.double v1), none, some (.double v3), none, some (.int s0)], [.int 1, .int 0], (I, L, D, am_rf X))) 2 rfl ?_
          refine am_b2_ne rfl (fun z => ?_) (fun z => ?_)
          · replace h := h.1 z
            refine am_wpb (c' := (123, [some (.int v0), some (.double v1), none, some (.double v3), none, some (.int s0)], [.int 0], (I, L, D, am_rf X))) 1 rfl ?_
            exact am_ret_z rfl rfl (Or.inl rfl) h
          · replace h := h.2 z
            refine am_wpb (c' := (123, [some (.int v0), some (.double v1), none, some (.double v3), none, some (.int s0)], [.int 1], (I, L, D, am_rf X))) 2 rfl ?_
            exact am_ret_z rfl rfl (Or.inr rfl) h
      · replace h := h.2 z
        refine am_wpb (c' := (107, [some (.int v0), some (.double v1), none, some (.double v3), none, some (.int s0)], [.int (Op.cmpValue (FP.dcmp v3 FP.dconst0) .l), .int 1], (I, L, D, am_rf X))) 5 rfl ?_
        refine am_b1_le rfl (fun z => ?_) (fun z => ?_)
        · replace h := h.1 z
          refine am_wpb (c' := (115, [some (.int v0), some (.double v1), none, some (.double v3), none, some (.int s0)], [.int 0, .int 1], (I, L, D, am_rf X))) 1 rfl ?_
          refine am_b2_ne rfl (fun z => ?_) (fun z => ?_)
          · replace h := h.1 z
            refine am_wpb (c' := (123, [some (.int v0), some (.double v1), none, some (.double v3), none, some (.int s0)], [.int 0], (I, L, D, am_rf X))) 1 rfl ?_
            exact am_ret_z rfl rfl (Or.inl rfl) h
          · replace h := h.2 z
            refine am_wpb (c' := (123, [some (.int v0), some (.double v1), none, some (.double v3), none, some (.int s0)], [.int 1], (I, L, D, am_rf X))) 2 rfl ?_
            exact am_ret_z rfl rfl (Or.inr rfl) h
        · replace h := h.2 z
          refine am_wpb (c' := (115, [some (.int v0), some (.double v1), none, some (.double v3), none, some (.int s0)], [.int 1, .int 1], (I, L, D, am_rf X))) 2 rfl ?_
          refine am_b2_ne rfl (fun z => ?_) (fun z => ?_)
          · replace h := h.1 z
            refine am_wpb (c' := (123, [some (.int v0), some (.double v1), none, some (.double v3), none, some (.int s0)], [.int 0], (I, L, D, am_rf X))) 1 rfl ?_
            exact am_ret_z rfl rfl (Or.inl rfl) h
          · replace h := h.2 z
            refine am_wpb (c' := (123, [some (.int v0), some (.double v1), none, some (.double v3), none, some (.int s0)], [.int 1], (I, L, D, am_rf X))) 2 rfl ?_
            exact am_ret_z rfl rfl (Or.inr rfl) h
  by_cases c2 : v0 = 13
  · replace h := h.2.2.1 c2
    have e := c2
    refine am_ts_in 2 rfl (by rw [e]; rfl) (by decide) rfl ?_
    refine am_wpb (c' := (125, [some (.int v0), some (.double v1), none, some (.double v3), none, some (.int s0)], [.double v1], (I, L, D, am_rf X))) 1 rfl ?_
    obtain ⟨r1, I1, L1, D1, hr, h⟩ := h
    refine am_wp_inv (as := [.double v1]) rfl rfl rfl rfl ⟨_, hr, ?_⟩
    show am_wp ext d mz_16 (128, [some (.int v0), some (.double v1), none, some (.double v3), none, some (.int s0)], [.int r1], (I1, L1, D1, am_rf X)) P
    refine am_b1_eq rfl (fun z => ?_) (fun z => ?_)
    · replace h := h.1 z
      refine am_wpb (c' := (140, [some (.int v0), some (.double v1), none, some (.double v3), none, some (.int s0)], [.int (Op.cmpValue (FP.dcmp v1 FP.dconst0) .l)], (I1, L1, D1, am_rf X))) 3 rfl ?_
      refine am_b1_ne rfl (fun z => ?_) (fun z => ?_)
      · replace h := h.1 z
        refine am_wpb (c' := (155, [some (.int v0), some (.double v1), none, some (.double v3), none, some (.int s0)], [.int 0], (I1, L1, D1, am_rf X))) 1 rfl ?_
        exact am_ret_z rfl rfl (Or.inl rfl) h
      · replace h := h.2 z
        refine am_wpb (c' := (144, [some (.int v0), some (.double v1), none, some (.double v3), none, some (.int s0)], [.double v3], (I1, L1, D1, am_rf X))) 1 rfl ?_
        obtain ⟨r2, I2, L2, D2, hr, h⟩ := h
        refine am_wp_inv (as := [.double v3]) rfl rfl rfl rfl ⟨_, hr, ?_⟩
        show am_wp ext d mz_16 (147, [some (.int v0), some (.double v1), none, some (.double v3), none, some (.int s0)], [.int r2], (I2, L2, D2, am_rf X)) P
        refine am_b1_eq rfl (fun z => ?_) (fun z => ?_)
        · replace h := h.1 z
          refine am_wpb (c' := (155, [some (.int v0), some (.double v1), none, some (.double v3), none, some (.int s0)], [.int 0], (I2, L2, D2, am_rf X))) 1 rfl ?_
          exact am_ret_z rfl rfl (Or.inl rfl) h
        · replace h := h.2 z
          refine am_wpb (c' := (155, [some (.int v0), some (.double v1), none, some (.double v3), none, some (.int s0)], [.int 1], (I2, L2, D2, am_rf X))) 2 rfl ?_
          exact am_ret_z rfl rfl (Or.inr rfl) h
    · replace h := h.2 z
      refine am_wpb (c' := (134, [some (.int v0), some (.double v1), none, some (.double v3), none, some (.int s0)], [.int (Op.cmpValue (FP.dcmp v3 FP.dconst0) .l)], (I1, L1, D1, am_rf X))) 3 rfl ?_
      refine am_b1_eq rfl (fun z => ?_) (fun z => ?_)
      · replace h := h.1 z
        refine am_wpb (c' := (155, [some (.int v0), some (.double v1), none, some (.double v3), none, some (.int s0)], [.int 1], (I1, L1, D1, am_rf X))) 2 rfl ?_
        exact am_ret_z rfl rfl (Or.inr rfl) h
      · replace h := h.2 z
        refine am_wpb (c' := (140, [some (.int v0), some (.double v1), none, some (.double v3), none, some (.int s0)], [.int (Op.cmpValue (FP.dcmp v1 FP.dconst0) .l)], (I1, L1, D1, am_rf X))) 3 rfl ?_
        refine am_b1_ne rfl (fun z => ?_) (fun z => ?_)
        · replace h := h.1 z
          refine am_wpb (c' := (155, [some (.int v0), some (.double v1), none, some (.double v3), none, some (.int s0)], [.int 0], (I1, L1, D1, am_rf X))) 1 rfl ?_
          exact am_ret_z rfl rfl (Or.inl rfl) h
        · replace h := h.2 z
          refine am_wpb (c' := (144, [some (.int v0), some (.double v1), none, some (.double v3), none, some (.int s0)], [.double v3], (I1, L1, D1, am_rf X))) 1 rfl ?_
          obtain ⟨r3, I3, L3, D3, hr, h⟩ := h
          refine am_wp_inv (as := [.double v3]) rfl rfl rfl rfl ⟨_, hr, ?_⟩
          show am_wp ext d mz_16 (147, [some (.int v0), some (.double v1), none, some (.double v3), none, some (.int s0)], [.int r3], (I3, L3, D3, am_rf X)) P
          refine am_b1_eq rfl (fun z => ?_) (fun z => ?_)
          · replace h := h.1 z
            refine am_wpb (c' := (155, [some (.int v0), some (.double v1), none, some (.double v3), none, some (.int s0)], [.int 0], (I3, L3, D3, am_rf X))) 1 rfl ?_
            exact am_ret_z rfl rfl (Or.inl rfl) h
          · replace h := h.2 z
            refine am_wpb (c' := (155, [some (.int v0), some (.double v1), none, some (.double v3), none, some (.int s0)], [.int 1], (I3, L3, D3, am_rf X))) 2 rfl ?_
            exact am_ret_z rfl rfl (Or.inr rfl) h
  by_cases c3 : v0 = 14
  · replace h := h.2.2.2.1 c3
    have e := c3
    refine am_ts_in 3 rfl (by rw [e]; rfl) (by decide) rfl ?_
    refine am_wpb (c' := (158, [some (.int v0), some (.double v1), none, some (.double v3), none, some (.int s0)], [.int s0], (I, L, D, am_rf X))) 1 rfl ?_
    refine am_b1_ne rfl (fun z => ?_) (fun z => ?_)
    · replace h := h.1 z
      refine am_wpb (c' := (178, [some (.int v0), some (.double v1), none, some (.double v3), none, some (.int s0)], [.int 1], (I, L, D, am_rf X))) 2 rfl ?_
      exact am_ret_z rfl rfl (Or.inr rfl) h
    · replace h := h.2 z
      refine am_wpb (c' := (164, [some (.int v0), some (.double v1), none, some (.double v3), none, some (.int s0)], [.int (Op.cmpValue (FP.dcmp v1 FP.dconst0) .l)], (I, L, D, am_rf X))) 3 rfl ?_
      refine am_b1_ne rfl (fun z => ?_) (fun z => ?_)
      · replace h := h.1 z
        refine am_wpb (c' := (178, [some (.int v0), some (.double v1), none, some (.double v3), none, some (.int s0)], [.int 0], (I, L, D, am_rf X))) 1 rfl ?_
        exact am_ret_z rfl rfl (Or.inl rfl) h
      · replace h := h.2 z
        refine am_wpb (c' := (170, [some (.int v0), some (.double v1), none, some (.double v3), none, some (.int s0)], [.int (Op.cmpValue (FP.dcmp v3 FP.dconst0) .l)], (I, L, D, am_rf X))) 3 rfl ?_
        refine am_b1_ne rfl (fun z => ?_) (fun z => ?_)
        · replace h := h.1 z
          refine am_wpb (c' := (178, [some (.int v0), some (.double v1), none, some (.double v3), none, some (.int s0)], [.int 0], (I, L, D, am_rf X))) 1 rfl ?_
          exact am_ret_z rfl rfl (Or.inl rfl) h
        · replace h := h.2 z
          refine am_wpb (c' := (178, [some (.int v0), some (.double v1), none, some (.double v3), none, some (.int s0)], [.int 1], (I, L, D, am_rf X))) 2 rfl ?_
          exact am_ret_z rfl rfl (Or.inr rfl) h
  replace h := h.2.2.2.2 ⟨fun e => c0 (e), fun e => c1 (e), fun e => c2 (e), fun e => c3 (e)⟩
  rcases hsw with hsw | ⟨k, hk, hsw⟩
  · refine am_ts_out rfl hsw ?_
    refine am_wpb (c' := (180, [some (.int v0), some (.double v1), none, some (.double v3), none, some (.int s0)], [.int 0], (I, L, D, am_rf X))) 1 rfl ?_
    exact am_ret_z rfl rfl (Or.inl rfl) h
  · refine am_ts_in (t := 179) k rfl hsw (by omega) ?_ ?_
    · refine am_sw_d (bad := [0, 1, 2, 3]) hk (by decide) (fun hm => ?_)
      simp only [List.mem_cons, List.not_mem_nil, or_false] at hm
      rcases hm with e | e | e | e
      · exact c0 (am_i32 (v := 11) (by rw [hsw, e]; rfl))
      · exact c1 (am_i32 (v := 12) (by rw [hsw, e]; rfl))
      · exact c2 (am_i32 (v := 13) (by rw [hsw, e]; rfl))
      · exact c3 (am_i32 (v := 14) (by rw [hsw, e]; rfl))
    · skip
      refine am_wpb (c' := (180, [some (.int v0), some (.double v1), none, some (.double v3), none, some (.int s0)], [.int 0], (I, L, D, am_rf X))) 1 rfl ?_
      exact am_ret_z rfl rfl (Or.inl rfl) h
/-- SureSums$Doubles.infinite(D)Z -/
def mz_17 : am_Y := (fun pc => am_q17.lookup pc, 2, 2)
theorem mh_17 : am_Ys 17 = some mz_17 := rfl
theorem w17_0 {ext : Nat → List Value → am_M → Option am_R} {d : Nat} {P : am_R → Prop} (I : Nat → Nat → Int32) (L : Nat → Nat → Int64) (D : Nat → Nat → UInt64) (X : am_Rf) (v0 : UInt64)
    (h : ((0 < (Op.cmpValue (FP.dcmp v0 9218868437227405311) .l) → (P (some (.int 1), (I, L, D, am_rf X)))) ∧ (¬ 0 < (Op.cmpValue (FP.dcmp v0 9218868437227405311) .l) → (((0 ≤ (Op.cmpValue (FP.dcmp v0 18442240474082181119) .g) → (P (some (.int 0), (I, L, D, am_rf X)))) ∧ (¬ 0 ≤ (Op.cmpValue (FP.dcmp v0 18442240474082181119) .g) → (P (some (.int 1), (I, L, D, am_rf X))))))))) : am_wp ext d mz_17 (0, [some (.double v0), none], [], (I, L, D, am_rf X)) P := by
  refine am_wpb (c' := (5, [some (.double v0), none], [.int (Op.cmpValue (FP.dcmp v0 9218868437227405311) .l)], (I, L, D, am_rf X))) 3 rfl ?_
  refine am_b1_gt rfl (fun z => ?_) (fun z => ?_)
  · replace h := h.1 z
    refine am_wpb (c' := (21, [some (.double v0), none], [.int 1], (I, L, D, am_rf X))) 2 rfl ?_
    exact am_ret_z rfl rfl (Or.inr rfl) h
  · replace h := h.2 z
    refine am_wpb (c' := (13, [some (.double v0), none], [.int (Op.cmpValue (FP.dcmp v0 18442240474082181119) .g)], (I, L, D, am_rf X))) 3 rfl ?_
    refine am_b1_ge rfl (fun z => ?_) (fun z => ?_)
    · replace h := h.1 z
      refine am_wpb (c' := (21, [some (.double v0), none], [.int 0], (I, L, D, am_rf X))) 1 rfl ?_
      exact am_ret_z rfl rfl (Or.inl rfl) h
    · replace h := h.2 z
      refine am_wpb (c' := (21, [some (.double v0), none], [.int 1], (I, L, D, am_rf X))) 2 rfl ?_
      exact am_ret_z rfl rfl (Or.inr rfl) h
/-- SureSums$Doubles.greater(DD)D -/
def mz_18 : am_Y := (fun pc => am_q18.lookup pc, 4, 4)
theorem mh_18 : am_Ys 18 = some mz_18 := rfl
theorem w18_0 {ext : Nat → List Value → am_M → Option am_R} {d : Nat} {P : am_R → Prop} (I : Nat → Nat → Int32) (L : Nat → Nat → Int64) (D : Nat → Nat → UInt64) (X : am_Rf) (v0 : UInt64) (v2 : UInt64)
    (h : ((¬ (Op.cmpValue (FP.dcmp v0 FP.dconst0) .l) = 0 → ((((Op.cmpValue (FP.dcmp v0 v2) .l) < 0 → (P (some (.double v2), (I, L, D, am_rf X)))) ∧ (¬ (Op.cmpValue (FP.dcmp v0 v2) .l) < 0 → (P (some (.double v0), (I, L, D, am_rf X))))))) ∧ ((Op.cmpValue (FP.dcmp v0 FP.dconst0) .l) = 0 → (((¬ (Op.cmpValue (FP.dcmp v2 FP.dconst0) .l) = 0 → ((((Op.cmpValue (FP.dcmp v0 v2) .l) < 0 → (P (some (.double v2), (I, L, D, am_rf X)))) ∧ (¬ (Op.cmpValue (FP.dcmp v0 v2) .l) < 0 → (P (some (.double v0), (I, L, D, am_rf X))))))) ∧ ((Op.cmpValue (FP.dcmp v2 FP.dconst0) .l) = 0 → (am_nn (FP.dadd v0 v2) = true ∧ (P (some (.double (FP.dadd v0 v2)), (I, L, D, am_rf X)))))))))) : am_wp ext d mz_18 (0, [some (.double v0), none, some (.double v2), none], [], (I, L, D, am_rf X)) P := by
  refine am_wpb (c' := (3, [some (.double v0), none, some (.double v2), none], [.int (Op.cmpValue (FP.dcmp v0 FP.dconst0) .l)], (I, L, D, am_rf X))) 3 rfl ?_
  refine am_b1_ne rfl (fun z => ?_) (fun z => ?_)
  · replace h := h.1 z
    refine am_wpb (c' := (19, [some (.double v0), none, some (.double v2), none], [.int (Op.cmpValue (FP.dcmp v0 v2) .l)], (I, L, D, am_rf X))) 3 rfl ?_
    refine am_b1_lt rfl (fun z => ?_) (fun z => ?_)
    · replace h := h.1 z
      refine am_wpb (c' := (27, [some (.double v0), none, some (.double v2), none], [.double v2], (I, L, D, am_rf X))) 1 rfl ?_
      exact am_ret_d rfl rfl h
    · replace h := h.2 z
      refine am_wpb (c' := (27, [some (.double v0), none, some (.double v2), none], [.double v0], (I, L, D, am_rf X))) 2 rfl ?_
      exact am_ret_d rfl rfl h
  · replace h := h.2 z
    refine am_wpb (c' := (9, [some (.double v0), none, some (.double v2), none], [.int (Op.cmpValue (FP.dcmp v2 FP.dconst0) .l)], (I, L, D, am_rf X))) 3 rfl ?_
    refine am_b1_ne rfl (fun z => ?_) (fun z => ?_)
    · replace h := h.1 z
      refine am_wpb (c' := (19, [some (.double v0), none, some (.double v2), none], [.int (Op.cmpValue (FP.dcmp v0 v2) .l)], (I, L, D, am_rf X))) 3 rfl ?_
      refine am_b1_lt rfl (fun z => ?_) (fun z => ?_)
      · replace h := h.1 z
        refine am_wpb (c' := (27, [some (.double v0), none, some (.double v2), none], [.double v2], (I, L, D, am_rf X))) 1 rfl ?_
        exact am_ret_d rfl rfl h
      · replace h := h.2 z
        refine am_wpb (c' := (27, [some (.double v0), none, some (.double v2), none], [.double v0], (I, L, D, am_rf X))) 2 rfl ?_
        exact am_ret_d rfl rfl h
    · replace h := h.2 z
      refine am_wpb (c' := (14, [some (.double v0), none, some (.double v2), none], [.double v2, .double v0], (I, L, D, am_rf X))) 2 rfl ?_
      obtain ⟨o, h⟩ := h
      refine am_wps (c' := (15, [some (.double v0), none, some (.double v2), none], [.double (FP.dadd v0 v2)], (I, L, D, am_rf X))) rfl rfl (am_s_dadd o) ?_
      exact am_ret_d rfl rfl h
/-- SureSums$Doubles.root(D)D -/
def mz_19 : am_Y := (fun pc => am_q19.lookup pc, 8, 4)
theorem mh_19 : am_Ys 19 = some mz_19 := rfl
theorem w19_0 {ext : Nat → List Value → am_M → Option am_R} {d : Nat} {P : am_R → Prop} (I : Nat → Nat → Int32) (L : Nat → Nat → Int64) (D : Nat → Nat → UInt64) (X : am_Rf) (v0 : UInt64)
    (h : am_wp ext d mz_19 (8, [none, none, some (.double v0), none, some (.int 0), some (.int 0), none, none], [], (I, L, D, am_rf X)) P) : am_wp ext d mz_19 (0, [some (.double v0), none, none, none, none, none, none, none], [], (I, L, D, am_rf X)) P := by
  refine am_wpb (c' := (8, [some (.double v0), none, some (.double v0), none, some (.int 0), some (.int 0), none, none], [], (I, L, D, am_rf X))) 6 rfl ?_
  exact am_fgt (l := [none, none, some (.double v0), none, some (.int 0), some (.int 0), none, none]) (am_le_of (am_leN (am_leN (am_leS (am_leN (am_leS (am_leS (am_leN (am_leN (am_leZ)))))))))) h
theorem w19_8 {ext : Nat → List Value → am_M → Option am_R} {d : Nat} {P : am_R → Prop} (I : Nat → Nat → Int32) (L : Nat → Nat → Int64) (D : Nat → Nat → UInt64) (X : am_Rf) (v2 : UInt64) (v4 : Int32) (v5 : Int32)
    (h : ((1200 ≤ v5 → (am_wp ext d mz_19 (42, [none, none, some (.double v2), none, some (.int v4), some (.int 0), none, none], [], (I, L, D, am_rf X)) P)) ∧ (¬ 1200 ≤ v5 → ((((Op.cmpValue (FP.dcmp v2 4850376798678024192) .l) < 0 → (am_wp ext d mz_19 (42, [none, none, some (.double v2), none, some (.int v4), some (.int 0), none, none], [], (I, L, D, am_rf X)) P)) ∧ (¬ (Op.cmpValue (FP.dcmp v2 4850376798678024192) .l) < 0 → (am_nn (FP.dmul v2 4598175219545276416) = true ∧ (am_wp ext d mz_19 (8, [none, none, some (.double (FP.dmul v2 4598175219545276416)), none, some (.int (v4 + 1)), some (.int (v5 + 1)), none, none], [], (I, L, D, am_rf X)) P)))))))) : am_wp ext d mz_19 (8, [none, none, some (.double v2), none, some (.int v4), some (.int v5), none, none], [], (I, L, D, am_rf X)) P := by
  refine am_wpb (c' := (13, [none, none, some (.double v2), none, some (.int v4), some (.int v5), none, none], [.int 1200, .int v5], (I, L, D, am_rf X))) 2 rfl ?_
  refine am_b2_ge rfl (fun z => ?_) (fun z => ?_)
  · replace h := h.1 z
    refine am_wpb (c' := (42, [none, none, some (.double v2), none, some (.int v4), some (.int 0), none, none], [], (I, L, D, am_rf X))) 2 rfl ?_
    exact h
  · replace h := h.2 z
    refine am_wpb (c' := (21, [none, none, some (.double v2), none, some (.int v4), some (.int v5), none, none], [.int (Op.cmpValue (FP.dcmp v2 4850376798678024192) .l)], (I, L, D, am_rf X))) 3 rfl ?_
    refine am_b1_lt rfl (fun z => ?_) (fun z => ?_)
    · replace h := h.1 z
      refine am_wpb (c' := (42, [none, none, some (.double v2), none, some (.int v4), some (.int 0), none, none], [], (I, L, D, am_rf X))) 2 rfl ?_
      exact h
    · replace h := h.2 z
      refine am_wpb (c' := (28, [none, none, some (.double v2), none, some (.int v4), some (.int v5), none, none], [.double 4598175219545276416, .double v2], (I, L, D, am_rf X))) 2 rfl ?_
      obtain ⟨o, h⟩ := h
      refine am_wps (c' := (29, [none, none, some (.double v2), none, some (.int v4), some (.int v5), none, none], [.double (FP.dmul v2 4598175219545276416)], (I, L, D, am_rf X))) rfl rfl (am_s_dmul o) ?_
      refine am_wpb (c' := (8, [none, none, some (.double (FP.dmul v2 4598175219545276416)), none, some (.int (v4 + 1)), some (.int (v5 + 1)), none, none], [], (I, L, D, am_rf X))) 4 rfl ?_
      exact h
theorem w19_42 {ext : Nat → List Value → am_M → Option am_R} {d : Nat} {P : am_R → Prop} (I : Nat → Nat → Int32) (L : Nat → Nat → Int64) (D : Nat → Nat → UInt64) (X : am_Rf) (v2 : UInt64) (v4 : Int32) (v5 : Int32)
    (h : ((1200 ≤ v5 → (∃ (r1 : Int64) (I1 : Nat → Nat → Int32) (L1 : Nat → Nat → Int64) (D1 : Nat → Nat → UInt64), am_Rn ext d 20 [.long (FP.d2l v2)] (I, L, D, am_rf X) (some (.long r1), (I1, L1, D1, am_rf X)) ∧ (am_wp ext d mz_19 (85, [none, none, none, none, some (.int v4), some (.double (FP.l2d r1)), none, some (.int 26)], [], (I1, L1, D1, am_rf X)) P))) ∧ (¬ 1200 ≤ v5 → (((0 ≤ (Op.cmpValue (FP.dcmp v2 4841369599423283200) .g) → (∃ (r2 : Int64) (I2 : Nat → Nat → Int32) (L2 : Nat → Nat → Int64) (D2 : Nat → Nat → UInt64), am_Rn ext d 20 [.long (FP.d2l v2)] (I, L, D, am_rf X) (some (.long r2), (I2, L2, D2, am_rf X)) ∧ (am_wp ext d mz_19 (85, [none, none, none, none, some (.int v4), some (.double (FP.l2d r2)), none, some (.int 26)], [], (I2, L2, D2, am_rf X)) P))) ∧ (¬ 0 ≤ (Op.cmpValue (FP.dcmp v2 4841369599423283200) .g) → (am_nn (FP.dmul v2 4616189618054758400) = true ∧ (am_wp ext d mz_19 (42, [none, none, some (.double (FP.dmul v2 4616189618054758400)), none, some (.int (v4 + (-1))), some (.int (v5 + 1)), none, none], [], (I, L, D, am_rf X)) P)))))))) : am_wp ext d mz_19 (42, [none, none, some (.double v2), none, some (.int v4), some (.int v5), none, none], [], (I, L, D, am_rf X)) P := by
  refine am_wpb (c' := (47, [none, none, some (.double v2), none, some (.int v4), some (.int v5), none, none], [.int 1200, .int v5], (I, L, D, am_rf X))) 2 rfl ?_
  refine am_b2_ge rfl (fun z => ?_) (fun z => ?_)
  · replace h := h.1 z
    refine am_wpb (c' := (75, [none, none, some (.double v2), none, some (.int v4), some (.int v5), none, none], [.long (FP.d2l v2)], (I, L, D, am_rf X))) 2 rfl ?_
    obtain ⟨r1, I1, L1, D1, hr, h⟩ := h
    refine am_wp_inv (as := [.long (FP.d2l v2)]) rfl rfl rfl rfl ⟨_, hr, ?_⟩
    show am_wp ext d mz_19 (78, [none, none, some (.double v2), none, some (.int v4), some (.int v5), none, none], [.long r1], (I1, L1, D1, am_rf X)) P
    refine am_wpb (c' := (85, [none, none, some (.double v2), none, some (.int v4), some (.double (FP.l2d r1)), none, some (.int 26)], [], (I1, L1, D1, am_rf X))) 4 rfl ?_
    exact am_fgt (l := [none, none, none, none, some (.int v4), some (.double (FP.l2d r1)), none, some (.int 26)]) (am_le_of (am_leN (am_leN (am_leN (am_leN (am_leS (am_leS (am_leN (am_leS (am_leZ)))))))))) h
  · replace h := h.2 z
    refine am_wpb (c' := (55, [none, none, some (.double v2), none, some (.int v4), some (.int v5), none, none], [.int (Op.cmpValue (FP.dcmp v2 4841369599423283200) .g)], (I, L, D, am_rf X))) 3 rfl ?_
    refine am_b1_ge rfl (fun z => ?_) (fun z => ?_)
    · replace h := h.1 z
      refine am_wpb (c' := (75, [none, none, some (.double v2), none, some (.int v4), some (.int v5), none, none], [.long (FP.d2l v2)], (I, L, D, am_rf X))) 2 rfl ?_
      obtain ⟨r2, I2, L2, D2, hr, h⟩ := h
      refine am_wp_inv (as := [.long (FP.d2l v2)]) rfl rfl rfl rfl ⟨_, hr, ?_⟩
      show am_wp ext d mz_19 (78, [none, none, some (.double v2), none, some (.int v4), some (.int v5), none, none], [.long r2], (I2, L2, D2, am_rf X)) P
      refine am_wpb (c' := (85, [none, none, some (.double v2), none, some (.int v4), some (.double (FP.l2d r2)), none, some (.int 26)], [], (I2, L2, D2, am_rf X))) 4 rfl ?_
      exact am_fgt (l := [none, none, none, none, some (.int v4), some (.double (FP.l2d r2)), none, some (.int 26)]) (am_le_of (am_leN (am_leN (am_leN (am_leN (am_leS (am_leS (am_leN (am_leS (am_leZ)))))))))) h
    · replace h := h.2 z
      refine am_wpb (c' := (62, [none, none, some (.double v2), none, some (.int v4), some (.int v5), none, none], [.double 4616189618054758400, .double v2], (I, L, D, am_rf X))) 2 rfl ?_
      obtain ⟨o, h⟩ := h
      refine am_wps (c' := (63, [none, none, some (.double v2), none, some (.int v4), some (.int v5), none, none], [.double (FP.dmul v2 4616189618054758400)], (I, L, D, am_rf X))) rfl rfl (am_s_dmul o) ?_
      refine am_wpb (c' := (42, [none, none, some (.double (FP.dmul v2 4616189618054758400)), none, some (.int (v4 + (-1))), some (.int (v5 + 1)), none, none], [], (I, L, D, am_rf X))) 4 rfl ?_
      exact h
theorem w19_85 {ext : Nat → List Value → am_M → Option am_R} {d : Nat} {P : am_R → Prop} (I : Nat → Nat → Int32) (L : Nat → Nat → Int64) (D : Nat → Nat → UInt64) (X : am_Rf) (v4 : Int32) (v5 : UInt64) (v7 : Int32)
    (h : ((v7 ≤ v4 → (am_wp ext d mz_19 (110, [none, none, none, none, some (.int v4), some (.double v5), none, some (.int 26)], [], (I, L, D, am_rf X)) P)) ∧ (¬ v7 ≤ v4 → (am_nn (FP.dmul v5 4602678819172646912) = true ∧ (am_wp ext d mz_19 (85, [none, none, none, none, some (.int v4), some (.double (FP.dmul v5 4602678819172646912)), none, some (.int (v7 + (-1)))], [], (I, L, D, am_rf X)) P))))) : am_wp ext d mz_19 (85, [none, none, none, none, some (.int v4), some (.double v5), none, some (.int v7)], [], (I, L, D, am_rf X)) P := by
  refine am_wpb (c' := (89, [none, none, none, none, some (.int v4), some (.double v5), none, some (.int v7)], [.int v4, .int v7], (I, L, D, am_rf X))) 2 rfl ?_
  refine am_b2_le rfl (fun z => ?_) (fun z => ?_)
  · replace h := h.1 z
    refine am_wpb (c' := (110, [none, none, none, none, some (.int v4), some (.double v5), none, some (.int 26)], [], (I, L, D, am_rf X))) 2 rfl ?_
    exact h
  · replace h := h.2 z
    refine am_wpb (c' := (97, [none, none, none, none, some (.int v4), some (.double v5), none, some (.int v7)], [.double 4602678819172646912, .double v5], (I, L, D, am_rf X))) 2 rfl ?_
    obtain ⟨o, h⟩ := h
    refine am_wps (c' := (98, [none, none, none, none, some (.int v4), some (.double v5), none, some (.int v7)], [.double (FP.dmul v5 4602678819172646912)], (I, L, D, am_rf X))) rfl rfl (am_s_dmul o) ?_
    refine am_wpb (c' := (85, [none, none, none, none, some (.int v4), some (.double (FP.dmul v5 4602678819172646912)), none, some (.int (v7 + (-1)))], [], (I, L, D, am_rf X))) 3 rfl ?_
    exact h
theorem w19_110 {ext : Nat → List Value → am_M → Option am_R} {d : Nat} {P : am_R → Prop} (I : Nat → Nat → Int32) (L : Nat → Nat → Int64) (D : Nat → Nat → UInt64) (X : am_Rf) (v4 : Int32) (v5 : UInt64) (v7 : Int32)
    (h : ((v4 ≤ v7 → (P (some (.double v5), (I, L, D, am_rf X)))) ∧ (¬ v4 ≤ v7 → (am_nn (FP.dmul v5 4611686018427387904) = true ∧ (am_wp ext d mz_19 (110, [none, none, none, none, some (.int v4), some (.double (FP.dmul v5 4611686018427387904)), none, some (.int (v7 + 1))], [], (I, L, D, am_rf X)) P))))) : am_wp ext d mz_19 (110, [none, none, none, none, some (.int v4), some (.double v5), none, some (.int v7)], [], (I, L, D, am_rf X)) P := by
  refine am_wpb (c' := (114, [none, none, none, none, some (.int v4), some (.double v5), none, some (.int v7)], [.int v4, .int v7], (I, L, D, am_rf X))) 2 rfl ?_
  refine am_b2_ge rfl (fun z => ?_) (fun z => ?_)
  · replace h := h.1 z
    refine am_wpb (c' := (133, [none, none, none, none, some (.int v4), some (.double v5), none, some (.int v7)], [.double v5], (I, L, D, am_rf X))) 1 rfl ?_
    exact am_ret_d rfl rfl h
  · replace h := h.2 z
    refine am_wpb (c' := (122, [none, none, none, none, some (.int v4), some (.double v5), none, some (.int v7)], [.double 4611686018427387904, .double v5], (I, L, D, am_rf X))) 2 rfl ?_
    obtain ⟨o, h⟩ := h
    refine am_wps (c' := (123, [none, none, none, none, some (.int v4), some (.double v5), none, some (.int v7)], [.double (FP.dmul v5 4611686018427387904)], (I, L, D, am_rf X))) rfl rfl (am_s_dmul o) ?_
    refine am_wpb (c' := (110, [none, none, none, none, some (.int v4), some (.double (FP.dmul v5 4611686018427387904)), none, some (.int (v7 + 1))], [], (I, L, D, am_rf X))) 3 rfl ?_
    exact h
/-- SureSums$Doubles.wholeRoot(J)J -/
def mz_20 : am_Y := (fun pc => am_q20.lookup pc, 9, 3)
theorem mh_20 : am_Ys 20 = some mz_20 := rfl
theorem w20_0 {ext : Nat → List Value → am_M → Option am_R} {d : Nat} {P : am_R → Prop} (I : Nat → Nat → Int32) (L : Nat → Nat → Int64) (D : Nat → Nat → UInt64) (X : am_Rf) (v0 : Int64)
    (h : am_wp ext d mz_20 (9, [some (.long v0), none, some (.long 0), none, some (.long 0), none, some (.int 26), none, none], [], (I, L, D, am_rf X)) P) : am_wp ext d mz_20 (0, [some (.long v0), none, none, none, none, none, none, none, none], [], (I, L, D, am_rf X)) P := by
  refine am_wpb (c' := (9, [some (.long v0), none, some (.long 0), none, some (.long 0), none, some (.int 26), none, none], [], (I, L, D, am_rf X))) 6 rfl ?_
  exact h
theorem w20_9 {ext : Nat → List Value → am_M → Option am_R} {d : Nat} {P : am_R → Prop} (I : Nat → Nat → Int32) (L : Nat → Nat → Int64) (D : Nat → Nat → UInt64) (X : am_Rf) (v0 : Int64) (v2 : Int64) (v4 : Int64) (v6 : Int32)
    (h : ((v6 < (-27) → (P (some (.long ((v2 + 1) >>> ((Int32.toInt64 1) &&& 63))), (I, L, D, am_rf X)))) ∧ (¬ v6 < (-27) → (((v6 < 0 → (am_wp ext d mz_20 (41, [some (.long v0), none, some (.long v2), none, none, none, some (.int v6), none, none], [.long 0, .long (v4 * 4)], (I, L, D, am_rf X)) P)) ∧ (¬ v6 < 0 → (am_wp ext d mz_20 (41, [some (.long v0), none, some (.long v2), none, none, none, some (.int v6), none, none], [.long ((v0 >>> ((Int32.toInt64 (2 * v6)) &&& 63)) &&& 3), .long (v4 * 4)], (I, L, D, am_rf X)) P))))))) : am_wp ext d mz_20 (9, [some (.long v0), none, some (.long v2), none, some (.long v4), none, some (.int v6), none, none], [], (I, L, D, am_rf X)) P := by
  refine am_wpb (c' := (13, [some (.long v0), none, some (.long v2), none, some (.long v4), none, some (.int v6), none, none], [.int (-27), .int v6], (I, L, D, am_rf X))) 2 rfl ?_
  refine am_b2_lt rfl (fun z => ?_) (fun z => ?_)
  · replace h := h.1 z
    refine am_wpb (c' := (89, [some (.long v0), none, some (.long v2), none, some (.long v4), none, some (.int v6), none, none], [.long ((v2 + 1) >>> ((Int32.toInt64 1) &&& 63))], (I, L, D, am_rf X))) 5 rfl ?_
    exact am_ret_l rfl rfl h
  · replace h := h.2 z
    refine am_wpb (c' := (24, [some (.long v0), none, some (.long v2), none, some (.long v4), none, some (.int v6), none, none], [.int v6, .long (v4 * 4)], (I, L, D, am_rf X))) 4 rfl ?_
    refine am_b1_lt rfl (fun z => ?_) (fun z => ?_)
    · replace h := h.1 z
      refine am_wpb (c' := (41, [some (.long v0), none, some (.long v2), none, some (.long v4), none, some (.int v6), none, none], [.long 0, .long (v4 * 4)], (I, L, D, am_rf X))) 1 rfl ?_
      exact am_fgt (l := [some (.long v0), none, some (.long v2), none, none, none, some (.int v6), none, none]) (am_le_of (am_leS (am_leN (am_leS (am_leN (am_leN (am_leN (am_leS (am_leN (am_leN (am_leZ))))))))))) h
    · replace h := h.2 z
      refine am_wpb (c' := (41, [some (.long v0), none, some (.long v2), none, some (.long v4), none, some (.int v6), none, none], [.long ((v0 >>> ((Int32.toInt64 (2 * v6)) &&& 63)) &&& 3), .long (v4 * 4)], (I, L, D, am_rf X))) 8 rfl ?_
      exact am_fgt (l := [some (.long v0), none, some (.long v2), none, none, none, some (.int v6), none, none]) (am_le_of (am_leS (am_leN (am_leS (am_leN (am_leN (am_leN (am_leS (am_leN (am_leN (am_leZ))))))))))) h
theorem w20_41 {ext : Nat → List Value → am_M → Option am_R} {d : Nat} {P : am_R → Prop} (I : Nat → Nat → Int32) (L : Nat → Nat → Int64) (D : Nat → Nat → UInt64) (X : am_Rf) (v0 : Int64) (v2 : Int64) (v6 : Int32) (s0 : Int64) (s1 : Int64)
    (h : (((s1 + s0) < ((v2 * 4) + 1) → (am_wp ext d mz_20 (9, [some (.long v0), none, some (.long (v2 * 2)), none, some (.long (s1 + s0)), none, some (.int (v6 + (-1))), none, none], [], (I, L, D, am_rf X)) P)) ∧ (¬ (s1 + s0) < ((v2 * 4) + 1) → (am_wp ext d mz_20 (9, [some (.long v0), none, some (.long ((v2 * 2) + 1)), none, some (.long ((s1 + s0) - ((v2 * 4) + 1))), none, some (.int (v6 + (-1))), none, none], [], (I, L, D, am_rf X)) P)))) : am_wp ext d mz_20 (41, [some (.long v0), none, some (.long v2), none, none, none, some (.int v6), none, none], [.long s0, .long s1], (I, L, D, am_rf X)) P := by
  refine am_wpb (c' := (63, [some (.long v0), none, some (.long (v2 * 2)), none, some (.long (s1 + s0)), none, some (.int v6), some (.long ((v2 * 4) + 1)), none], [.long ((v2 * 4) + 1), .long (s1 + s0)], (I, L, D, am_rf X))) 14 rfl ?_
  refine am_lc_lt rfl rfl (fun z => ?_) (fun z => ?_)
  · replace h := h.1 z
    refine am_wpb (c' := (9, [some (.long v0), none, some (.long (v2 * 2)), none, some (.long (s1 + s0)), none, some (.int (v6 + (-1))), some (.long ((v2 * 4) + 1)), none], [], (I, L, D, am_rf X))) 2 rfl ?_
    exact am_fgt (l := [some (.long v0), none, some (.long (v2 * 2)), none, some (.long (s1 + s0)), none, some (.int (v6 + (-1))), none, none]) (am_le_of (am_leS (am_leN (am_leS (am_leN (am_leS (am_leN (am_leS (am_leN (am_leN (am_leZ))))))))))) h
  · replace h := h.2 z
    refine am_wpb (c' := (9, [some (.long v0), none, some (.long ((v2 * 2) + 1)), none, some (.long ((s1 + s0) - ((v2 * 4) + 1))), none, some (.int (v6 + (-1))), some (.long ((v2 * 4) + 1)), none], [], (I, L, D, am_rf X))) 10 rfl ?_
    exact am_fgt (l := [some (.long v0), none, some (.long ((v2 * 2) + 1)), none, some (.long ((s1 + s0) - ((v2 * 4) + 1))), none, some (.int (v6 + (-1))), none, none]) (am_le_of (am_leS (am_leN (am_leS (am_leN (am_leS (am_leN (am_leS (am_leN (am_leN (am_leZ))))))))))) h
/-- SureSums$Fractions.known(I)Z -/
def mz_21 : am_Y := (fun pc => am_q21.lookup pc, 2, 2)
theorem mh_21 : am_Ys 21 = some mz_21 := rfl
theorem w21_0 {ext : Nat → List Value → am_M → Option am_R} {d : Nat} {P : am_R → Prop} (I : Nat → Nat → Int32) (L : Nat → Nat → Int64) (D : Nat → Nat → UInt64) (X : am_Rf) (v1 : Int32)
    (h : ((v1 < 0 → (P (some (.int 0), (I, L, D, am_rf X)))) ∧ (¬ v1 < 0 → (((18 ≤ v1 → (P (some (.int 0), (I, L, D, am_rf X)))) ∧ (¬ 18 ≤ v1 → (am_inb v1 18 = true ∧ ((((L 31 (Int32.toNatClampNeg v1)) = 0 → (P (some (.int 0), (I, L, D, am_rf X)))) ∧ (¬ (L 31 (Int32.toNatClampNeg v1)) = 0 → (P (some (.int 1), (I, L, D, am_rf X))))))))))))) : am_wp ext d mz_21 (0, [some (.ref 29), some (.int v1)], [], (I, L, D, am_rf X)) P := by
  refine am_wpb (c' := (1, [some (.ref 29), some (.int v1)], [.int v1], (I, L, D, am_rf X))) 1 rfl ?_
  refine am_b1_lt rfl (fun z => ?_) (fun z => ?_)
  · replace h := h.1 z
    refine am_wpb (c' := (26, [some (.ref 29), some (.int v1)], [.int 0], (I, L, D, am_rf X))) 1 rfl ?_
    exact am_ret_z rfl rfl (Or.inl rfl) h
  · replace h := h.2 z
    refine am_wpb (c' := (7, [some (.ref 29), some (.int v1)], [.int 18, .int v1], (I, L, D, am_rf X))) 2 rfl ?_
    refine am_b2_ge rfl (fun z => ?_) (fun z => ?_)
    · replace h := h.1 z
      refine am_wpb (c' := (26, [some (.ref 29), some (.int v1)], [.int 0], (I, L, D, am_rf X))) 1 rfl ?_
      exact am_ret_z rfl rfl (Or.inl rfl) h
    · replace h := h.2 z
      refine am_wpb (c' := (15, [some (.ref 29), some (.int v1)], [.int v1, .ref 31], (I, L, D, am_rf X))) 3 rfl ?_
      obtain ⟨o, h⟩ := h
      refine am_wps (c' := (16, [some (.ref 29), some (.int v1)], [.long (L 31 (Int32.toNatClampNeg v1))], (I, L, D, am_rf X))) rfl rfl (am_s_lald rfl o) ?_
      refine am_wpb (c' := (17, [some (.ref 29), some (.int v1)], [.long 0, .long (L 31 (Int32.toNatClampNeg v1))], (I, L, D, am_rf X))) 1 rfl ?_
      refine am_lc_eq rfl rfl (fun z => ?_) (fun z => ?_)
      · replace h := h.1 z
        refine am_wpb (c' := (26, [some (.ref 29), some (.int v1)], [.int 0], (I, L, D, am_rf X))) 1 rfl ?_
        exact am_ret_z rfl rfl (Or.inl rfl) h
      · replace h := h.2 z
        refine am_wpb (c' := (26, [some (.ref 29), some (.int v1)], [.int 1], (I, L, D, am_rf X))) 2 rfl ?_
        exact am_ret_z rfl rfl (Or.inr rfl) h
/-- SureSums$Fractions.upperOf(I)J -/
def mz_22 : am_Y := (fun pc => am_q22.lookup pc, 2, 3)
theorem mh_22 : am_Ys 22 = some mz_22 := rfl
theorem w22_0 {ext : Nat → List Value → am_M → Option am_R} {d : Nat} {P : am_R → Prop} (I : Nat → Nat → Int32) (L : Nat → Nat → Int64) (D : Nat → Nat → UInt64) (X : am_Rf) (v1 : Int32)
    (h : ∃ (r1 : Int32) (I1 : Nat → Nat → Int32) (L1 : Nat → Nat → Int64) (D1 : Nat → Nat → UInt64), am_Rn ext d 21 [.ref 29, .int v1] (I, L, D, am_rf X) (some (.int r1), (I1, L1, D1, am_rf X)) ∧ (((r1 = 0 → (P (some (.long 0), (I1, L1, D1, am_rf X)))) ∧ (¬ r1 = 0 → (am_inb v1 18 = true ∧ (P (some (.long (L1 30 (Int32.toNatClampNeg v1))), (I1, L1, D1, am_rf X)))))))) : am_wp ext d mz_22 (0, [some (.ref 29), some (.int v1)], [], (I, L, D, am_rf X)) P := by
  refine am_wpb (c' := (2, [some (.ref 29), some (.int v1)], [.int v1, .ref 29], (I, L, D, am_rf X))) 2 rfl ?_
  obtain ⟨r1, I1, L1, D1, hr, h⟩ := h
  refine am_wp_inv (as := [.ref 29, .int v1]) rfl rfl rfl rfl ⟨_, hr, ?_⟩
  show am_wp ext d mz_22 (5, [some (.ref 29), some (.int v1)], [.int r1], (I1, L1, D1, am_rf X)) P
  refine am_b1_eq rfl (fun z => ?_) (fun z => ?_)
  · replace h := h.1 z
    refine am_wpb (c' := (18, [some (.ref 29), some (.int v1)], [.long 0], (I1, L1, D1, am_rf X))) 1 rfl ?_
    exact am_ret_l rfl rfl h
  · replace h := h.2 z
    refine am_wpb (c' := (13, [some (.ref 29), some (.int v1)], [.int v1, .ref 30], (I1, L1, D1, am_rf X))) 3 rfl ?_
    obtain ⟨o, h⟩ := h
    refine am_wps (c' := (14, [some (.ref 29), some (.int v1)], [.long (L1 30 (Int32.toNatClampNeg v1))], (I1, L1, D1, am_rf X))) rfl rfl (am_s_lald rfl o) ?_
    refine am_wpb (c' := (18, [some (.ref 29), some (.int v1)], [.long (L1 30 (Int32.toNatClampNeg v1))], (I1, L1, D1, am_rf X))) 1 rfl ?_
    exact am_ret_l rfl rfl h
/-- SureSums$Fractions.lowerOf(I)J -/
def mz_23 : am_Y := (fun pc => am_q23.lookup pc, 2, 3)
theorem mh_23 : am_Ys 23 = some mz_23 := rfl
theorem w23_0 {ext : Nat → List Value → am_M → Option am_R} {d : Nat} {P : am_R → Prop} (I : Nat → Nat → Int32) (L : Nat → Nat → Int64) (D : Nat → Nat → UInt64) (X : am_Rf) (v1 : Int32)
    (h : ∃ (r1 : Int32) (I1 : Nat → Nat → Int32) (L1 : Nat → Nat → Int64) (D1 : Nat → Nat → UInt64), am_Rn ext d 21 [.ref 29, .int v1] (I, L, D, am_rf X) (some (.int r1), (I1, L1, D1, am_rf X)) ∧ (((r1 = 0 → (P (some (.long 0), (I1, L1, D1, am_rf X)))) ∧ (¬ r1 = 0 → (am_inb v1 18 = true ∧ (P (some (.long (L1 31 (Int32.toNatClampNeg v1))), (I1, L1, D1, am_rf X)))))))) : am_wp ext d mz_23 (0, [some (.ref 29), some (.int v1)], [], (I, L, D, am_rf X)) P := by
  refine am_wpb (c' := (2, [some (.ref 29), some (.int v1)], [.int v1, .ref 29], (I, L, D, am_rf X))) 2 rfl ?_
  obtain ⟨r1, I1, L1, D1, hr, h⟩ := h
  refine am_wp_inv (as := [.ref 29, .int v1]) rfl rfl rfl rfl ⟨_, hr, ?_⟩
  show am_wp ext d mz_23 (5, [some (.ref 29), some (.int v1)], [.int r1], (I1, L1, D1, am_rf X)) P
  refine am_b1_eq rfl (fun z => ?_) (fun z => ?_)
  · replace h := h.1 z
    refine am_wpb (c' := (18, [some (.ref 29), some (.int v1)], [.long 0], (I1, L1, D1, am_rf X))) 1 rfl ?_
    exact am_ret_l rfl rfl h
  · replace h := h.2 z
    refine am_wpb (c' := (13, [some (.ref 29), some (.int v1)], [.int v1, .ref 31], (I1, L1, D1, am_rf X))) 3 rfl ?_
    obtain ⟨o, h⟩ := h
    refine am_wps (c' := (14, [some (.ref 29), some (.int v1)], [.long (L1 31 (Int32.toNatClampNeg v1))], (I1, L1, D1, am_rf X))) rfl rfl (am_s_lald rfl o) ?_
    refine am_wpb (c' := (18, [some (.ref 29), some (.int v1)], [.long (L1 31 (Int32.toNatClampNeg v1))], (I1, L1, D1, am_rf X))) 1 rfl ?_
    exact am_ret_l rfl rfl h
/-- SureSums$Fractions.areSame(II)Z -/
def mz_24 : am_Y := (fun pc => am_q24.lookup pc, 3, 2)
theorem mh_24 : am_Ys 24 = some mz_24 := rfl
theorem w24_0 {ext : Nat → List Value → am_M → Option am_R} {d : Nat} {P : am_R → Prop} (I : Nat → Nat → Int32) (L : Nat → Nat → Int64) (D : Nat → Nat → UInt64) (X : am_Rf) (v1 : Int32) (v2 : Int32)
    (h : ∃ (r1 : Int32) (I1 : Nat → Nat → Int32) (L1 : Nat → Nat → Int64) (D1 : Nat → Nat → UInt64), am_Rn ext d 21 [.ref 29, .int v1] (I, L, D, am_rf X) (some (.int r1), (I1, L1, D1, am_rf X)) ∧ (((r1 = 0 → (P (some (.int 0), (I1, L1, D1, am_rf X)))) ∧ (¬ r1 = 0 → (∃ (r2 : Int32) (I2 : Nat → Nat → Int32) (L2 : Nat → Nat → Int64) (D2 : Nat → Nat → UInt64), am_Rn ext d 21 [.ref 29, .int v2] (I1, L1, D1, am_rf X) (some (.int r2), (I2, L2, D2, am_rf X)) ∧ (((r2 = 0 → (P (some (.int 0), (I2, L2, D2, am_rf X)))) ∧ (¬ r2 = 0 → (am_inb v1 18 = true ∧ (am_inb v2 18 = true ∧ (((¬ (L2 30 (Int32.toNatClampNeg v1)) = (L2 30 (Int32.toNatClampNeg v2)) → (P (some (.int 0), (I2, L2, D2, am_rf X)))) ∧ ((L2 30 (Int32.toNatClampNeg v1)) = (L2 30 (Int32.toNatClampNeg v2)) → (am_inb v1 18 = true ∧ (am_inb v2 18 = true ∧ (((¬ (L2 31 (Int32.toNatClampNeg v1)) = (L2 31 (Int32.toNatClampNeg v2)) → (P (some (.int 0), (I2, L2, D2, am_rf X)))) ∧ ((L2 31 (Int32.toNatClampNeg v1)) = (L2 31 (Int32.toNatClampNeg v2)) → (P (some (.int 1), (I2, L2, D2, am_rf X))))))))))))))))))))) : am_wp ext d mz_24 (0, [some (.ref 29), some (.int v1), some (.int v2)], [], (I, L, D, am_rf X)) P := by
  refine am_wpb (c' := (2, [some (.ref 29), some (.int v1), some (.int v2)], [.int v1, .ref 29], (I, L, D, am_rf X))) 2 rfl ?_
  obtain ⟨r1, I1, L1, D1, hr, h⟩ := h
  refine am_wp_inv (as := [.ref 29, .int v1]) rfl rfl rfl rfl ⟨_, hr, ?_⟩
  show am_wp ext d mz_24 (5, [some (.ref 29), some (.int v1), some (.int v2)], [.int r1], (I1, L1, D1, am_rf X)) P
  refine am_b1_eq rfl (fun z => ?_) (fun z => ?_)
  · replace h := h.1 z
    refine am_wpb (c' := (53, [some (.ref 29), some (.int v1), some (.int v2)], [.int 0], (I1, L1, D1, am_rf X))) 1 rfl ?_
    exact am_ret_z rfl rfl (Or.inl rfl) h
  · replace h := h.2 z
    refine am_wpb (c' := (10, [some (.ref 29), some (.int v1), some (.int v2)], [.int v2, .ref 29], (I1, L1, D1, am_rf X))) 2 rfl ?_
    obtain ⟨r2, I2, L2, D2, hr, h⟩ := h
    refine am_wp_inv (as := [.ref 29, .int v2]) rfl rfl rfl rfl ⟨_, hr, ?_⟩
    show am_wp ext d mz_24 (13, [some (.ref 29), some (.int v1), some (.int v2)], [.int r2], (I2, L2, D2, am_rf X)) P
    refine am_b1_eq rfl (fun z => ?_) (fun z => ?_)
    · replace h := h.1 z
      refine am_wpb (c' := (53, [some (.ref 29), some (.int v1), some (.int v2)], [.int 0], (I2, L2, D2, am_rf X))) 1 rfl ?_
      exact am_ret_z rfl rfl (Or.inl rfl) h
    · replace h := h.2 z
      refine am_wpb (c' := (21, [some (.ref 29), some (.int v1), some (.int v2)], [.int v1, .ref 30], (I2, L2, D2, am_rf X))) 3 rfl ?_
      obtain ⟨o, h⟩ := h
      refine am_wps (c' := (22, [some (.ref 29), some (.int v1), some (.int v2)], [.long (L2 30 (Int32.toNatClampNeg v1))], (I2, L2, D2, am_rf X))) rfl rfl (am_s_lald rfl o) ?_
      refine am_wpb (c' := (27, [some (.ref 29), some (.int v1), some (.int v2)], [.int v2, .ref 30, .long (L2 30 (Int32.toNatClampNeg v1))], (I2, L2, D2, am_rf X))) 3 rfl ?_
      obtain ⟨o, h⟩ := h
      refine am_wps (c' := (28, [some (.ref 29), some (.int v1), some (.int v2)], [.long (L2 30 (Int32.toNatClampNeg v2)), .long (L2 30 (Int32.toNatClampNeg v1))], (I2, L2, D2, am_rf X))) rfl rfl (am_s_lald rfl o) ?_
      refine am_lc_ne rfl rfl (fun z => ?_) (fun z => ?_)
      · replace h := h.1 z
        refine am_wpb (c' := (53, [some (.ref 29), some (.int v1), some (.int v2)], [.int 0], (I2, L2, D2, am_rf X))) 1 rfl ?_
        exact am_ret_z rfl rfl (Or.inl rfl) h
      · replace h := h.2 z
        refine am_wpb (c' := (37, [some (.ref 29), some (.int v1), some (.int v2)], [.int v1, .ref 31], (I2, L2, D2, am_rf X))) 3 rfl ?_
        obtain ⟨o, h⟩ := h
        refine am_wps (c' := (38, [some (.ref 29), some (.int v1), some (.int v2)], [.long (L2 31 (Int32.toNatClampNeg v1))], (I2, L2, D2, am_rf X))) rfl rfl (am_s_lald rfl o) ?_
        refine am_wpb (c' := (43, [some (.ref 29), some (.int v1), some (.int v2)], [.int v2, .ref 31, .long (L2 31 (Int32.toNatClampNeg v1))], (I2, L2, D2, am_rf X))) 3 rfl ?_
        obtain ⟨o, h⟩ := h
        refine am_wps (c' := (44, [some (.ref 29), some (.int v1), some (.int v2)], [.long (L2 31 (Int32.toNatClampNeg v2)), .long (L2 31 (Int32.toNatClampNeg v1))], (I2, L2, D2, am_rf X))) rfl rfl (am_s_lald rfl o) ?_
        refine am_lc_ne rfl rfl (fun z => ?_) (fun z => ?_)
        · replace h := h.1 z
          refine am_wpb (c' := (53, [some (.ref 29), some (.int v1), some (.int v2)], [.int 0], (I2, L2, D2, am_rf X))) 1 rfl ?_
          exact am_ret_z rfl rfl (Or.inl rfl) h
        · replace h := h.2 z
          refine am_wpb (c' := (53, [some (.ref 29), some (.int v1), some (.int v2)], [.int 1], (I2, L2, D2, am_rf X))) 2 rfl ?_
          exact am_ret_z rfl rfl (Or.inr rfl) h
/-- SureSums$Fractions.reckonAll(LSureSums$Program;)V -/
def mz_25 : am_Y := (fun pc => am_q25.lookup pc, 3, 0)
theorem mh_25 : am_Ys 25 = some mz_25 := rfl
theorem w25_0 {ext : Nat → List Value → am_M → Option am_R} {d : Nat} {P : am_R → Prop} (I : Nat → Nat → Int32) (L : Nat → Nat → Int64) (D : Nat → Nat → UInt64) (X : am_Rf)
    (h : ∃ (I1 : Nat → Nat → Int32) (L1 : Nat → Nat → Int64) (D1 : Nat → Nat → UInt64), am_Rn ext d 208 [.ref 31, .long 0] (I, L, D, am_rf X) (none, (I1, L1, D1, am_rf X)) ∧ (am_wp ext d mz_25 (10, [some (.ref 29), some (.ref 11), some (.int 0)], [], (I1, L1, D1, am_rf X)) P)) : am_wp ext d mz_25 (0, [some (.ref 29), some (.ref 11), none], [], (I, L, D, am_rf X)) P := by
  refine am_wpb (c' := (5, [some (.ref 29), some (.ref 11), none], [.long 0, .ref 31], (I, L, D, am_rf X))) 3 rfl ?_
  obtain ⟨I1, L1, D1, hr, h⟩ := h
  refine am_wp_inv (as := [.ref 31, .long 0]) rfl rfl rfl rfl ⟨_, hr, ?_⟩
  show am_wp ext d mz_25 (8, [some (.ref 29), some (.ref 11), none], [], (I1, L1, D1, am_rf X)) P
  refine am_wpb (c' := (10, [some (.ref 29), some (.ref 11), some (.int 0)], [], (I1, L1, D1, am_rf X))) 2 rfl ?_
  exact h
theorem w25_10 {ext : Nat → List Value → am_M → Option am_R} {d : Nat} {P : am_R → Prop} (I : Nat → Nat → Int32) (L : Nat → Nat → Int64) (D : Nat → Nat → UInt64) (X : am_Rf) (v2 : Int32)
    (h : (((I 11 9) ≤ v2 → (P (none, (I, L, D, am_rf X)))) ∧ (¬ (I 11 9) ≤ v2 → (((18 ≤ v2 → (P (none, (I, L, D, am_rf X)))) ∧ (¬ 18 ≤ v2 → (∃ (r1 : Int32) (I1 : Nat → Nat → Int32) (L1 : Nat → Nat → Int64) (D1 : Nat → Nat → UInt64), am_Rn ext d 33 [.ref 11, .int v2] (I, L, D, am_rf X) (some (.int r1), (I1, L1, D1, am_rf X)) ∧ (((¬ r1 = 0 → (am_wp ext d mz_25 (10, [some (.ref 29), some (.ref 11), some (.int (v2 + 1))], [], (I1, L1, D1, am_rf X)) P)) ∧ (r1 = 0 → (∃ (r2 : Int32) (I2 : Nat → Nat → Int32) (L2 : Nat → Nat → Int64) (D2 : Nat → Nat → UInt64), am_Rn ext d 26 [.ref 29, .ref 11, .int v2] (I1, L1, D1, am_rf X) (some (.int r2), (I2, L2, D2, am_rf X)) ∧ (((r2 = 0 → (am_wp ext d mz_25 (10, [some (.ref 29), some (.ref 11), some (.int (v2 + 1))], [], (I2, L2, D2, am_rf X)) P)) ∧ (¬ r2 = 0 → (((¬ (I2 29 4) = 1 → (am_wp ext d mz_25 (10, [some (.ref 29), some (.ref 11), some (.int (v2 + 1))], [], (I2, L2, D2, am_rf X)) P)) ∧ ((I2 29 4) = 1 → (am_inb v2 18 = true ∧ (am_inb v2 18 = true ∧ (am_wp ext d mz_25 (10, [some (.ref 29), some (.ref 11), some (.int (v2 + 1))], [], (I2, am_uL (am_uL L2 30 (Int32.toNatClampNeg v2) (L2 32 0)) 31 (Int32.toNatClampNeg v2) (L2 33 0), D2, am_rf X)) P)))))))))))))))))))) : am_wp ext d mz_25 (10, [some (.ref 29), some (.ref 11), some (.int v2)], [], (I, L, D, am_rf X)) P := by
  refine am_wpb (c' := (15, [some (.ref 29), some (.ref 11), some (.int v2)], [.int (I 11 9), .int v2], (I, L, D, am_rf X))) 3 rfl ?_
  refine am_b2_ge rfl (fun z => ?_) (fun z => ?_)
  · replace h := h.1 z
    exact am_ret_v rfl rfl h
  · replace h := h.2 z
    refine am_wpb (c' := (21, [some (.ref 29), some (.ref 11), some (.int v2)], [.int 18, .int v2], (I, L, D, am_rf X))) 2 rfl ?_
    refine am_b2_ge rfl (fun z => ?_) (fun z => ?_)
    · replace h := h.1 z
      exact am_ret_v rfl rfl h
    · replace h := h.2 z
      refine am_wpb (c' := (26, [some (.ref 29), some (.ref 11), some (.int v2)], [.int v2, .ref 11], (I, L, D, am_rf X))) 2 rfl ?_
      obtain ⟨r1, I1, L1, D1, hr, h⟩ := h
      refine am_wp_inv (as := [.ref 11, .int v2]) rfl rfl rfl rfl ⟨_, hr, ?_⟩
      show am_wp ext d mz_25 (29, [some (.ref 29), some (.ref 11), some (.int v2)], [.int r1], (I1, L1, D1, am_rf X)) P
      refine am_b1_ne rfl (fun z => ?_) (fun z => ?_)
      · replace h := h.1 z
        refine am_wpb (c' := (10, [some (.ref 29), some (.ref 11), some (.int (v2 + 1))], [], (I1, L1, D1, am_rf X))) 2 rfl ?_
        exact h
      · replace h := h.2 z
        refine am_wpb (c' := (35, [some (.ref 29), some (.ref 11), some (.int v2)], [.int v2, .ref 11, .ref 29], (I1, L1, D1, am_rf X))) 3 rfl ?_
        obtain ⟨r2, I2, L2, D2, hr, h⟩ := h
        refine am_wp_inv (as := [.ref 29, .ref 11, .int v2]) rfl rfl rfl rfl ⟨_, hr, ?_⟩
        show am_wp ext d mz_25 (38, [some (.ref 29), some (.ref 11), some (.int v2)], [.int r2], (I2, L2, D2, am_rf X)) P
        refine am_b1_eq rfl (fun z => ?_) (fun z => ?_)
        · replace h := h.1 z
          refine am_wpb (c' := (10, [some (.ref 29), some (.ref 11), some (.int (v2 + 1))], [], (I2, L2, D2, am_rf X))) 2 rfl ?_
          exact h
        · replace h := h.2 z
          refine am_wpb (c' := (46, [some (.ref 29), some (.ref 11), some (.int v2)], [.int 1, .int (I2 29 4)], (I2, L2, D2, am_rf X))) 3 rfl ?_
          refine am_b2_ne rfl (fun z => ?_) (fun z => ?_)
          · replace h := h.1 z
            refine am_wpb (c' := (10, [some (.ref 29), some (.ref 11), some (.int (v2 + 1))], [], (I2, L2, D2, am_rf X))) 2 rfl ?_
            exact h
          · replace h := h.2 z
            refine am_wpb (c' := (59, [some (.ref 29), some (.ref 11), some (.int v2)], [.int 0, .ref 32, .int v2, .ref 30], (I2, L2, D2, am_rf X))) 6 rfl ?_
            refine am_wps (c' := (60, [some (.ref 29), some (.ref 11), some (.int v2)], [.long (L2 32 0), .int v2, .ref 30], (I2, L2, D2, am_rf X))) rfl rfl (am_s_lald rfl (by decide)) ?_
            obtain ⟨o, h⟩ := h
            refine am_wps (c' := (61, [some (.ref 29), some (.ref 11), some (.int v2)], [], (I2, am_uL L2 30 (Int32.toNatClampNeg v2) (L2 32 0), D2, am_rf X))) rfl rfl (am_s_last rfl o) ?_
            refine am_wpb (c' := (71, [some (.ref 29), some (.ref 11), some (.int v2)], [.int 0, .ref 33, .int v2, .ref 31], (I2, am_uL L2 30 (Int32.toNatClampNeg v2) (L2 32 0), D2, am_rf X))) 6 rfl ?_
            refine am_wps (c' := (72, [some (.ref 29), some (.ref 11), some (.int v2)], [.long (L2 33 0), .int v2, .ref 31], (I2, am_uL L2 30 (Int32.toNatClampNeg v2) (L2 32 0), D2, am_rf X))) rfl rfl (am_s_lald rfl (by decide)) ?_
            obtain ⟨o, h⟩ := h
            refine am_wps (c' := (73, [some (.ref 29), some (.ref 11), some (.int v2)], [], (I2, am_uL (am_uL L2 30 (Int32.toNatClampNeg v2) (L2 32 0)) 31 (Int32.toNatClampNeg v2) (L2 33 0), D2, am_rf X))) rfl rfl (am_s_last rfl o) ?_
            refine am_wpb (c' := (10, [some (.ref 29), some (.ref 11), some (.int (v2 + 1))], [], (I2, am_uL (am_uL L2 30 (Int32.toNatClampNeg v2) (L2 32 0)) 31 (Int32.toNatClampNeg v2) (L2 33 0), D2, am_rf X))) 2 rfl ?_
            exact h
/-- SureSums$Fractions.run(LSureSums$Program;I)Z -/
def mz_26 : am_Y := (fun pc => am_q26.lookup pc, 7, 2)
theorem mh_26 : am_Ys 26 = some mz_26 := rfl
theorem w26_0 {ext : Nat → List Value → am_M → Option am_R} {d : Nat} {P : am_R → Prop} (I : Nat → Nat → Int32) (L : Nat → Nat → Int64) (D : Nat → Nat → UInt64) (X : am_Rf) (v2 : Int32)
    (h : ∃ (r1 : Int32) (I1 : Nat → Nat → Int32) (L1 : Nat → Nat → Int64) (D1 : Nat → Nat → UInt64), am_Rn ext d 34 [.ref 11, .int v2] (am_uI I 29 4 0, L, D, am_rf X) (some (.int r1), (I1, L1, D1, am_rf X)) ∧ (((r1 = 0 → (((r1 = 0 → (am_wp ext d mz_26 (58, [some (.ref 29), some (.ref 11), none, some (.int r1), some (.int 0), none, some (.int 0)], [], (I1, L1, D1, am_rf X)) P)) ∧ (¬ r1 = 0 → (am_inb v2 18 = true ∧ (∃ (r2 : Int32) (I2 : Nat → Nat → Int32) (L2 : Nat → Nat → Int64) (D2 : Nat → Nat → UInt64), am_Rn ext d 201 [.int (I1 14 (Int32.toNatClampNeg v2)), .int 0] (I1, L1, D1, am_rf X) (some (.int r2), (I2, L2, D2, am_rf X)) ∧ (am_wp ext d mz_26 (58, [some (.ref 29), some (.ref 11), none, some (.int r1), some (.int 0), none, some (.int r2)], [], (I2, L2, D2, am_rf X)) P))))))) ∧ (¬ r1 = 0 → (am_inb v2 18 = true ∧ (∃ (r3 : Int32) (I3 : Nat → Nat → Int32) (L3 : Nat → Nat → Int64) (D3 : Nat → Nat → UInt64), am_Rn ext d 202 [.int (I1 15 (Int32.toNatClampNeg v2)), .int (I1 11 8)] (I1, L1, D1, am_rf X) (some (.int r3), (I3, L3, D3, am_rf X)) ∧ (((r1 = 0 → (am_wp ext d mz_26 (58, [some (.ref 29), some (.ref 11), none, some (.int r1), some (.int r3), none, some (.int 0)], [], (I3, L3, D3, am_rf X)) P)) ∧ (¬ r1 = 0 → (am_inb v2 18 = true ∧ (∃ (r4 : Int32) (I4 : Nat → Nat → Int32) (L4 : Nat → Nat → Int64) (D4 : Nat → Nat → UInt64), am_Rn ext d 201 [.int (I3 14 (Int32.toNatClampNeg v2)), .int 0] (I3, L3, D3, am_rf X) (some (.int r4), (I4, L4, D4, am_rf X)) ∧ (am_wp ext d mz_26 (58, [some (.ref 29), some (.ref 11), none, some (.int r1), some (.int r3), none, some (.int r4)], [], (I4, L4, D4, am_rf X)) P)))))))))))) : am_wp ext d mz_26 (0, [some (.ref 29), some (.ref 11), some (.int v2), none, none, none, none], [], (I, L, D, am_rf X)) P := by
  refine am_wpb (c' := (7, [some (.ref 29), some (.ref 11), some (.int v2), none, none, none, none], [.int v2, .ref 11], (am_uI I 29 4 0, L, D, am_rf X))) 5 rfl ?_
  obtain ⟨r1, I1, L1, D1, hr, h⟩ := h
  refine am_wp_inv (as := [.ref 11, .int v2]) rfl rfl rfl rfl ⟨_, hr, ?_⟩
  show am_wp ext d mz_26 (10, [some (.ref 29), some (.ref 11), some (.int v2), none, none, none, none], [.int r1], (I1, L1, D1, am_rf X)) P
  refine am_wpb (c' := (12, [some (.ref 29), some (.ref 11), some (.int v2), some (.int r1), none, none, none], [.int r1], (I1, L1, D1, am_rf X))) 2 rfl ?_
  refine am_b1_eq rfl (fun z => ?_) (fun z => ?_)
  · replace h := h.1 z
    refine am_wpb (c' := (35, [some (.ref 29), some (.ref 11), some (.int v2), some (.int r1), some (.int 0), none, none], [.int r1], (I1, L1, D1, am_rf X))) 3 rfl ?_
    refine am_b1_eq rfl (fun z => ?_) (fun z => ?_)
    · replace h := h.1 z
      refine am_wpb (c' := (58, [some (.ref 29), some (.ref 11), some (.int v2), some (.int r1), some (.int 0), some (.int 0), some (.int 0)], [], (I1, L1, D1, am_rf X))) 4 rfl ?_
      exact am_fgt (l := [some (.ref 29), some (.ref 11), none, some (.int r1), some (.int 0), none, some (.int 0)]) (am_le_of (am_leS (am_leS (am_leN (am_leS (am_leS (am_leN (am_leS (am_leZ))))))))) h
    · replace h := h.2 z
      refine am_wpb (c' := (43, [some (.ref 29), some (.ref 11), some (.int v2), some (.int r1), some (.int 0), none, none], [.int v2, .ref 14], (I1, L1, D1, am_rf X))) 3 rfl ?_
      obtain ⟨o, h⟩ := h
      refine am_wps (c' := (44, [some (.ref 29), some (.ref 11), some (.int v2), some (.int r1), some (.int 0), none, none], [.int (I1 14 (Int32.toNatClampNeg v2))], (I1, L1, D1, am_rf X))) rfl rfl (am_s_iald rfl o) ?_
      refine am_wpb (c' := (45, [some (.ref 29), some (.ref 11), some (.int v2), some (.int r1), some (.int 0), none, none], [.int 0, .int (I1 14 (Int32.toNatClampNeg v2))], (I1, L1, D1, am_rf X))) 1 rfl ?_
      obtain ⟨r2, I2, L2, D2, hr, h⟩ := h
      refine am_wp_inv (as := [.int (I1 14 (Int32.toNatClampNeg v2)), .int 0]) rfl rfl rfl rfl ⟨_, hr, ?_⟩
      show am_wp ext d mz_26 (48, [some (.ref 29), some (.ref 11), some (.int v2), some (.int r1), some (.int 0), none, none], [.int r2], (I2, L2, D2, am_rf X)) P
      refine am_wpb (c' := (58, [some (.ref 29), some (.ref 11), some (.int v2), some (.int r1), some (.int 0), some (.int r2), some (.int r2)], [], (I2, L2, D2, am_rf X))) 4 rfl ?_
      exact am_fgt (l := [some (.ref 29), some (.ref 11), none, some (.int r1), some (.int 0), none, some (.int r2)]) (am_le_of (am_leS (am_leS (am_leN (am_leS (am_leS (am_leN (am_leS (am_leZ))))))))) h
  · replace h := h.2 z
    refine am_wpb (c' := (20, [some (.ref 29), some (.ref 11), some (.int v2), some (.int r1), none, none, none], [.int v2, .ref 15], (I1, L1, D1, am_rf X))) 3 rfl ?_
    obtain ⟨o, h⟩ := h
    refine am_wps (c' := (21, [some (.ref 29), some (.ref 11), some (.int v2), some (.int r1), none, none, none], [.int (I1 15 (Int32.toNatClampNeg v2))], (I1, L1, D1, am_rf X))) rfl rfl (am_s_iald rfl o) ?_
    refine am_wpb (c' := (25, [some (.ref 29), some (.ref 11), some (.int v2), some (.int r1), none, none, none], [.int (I1 11 8), .int (I1 15 (Int32.toNatClampNeg v2))], (I1, L1, D1, am_rf X))) 2 rfl ?_
    obtain ⟨r3, I3, L3, D3, hr, h⟩ := h
    refine am_wp_inv (as := [.int (I1 15 (Int32.toNatClampNeg v2)), .int (I1 11 8)]) rfl rfl rfl rfl ⟨_, hr, ?_⟩
    show am_wp ext d mz_26 (28, [some (.ref 29), some (.ref 11), some (.int v2), some (.int r1), none, none, none], [.int r3], (I3, L3, D3, am_rf X)) P
    refine am_wpb (c' := (35, [some (.ref 29), some (.ref 11), some (.int v2), some (.int r1), some (.int r3), none, none], [.int r1], (I3, L3, D3, am_rf X))) 3 rfl ?_
    refine am_b1_eq rfl (fun z => ?_) (fun z => ?_)
    · replace h := h.1 z
      refine am_wpb (c' := (58, [some (.ref 29), some (.ref 11), some (.int v2), some (.int r1), some (.int r3), some (.int 0), some (.int 0)], [], (I3, L3, D3, am_rf X))) 4 rfl ?_
      exact am_fgt (l := [some (.ref 29), some (.ref 11), none, some (.int r1), some (.int r3), none, some (.int 0)]) (am_le_of (am_leS (am_leS (am_leN (am_leS (am_leS (am_leN (am_leS (am_leZ))))))))) h
    · replace h := h.2 z
      refine am_wpb (c' := (43, [some (.ref 29), some (.ref 11), some (.int v2), some (.int r1), some (.int r3), none, none], [.int v2, .ref 14], (I3, L3, D3, am_rf X))) 3 rfl ?_
      obtain ⟨o, h⟩ := h
      refine am_wps (c' := (44, [some (.ref 29), some (.ref 11), some (.int v2), some (.int r1), some (.int r3), none, none], [.int (I3 14 (Int32.toNatClampNeg v2))], (I3, L3, D3, am_rf X))) rfl rfl (am_s_iald rfl o) ?_
      refine am_wpb (c' := (45, [some (.ref 29), some (.ref 11), some (.int v2), some (.int r1), some (.int r3), none, none], [.int 0, .int (I3 14 (Int32.toNatClampNeg v2))], (I3, L3, D3, am_rf X))) 1 rfl ?_
      obtain ⟨r4, I4, L4, D4, hr, h⟩ := h
      refine am_wp_inv (as := [.int (I3 14 (Int32.toNatClampNeg v2)), .int 0]) rfl rfl rfl rfl ⟨_, hr, ?_⟩
      show am_wp ext d mz_26 (48, [some (.ref 29), some (.ref 11), some (.int v2), some (.int r1), some (.int r3), none, none], [.int r4], (I4, L4, D4, am_rf X)) P
      refine am_wpb (c' := (58, [some (.ref 29), some (.ref 11), some (.int v2), some (.int r1), some (.int r3), some (.int r4), some (.int r4)], [], (I4, L4, D4, am_rf X))) 4 rfl ?_
      exact am_fgt (l := [some (.ref 29), some (.ref 11), none, some (.int r1), some (.int r3), none, some (.int r4)]) (am_le_of (am_leS (am_leS (am_leN (am_leS (am_leS (am_leN (am_leS (am_leZ))))))))) h
theorem w26_58 {ext : Nat → List Value → am_M → Option am_R} {d : Nat} {P : am_R → Prop} (I : Nat → Nat → Int32) (L : Nat → Nat → Int64) (D : Nat → Nat → UInt64) (X : am_Rf) (v3 : Int32) (v4 : Int32) (v6 : Int32)
    (h : ((v4 ≤ v6 → ((v3 = 0 ∨ v3 = 1) ∧ P (some (.int v3), (I, L, D, am_rf X)))) ∧ (¬ v4 ≤ v6 → (((v3 = 0 → ((v3 = 0 ∨ v3 = 1) ∧ P (some (.int v3), (I, L, D, am_rf X)))) ∧ (¬ v3 = 0 → (am_inb v6 288 = true ∧ (∃ (r1 : Int32) (I1 : Nat → Nat → Int32) (L1 : Nat → Nat → Int64) (D1 : Nat → Nat → UInt64), am_Rn ext d 39 [.ref 11, .int v6] (I, L, D, am_rf X) (some (.int r1), (I1, L1, D1, am_rf X)) ∧ (∃ (r2 : Int32) (I2 : Nat → Nat → Int32) (L2 : Nat → Nat → Int64) (D2 : Nat → Nat → UInt64), am_Rn ext d 27 [.ref 29, .int (I 16 (Int32.toNatClampNeg v6)), .int r1] (I1, L1, D1, am_rf X) (some (.int r2), (I2, L2, D2, am_rf X)) ∧ (am_wp ext d mz_26 (58, [some (.ref 29), some (.ref 11), none, some (.int r2), some (.int v4), none, some (.int (v6 + 1))], [], (I2, L2, D2, am_rf X)) P)))))))))) : am_wp ext d mz_26 (58, [some (.ref 29), some (.ref 11), none, some (.int v3), some (.int v4), none, some (.int v6)], [], (I, L, D, am_rf X)) P := by
  refine am_wpb (c' := (62, [some (.ref 29), some (.ref 11), none, some (.int v3), some (.int v4), none, some (.int v6)], [.int v4, .int v6], (I, L, D, am_rf X))) 2 rfl ?_
  refine am_b2_ge rfl (fun z => ?_) (fun z => ?_)
  · replace h := h.1 z
    refine am_wpb (c' := (94, [some (.ref 29), some (.ref 11), none, some (.int v3), some (.int v4), none, some (.int v6)], [.int v3], (I, L, D, am_rf X))) 1 rfl ?_
    exact am_ret_z rfl rfl h.1 h.2
  · replace h := h.2 z
    refine am_wpb (c' := (66, [some (.ref 29), some (.ref 11), none, some (.int v3), some (.int v4), none, some (.int v6)], [.int v3], (I, L, D, am_rf X))) 1 rfl ?_
    refine am_b1_eq rfl (fun z => ?_) (fun z => ?_)
    · replace h := h.1 z
      refine am_wpb (c' := (94, [some (.ref 29), some (.ref 11), none, some (.int v3), some (.int v4), none, some (.int v6)], [.int v3], (I, L, D, am_rf X))) 1 rfl ?_
      exact am_ret_z rfl rfl h.1 h.2
    · replace h := h.2 z
      refine am_wpb (c' := (76, [some (.ref 29), some (.ref 11), none, some (.int v3), some (.int v4), none, some (.int v6)], [.int v6, .ref 16, .ref 29], (I, L, D, am_rf X))) 4 rfl ?_
      obtain ⟨o, h⟩ := h
      refine am_wps (c' := (77, [some (.ref 29), some (.ref 11), none, some (.int v3), some (.int v4), none, some (.int v6)], [.int (I 16 (Int32.toNatClampNeg v6)), .ref 29], (I, L, D, am_rf X))) rfl rfl (am_s_iald rfl o) ?_
      refine am_wpb (c' := (80, [some (.ref 29), some (.ref 11), none, some (.int v3), some (.int v4), none, some (.int v6)], [.int v6, .ref 11, .int (I 16 (Int32.toNatClampNeg v6)), .ref 29], (I, L, D, am_rf X))) 2 rfl ?_
      obtain ⟨r1, I1, L1, D1, hr, h⟩ := h
      refine am_wp_inv (as := [.ref 11, .int v6]) rfl rfl rfl rfl ⟨_, hr, ?_⟩
      show am_wp ext d mz_26 (83, [some (.ref 29), some (.ref 11), none, some (.int v3), some (.int v4), none, some (.int v6)], [.int r1, .int (I 16 (Int32.toNatClampNeg v6)), .ref 29], (I1, L1, D1, am_rf X)) P
      obtain ⟨r2, I2, L2, D2, hr, h⟩ := h
      refine am_wp_inv (as := [.ref 29, .int (I 16 (Int32.toNatClampNeg v6)), .int r1]) rfl rfl rfl rfl ⟨_, hr, ?_⟩
      show am_wp ext d mz_26 (86, [some (.ref 29), some (.ref 11), none, some (.int v3), some (.int v4), none, some (.int v6)], [.int r2], (I2, L2, D2, am_rf X)) P
      refine am_wpb (c' := (58, [some (.ref 29), some (.ref 11), none, some (.int r2), some (.int v4), none, some (.int (v6 + 1))], [], (I2, L2, D2, am_rf X))) 3 rfl ?_
      exact h
/-- SureSums$Fractions.perform(II)Z -/
def mz_27 : am_Y := (fun pc => am_q27.lookup pc, 3, 2)
theorem mh_27 : am_Ys 27 = some mz_27 := rfl
theorem w27_0 {ext : Nat → List Value → am_M → Option am_R} {d : Nat} {P : am_R → Prop} (I : Nat → Nat → Int32) (L : Nat → Nat → Int64) (D : Nat → Nat → UInt64) (X : am_Rf) (v1 : Int32) (v2 : Int32)
    (h : ((v1 = 0 → (∃ (r1 : Int32) (I1 : Nat → Nat → Int32) (L1 : Nat → Nat → Int64) (D1 : Nat → Nat → UInt64), am_Rn ext d 29 [.ref 29, .long (Int32.toInt64 v2), .long 1] (I, L, D, am_rf X) (some (.int r1), (I1, L1, D1, am_rf X)) ∧ ((r1 = 0 ∨ r1 = 1) ∧ P (some (.int r1), (I1, L1, D1, am_rf X))))) ∧ (v1 = 2 → (∃ (r2 : Int64) (I2 : Nat → Nat → Int32) (L2 : Nat → Nat → Int64) (D2 : Nat → Nat → UInt64), am_Rn ext d 22 [.ref 29, .int v2] (I, L, D, am_rf X) (some (.long r2), (I2, L2, D2, am_rf X)) ∧ (∃ (r3 : Int64) (I3 : Nat → Nat → Int32) (L3 : Nat → Nat → Int64) (D3 : Nat → Nat → UInt64), am_Rn ext d 23 [.ref 29, .int v2] (I2, L2, D2, am_rf X) (some (.long r3), (I3, L3, D3, am_rf X)) ∧ (∃ (r4 : Int32) (I4 : Nat → Nat → Int32) (L4 : Nat → Nat → Int64) (D4 : Nat → Nat → UInt64), am_Rn ext d 29 [.ref 29, .long r2, .long r3] (I3, L3, D3, am_rf X) (some (.int r4), (I4, L4, D4, am_rf X)) ∧ ((r4 = 0 ∨ r4 = 1) ∧ P (some (.int r4), (I4, L4, D4, am_rf X))))))) ∧ (v1 = 8 → (((1 ≤ (I 29 4) → (am_inb ((I 29 4) - 1) 100 = true ∧ (am_inb ((I 29 4) - 1) 100 = true ∧ (∃ (r5 : Int32) (I5 : Nat → Nat → Int32) (L5 : Nat → Nat → Int64) (D5 : Nat → Nat → UInt64), am_Rn ext d 29 [.ref 29, .long (-(L 32 (Int32.toNatClampNeg ((I 29 4) - 1)))), .long (L 33 (Int32.toNatClampNeg ((I 29 4) - 1)))] (am_uI I 29 4 ((I 29 4) - 1), L, D, am_rf X) (some (.int r5), (I5, L5, D5, am_rf X)) ∧ ((r5 = 0 ∨ r5 = 1) ∧ P (some (.int r5), (I5, L5, D5, am_rf X))))))) ∧ (¬ 1 ≤ (I 29 4) → (P (some (.int 0), (I, L, D, am_rf X))))))) ∧ (v1 = 11 ∨ v1 = 12 ∨ v1 = 13 ∨ v1 = 14 → (∃ (r6 : Int32) (I6 : Nat → Nat → Int32) (L6 : Nat → Nat → Int64) (D6 : Nat → Nat → UInt64), am_Rn ext d 28 [.ref 29, .int v1] (I, L, D, am_rf X) (some (.int r6), (I6, L6, D6, am_rf X)) ∧ ((r6 = 0 ∨ r6 = 1) ∧ P (some (.int r6), (I6, L6, D6, am_rf X))))) ∧ (¬ v1 = 0 ∧ ¬ v1 = 2 ∧ ¬ v1 = 8 ∧ ¬ v1 = 11 ∧ ¬ v1 = 12 ∧ ¬ v1 = 13 ∧ ¬ v1 = 14 → (P (some (.int 0), (I, L, D, am_rf X)))))) : am_wp ext d mz_27 (0, [some (.ref 29), some (.int v1), some (.int v2)], [], (I, L, D, am_rf X)) P := by
  refine am_wpb (c' := (1, [some (.ref 29), some (.int v1), some (.int v2)], [.int v1], (I, L, D, am_rf X))) 1 rfl ?_
  have hsw := am_swc v1 0 14
  by_cases c0 : v1 = 0
  · replace h := h.1 c0
    have e := c0
    refine am_ts_in 0 rfl (by rw [e]; rfl) (by decide) rfl ?_
    refine am_wpb (c' := (80, [some (.ref 29), some (.int v1), some (.int v2)], [.long 1, .long (Int32.toInt64 v2), .ref 29], (I, L, D, am_rf X))) 4 rfl ?_
    obtain ⟨r1, I1, L1, D1, hr, h⟩ := h
    refine am_wp_inv (as := [.ref 29, .long (Int32.toInt64 v2), .long 1]) rfl rfl rfl rfl ⟨_, hr, ?_⟩
    show am_wp ext d mz_27 (83, [some (.ref 29), some (.int v1), some (.int v2)], [.int r1], (I1, L1, D1, am_rf X)) P
    exact am_ret_z rfl rfl h.1 h.2
  by_cases c1 : v1 = 2
  · replace h := h.2.1 c1
    have e := c1
    refine am_ts_in 2 rfl (by rw [e]; rfl) (by decide) rfl ?_
    refine am_wpb (c' := (87, [some (.ref 29), some (.int v1), some (.int v2)], [.int v2, .ref 29, .ref 29], (I, L, D, am_rf X))) 3 rfl ?_
    obtain ⟨r2, I2, L2, D2, hr, h⟩ := h
    refine am_wp_inv (as := [.ref 29, .int v2]) rfl rfl rfl rfl ⟨_, hr, ?_⟩
    show am_wp ext d mz_27 (90, [some (.ref 29), some (.int v1), some (.int v2)], [.long r2, .ref 29], (I2, L2, D2, am_rf X)) P
    refine am_wpb (c' := (92, [some (.ref 29), some (.int v1), some (.int v2)], [.int v2, .ref 29, .long r2, .ref 29], (I2, L2, D2, am_rf X))) 2 rfl ?_
    obtain ⟨r3, I3, L3, D3, hr, h⟩ := h
    refine am_wp_inv (as := [.ref 29, .int v2]) rfl rfl rfl rfl ⟨_, hr, ?_⟩
    show am_wp ext d mz_27 (95, [some (.ref 29), some (.int v1), some (.int v2)], [.long r3, .long r2, .ref 29], (I3, L3, D3, am_rf X)) P
    obtain ⟨r4, I4, L4, D4, hr, h⟩ := h
    refine am_wp_inv (as := [.ref 29, .long r2, .long r3]) rfl rfl rfl rfl ⟨_, hr, ?_⟩
    show am_wp ext d mz_27 (98, [some (.ref 29), some (.int v1), some (.int v2)], [.int r4], (I4, L4, D4, am_rf X)) P
    exact am_ret_z rfl rfl h.1 h.2
  by_cases c2 : v1 = 8
  · replace h := h.2.2.1 c2
    have e := c2
    refine am_ts_in 8 rfl (by rw [e]; rfl) (by decide) rfl ?_
    refine am_wpb (c' := (104, [some (.ref 29), some (.int v1), some (.int v2)], [.int 1, .int (I 29 4)], (I, L, D, am_rf X))) 3 rfl ?_
    refine am_b2_ge rfl (fun z => ?_) (fun z => ?_)
    · replace h := h.1 z
      refine am_wpb (c' := (128, [some (.ref 29), some (.int v1), some (.int v2)], [.int ((I 29 4) - 1), .ref 32, .ref 29], (am_uI I 29 4 ((I 29 4) - 1), L, D, am_rf X))) 11 rfl ?_
      obtain ⟨o, h⟩ := h
      refine am_wps (c' := (129, [some (.ref 29), some (.int v1), some (.int v2)], [.long (L 32 (Int32.toNatClampNeg ((I 29 4) - 1))), .ref 29], (am_uI I 29 4 ((I 29 4) - 1), L, D, am_rf X))) rfl rfl (am_s_lald rfl o) ?_
      refine am_wpb (c' := (138, [some (.ref 29), some (.int v1), some (.int v2)], [.int ((I 29 4) - 1), .ref 33, .long (-(L 32 (Int32.toNatClampNeg ((I 29 4) - 1)))), .ref 29], (am_uI I 29 4 ((I 29 4) - 1), L, D, am_rf X))) 5 rfl ?_
      obtain ⟨o, h⟩ := h
      refine am_wps (c' := (139, [some (.ref 29), some (.int v1), some (.int v2)], [.long (L 33 (Int32.toNatClampNeg ((I 29 4) - 1))), .long (-(L 32 (Int32.toNatClampNeg ((I 29 4) - 1)))), .ref 29], (am_uI I 29 4 ((I 29 4) - 1), L, D, am_rf X))) rfl rfl (am_s_lald rfl o) ?_
      obtain ⟨r5, I5, L5, D5, hr, h⟩ := h
      refine am_wp_inv (as := [.ref 29, .long (-(L 32 (Int32.toNatClampNeg ((I 29 4) - 1)))), .long (L 33 (Int32.toNatClampNeg ((I 29 4) - 1)))]) rfl rfl rfl rfl ⟨_, hr, ?_⟩
      show am_wp ext d mz_27 (142, [some (.ref 29), some (.int v1), some (.int v2)], [.int r5], (I5, L5, D5, am_rf X)) P
      exact am_ret_z rfl rfl h.1 h.2
    · replace h := h.2 z
      refine am_wpb (c' := (108, [some (.ref 29), some (.int v1), some (.int v2)], [.int 0], (I, L, D, am_rf X))) 1 rfl ?_
      exact am_ret_z rfl rfl (Or.inl rfl) h
  by_cases c3 : v1 = 11 ∨ v1 = 12 ∨ v1 = 13 ∨ v1 = 14
  · replace h := h.2.2.2.1 c3
    rcases c3 with e | e | e | e
    · refine am_ts_in 11 rfl (by rw [e]; rfl) (by decide) rfl ?_
      refine am_wpb (c' := (145, [some (.ref 29), some (.int v1), some (.int v2)], [.int v1, .ref 29], (I, L, D, am_rf X))) 2 rfl ?_
      obtain ⟨r6, I6, L6, D6, hr, h⟩ := h
      refine am_wp_inv (as := [.ref 29, .int v1]) rfl rfl rfl rfl ⟨_, hr, ?_⟩
      show am_wp ext d mz_27 (148, [some (.ref 29), some (.int v1), some (.int v2)], [.int r6], (I6, L6, D6, am_rf X)) P
      exact am_ret_z rfl rfl h.1 h.2
    · refine am_ts_in 12 rfl (by rw [e]; rfl) (by decide) rfl ?_
      refine am_wpb (c' := (145, [some (.ref 29), some (.int v1), some (.int v2)], [.int v1, .ref 29], (I, L, D, am_rf X))) 2 rfl ?_
      obtain ⟨r6, I6, L6, D6, hr, h⟩ := h
      refine am_wp_inv (as := [.ref 29, .int v1]) rfl rfl rfl rfl ⟨_, hr, ?_⟩
      show am_wp ext d mz_27 (148, [some (.ref 29), some (.int v1), some (.int v2)], [.int r6], (I6, L6, D6, am_rf X)) P
      exact am_ret_z rfl rfl h.1 h.2
    · refine am_ts_in 13 rfl (by rw [e]; rfl) (by decide) rfl ?_
      refine am_wpb (c' := (145, [some (.ref 29), some (.int v1), some (.int v2)], [.int v1, .ref 29], (I, L, D, am_rf X))) 2 rfl ?_
      obtain ⟨r6, I6, L6, D6, hr, h⟩ := h
      refine am_wp_inv (as := [.ref 29, .int v1]) rfl rfl rfl rfl ⟨_, hr, ?_⟩
      show am_wp ext d mz_27 (148, [some (.ref 29), some (.int v1), some (.int v2)], [.int r6], (I6, L6, D6, am_rf X)) P
      exact am_ret_z rfl rfl h.1 h.2
    · refine am_ts_in 14 rfl (by rw [e]; rfl) (by decide) rfl ?_
      refine am_wpb (c' := (145, [some (.ref 29), some (.int v1), some (.int v2)], [.int v1, .ref 29], (I, L, D, am_rf X))) 2 rfl ?_
      obtain ⟨r6, I6, L6, D6, hr, h⟩ := h
      refine am_wp_inv (as := [.ref 29, .int v1]) rfl rfl rfl rfl ⟨_, hr, ?_⟩
      show am_wp ext d mz_27 (148, [some (.ref 29), some (.int v1), some (.int v2)], [.int r6], (I6, L6, D6, am_rf X)) P
      exact am_ret_z rfl rfl h.1 h.2
  replace h := h.2.2.2.2 ⟨fun e => c0 (e), fun e => c1 (e), fun e => c2 (e), fun e => c3 (Or.inl e), fun e => c3 (Or.inr (Or.inl e)), fun e => c3 (Or.inr (Or.inr (Or.inl e))), fun e => c3 (Or.inr (Or.inr (Or.inr (e))))⟩
  rcases hsw with hsw | ⟨k, hk, hsw⟩
  · refine am_ts_out rfl hsw ?_
    refine am_wpb (c' := (150, [some (.ref 29), some (.int v1), some (.int v2)], [.int 0], (I, L, D, am_rf X))) 1 rfl ?_
    exact am_ret_z rfl rfl (Or.inl rfl) h
  · refine am_ts_in (t := 149) k rfl hsw (by omega) ?_ ?_
    · refine am_sw_d (bad := [0, 2, 8, 11, 12, 13, 14]) hk (by decide) (fun hm => ?_)
      simp only [List.mem_cons, List.not_mem_nil, or_false] at hm
      rcases hm with e | e | e | e | e | e | e
      · exact c0 (am_i32 (v := 0) (by rw [hsw, e]; rfl))
      · exact c1 (am_i32 (v := 2) (by rw [hsw, e]; rfl))
      · exact c2 (am_i32 (v := 8) (by rw [hsw, e]; rfl))
      · exact c3 (Or.inl (am_i32 (v := 11) (by rw [hsw, e]; rfl)))
      · exact c3 (Or.inr (Or.inl (am_i32 (v := 12) (by rw [hsw, e]; rfl))))
      · exact c3 (Or.inr (Or.inr (Or.inl (am_i32 (v := 13) (by rw [hsw, e]; rfl)))))
      · exact c3 (Or.inr (Or.inr (Or.inr (am_i32 (v := 14) (by rw [hsw, e]; rfl)))))
    · skip
      refine am_wpb (c' := (150, [some (.ref 29), some (.int v1), some (.int v2)], [.int 0], (I, L, D, am_rf X))) 1 rfl ?_
      exact am_ret_z rfl rfl (Or.inl rfl) h
/-- SureSums$Fractions.ofTwo(I)Z -/
def mz_28 : am_Y := (fun pc => am_q28.lookup pc, 10, 2)
theorem mh_28 : am_Ys 28 = some mz_28 := rfl
theorem w28_0 {ext : Nat → List Value → am_M → Option am_R} {d : Nat} {P : am_R → Prop} (I : Nat → Nat → Int32) (L : Nat → Nat → Int64) (D : Nat → Nat → UInt64) (X : am_Rf) (v1 : Int32)
    (h : ((2 ≤ (I 29 4) → (am_inb ((I 29 4) - 2) 100 = true ∧ (am_inb ((I 29 4) - 2) 100 = true ∧ (am_inb (((I 29 4) - 2) + 1) 100 = true ∧ (am_inb (((I 29 4) - 2) + 1) 100 = true ∧ (((v1 = 11 → (∃ (r1 : Int32) (I1 : Nat → Nat → Int32) (L1 : Nat → Nat → Int64) (D1 : Nat → Nat → UInt64), am_Rn ext d 29 [.ref 29, .long (((L 32 (Int32.toNatClampNeg ((I 29 4) - 2))) * (L 33 (Int32.toNatClampNeg (((I 29 4) - 2) + 1)))) + ((L 32 (Int32.toNatClampNeg (((I 29 4) - 2) + 1))) * (L 33 (Int32.toNatClampNeg ((I 29 4) - 2))))), .long ((L 33 (Int32.toNatClampNeg ((I 29 4) - 2))) * (L 33 (Int32.toNatClampNeg (((I 29 4) - 2) + 1))))] (am_uI I 29 4 ((I 29 4) - 2), L, D, am_rf X) (some (.int r1), (I1, L1, D1, am_rf X)) ∧ ((r1 = 0 ∨ r1 = 1) ∧ P (some (.int r1), (I1, L1, D1, am_rf X))))) ∧ (v1 = 12 → (∃ (r2 : Int32) (I2 : Nat → Nat → Int32) (L2 : Nat → Nat → Int64) (D2 : Nat → Nat → UInt64), am_Rn ext d 29 [.ref 29, .long (((L 32 (Int32.toNatClampNeg ((I 29 4) - 2))) * (L 33 (Int32.toNatClampNeg (((I 29 4) - 2) + 1)))) - ((L 32 (Int32.toNatClampNeg (((I 29 4) - 2) + 1))) * (L 33 (Int32.toNatClampNeg ((I 29 4) - 2))))), .long ((L 33 (Int32.toNatClampNeg ((I 29 4) - 2))) * (L 33 (Int32.toNatClampNeg (((I 29 4) - 2) + 1))))] (am_uI I 29 4 ((I 29 4) - 2), L, D, am_rf X) (some (.int r2), (I2, L2, D2, am_rf X)) ∧ ((r2 = 0 ∨ r2 = 1) ∧ P (some (.int r2), (I2, L2, D2, am_rf X))))) ∧ (v1 = 13 → (∃ (r3 : Int32) (I3 : Nat → Nat → Int32) (L3 : Nat → Nat → Int64) (D3 : Nat → Nat → UInt64), am_Rn ext d 29 [.ref 29, .long ((L 32 (Int32.toNatClampNeg ((I 29 4) - 2))) * (L 32 (Int32.toNatClampNeg (((I 29 4) - 2) + 1)))), .long ((L 33 (Int32.toNatClampNeg ((I 29 4) - 2))) * (L 33 (Int32.toNatClampNeg (((I 29 4) - 2) + 1))))] (am_uI I 29 4 ((I 29 4) - 2), L, D, am_rf X) (some (.int r3), (I3, L3, D3, am_rf X)) ∧ ((r3 = 0 ∨ r3 = 1) ∧ P (some (.int r3), (I3, L3, D3, am_rf X))))) ∧ (¬ v1 = 11 ∧ ¬ v1 = 12 ∧ ¬ v1 = 13 → (∃ (r4 : Int32) (I4 : Nat → Nat → Int32) (L4 : Nat → Nat → Int64) (D4 : Nat → Nat → UInt64), am_Rn ext d 29 [.ref 29, .long ((L 32 (Int32.toNatClampNeg ((I 29 4) - 2))) * (L 33 (Int32.toNatClampNeg (((I 29 4) - 2) + 1)))), .long ((L 33 (Int32.toNatClampNeg ((I 29 4) - 2))) * (L 32 (Int32.toNatClampNeg (((I 29 4) - 2) + 1))))] (am_uI I 29 4 ((I 29 4) - 2), L, D, am_rf X) (some (.int r4), (I4, L4, D4, am_rf X)) ∧ ((r4 = 0 ∨ r4 = 1) ∧ P (some (.int r4), (I4, L4, D4, am_rf X)))))))))))) ∧ (¬ 2 ≤ (I 29 4) → (P (some (.int 0), (I, L, D, am_rf X)))))) : am_wp ext d mz_28 (0, [some (.ref 29), some (.int v1), none, none, none, none, none, none, none, none], [], (I, L, D, am_rf X)) P := by
  refine am_wpb (c' := (5, [some (.ref 29), some (.int v1), none, none, none, none, none, none, none, none], [.int 2, .int (I 29 4)], (I, L, D, am_rf X))) 3 rfl ?_
  refine am_b2_ge rfl (fun z => ?_) (fun z => ?_)
  · replace h := h.1 z
    refine am_wpb (c' := (28, [some (.ref 29), some (.int v1), none, none, none, none, none, none, none, none], [.int ((I 29 4) - 2), .ref 32], (am_uI I 29 4 ((I 29 4) - 2), L, D, am_rf X))) 10 rfl ?_
    obtain ⟨o, h⟩ := h
    refine am_wps (c' := (29, [some (.ref 29), some (.int v1), none, none, none, none, none, none, none, none], [.long (L 32 (Int32.toNatClampNeg ((I 29 4) - 2)))], (am_uI I 29 4 ((I 29 4) - 2), L, D, am_rf X))) rfl rfl (am_s_lald rfl o) ?_
    refine am_wpb (c' := (38, [some (.ref 29), some (.int v1), some (.long (L 32 (Int32.toNatClampNeg ((I 29 4) - 2)))), none, none, none, none, none, none, none], [.int ((I 29 4) - 2), .ref 33], (am_uI I 29 4 ((I 29 4) - 2), L, D, am_rf X))) 5 rfl ?_
    obtain ⟨o, h⟩ := h
    refine am_wps (c' := (39, [some (.ref 29), some (.int v1), some (.long (L 32 (Int32.toNatClampNeg ((I 29 4) - 2)))), none, none, none, none, none, none, none], [.long (L 33 (Int32.toNatClampNeg ((I 29 4) - 2)))], (am_uI I 29 4 ((I 29 4) - 2), L, D, am_rf X))) rfl rfl (am_s_lald rfl o) ?_
    refine am_wpb (c' := (51, [some (.ref 29), some (.int v1), some (.long (L 32 (Int32.toNatClampNeg ((I 29 4) - 2)))), none, some (.long (L 33 (Int32.toNatClampNeg ((I 29 4) - 2)))), none, none, none, none, none], [.int (((I 29 4) - 2) + 1), .ref 32], (am_uI I 29 4 ((I 29 4) - 2), L, D, am_rf X))) 7 rfl ?_
    obtain ⟨o, h⟩ := h
    refine am_wps (c' := (52, [some (.ref 29), some (.int v1), some (.long (L 32 (Int32.toNatClampNeg ((I 29 4) - 2)))), none, some (.long (L 33 (Int32.toNatClampNeg ((I 29 4) - 2)))), none, none, none, none, none], [.long (L 32 (Int32.toNatClampNeg (((I 29 4) - 2) + 1)))], (am_uI I 29 4 ((I 29 4) - 2), L, D, am_rf X))) rfl rfl (am_s_lald rfl o) ?_
    refine am_wpb (c' := (64, [some (.ref 29), some (.int v1), some (.long (L 32 (Int32.toNatClampNeg ((I 29 4) - 2)))), none, some (.long (L 33 (Int32.toNatClampNeg ((I 29 4) - 2)))), none, some (.long (L 32 (Int32.toNatClampNeg (((I 29 4) - 2) + 1)))), none, none, none], [.int (((I 29 4) - 2) + 1), .ref 33], (am_uI I 29 4 ((I 29 4) - 2), L, D, am_rf X))) 7 rfl ?_
    obtain ⟨o, h⟩ := h
    refine am_wps (c' := (65, [some (.ref 29), some (.int v1), some (.long (L 32 (Int32.toNatClampNeg ((I 29 4) - 2)))), none, some (.long (L 33 (Int32.toNatClampNeg ((I 29 4) - 2)))), none, some (.long (L 32 (Int32.toNatClampNeg (((I 29 4) - 2) + 1)))), none, none, none], [.long (L 33 (Int32.toNatClampNeg (((I 29 4) - 2) + 1)))], (am_uI I 29 4 ((I 29 4) - 2), L, D, am_rf X))) rfl rfl (am_s_lald rfl o) ?_
    refine am_wpb (c' := (68, [some (.ref 29), some (.int v1), some (.long (L 32 (Int32.toNatClampNeg ((I 29 4) - 2)))), none, some (.long (L 33 (Int32.toNatClampNeg ((I 29 4) - 2)))), none, some (.long (L 32 (Int32.toNatClampNeg (((I 29 4) - 2) + 1)))), none, some (.long (L 33 (Int32.toNatClampNeg (((I 29 4) - 2) + 1)))), none], [.int v1], (am_uI I 29 4 ((I 29 4) - 2), L, D, am_rf X))) 2 rfl ?_
    have hsw := am_swc v1 11 2
    by_cases c0 : v1 = 11
    · replace h := h.1 c0
      have e := c0
      refine am_ts_in 0 rfl (by rw [e]; rfl) (by decide) rfl ?_
      refine am_wpb (c' := (112, [some (.ref 29), some (.int v1), some (.long (L 32 (Int32.toNatClampNeg ((I 29 4) - 2)))), none, some (.long (L 33 (Int32.toNatClampNeg ((I 29 4) - 2)))), none, some (.long (L 32 (Int32.toNatClampNeg (((I 29 4) - 2) + 1)))), none, some (.long (L 33 (Int32.toNatClampNeg (((I 29 4) - 2) + 1)))), none], [.long ((L 33 (Int32.toNatClampNeg ((I 29 4) - 2))) * (L 33 (Int32.toNatClampNeg (((I 29 4) - 2) + 1)))), .long (((L 32 (Int32.toNatClampNeg ((I 29 4) - 2))) * (L 33 (Int32.toNatClampNeg (((I 29 4) - 2) + 1)))) + ((L 32 (Int32.toNatClampNeg (((I 29 4) - 2) + 1))) * (L 33 (Int32.toNatClampNeg ((I 29 4) - 2))))), .ref 29], (am_uI I 29 4 ((I 29 4) - 2), L, D, am_rf X))) 11 rfl ?_
      obtain ⟨r1, I1, L1, D1, hr, h⟩ := h
      refine am_wp_inv (as := [.ref 29, .long (((L 32 (Int32.toNatClampNeg ((I 29 4) - 2))) * (L 33 (Int32.toNatClampNeg (((I 29 4) - 2) + 1)))) + ((L 32 (Int32.toNatClampNeg (((I 29 4) - 2) + 1))) * (L 33 (Int32.toNatClampNeg ((I 29 4) - 2))))), .long ((L 33 (Int32.toNatClampNeg ((I 29 4) - 2))) * (L 33 (Int32.toNatClampNeg (((I 29 4) - 2) + 1))))]) rfl rfl rfl rfl ⟨_, hr, ?_⟩
      show am_wp ext d mz_28 (115, [some (.ref 29), some (.int v1), some (.long (L 32 (Int32.toNatClampNeg ((I 29 4) - 2)))), none, some (.long (L 33 (Int32.toNatClampNeg ((I 29 4) - 2)))), none, some (.long (L 32 (Int32.toNatClampNeg (((I 29 4) - 2) + 1)))), none, some (.long (L 33 (Int32.toNatClampNeg (((I 29 4) - 2) + 1)))), none], [.int r1], (I1, L1, D1, am_rf X)) P
      exact am_ret_z rfl rfl h.1 h.2
    by_cases c1 : v1 = 12
    · replace h := h.2.1 c1
      have e := c1
      refine am_ts_in 1 rfl (by rw [e]; rfl) (by decide) rfl ?_
      refine am_wpb (c' := (132, [some (.ref 29), some (.int v1), some (.long (L 32 (Int32.toNatClampNeg ((I 29 4) - 2)))), none, some (.long (L 33 (Int32.toNatClampNeg ((I 29 4) - 2)))), none, some (.long (L 32 (Int32.toNatClampNeg (((I 29 4) - 2) + 1)))), none, some (.long (L 33 (Int32.toNatClampNeg (((I 29 4) - 2) + 1)))), none], [.long ((L 33 (Int32.toNatClampNeg ((I 29 4) - 2))) * (L 33 (Int32.toNatClampNeg (((I 29 4) - 2) + 1)))), .long (((L 32 (Int32.toNatClampNeg ((I 29 4) - 2))) * (L 33 (Int32.toNatClampNeg (((I 29 4) - 2) + 1)))) - ((L 32 (Int32.toNatClampNeg (((I 29 4) - 2) + 1))) * (L 33 (Int32.toNatClampNeg ((I 29 4) - 2))))), .ref 29], (am_uI I 29 4 ((I 29 4) - 2), L, D, am_rf X))) 11 rfl ?_
      obtain ⟨r2, I2, L2, D2, hr, h⟩ := h
      refine am_wp_inv (as := [.ref 29, .long (((L 32 (Int32.toNatClampNeg ((I 29 4) - 2))) * (L 33 (Int32.toNatClampNeg (((I 29 4) - 2) + 1)))) - ((L 32 (Int32.toNatClampNeg (((I 29 4) - 2) + 1))) * (L 33 (Int32.toNatClampNeg ((I 29 4) - 2))))), .long ((L 33 (Int32.toNatClampNeg ((I 29 4) - 2))) * (L 33 (Int32.toNatClampNeg (((I 29 4) - 2) + 1))))]) rfl rfl rfl rfl ⟨_, hr, ?_⟩
      show am_wp ext d mz_28 (135, [some (.ref 29), some (.int v1), some (.long (L 32 (Int32.toNatClampNeg ((I 29 4) - 2)))), none, some (.long (L 33 (Int32.toNatClampNeg ((I 29 4) - 2)))), none, some (.long (L 32 (Int32.toNatClampNeg (((I 29 4) - 2) + 1)))), none, some (.long (L 33 (Int32.toNatClampNeg (((I 29 4) - 2) + 1)))), none], [.int r2], (I2, L2, D2, am_rf X)) P
      exact am_ret_z rfl rfl h.1 h.2
    by_cases c2 : v1 = 13
    · replace h := h.2.2.1 c2
      have e := c2
      refine am_ts_in 2 rfl (by rw [e]; rfl) (by decide) rfl ?_
      refine am_wpb (c' := (146, [some (.ref 29), some (.int v1), some (.long (L 32 (Int32.toNatClampNeg ((I 29 4) - 2)))), none, some (.long (L 33 (Int32.toNatClampNeg ((I 29 4) - 2)))), none, some (.long (L 32 (Int32.toNatClampNeg (((I 29 4) - 2) + 1)))), none, some (.long (L 33 (Int32.toNatClampNeg (((I 29 4) - 2) + 1)))), none], [.long ((L 33 (Int32.toNatClampNeg ((I 29 4) - 2))) * (L 33 (Int32.toNatClampNeg (((I 29 4) - 2) + 1)))), .long ((L 32 (Int32.toNatClampNeg ((I 29 4) - 2))) * (L 32 (Int32.toNatClampNeg (((I 29 4) - 2) + 1)))), .ref 29], (am_uI I 29 4 ((I 29 4) - 2), L, D, am_rf X))) 7 rfl ?_
      obtain ⟨r3, I3, L3, D3, hr, h⟩ := h
      refine am_wp_inv (as := [.ref 29, .long ((L 32 (Int32.toNatClampNeg ((I 29 4) - 2))) * (L 32 (Int32.toNatClampNeg (((I 29 4) - 2) + 1)))), .long ((L 33 (Int32.toNatClampNeg ((I 29 4) - 2))) * (L 33 (Int32.toNatClampNeg (((I 29 4) - 2) + 1))))]) rfl rfl rfl rfl ⟨_, hr, ?_⟩
      show am_wp ext d mz_28 (149, [some (.ref 29), some (.int v1), some (.long (L 32 (Int32.toNatClampNeg ((I 29 4) - 2)))), none, some (.long (L 33 (Int32.toNatClampNeg ((I 29 4) - 2)))), none, some (.long (L 32 (Int32.toNatClampNeg (((I 29 4) - 2) + 1)))), none, some (.long (L 33 (Int32.toNatClampNeg (((I 29 4) - 2) + 1)))), none], [.int r3], (I3, L3, D3, am_rf X)) P
      exact am_ret_z rfl rfl h.1 h.2
    replace h := h.2.2.2 ⟨fun e => c0 (e), fun e => c1 (e), fun e => c2 (e)⟩
    rcases hsw with hsw | ⟨k, hk, hsw⟩
    · refine am_ts_out rfl hsw ?_
      refine am_wpb (c' := (160, [some (.ref 29), some (.int v1), some (.long (L 32 (Int32.toNatClampNeg ((I 29 4) - 2)))), none, some (.long (L 33 (Int32.toNatClampNeg ((I 29 4) - 2)))), none, some (.long (L 32 (Int32.toNatClampNeg (((I 29 4) - 2) + 1)))), none, some (.long (L 33 (Int32.toNatClampNeg (((I 29 4) - 2) + 1)))), none], [.long ((L 33 (Int32.toNatClampNeg ((I 29 4) - 2))) * (L 32 (Int32.toNatClampNeg (((I 29 4) - 2) + 1)))), .long ((L 32 (Int32.toNatClampNeg ((I 29 4) - 2))) * (L 33 (Int32.toNatClampNeg (((I 29 4) - 2) + 1)))), .ref 29], (am_uI I 29 4 ((I 29 4) - 2), L, D, am_rf X))) 7 rfl ?_
      obtain ⟨r4, I4, L4, D4, hr, h⟩ := h
      refine am_wp_inv (as := [.ref 29, .long ((L 32 (Int32.toNatClampNeg ((I 29 4) - 2))) * (L 33 (Int32.toNatClampNeg (((I 29 4) - 2) + 1)))), .long ((L 33 (Int32.toNatClampNeg ((I 29 4) - 2))) * (L 32 (Int32.toNatClampNeg (((I 29 4) - 2) + 1))))]) rfl rfl rfl rfl ⟨_, hr, ?_⟩
      show am_wp ext d mz_28 (163, [some (.ref 29), some (.int v1), some (.long (L 32 (Int32.toNatClampNeg ((I 29 4) - 2)))), none, some (.long (L 33 (Int32.toNatClampNeg ((I 29 4) - 2)))), none, some (.long (L 32 (Int32.toNatClampNeg (((I 29 4) - 2) + 1)))), none, some (.long (L 33 (Int32.toNatClampNeg (((I 29 4) - 2) + 1)))), none], [.int r4], (I4, L4, D4, am_rf X)) P
      exact am_ret_z rfl rfl h.1 h.2
    · refine am_ts_in (t := 150) k rfl hsw (by omega) ?_ ?_
      · refine am_sw_d (bad := [0, 1, 2]) hk (by decide) (fun hm => ?_)
        simp only [List.mem_cons, List.not_mem_nil, or_false] at hm
        rcases hm with e | e | e
        · exact c0 (am_i32 (v := 11) (by rw [hsw, e]; rfl))
        · exact c1 (am_i32 (v := 12) (by rw [hsw, e]; rfl))
        · exact c2 (am_i32 (v := 13) (by rw [hsw, e]; rfl))
      · skip
        refine am_wpb (c' := (160, [some (.ref 29), some (.int v1), some (.long (L 32 (Int32.toNatClampNeg ((I 29 4) - 2)))), none, some (.long (L 33 (Int32.toNatClampNeg ((I 29 4) - 2)))), none, some (.long (L 32 (Int32.toNatClampNeg (((I 29 4) - 2) + 1)))), none, some (.long (L 33 (Int32.toNatClampNeg (((I 29 4) - 2) + 1)))), none], [.long ((L 33 (Int32.toNatClampNeg ((I 29 4) - 2))) * (L 32 (Int32.toNatClampNeg (((I 29 4) - 2) + 1)))), .long ((L 32 (Int32.toNatClampNeg ((I 29 4) - 2))) * (L 33 (Int32.toNatClampNeg (((I 29 4) - 2) + 1)))), .ref 29], (am_uI I 29 4 ((I 29 4) - 2), L, D, am_rf X))) 7 rfl ?_
        obtain ⟨r4, I4, L4, D4, hr, h⟩ := h
        refine am_wp_inv (as := [.ref 29, .long ((L 32 (Int32.toNatClampNeg ((I 29 4) - 2))) * (L 33 (Int32.toNatClampNeg (((I 29 4) - 2) + 1)))), .long ((L 33 (Int32.toNatClampNeg ((I 29 4) - 2))) * (L 32 (Int32.toNatClampNeg (((I 29 4) - 2) + 1))))]) rfl rfl rfl rfl ⟨_, hr, ?_⟩
        show am_wp ext d mz_28 (163, [some (.ref 29), some (.int v1), some (.long (L 32 (Int32.toNatClampNeg ((I 29 4) - 2)))), none, some (.long (L 33 (Int32.toNatClampNeg ((I 29 4) - 2)))), none, some (.long (L 32 (Int32.toNatClampNeg (((I 29 4) - 2) + 1)))), none, some (.long (L 33 (Int32.toNatClampNeg (((I 29 4) - 2) + 1)))), none], [.int r4], (I4, L4, D4, am_rf X)) P
        exact am_ret_z rfl rfl h.1 h.2
  · replace h := h.2 z
    refine am_wpb (c' := (9, [some (.ref 29), some (.int v1), none, none, none, none, none, none, none, none], [.int 0], (I, L, D, am_rf X))) 1 rfl ?_
    exact am_ret_z rfl rfl (Or.inl rfl) h
