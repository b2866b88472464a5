/-- SureSumsModel.piece(III)J -/
def mz_168 : am_Y := (fun pc => am_q168.lookup pc, 4, 3)
theorem mh_168 : am_Ys 168 = some mz_168 := rfl
theorem w168_0 {ext : Nat → List Value → am_M → Option am_R} {d : Nat} {P : am_R → Prop} (I : Nat → Nat → Int32) (L : Nat → Nat → Int64) (D : Nat → Nat → UInt64) (X : am_Rf) (v1 : Int32) (v2 : Int32) (v3 : Int32)
    (h : am_inb v1 192 = true ∧ (am_inb v1 192 = true ∧ (am_inb v1 192 = true ∧ (¬ (Int32.toInt64 v3) = 0 ∧ (P (some (.long (((Int32.toInt64 (I 48 (Int32.toNatClampNeg v1))) <<< ((Int32.toInt64 (I 42 48)) &&& 63)) + ((((Int32.toInt64 ((I 49 (Int32.toNatClampNeg v1)) - (I 48 (Int32.toNatClampNeg v1)))) * (Int32.toInt64 v2)) <<< ((Int32.toInt64 (I 42 48)) &&& 63)) / (Int32.toInt64 v3)))), (I, L, D, am_rf X))))))) : am_wp ext d mz_168 (0, [some (.ref 42), some (.int v1), some (.int v2), some (.int v3)], [], (I, L, D, am_rf X)) P := by
  refine am_wpb (c' := (5, [some (.ref 42), some (.int v1), some (.int v2), some (.int v3)], [.int v1, .ref 48], (I, L, D, am_rf X))) 3 rfl ?_
  obtain ⟨o, h⟩ := h
  refine am_wps (c' := (6, [some (.ref 42), some (.int v1), some (.int v2), some (.int v3)], [.int (I 48 (Int32.toNatClampNeg v1))], (I, L, D, am_rf X))) rfl rfl (am_s_iald rfl o) ?_
  refine am_wpb (c' := (17, [some (.ref 42), some (.int v1), some (.int v2), some (.int v3)], [.int v1, .ref 49, .long ((Int32.toInt64 (I 48 (Int32.toNatClampNeg v1))) <<< ((Int32.toInt64 (I 42 48)) &&& 63))], (I, L, D, am_rf X))) 7 rfl ?_
  obtain ⟨o, h⟩ := h
  refine am_wps (c' := (18, [some (.ref 42), some (.int v1), some (.int v2), some (.int v3)], [.int (I 49 (Int32.toNatClampNeg v1)), .long ((Int32.toInt64 (I 48 (Int32.toNatClampNeg v1))) <<< ((Int32.toInt64 (I 42 48)) &&& 63))], (I, L, D, am_rf X))) rfl rfl (am_s_iald rfl o) ?_
  refine am_wpb (c' := (23, [some (.ref 42), some (.int v1), some (.int v2), some (.int v3)], [.int v1, .ref 48, .int (I 49 (Int32.toNatClampNeg v1)), .long ((Int32.toInt64 (I 48 (Int32.toNatClampNeg v1))) <<< ((Int32.toInt64 (I 42 48)) &&& 63))], (I, L, D, am_rf X))) 3 rfl ?_
  obtain ⟨o, h⟩ := h
  refine am_wps (c' := (24, [some (.ref 42), some (.int v1), some (.int v2), some (.int v3)], [.int (I 48 (Int32.toNatClampNeg v1)), .int (I 49 (Int32.toNatClampNeg v1)), .long ((Int32.toInt64 (I 48 (Int32.toNatClampNeg v1))) <<< ((Int32.toInt64 (I 42 48)) &&& 63))], (I, L, D, am_rf X))) rfl rfl (am_s_iald rfl o) ?_
  refine am_wpb (c' := (36, [some (.ref 42), some (.int v1), some (.int v2), some (.int v3)], [.long (Int32.toInt64 v3), .long (((Int32.toInt64 ((I 49 (Int32.toNatClampNeg v1)) - (I 48 (Int32.toNatClampNeg v1)))) * (Int32.toInt64 v2)) <<< ((Int32.toInt64 (I 42 48)) &&& 63)), .long ((Int32.toInt64 (I 48 (Int32.toNatClampNeg v1))) <<< ((Int32.toInt64 (I 42 48)) &&& 63))], (I, L, D, am_rf X))) 10 rfl ?_
  obtain ⟨o, h⟩ := h
  refine am_wps (c' := (37, [some (.ref 42), some (.int v1), some (.int v2), some (.int v3)], [.long ((((Int32.toInt64 ((I 49 (Int32.toNatClampNeg v1)) - (I 48 (Int32.toNatClampNeg v1)))) * (Int32.toInt64 v2)) <<< ((Int32.toInt64 (I 42 48)) &&& 63)) / (Int32.toInt64 v3)), .long ((Int32.toInt64 (I 48 (Int32.toNatClampNeg v1))) <<< ((Int32.toInt64 (I 42 48)) &&& 63))], (I, L, D, am_rf X))) rfl rfl (am_s_ldiv o) ?_
  refine am_wpb (c' := (38, [some (.ref 42), some (.int v1), some (.int v2), some (.int v3)], [.long (((Int32.toInt64 (I 48 (Int32.toNatClampNeg v1))) <<< ((Int32.toInt64 (I 42 48)) &&& 63)) + ((((Int32.toInt64 ((I 49 (Int32.toNatClampNeg v1)) - (I 48 (Int32.toNatClampNeg v1)))) * (Int32.toInt64 v2)) <<< ((Int32.toInt64 (I 42 48)) &&& 63)) / (Int32.toInt64 v3)))], (I, L, D, am_rf X))) 1 rfl ?_
  exact am_ret_l rfl rfl h
/-- SureSumsModel.spans(III)V -/
def mz_169 : am_Y := (fun pc => am_q169.lookup pc, 7, 0)
theorem mh_169 : am_Ys 169 = some mz_169 := rfl
theorem w169_0 {ext : Nat → List Value → am_M → Option am_R} {d : Nat} {P : am_R → Prop} (I : Nat → Nat → Int32) (L : Nat → Nat → Int64) (D : Nat → Nat → UInt64) (X : am_Rf) (v1 : Int32) (v2 : Int32) (v3 : Int32)
    (h : ((v3 ≤ 0 → (am_wp ext d mz_169 (270, [some (.ref 42), some (.int v1), some (.int v2), some (.int v3), some (.int (1 <<< (((I 42 48) / 4) &&& 31))), none, none], [], (I, L, D, am_rf X)) P)) ∧ (¬ v3 ≤ 0 → (((¬ (I 42 50) = 0 → (am_inb v2 192 = true ∧ (((¬ (I 46 (Int32.toNatClampNeg v2)) = 1 → (am_inb v2 192 = true ∧ (((¬ (I 46 (Int32.toNatClampNeg v2)) = 2 → (am_wp ext d mz_169 (164, [some (.ref 42), some (.int v1), some (.int v2), some (.int v3), some (.int (1 <<< (((I 42 48) / 4) &&& 31))), none, none], [.int 0], (I, L, D, am_rf X)) P)) ∧ ((I 46 (Int32.toNatClampNeg v2)) = 2 → (am_wp ext d mz_169 (164, [some (.ref 42), some (.int v1), some (.int v2), some (.int v3), some (.int (1 <<< (((I 42 48) / 4) &&& 31))), none, none], [.int 1], (I, L, D, am_rf X)) P)))))) ∧ ((I 46 (Int32.toNatClampNeg v2)) = 1 → (∃ (r1 : Int64) (I1 : Nat → Nat → Int32) (L1 : Nat → Nat → Int64) (D1 : Nat → Nat → UInt64), am_Rn ext d 168 [.ref 42, .int v2, .int v3, .int (1 <<< (((I 42 48) / 4) &&& 31))] (I, L, D, am_rf X) (some (.long r1), (I1, L1, D1, am_rf X)) ∧ (∃ (r2 : Int64) (I2 : Nat → Nat → Int32) (L2 : Nat → Nat → Int64) (D2 : Nat → Nat → UInt64), am_Rn ext d 168 [.ref 42, .int v2, .int (v3 - 1), .int (1 <<< (((I 42 48) / 4) &&& 31))] (I1, L1, D1, am_rf X) (some (.long r2), (I2, L2, D2, am_rf X)) ∧ (∃ (r3 : Int64) (I3 : Nat → Nat → Int32) (L3 : Nat → Nat → Int64) (D3 : Nat → Nat → UInt64), am_Rn ext d 154 [.ref 42, .long ((L2 42 52) * (r1 - r2))] (I2, am_uL L2 42 51 (((L2 42 51) * (r1 - r2)) >>> ((Int32.toInt64 (I2 42 48)) &&& 63)), D2, am_rf X) (some (.long r3), (I3, L3, D3, am_rf X)) ∧ (((¬ v3 = 1 → (am_inb v1 128 = true ∧ (am_wp ext d mz_169 (116, [some (.ref 42), some (.int v1), some (.int v2), some (.int v3), some (.int (1 <<< (((I 42 48) / 4) &&& 31))), none, none], [.long ((L3 66 (Int32.toNatClampNeg v1)) + (L3 42 51)), .int v1, .ref 66], (I3, am_uL L3 42 52 r3, D3, am_rf X)) P))) ∧ (v3 = 1 → (am_wp ext d mz_169 (116, [some (.ref 42), some (.int v1), some (.int v2), some (.int v3), some (.int (1 <<< (((I 42 48) / 4) &&& 31))), none, none], [.long (L3 42 51), .int v1, .ref 66], (I3, am_uL L3 42 52 r3, D3, am_rf X)) P)))))))))))) ∧ ((I 42 50) = 0 → (∃ (I4 : Nat → Nat → Int32) (L4 : Nat → Nat → Int64) (D4 : Nat → Nat → UInt64), am_Rn ext d 152 [.ref 42] (I, L, D, am_rf X) (none, (I4, L4, D4, am_rf X)) ∧ (P (none, (I4, L4, D4, am_rf X)))))))))) : am_wp ext d mz_169 (0, [some (.ref 42), some (.int v1), some (.int v2), some (.int v3), none, none, none], [], (I, L, D, am_rf X)) P := by
  refine am_wpb (c' := (6, [some (.ref 42), some (.int v1), some (.int v2), some (.int v3), none, none, none], [.int 4, .int (I 42 48), .int 1], (I, L, D, am_rf X))) 4 rfl ?_
  refine am_wps (c' := (7, [some (.ref 42), some (.int v1), some (.int v2), some (.int v3), none, none, none], [.int ((I 42 48) / 4), .int 1], (I, L, D, am_rf X))) rfl rfl (am_s_idiv (by decide)) ?_
  refine am_wpb (c' := (11, [some (.ref 42), some (.int v1), some (.int v2), some (.int v3), some (.int (1 <<< (((I 42 48) / 4) &&& 31))), none, none], [.int v3], (I, L, D, am_rf X))) 3 rfl ?_
  refine am_b1_le rfl (fun z => ?_) (fun z => ?_)
  · replace h := h.1 z
    exact h
  · replace h := h.2 z
    refine am_wpb (c' := (18, [some (.ref 42), some (.int v1), some (.int v2), some (.int v3), some (.int (1 <<< (((I 42 48) / 4) &&& 31))), none, none], [.int (I 42 50)], (I, L, D, am_rf X))) 2 rfl ?_
    refine am_b1_ne rfl (fun z => ?_) (fun z => ?_)
    · replace h := h.1 z
      refine am_wpb (c' := (31, [some (.ref 42), some (.int v1), some (.int v2), some (.int v3), some (.int (1 <<< (((I 42 48) / 4) &&& 31))), none, none], [.int v2, .ref 46], (I, L, D, am_rf X))) 3 rfl ?_
      obtain ⟨o, h⟩ := h
      refine am_wps (c' := (32, [some (.ref 42), some (.int v1), some (.int v2), some (.int v3), some (.int (1 <<< (((I 42 48) / 4) &&& 31))), none, none], [.int (I 46 (Int32.toNatClampNeg v2))], (I, L, D, am_rf X))) rfl rfl (am_s_iald rfl o) ?_
      refine am_wpb (c' := (33, [some (.ref 42), some (.int v1), some (.int v2), some (.int v3), some (.int (1 <<< (((I 42 48) / 4) &&& 31))), none, none], [.int 1, .int (I 46 (Int32.toNatClampNeg v2))], (I, L, D, am_rf X))) 1 rfl ?_
      refine am_b2_ne rfl (fun z => ?_) (fun z => ?_)
      · replace h := h.1 z
        refine am_wpb (c' := (154, [some (.ref 42), some (.int v1), some (.int v2), some (.int v3), some (.int (1 <<< (((I 42 48) / 4) &&& 31))), none, none], [.int v2, .ref 46], (I, L, D, am_rf X))) 3 rfl ?_
        obtain ⟨o, h⟩ := h
        refine am_wps (c' := (155, [some (.ref 42), some (.int v1), some (.int v2), some (.int v3), some (.int (1 <<< (((I 42 48) / 4) &&& 31))), none, none], [.int (I 46 (Int32.toNatClampNeg v2))], (I, L, D, am_rf X))) rfl rfl (am_s_iald rfl o) ?_
        refine am_wpb (c' := (156, [some (.ref 42), some (.int v1), some (.int v2), some (.int v3), some (.int (1 <<< (((I 42 48) / 4) &&& 31))), none, none], [.int 2, .int (I 46 (Int32.toNatClampNeg v2))], (I, L, D, am_rf X))) 1 rfl ?_
        refine am_b2_ne rfl (fun z => ?_) (fun z => ?_)
        · replace h := h.1 z
          refine am_wpb (c' := (164, [some (.ref 42), some (.int v1), some (.int v2), some (.int v3), some (.int (1 <<< (((I 42 48) / 4) &&& 31))), none, none], [.int 0], (I, L, D, am_rf X))) 1 rfl ?_
          exact h
        · replace h := h.2 z
          refine am_wpb (c' := (164, [some (.ref 42), some (.int v1), some (.int v2), some (.int v3), some (.int (1 <<< (((I 42 48) / 4) &&& 31))), none, none], [.int 1], (I, L, D, am_rf X))) 2 rfl ?_
          exact h
      · replace h := h.2 z
        refine am_wpb (c' := (41, [some (.ref 42), some (.int v1), some (.int v2), some (.int v3), some (.int (1 <<< (((I 42 48) / 4) &&& 31))), none, none], [.int (1 <<< (((I 42 48) / 4) &&& 31)), .int v3, .int v2, .ref 42], (I, L, D, am_rf X))) 4 rfl ?_
        obtain ⟨r1, I1, L1, D1, hr, h⟩ := h
        refine am_wp_inv (as := [.ref 42, .int v2, .int v3, .int (1 <<< (((I 42 48) / 4) &&& 31))]) rfl rfl rfl rfl ⟨_, hr, ?_⟩
        show am_wp ext d mz_169 (44, [some (.ref 42), some (.int v1), some (.int v2), some (.int v3), some (.int (1 <<< (((I 42 48) / 4) &&& 31))), none, none], [.long r1], (I1, L1, D1, am_rf X)) P
        refine am_wpb (c' := (51, [some (.ref 42), some (.int v1), some (.int v2), some (.int v3), some (.int (1 <<< (((I 42 48) / 4) &&& 31))), none, none], [.int (1 <<< (((I 42 48) / 4) &&& 31)), .int (v3 - 1), .int v2, .ref 42, .long r1], (I1, L1, D1, am_rf X))) 6 rfl ?_
        obtain ⟨r2, I2, L2, D2, hr, h⟩ := h
        refine am_wp_inv (as := [.ref 42, .int v2, .int (v3 - 1), .int (1 <<< (((I 42 48) / 4) &&& 31))]) rfl rfl rfl rfl ⟨_, hr, ?_⟩
        show am_wp ext d mz_169 (54, [some (.ref 42), some (.int v1), some (.int v2), some (.int v3), some (.int (1 <<< (((I 42 48) / 4) &&& 31))), none, none], [.long r2, .long r1], (I2, L2, D2, am_rf X)) P
        refine am_wpb (c' := (82, [some (.ref 42), some (.int v1), some (.int v2), some (.int v3), some (.int (1 <<< (((I 42 48) / 4) &&& 31))), some (.long (r1 - r2)), none], [.long ((L2 42 52) * (r1 - r2)), .ref 42, .ref 42], (I2, am_uL L2 42 51 (((L2 42 51) * (r1 - r2)) >>> ((Int32.toInt64 (I2 42 48)) &&& 63)), D2, am_rf X))) 17 rfl ?_
        obtain ⟨r3, I3, L3, D3, hr, h⟩ := h
        refine am_wp_inv (as := [.ref 42, .long ((L2 42 52) * (r1 - r2))]) rfl rfl rfl rfl ⟨_, hr, ?_⟩
        show am_wp ext d mz_169 (85, [some (.ref 42), some (.int v1), some (.int v2), some (.int v3), some (.int (1 <<< (((I 42 48) / 4) &&& 31))), some (.long (r1 - r2)), none], [.long r3, .ref 42], (I3, L3, D3, am_rf X)) P
        refine am_wpb (c' := (95, [some (.ref 42), some (.int v1), some (.int v2), some (.int v3), some (.int (1 <<< (((I 42 48) / 4) &&& 31))), some (.long (r1 - r2)), none], [.int 1, .int v3, .int v1, .ref 66], (I3, am_uL L3 42 52 r3, D3, am_rf X))) 6 rfl ?_
        refine am_b2_ne rfl (fun z => ?_) (fun z => ?_)
        · replace h := h.1 z
          refine am_wpb (c' := (110, [some (.ref 42), some (.int v1), some (.int v2), some (.int v3), some (.int (1 <<< (((I 42 48) / 4) &&& 31))), some (.long (r1 - r2)), none], [.int v1, .ref 66, .int v1, .ref 66], (I3, am_uL L3 42 52 r3, D3, am_rf X))) 3 rfl ?_
          obtain ⟨o, h⟩ := h
          refine am_wps (c' := (111, [some (.ref 42), some (.int v1), some (.int v2), some (.int v3), some (.int (1 <<< (((I 42 48) / 4) &&& 31))), some (.long (r1 - r2)), none], [.long (L3 66 (Int32.toNatClampNeg v1)), .int v1, .ref 66], (I3, am_uL L3 42 52 r3, D3, am_rf X))) rfl rfl (am_s_lald rfl o) ?_
          refine am_wpb (c' := (116, [some (.ref 42), some (.int v1), some (.int v2), some (.int v3), some (.int (1 <<< (((I 42 48) / 4) &&& 31))), some (.long (r1 - r2)), none], [.long ((L3 66 (Int32.toNatClampNeg v1)) + (L3 42 51)), .int v1, .ref 66], (I3, am_uL L3 42 52 r3, D3, am_rf X))) 3 rfl ?_
          exact am_fgt (l := [some (.ref 42), some (.int v1), some (.int v2), some (.int v3), some (.int (1 <<< (((I 42 48) / 4) &&& 31))), none, none]) (am_le_of (am_leS (am_leS (am_leS (am_leS (am_leS (am_leN (am_leN (am_leZ))))))))) h
        · replace h := h.2 z
          refine am_wpb (c' := (116, [some (.ref 42), some (.int v1), some (.int v2), some (.int v3), some (.int (1 <<< (((I 42 48) / 4) &&& 31))), some (.long (r1 - r2)), none], [.long (L3 42 51), .int v1, .ref 66], (I3, am_uL L3 42 52 r3, D3, am_rf X))) 3 rfl ?_
          exact am_fgt (l := [some (.ref 42), some (.int v1), some (.int v2), some (.int v3), some (.int (1 <<< (((I 42 48) / 4) &&& 31))), none, none]) (am_le_of (am_leS (am_leS (am_leS (am_leS (am_leS (am_leN (am_leN (am_leZ))))))))) h
    · replace h := h.2 z
      refine am_wpb (c' := (22, [some (.ref 42), some (.int v1), some (.int v2), some (.int v3), some (.int (1 <<< (((I 42 48) / 4) &&& 31))), none, none], [.ref 42], (I, L, D, am_rf X))) 1 rfl ?_
      obtain ⟨I4, L4, D4, hr, h⟩ := h
      refine am_wp_inv (as := [.ref 42]) rfl rfl rfl rfl ⟨_, hr, ?_⟩
      show am_wp ext d mz_169 (25, [some (.ref 42), some (.int v1), some (.int v2), some (.int v3), some (.int (1 <<< (((I 42 48) / 4) &&& 31))), none, none], [], (I4, L4, D4, am_rf X)) P
      exact am_ret_v rfl rfl h
theorem w169_116 {ext : Nat → List Value → am_M → Option am_R} {d : Nat} {P : am_R → Prop} (I : Nat → Nat → Int32) (L : Nat → Nat → Int64) (D : Nat → Nat → UInt64) (X : am_Rf) (v1 : Int32) (v2 : Int32) (v3 : Int32) (v4 : Int32) (s0 : Int64) (s1 : Int32)
    (h : am_inb s1 128 = true ∧ (((¬ v3 = 1 → (am_inb v1 128 = true ∧ (am_inb v1 128 = true ∧ (am_wp ext d mz_169 (270, [some (.ref 42), some (.int v1), some (.int v2), some (.int v3), some (.int v4), none, none], [], (I, am_uL (am_uL L 66 (Int32.toNatClampNeg s1) s0) 67 (Int32.toNatClampNeg v1) ((L 67 (Int32.toNatClampNeg v1)) + (L 42 52)), D, am_rf X)) P)))) ∧ (v3 = 1 → (am_inb v1 128 = true ∧ (am_wp ext d mz_169 (270, [some (.ref 42), some (.int v1), some (.int v2), some (.int v3), some (.int v4), none, none], [], (I, am_uL (am_uL L 66 (Int32.toNatClampNeg s1) s0) 67 (Int32.toNatClampNeg v1) (L 42 52), D, am_rf X)) P)))))) : am_wp ext d mz_169 (116, [some (.ref 42), some (.int v1), some (.int v2), some (.int v3), some (.int v4), none, none], [.long s0, .int s1, .ref 66], (I, L, D, am_rf X)) P := by
  obtain ⟨o, h⟩ := h
  refine am_wps (c' := (117, [some (.ref 42), some (.int v1), some (.int v2), some (.int v3), some (.int v4), none, none], [], (I, am_uL L 66 (Int32.toNatClampNeg s1) s0, D, am_rf X))) rfl rfl (am_s_last rfl o) ?_
  refine am_wpb (c' := (124, [some (.ref 42), some (.int v1), some (.int v2), some (.int v3), some (.int v4), none, none], [.int 1, .int v3, .int v1, .ref 67], (I, am_uL L 66 (Int32.toNatClampNeg s1) s0, D, am_rf X))) 5 rfl ?_
  refine am_b2_ne rfl (fun z => ?_) (fun z => ?_)
  · replace h := h.1 z
    refine am_wpb (c' := (139, [some (.ref 42), some (.int v1), some (.int v2), some (.int v3), some (.int v4), none, none], [.int v1, .ref 67, .int v1, .ref 67], (I, am_uL L 66 (Int32.toNatClampNeg s1) s0, D, am_rf X))) 3 rfl ?_
    obtain ⟨o, h⟩ := h
    refine am_wps (c' := (140, [some (.ref 42), some (.int v1), some (.int v2), some (.int v3), some (.int v4), none, none], [.long (L 67 (Int32.toNatClampNeg v1)), .int v1, .ref 67], (I, am_uL L 66 (Int32.toNatClampNeg s1) s0, D, am_rf X))) rfl rfl (am_s_lald rfl o) ?_
    refine am_wpb (c' := (145, [some (.ref 42), some (.int v1), some (.int v2), some (.int v3), some (.int v4), none, none], [.long ((L 67 (Int32.toNatClampNeg v1)) + (L 42 52)), .int v1, .ref 67], (I, am_uL L 66 (Int32.toNatClampNeg s1) s0, D, am_rf X))) 3 rfl ?_
    obtain ⟨o, h⟩ := h
    refine am_wps (c' := (146, [some (.ref 42), some (.int v1), some (.int v2), some (.int v3), some (.int v4), none, none], [], (I, am_uL (am_uL L 66 (Int32.toNatClampNeg s1) s0) 67 (Int32.toNatClampNeg v1) ((L 67 (Int32.toNatClampNeg v1)) + (L 42 52)), D, am_rf X))) rfl rfl (am_s_last rfl o) ?_
    refine am_wpb (c' := (270, [some (.ref 42), some (.int v1), some (.int v2), some (.int v3), some (.int v4), none, none], [], (I, am_uL (am_uL L 66 (Int32.toNatClampNeg s1) s0) 67 (Int32.toNatClampNeg v1) ((L 67 (Int32.toNatClampNeg v1)) + (L 42 52)), D, am_rf X))) 1 rfl ?_
    exact h
  · replace h := h.2 z
    refine am_wpb (c' := (145, [some (.ref 42), some (.int v1), some (.int v2), some (.int v3), some (.int v4), none, none], [.long (L 42 52), .int v1, .ref 67], (I, am_uL L 66 (Int32.toNatClampNeg s1) s0, D, am_rf X))) 3 rfl ?_
    obtain ⟨o, h⟩ := h
    refine am_wps (c' := (146, [some (.ref 42), some (.int v1), some (.int v2), some (.int v3), some (.int v4), none, none], [], (I, am_uL (am_uL L 66 (Int32.toNatClampNeg s1) s0) 67 (Int32.toNatClampNeg v1) (L 42 52), D, am_rf X))) rfl rfl (am_s_last rfl o) ?_
    refine am_wpb (c' := (270, [some (.ref 42), some (.int v1), some (.int v2), some (.int v3), some (.int v4), none, none], [], (I, am_uL (am_uL L 66 (Int32.toNatClampNeg s1) s0) 67 (Int32.toNatClampNeg v1) (L 42 52), D, am_rf X))) 1 rfl ?_
    exact h
theorem w169_164 {ext : Nat → List Value → am_M → Option am_R} {d : Nat} {P : am_R → Prop} (I : Nat → Nat → Int32) (L : Nat → Nat → Int64) (D : Nat → Nat → UInt64) (X : am_Rf) (v1 : Int32) (v2 : Int32) (v3 : Int32) (v4 : Int32) (s0 : Int32)
    (h : ((¬ v3 = 1 → (((s0 = 0 → (am_inb v1 128 = true ∧ (∃ (r1 : Int64) (I1 : Nat → Nat → Int32) (L1 : Nat → Nat → Int64) (D1 : Nat → Nat → UInt64), am_Rn ext d 157 [.long (L 66 (Int32.toNatClampNeg v1)), .long (L 42 51)] (I, L, D, am_rf X) (some (.long r1), (I1, L1, D1, am_rf X)) ∧ (am_wp ext d mz_169 (217, [some (.ref 42), some (.int v1), some (.int v2), some (.int v3), some (.int v4), some (.int s0), none], [.long r1, .int v1, .ref 66], (I1, L1, D1, am_rf X)) P)))) ∧ (¬ s0 = 0 → (am_inb v1 128 = true ∧ (∃ (r2 : Int64) (I2 : Nat → Nat → Int32) (L2 : Nat → Nat → Int64) (D2 : Nat → Nat → UInt64), am_Rn ext d 158 [.long (L 66 (Int32.toNatClampNeg v1)), .long (L 42 51)] (I, L, D, am_rf X) (some (.long r2), (I2, L2, D2, am_rf X)) ∧ (am_wp ext d mz_169 (217, [some (.ref 42), some (.int v1), some (.int v2), some (.int v3), some (.int v4), some (.int s0), none], [.long r2, .int v1, .ref 66], (I2, L2, D2, am_rf X)) P))))))) ∧ (v3 = 1 → (am_wp ext d mz_169 (217, [some (.ref 42), some (.int v1), some (.int v2), some (.int v3), some (.int v4), some (.int s0), none], [.long (L 42 51), .int v1, .ref 66], (I, L, D, am_rf X)) P)))) : am_wp ext d mz_169 (164, [some (.ref 42), some (.int v1), some (.int v2), some (.int v3), some (.int v4), none, none], [.int s0], (I, L, D, am_rf X)) P := by
  refine am_wpb (c' := (173, [some (.ref 42), some (.int v1), some (.int v2), some (.int v3), some (.int v4), some (.int s0), none], [.int 1, .int v3, .int v1, .ref 66], (I, L, D, am_rf X))) 6 rfl ?_
  refine am_b2_ne rfl (fun z => ?_) (fun z => ?_)
  · replace h := h.1 z
    refine am_wpb (c' := (185, [some (.ref 42), some (.int v1), some (.int v2), some (.int v3), some (.int v4), some (.int s0), none], [.int s0, .int v1, .ref 66], (I, L, D, am_rf X))) 1 rfl ?_
    refine am_b1_eq rfl (fun z => ?_) (fun z => ?_)
    · replace h := h.1 z
      refine am_wpb (c' := (209, [some (.ref 42), some (.int v1), some (.int v2), some (.int v3), some (.int v4), some (.int s0), none], [.int v1, .ref 66, .int v1, .ref 66], (I, L, D, am_rf X))) 3 rfl ?_
      obtain ⟨o, h⟩ := h
      refine am_wps (c' := (210, [some (.ref 42), some (.int v1), some (.int v2), some (.int v3), some (.int v4), some (.int s0), none], [.long (L 66 (Int32.toNatClampNeg v1)), .int v1, .ref 66], (I, L, D, am_rf X))) rfl rfl (am_s_lald rfl o) ?_
      refine am_wpb (c' := (214, [some (.ref 42), some (.int v1), some (.int v2), some (.int v3), some (.int v4), some (.int s0), none], [.long (L 42 51), .long (L 66 (Int32.toNatClampNeg v1)), .int v1, .ref 66], (I, L, D, am_rf X))) 2 rfl ?_
      obtain ⟨r1, I1, L1, D1, hr, h⟩ := h
      refine am_wp_inv (as := [.long (L 66 (Int32.toNatClampNeg v1)), .long (L 42 51)]) rfl rfl rfl rfl ⟨_, hr, ?_⟩
      show am_wp ext d mz_169 (217, [some (.ref 42), some (.int v1), some (.int v2), some (.int v3), some (.int v4), some (.int s0), none], [.long r1, .int v1, .ref 66], (I1, L1, D1, am_rf X)) P
      exact h
    · replace h := h.2 z
      refine am_wpb (c' := (193, [some (.ref 42), some (.int v1), some (.int v2), some (.int v3), some (.int v4), some (.int s0), none], [.int v1, .ref 66, .int v1, .ref 66], (I, L, D, am_rf X))) 3 rfl ?_
      obtain ⟨o, h⟩ := h
      refine am_wps (c' := (194, [some (.ref 42), some (.int v1), some (.int v2), some (.int v3), some (.int v4), some (.int s0), none], [.long (L 66 (Int32.toNatClampNeg v1)), .int v1, .ref 66], (I, L, D, am_rf X))) rfl rfl (am_s_lald rfl o) ?_
      refine am_wpb (c' := (198, [some (.ref 42), some (.int v1), some (.int v2), some (.int v3), some (.int v4), some (.int s0), none], [.long (L 42 51), .long (L 66 (Int32.toNatClampNeg v1)), .int v1, .ref 66], (I, L, D, am_rf X))) 2 rfl ?_
      obtain ⟨r2, I2, L2, D2, hr, h⟩ := h
      refine am_wp_inv (as := [.long (L 66 (Int32.toNatClampNeg v1)), .long (L 42 51)]) rfl rfl rfl rfl ⟨_, hr, ?_⟩
      show am_wp ext d mz_169 (201, [some (.ref 42), some (.int v1), some (.int v2), some (.int v3), some (.int v4), some (.int s0), none], [.long r2, .int v1, .ref 66], (I2, L2, D2, am_rf X)) P
      refine am_wpb (c' := (217, [some (.ref 42), some (.int v1), some (.int v2), some (.int v3), some (.int v4), some (.int s0), none], [.long r2, .int v1, .ref 66], (I2, L2, D2, am_rf X))) 1 rfl ?_
      exact h
  · replace h := h.2 z
    refine am_wpb (c' := (217, [some (.ref 42), some (.int v1), some (.int v2), some (.int v3), some (.int v4), some (.int s0), none], [.long (L 42 51), .int v1, .ref 66], (I, L, D, am_rf X))) 3 rfl ?_
    exact h
theorem w169_217 {ext : Nat → List Value → am_M → Option am_R} {d : Nat} {P : am_R → Prop} (I : Nat → Nat → Int32) (L : Nat → Nat → Int64) (D : Nat → Nat → UInt64) (X : am_Rf) (v1 : Int32) (v2 : Int32) (v3 : Int32) (v4 : Int32) (v5 : Int32) (s0 : Int64) (s1 : Int32)
    (h : am_inb s1 128 = true ∧ (((¬ v3 = 1 → (((v5 = 0 → (am_inb v1 128 = true ∧ (∃ (r1 : Int64) (I1 : Nat → Nat → Int32) (L1 : Nat → Nat → Int64) (D1 : Nat → Nat → UInt64), am_Rn ext d 157 [.long (L 67 (Int32.toNatClampNeg v1)), .long (L 42 52)] (I, am_uL L 66 (Int32.toNatClampNeg s1) s0, D, am_rf X) (some (.long r1), (I1, L1, D1, am_rf X)) ∧ (am_inb v1 128 = true ∧ (am_wp ext d mz_169 (270, [some (.ref 42), some (.int v1), some (.int v2), some (.int v3), some (.int v4), none, none], [], (I1, am_uL L1 67 (Int32.toNatClampNeg v1) r1, D1, am_rf X)) P))))) ∧ (¬ v5 = 0 → (am_inb v1 128 = true ∧ (∃ (r2 : Int64) (I2 : Nat → Nat → Int32) (L2 : Nat → Nat → Int64) (D2 : Nat → Nat → UInt64), am_Rn ext d 158 [.long (L 67 (Int32.toNatClampNeg v1)), .long (L 42 52)] (I, am_uL L 66 (Int32.toNatClampNeg s1) s0, D, am_rf X) (some (.long r2), (I2, L2, D2, am_rf X)) ∧ (am_inb v1 128 = true ∧ (am_wp ext d mz_169 (270, [some (.ref 42), some (.int v1), some (.int v2), some (.int v3), some (.int v4), none, none], [], (I2, am_uL L2 67 (Int32.toNatClampNeg v1) r2, D2, am_rf X)) P)))))))) ∧ (v3 = 1 → (am_inb v1 128 = true ∧ (am_wp ext d mz_169 (270, [some (.ref 42), some (.int v1), some (.int v2), some (.int v3), some (.int v4), none, none], [], (I, am_uL (am_uL L 66 (Int32.toNatClampNeg s1) s0) 67 (Int32.toNatClampNeg v1) (L 42 52), D, am_rf X)) P)))))) : am_wp ext d mz_169 (217, [some (.ref 42), some (.int v1), some (.int v2), some (.int v3), some (.int v4), some (.int v5), none], [.long s0, .int s1, .ref 66], (I, L, D, am_rf X)) P := by
  obtain ⟨o, h⟩ := h
  refine am_wps (c' := (218, [some (.ref 42), some (.int v1), some (.int v2), some (.int v3), some (.int v4), some (.int v5), none], [], (I, am_uL L 66 (Int32.toNatClampNeg s1) s0, D, am_rf X))) rfl rfl (am_s_last rfl o) ?_
  refine am_wpb (c' := (225, [some (.ref 42), some (.int v1), some (.int v2), some (.int v3), some (.int v4), some (.int v5), none], [.int 1, .int v3, .int v1, .ref 67], (I, am_uL L 66 (Int32.toNatClampNeg s1) s0, D, am_rf X))) 5 rfl ?_
  refine am_b2_ne rfl (fun z => ?_) (fun z => ?_)
  · replace h := h.1 z
    refine am_wpb (c' := (237, [some (.ref 42), some (.int v1), some (.int v2), some (.int v3), some (.int v4), some (.int v5), none], [.int v5, .int v1, .ref 67], (I, am_uL L 66 (Int32.toNatClampNeg s1) s0, D, am_rf X))) 1 rfl ?_
    refine am_b1_eq rfl (fun z => ?_) (fun z => ?_)
    · replace h := h.1 z
      refine am_wpb (c' := (261, [some (.ref 42), some (.int v1), some (.int v2), some (.int v3), some (.int v4), some (.int v5), none], [.int v1, .ref 67, .int v1, .ref 67], (I, am_uL L 66 (Int32.toNatClampNeg s1) s0, D, am_rf X))) 3 rfl ?_
      obtain ⟨o, h⟩ := h
      refine am_wps (c' := (262, [some (.ref 42), some (.int v1), some (.int v2), some (.int v3), some (.int v4), some (.int v5), none], [.long (L 67 (Int32.toNatClampNeg v1)), .int v1, .ref 67], (I, am_uL L 66 (Int32.toNatClampNeg s1) s0, D, am_rf X))) rfl rfl (am_s_lald rfl o) ?_
      refine am_wpb (c' := (266, [some (.ref 42), some (.int v1), some (.int v2), some (.int v3), some (.int v4), some (.int v5), none], [.long (L 42 52), .long (L 67 (Int32.toNatClampNeg v1)), .int v1, .ref 67], (I, am_uL L 66 (Int32.toNatClampNeg s1) s0, D, am_rf X))) 2 rfl ?_
      obtain ⟨r1, I1, L1, D1, hr, h⟩ := h
      refine am_wp_inv (as := [.long (L 67 (Int32.toNatClampNeg v1)), .long (L 42 52)]) rfl rfl rfl rfl ⟨_, hr, ?_⟩
      show am_wp ext d mz_169 (269, [some (.ref 42), some (.int v1), some (.int v2), some (.int v3), some (.int v4), some (.int v5), none], [.long r1, .int v1, .ref 67], (I1, L1, D1, am_rf X)) P
      obtain ⟨o, h⟩ := h
      refine am_wps (c' := (270, [some (.ref 42), some (.int v1), some (.int v2), some (.int v3), some (.int v4), some (.int v5), none], [], (I1, am_uL L1 67 (Int32.toNatClampNeg v1) r1, D1, am_rf X))) rfl rfl (am_s_last rfl o) ?_
      exact am_fgt (l := [some (.ref 42), some (.int v1), some (.int v2), some (.int v3), some (.int v4), none, none]) (am_le_of (am_leS (am_leS (am_leS (am_leS (am_leS (am_leN (am_leN (am_leZ))))))))) h
    · replace h := h.2 z
      refine am_wpb (c' := (245, [some (.ref 42), some (.int v1), some (.int v2), some (.int v3), some (.int v4), some (.int v5), none], [.int v1, .ref 67, .int v1, .ref 67], (I, am_uL L 66 (Int32.toNatClampNeg s1) s0, D, am_rf X))) 3 rfl ?_
      obtain ⟨o, h⟩ := h
      refine am_wps (c' := (246, [some (.ref 42), some (.int v1), some (.int v2), some (.int v3), some (.int v4), some (.int v5), none], [.long (L 67 (Int32.toNatClampNeg v1)), .int v1, .ref 67], (I, am_uL L 66 (Int32.toNatClampNeg s1) s0, D, am_rf X))) rfl rfl (am_s_lald rfl o) ?_
      refine am_wpb (c' := (250, [some (.ref 42), some (.int v1), some (.int v2), some (.int v3), some (.int v4), some (.int v5), none], [.long (L 42 52), .long (L 67 (Int32.toNatClampNeg v1)), .int v1, .ref 67], (I, am_uL L 66 (Int32.toNatClampNeg s1) s0, D, am_rf X))) 2 rfl ?_
      obtain ⟨r2, I2, L2, D2, hr, h⟩ := h
      refine am_wp_inv (as := [.long (L 67 (Int32.toNatClampNeg v1)), .long (L 42 52)]) rfl rfl rfl rfl ⟨_, hr, ?_⟩
      show am_wp ext d mz_169 (253, [some (.ref 42), some (.int v1), some (.int v2), some (.int v3), some (.int v4), some (.int v5), none], [.long r2, .int v1, .ref 67], (I2, L2, D2, am_rf X)) P
      refine am_wpb (c' := (269, [some (.ref 42), some (.int v1), some (.int v2), some (.int v3), some (.int v4), some (.int v5), none], [.long r2, .int v1, .ref 67], (I2, L2, D2, am_rf X))) 1 rfl ?_
      obtain ⟨o, h⟩ := h
      refine am_wps (c' := (270, [some (.ref 42), some (.int v1), some (.int v2), some (.int v3), some (.int v4), some (.int v5), none], [], (I2, am_uL L2 67 (Int32.toNatClampNeg v1) r2, D2, am_rf X))) rfl rfl (am_s_last rfl o) ?_
      exact am_fgt (l := [some (.ref 42), some (.int v1), some (.int v2), some (.int v3), some (.int v4), none, none]) (am_le_of (am_leS (am_leS (am_leS (am_leS (am_leS (am_leN (am_leN (am_leZ))))))))) h
  · replace h := h.2 z
    refine am_wpb (c' := (269, [some (.ref 42), some (.int v1), some (.int v2), some (.int v3), some (.int v4), some (.int v5), none], [.long (L 42 52), .int v1, .ref 67], (I, am_uL L 66 (Int32.toNatClampNeg s1) s0, D, am_rf X))) 3 rfl ?_
    obtain ⟨o, h⟩ := h
    refine am_wps (c' := (270, [some (.ref 42), some (.int v1), some (.int v2), some (.int v3), some (.int v4), some (.int v5), none], [], (I, am_uL (am_uL L 66 (Int32.toNatClampNeg s1) s0) 67 (Int32.toNatClampNeg v1) (L 42 52), D, am_rf X))) rfl rfl (am_s_last rfl o) ?_
    exact am_fgt (l := [some (.ref 42), some (.int v1), some (.int v2), some (.int v3), some (.int v4), none, none]) (am_le_of (am_leS (am_leS (am_leS (am_leS (am_leS (am_leN (am_leN (am_leZ))))))))) h
theorem w169_270 {ext : Nat → List Value → am_M → Option am_R} {d : Nat} {P : am_R → Prop} (I : Nat → Nat → Int32) (L : Nat → Nat → Int64) (D : Nat → Nat → UInt64) (X : am_Rf) (v1 : Int32) (v2 : Int32) (v3 : Int32) (v4 : Int32)
    (h : ((¬ v3 = v4 → (am_inb v2 192 = true ∧ (am_inb (I 47 (Int32.toNatClampNeg v2)) 52 = true ∧ (∃ (r1 : Int64) (I1 : Nat → Nat → Int32) (L1 : Nat → Nat → Int64) (D1 : Nat → Nat → UInt64), am_Rn ext d 168 [.ref 42, .int v2, .int v3, .int v4] (I, L, D, am_rf X) (some (.long r1), (I1, L1, D1, am_rf X)) ∧ (∃ (r2 : Int64) (I2 : Nat → Nat → Int32) (L2 : Nat → Nat → Int64) (D2 : Nat → Nat → UInt64), am_Rn ext d 168 [.ref 42, .int v2, .int (v3 + 1), .int v4] (I1, L1, D1, am_rf X) (some (.long r2), (I2, L2, D2, am_rf X)) ∧ (∃ (I3 : Nat → Nat → Int32) (L3 : Nat → Nat → Int64) (D3 : Nat → Nat → UInt64), am_Rn ext d 150 [.ref 42, .int (I 52 (Int32.toNatClampNeg (I 47 (Int32.toNatClampNeg v2)))), .long r1, .long r2] (I2, L2, D2, am_rf X) (none, (I3, L3, D3, am_rf X)) ∧ (P (none, (I3, L3, D3, am_rf X))))))))) ∧ (v3 = v4 → (am_inb v1 128 = true ∧ (am_inb v1 128 = true ∧ (∃ (I4 : Nat → Nat → Int32) (L4 : Nat → Nat → Int64) (D4 : Nat → Nat → UInt64), am_Rn ext d 151 [.ref 42, .int 1, .long (L 66 (Int32.toNatClampNeg v1)), .long (L 67 (Int32.toNatClampNeg v1))] (I, L, D, am_rf X) (none, (I4, L4, D4, am_rf X)) ∧ (P (none, (I4, L4, D4, am_rf X))))))))) : am_wp ext d mz_169 (270, [some (.ref 42), some (.int v1), some (.int v2), some (.int v3), some (.int v4), none, none], [], (I, L, D, am_rf X)) P := by
  refine am_wpb (c' := (273, [some (.ref 42), some (.int v1), some (.int v2), some (.int v3), some (.int v4), none, none], [.int v4, .int v3], (I, L, D, am_rf X))) 2 rfl ?_
  refine am_b2_ne rfl (fun z => ?_) (fun z => ?_)
  · replace h := h.1 z
    refine am_wpb (c' := (306, [some (.ref 42), some (.int v1), some (.int v2), some (.int v3), some (.int v4), none, none], [.int v2, .ref 47, .ref 52, .ref 42], (I, L, D, am_rf X))) 6 rfl ?_
    obtain ⟨o, h⟩ := h
    refine am_wps (c' := (307, [some (.ref 42), some (.int v1), some (.int v2), some (.int v3), some (.int v4), none, none], [.int (I 47 (Int32.toNatClampNeg v2)), .ref 52, .ref 42], (I, L, D, am_rf X))) rfl rfl (am_s_iald rfl o) ?_
    obtain ⟨o, h⟩ := h
    refine am_wps (c' := (308, [some (.ref 42), some (.int v1), some (.int v2), some (.int v3), some (.int v4), none, none], [.int (I 52 (Int32.toNatClampNeg (I 47 (Int32.toNatClampNeg v2)))), .ref 42], (I, L, D, am_rf X))) rfl rfl (am_s_iald rfl o) ?_
    refine am_wpb (c' := (313, [some (.ref 42), some (.int v1), some (.int v2), some (.int v3), some (.int v4), none, none], [.int v4, .int v3, .int v2, .ref 42, .int (I 52 (Int32.toNatClampNeg (I 47 (Int32.toNatClampNeg v2)))), .ref 42], (I, L, D, am_rf X))) 4 rfl ?_
    obtain ⟨r1, I1, L1, D1, hr, h⟩ := h
    refine am_wp_inv (as := [.ref 42, .int v2, .int v3, .int v4]) rfl rfl rfl rfl ⟨_, hr, ?_⟩
    show am_wp ext d mz_169 (316, [some (.ref 42), some (.int v1), some (.int v2), some (.int v3), some (.int v4), none, none], [.long r1, .int (I 52 (Int32.toNatClampNeg (I 47 (Int32.toNatClampNeg v2)))), .ref 42], (I1, L1, D1, am_rf X)) P
    refine am_wpb (c' := (323, [some (.ref 42), some (.int v1), some (.int v2), some (.int v3), some (.int v4), none, none], [.int v4, .int (v3 + 1), .int v2, .ref 42, .long r1, .int (I 52 (Int32.toNatClampNeg (I 47 (Int32.toNatClampNeg v2)))), .ref 42], (I1, L1, D1, am_rf X))) 6 rfl ?_
    obtain ⟨r2, I2, L2, D2, hr, h⟩ := h
    refine am_wp_inv (as := [.ref 42, .int v2, .int (v3 + 1), .int v4]) rfl rfl rfl rfl ⟨_, hr, ?_⟩
    show am_wp ext d mz_169 (326, [some (.ref 42), some (.int v1), some (.int v2), some (.int v3), some (.int v4), none, none], [.long r2, .long r1, .int (I 52 (Int32.toNatClampNeg (I 47 (Int32.toNatClampNeg v2)))), .ref 42], (I2, L2, D2, am_rf X)) P
    obtain ⟨I3, L3, D3, hr, h⟩ := h
    refine am_wp_inv (as := [.ref 42, .int (I 52 (Int32.toNatClampNeg (I 47 (Int32.toNatClampNeg v2)))), .long r1, .long r2]) rfl rfl rfl rfl ⟨_, hr, ?_⟩
    show am_wp ext d mz_169 (329, [some (.ref 42), some (.int v1), some (.int v2), some (.int v3), some (.int v4), none, none], [], (I3, L3, D3, am_rf X)) P
    exact am_ret_v rfl rfl h
  · replace h := h.2 z
    refine am_wpb (c' := (283, [some (.ref 42), some (.int v1), some (.int v2), some (.int v3), some (.int v4), none, none], [.int v1, .ref 66, .int 1, .ref 42], (I, L, D, am_rf X))) 5 rfl ?_
    obtain ⟨o, h⟩ := h
    refine am_wps (c' := (284, [some (.ref 42), some (.int v1), some (.int v2), some (.int v3), some (.int v4), none, none], [.long (L 66 (Int32.toNatClampNeg v1)), .int 1, .ref 42], (I, L, D, am_rf X))) rfl rfl (am_s_lald rfl o) ?_
    refine am_wpb (c' := (289, [some (.ref 42), some (.int v1), some (.int v2), some (.int v3), some (.int v4), none, none], [.int v1, .ref 67, .long (L 66 (Int32.toNatClampNeg v1)), .int 1, .ref 42], (I, L, D, am_rf X))) 3 rfl ?_
    obtain ⟨o, h⟩ := h
    refine am_wps (c' := (290, [some (.ref 42), some (.int v1), some (.int v2), some (.int v3), some (.int v4), none, none], [.long (L 67 (Int32.toNatClampNeg v1)), .long (L 66 (Int32.toNatClampNeg v1)), .int 1, .ref 42], (I, L, D, am_rf X))) rfl rfl (am_s_lald rfl o) ?_
    obtain ⟨I4, L4, D4, hr, h⟩ := h
    refine am_wp_inv (as := [.ref 42, .int 1, .long (L 66 (Int32.toNatClampNeg v1)), .long (L 67 (Int32.toNatClampNeg v1))]) rfl rfl rfl rfl ⟨_, hr, ?_⟩
    show am_wp ext d mz_169 (293, [some (.ref 42), some (.int v1), some (.int v2), some (.int v3), some (.int v4), none, none], [], (I4, L4, D4, am_rf X)) P
    refine am_wpb (c' := (329, [some (.ref 42), some (.int v1), some (.int v2), some (.int v3), some (.int v4), none, none], [], (I4, L4, D4, am_rf X))) 1 rfl ?_
    exact am_ret_v rfl rfl h
/-- SureSumsModel.askNumber(II)V -/
def mz_170 : am_Y := (fun pc => am_q170.lookup pc, 3, 0)
theorem mh_170 : am_Ys 170 = some mz_170 := rfl
theorem w170_0 {ext : Nat → List Value → am_M → Option am_R} {d : Nat} {P : am_R → Prop} (I : Nat → Nat → Int32) (L : Nat → Nat → Int64) (D : Nat → Nat → UInt64) (X : am_Rf) (v1 : Int32) (v2 : Int32)
    (h : am_inb v1 52 = true ∧ (∃ (I1 : Nat → Nat → Int32) (L1 : Nat → Nat → Int64) (D1 : Nat → Nat → UInt64), am_Rn ext d 153 [.ref 42, .int (I 52 (Int32.toNatClampNeg v1)), .long 0, .long 0] (am_uI I 42 48 v2, L, D, am_rf X) (none, (I1, L1, D1, am_rf X)) ∧ (P (none, (I1, L1, D1, am_rf X))))) : am_wp ext d mz_170 (0, [some (.ref 42), some (.int v1), some (.int v2)], [], (I, L, D, am_rf X)) P := by
  refine am_wpb (c' := (11, [some (.ref 42), some (.int v1), some (.int v2)], [.int v1, .ref 52, .ref 42], (am_uI I 42 48 v2, L, D, am_rf X))) 7 rfl ?_
  obtain ⟨o, h⟩ := h
  refine am_wps (c' := (12, [some (.ref 42), some (.int v1), some (.int v2)], [.int (I 52 (Int32.toNatClampNeg v1)), .ref 42], (am_uI I 42 48 v2, L, D, am_rf X))) rfl rfl (am_s_iald rfl o) ?_
  refine am_wpb (c' := (14, [some (.ref 42), some (.int v1), some (.int v2)], [.long 0, .long 0, .int (I 52 (Int32.toNatClampNeg v1)), .ref 42], (am_uI I 42 48 v2, L, D, am_rf X))) 2 rfl ?_
  obtain ⟨I1, L1, D1, hr, h⟩ := h
  refine am_wp_inv (as := [.ref 42, .int (I 52 (Int32.toNatClampNeg v1)), .long 0, .long 0]) rfl rfl rfl rfl ⟨_, hr, ?_⟩
  show am_wp ext d mz_170 (17, [some (.ref 42), some (.int v1), some (.int v2)], [], (I1, L1, D1, am_rf X)) P
  exact am_ret_v rfl rfl h
/-- SureSumsModel.told(I)J -/
def mz_171 : am_Y := (fun pc => am_q171.lookup pc, 2, 3)
theorem mh_171 : am_Ys 171 = some mz_171 := rfl
theorem w171_0 {ext : Nat → List Value → am_M → Option am_R} {d : Nat} {P : am_R → Prop} (I : Nat → Nat → Int32) (L : Nat → Nat → Int64) (D : Nat → Nat → UInt64) (X : am_Rf) (v1 : Int32)
    (h : ((¬ v1 = 2 → (((¬ (I 42 50) = 0 → (((¬ v1 = 0 → (P (some (.long (L 42 52)), (I, L, D, am_rf X)))) ∧ (v1 = 0 → (P (some (.long (L 42 51)), (I, L, D, am_rf X))))))) ∧ ((I 42 50) = 0 → (P (some (.long (-9223372036854775808)), (I, L, D, am_rf X))))))) ∧ (v1 = 2 → (P (some (.long (Int32.toInt64 (I 42 49))), (I, L, D, am_rf X)))))) : am_wp ext d mz_171 (0, [some (.ref 42), some (.int v1)], [], (I, L, D, am_rf X)) P := by
  refine am_wpb (c' := (2, [some (.ref 42), some (.int v1)], [.int 2, .int v1], (I, L, D, am_rf X))) 2 rfl ?_
  refine am_b2_ne rfl (fun z => ?_) (fun z => ?_)
  · replace h := h.1 z
    refine am_wpb (c' := (17, [some (.ref 42), some (.int v1)], [.int (I 42 50)], (I, L, D, am_rf X))) 2 rfl ?_
    refine am_b1_ne rfl (fun z => ?_) (fun z => ?_)
    · replace h := h.1 z
      refine am_wpb (c' := (27, [some (.ref 42), some (.int v1)], [.int v1], (I, L, D, am_rf X))) 1 rfl ?_
      refine am_b1_ne rfl (fun z => ?_) (fun z => ?_)
      · replace h := h.1 z
        refine am_wpb (c' := (41, [some (.ref 42), some (.int v1)], [.long (L 42 52)], (I, L, D, am_rf X))) 2 rfl ?_
        exact am_ret_l rfl rfl h
      · replace h := h.2 z
        refine am_wpb (c' := (41, [some (.ref 42), some (.int v1)], [.long (L 42 51)], (I, L, D, am_rf X))) 3 rfl ?_
        exact am_ret_l rfl rfl h
    · replace h := h.2 z
      refine am_wpb (c' := (41, [some (.ref 42), some (.int v1)], [.long (-9223372036854775808)], (I, L, D, am_rf X))) 2 rfl ?_
      exact am_ret_l rfl rfl h
  · replace h := h.2 z
    refine am_wpb (c' := (41, [some (.ref 42), some (.int v1)], [.long (Int32.toInt64 (I 42 49))], (I, L, D, am_rf X))) 4 rfl ?_
    exact am_ret_l rfl rfl h
/-- SureSumsModel.span(III)J -/
def mz_172 : am_Y := (fun pc => am_q172.lookup pc, 4, 3)
theorem mh_172 : am_Ys 172 = some mz_172 := rfl
theorem w172_0 {ext : Nat → List Value → am_M → Option am_R} {d : Nat} {P : am_R → Prop} (I : Nat → Nat → Int32) (L : Nat → Nat → Int64) (D : Nat → Nat → UInt64) (X : am_Rf) (v1 : Int32) (v2 : Int32) (v3 : Int32)
    (h : ∃ (r1 : Int32) (I1 : Nat → Nat → Int32) (L1 : Nat → Nat → Int64) (D1 : Nat → Nat → UInt64), am_Rn ext d 148 [.ref 42, .int v1] (am_uI I 42 2 0, L, D, am_rf X) (some (.int r1), (I1, L1, D1, am_rf X)) ∧ (((r1 = 0 → (P (some (.long (-9223372036854775808)), (I1, L1, D1, am_rf X)))) ∧ (¬ r1 = 0 → (∃ (r2 : Int32) (I2 : Nat → Nat → Int32) (L2 : Nat → Nat → Int64) (D2 : Nat → Nat → UInt64), am_Rn ext d 117 [.int v2, .int 4, .int 20] (I1, L1, D1, am_rf X) (some (.int r2), (I2, L2, D2, am_rf X)) ∧ (((r2 = 0 → (P (some (.long (-9223372036854775808)), (I2, L2, D2, am_rf X)))) ∧ (¬ r2 = 0 → (∃ (r3 : Int32) (I3 : Nat → Nat → Int32) (L3 : Nat → Nat → Int64) (D3 : Nat → Nat → UInt64), am_Rn ext d 117 [.int v3, .int 0, .int 2] (I2, L2, D2, am_rf X) (some (.int r3), (I3, L3, D3, am_rf X)) ∧ (((¬ r3 = 0 → (∃ (I4 : Nat → Nat → Int32) (L4 : Nat → Nat → Int64) (D4 : Nat → Nat → UInt64), am_Rn ext d 170 [.ref 42, .int v1, .int v2] (I3, L3, D3, am_rf X) (none, (I4, L4, D4, am_rf X)) ∧ (∃ (r5 : Int64) (I5 : Nat → Nat → Int32) (L5 : Nat → Nat → Int64) (D5 : Nat → Nat → UInt64), am_Rn ext d 171 [.ref 42, .int v3] (I4, L4, D4, am_rf X) (some (.long r5), (I5, L5, D5, am_rf X)) ∧ (P (some (.long r5), (I5, L5, D5, am_rf X)))))) ∧ (r3 = 0 → (P (some (.long (-9223372036854775808)), (I3, L3, D3, am_rf X))))))))))))))) : am_wp ext d mz_172 (0, [some (.ref 42), some (.int v1), some (.int v2), some (.int v3)], [], (I, L, D, am_rf X)) P := by
  refine am_wpb (c' := (7, [some (.ref 42), some (.int v1), some (.int v2), some (.int v3)], [.int v1, .ref 42], (am_uI I 42 2 0, L, D, am_rf X))) 5 rfl ?_
  obtain ⟨r1, I1, L1, D1, hr, h⟩ := h
  refine am_wp_inv (as := [.ref 42, .int v1]) rfl rfl rfl rfl ⟨_, hr, ?_⟩
  show am_wp ext d mz_172 (10, [some (.ref 42), some (.int v1), some (.int v2), some (.int v3)], [.int r1], (I1, L1, D1, am_rf X)) P
  refine am_b1_eq rfl (fun z => ?_) (fun z => ?_)
  · replace h := h.1 z
    refine am_wpb (c' := (35, [some (.ref 42), some (.int v1), some (.int v2), some (.int v3)], [.long (-9223372036854775808)], (I1, L1, D1, am_rf X))) 1 rfl ?_
    exact am_ret_l rfl rfl h
  · replace h := h.2 z
    refine am_wpb (c' := (17, [some (.ref 42), some (.int v1), some (.int v2), some (.int v3)], [.int 20, .int 4, .int v2], (I1, L1, D1, am_rf X))) 3 rfl ?_
    obtain ⟨r2, I2, L2, D2, hr, h⟩ := h
    refine am_wp_inv (as := [.int v2, .int 4, .int 20]) rfl rfl rfl rfl ⟨_, hr, ?_⟩
    show am_wp ext d mz_172 (20, [some (.ref 42), some (.int v1), some (.int v2), some (.int v3)], [.int r2], (I2, L2, D2, am_rf X)) P
    refine am_b1_eq rfl (fun z => ?_) (fun z => ?_)
    · replace h := h.1 z
      refine am_wpb (c' := (35, [some (.ref 42), some (.int v1), some (.int v2), some (.int v3)], [.long (-9223372036854775808)], (I2, L2, D2, am_rf X))) 1 rfl ?_
      exact am_ret_l rfl rfl h
    · replace h := h.2 z
      refine am_wpb (c' := (26, [some (.ref 42), some (.int v1), some (.int v2), some (.int v3)], [.int 2, .int 0, .int v3], (I2, L2, D2, am_rf X))) 3 rfl ?_
      obtain ⟨r3, I3, L3, D3, hr, h⟩ := h
      refine am_wp_inv (as := [.int v3, .int 0, .int 2]) rfl rfl rfl rfl ⟨_, hr, ?_⟩
      show am_wp ext d mz_172 (29, [some (.ref 42), some (.int v1), some (.int v2), some (.int v3)], [.int r3], (I3, L3, D3, am_rf X)) P
      refine am_b1_ne rfl (fun z => ?_) (fun z => ?_)
      · replace h := h.1 z
        refine am_wpb (c' := (39, [some (.ref 42), some (.int v1), some (.int v2), some (.int v3)], [.int v2, .int v1, .ref 42], (I3, L3, D3, am_rf X))) 3 rfl ?_
        obtain ⟨I4, L4, D4, hr, h⟩ := h
        refine am_wp_inv (as := [.ref 42, .int v1, .int v2]) rfl rfl rfl rfl ⟨_, hr, ?_⟩
        show am_wp ext d mz_172 (42, [some (.ref 42), some (.int v1), some (.int v2), some (.int v3)], [], (I4, L4, D4, am_rf X)) P
        refine am_wpb (c' := (44, [some (.ref 42), some (.int v1), some (.int v2), some (.int v3)], [.int v3, .ref 42], (I4, L4, D4, am_rf X))) 2 rfl ?_
        obtain ⟨r5, I5, L5, D5, hr, h⟩ := h
        refine am_wp_inv (as := [.ref 42, .int v3]) rfl rfl rfl rfl ⟨_, hr, ?_⟩
        show am_wp ext d mz_172 (47, [some (.ref 42), some (.int v1), some (.int v2), some (.int v3)], [.long r5], (I5, L5, D5, am_rf X)) P
        exact am_ret_l rfl rfl h
      · replace h := h.2 z
        refine am_wpb (c' := (35, [some (.ref 42), some (.int v1), some (.int v2), some (.int v3)], [.long (-9223372036854775808)], (I3, L3, D3, am_rf X))) 1 rfl ?_
        exact am_ret_l rfl rfl h
/-- SureSumsModel.at(IIIII)J -/
def mz_173 : am_Y := (fun pc => am_q173.lookup pc, 6, 3)
theorem mh_173 : am_Ys 173 = some mz_173 := rfl
theorem w173_0 {ext : Nat → List Value → am_M → Option am_R} {d : Nat} {P : am_R → Prop} (I : Nat → Nat → Int32) (L : Nat → Nat → Int64) (D : Nat → Nat → UInt64) (X : am_Rf) (v1 : Int32) (v2 : Int32) (v3 : Int32) (v4 : Int32) (v5 : Int32)
    (h : ∃ (r1 : Int32) (I1 : Nat → Nat → Int32) (L1 : Nat → Nat → Int64) (D1 : Nat → Nat → UInt64), am_Rn ext d 149 [.ref 42, .int v1] (am_uI I 42 2 0, L, D, am_rf X) (some (.int r1), (I1, L1, D1, am_rf X)) ∧ (((r1 = 0 → (P (some (.long (-9223372036854775808)), (I1, L1, D1, am_rf X)))) ∧ (¬ r1 = 0 → (∃ (r2 : Int32) (I2 : Nat → Nat → Int32) (L2 : Nat → Nat → Int64) (D2 : Nat → Nat → UInt64), am_Rn ext d 117 [.int v2, .int (-64), .int 64] (I1, L1, D1, am_rf X) (some (.int r2), (I2, L2, D2, am_rf X)) ∧ (((r2 = 0 → (P (some (.long (-9223372036854775808)), (I2, L2, D2, am_rf X)))) ∧ (¬ r2 = 0 → (∃ (r3 : Int32) (I3 : Nat → Nat → Int32) (L3 : Nat → Nat → Int64) (D3 : Nat → Nat → UInt64), am_Rn ext d 117 [.int v3, .int v2, .int 64] (I2, L2, D2, am_rf X) (some (.int r3), (I3, L3, D3, am_rf X)) ∧ (((r3 = 0 → (P (some (.long (-9223372036854775808)), (I3, L3, D3, am_rf X)))) ∧ (¬ r3 = 0 → (∃ (r4 : Int32) (I4 : Nat → Nat → Int32) (L4 : Nat → Nat → Int64) (D4 : Nat → Nat → UInt64), am_Rn ext d 117 [.int v4, .int 4, .int 20] (I3, L3, D3, am_rf X) (some (.int r4), (I4, L4, D4, am_rf X)) ∧ (((r4 = 0 → (P (some (.long (-9223372036854775808)), (I4, L4, D4, am_rf X)))) ∧ (¬ r4 = 0 → (∃ (r5 : Int32) (I5 : Nat → Nat → Int32) (L5 : Nat → Nat → Int64) (D5 : Nat → Nat → UInt64), am_Rn ext d 117 [.int v5, .int 0, .int 2] (I4, L4, D4, am_rf X) (some (.int r5), (I5, L5, D5, am_rf X)) ∧ (((¬ r5 = 0 → (am_inb v1 52 = true ∧ (∃ (I6 : Nat → Nat → Int32) (L6 : Nat → Nat → Int64) (D6 : Nat → Nat → UInt64), am_Rn ext d 153 [.ref 42, .int (I5 52 (Int32.toNatClampNeg v1)), .long ((Int32.toInt64 v2) <<< ((Int32.toInt64 v4) &&& 63)), .long ((Int32.toInt64 v3) <<< ((Int32.toInt64 v4) &&& 63))] (am_uI I5 42 48 v4, L5, D5, am_rf X) (none, (I6, L6, D6, am_rf X)) ∧ (∃ (r7 : Int64) (I7 : Nat → Nat → Int32) (L7 : Nat → Nat → Int64) (D7 : Nat → Nat → UInt64), am_Rn ext d 171 [.ref 42, .int v5] (I6, L6, D6, am_rf X) (some (.long r7), (I7, L7, D7, am_rf X)) ∧ (P (some (.long r7), (I7, L7, D7, am_rf X))))))) ∧ (r5 = 0 → (P (some (.long (-9223372036854775808)), (I5, L5, D5, am_rf X))))))))))))))))))))))) : am_wp ext d mz_173 (0, [some (.ref 42), some (.int v1), some (.int v2), some (.int v3), some (.int v4), some (.int v5)], [], (I, L, D, am_rf X)) P := by
  refine am_wpb (c' := (7, [some (.ref 42), some (.int v1), some (.int v2), some (.int v3), some (.int v4), some (.int v5)], [.int v1, .ref 42], (am_uI I 42 2 0, L, D, am_rf X))) 5 rfl ?_
  obtain ⟨r1, I1, L1, D1, hr, h⟩ := h
  refine am_wp_inv (as := [.ref 42, .int v1]) rfl rfl rfl rfl ⟨_, hr, ?_⟩
  show am_wp ext d mz_173 (10, [some (.ref 42), some (.int v1), some (.int v2), some (.int v3), some (.int v4), some (.int v5)], [.int r1], (I1, L1, D1, am_rf X)) P
  refine am_b1_eq rfl (fun z => ?_) (fun z => ?_)
  · replace h := h.1 z
    refine am_wpb (c' := (58, [some (.ref 42), some (.int v1), some (.int v2), some (.int v3), some (.int v4), some (.int v5)], [.long (-9223372036854775808)], (I1, L1, D1, am_rf X))) 1 rfl ?_
    exact am_ret_l rfl rfl h
  · replace h := h.2 z
    refine am_wpb (c' := (18, [some (.ref 42), some (.int v1), some (.int v2), some (.int v3), some (.int v4), some (.int v5)], [.int 64, .int (-64), .int v2], (I1, L1, D1, am_rf X))) 3 rfl ?_
    obtain ⟨r2, I2, L2, D2, hr, h⟩ := h
    refine am_wp_inv (as := [.int v2, .int (-64), .int 64]) rfl rfl rfl rfl ⟨_, hr, ?_⟩
    show am_wp ext d mz_173 (21, [some (.ref 42), some (.int v1), some (.int v2), some (.int v3), some (.int v4), some (.int v5)], [.int r2], (I2, L2, D2, am_rf X)) P
    refine am_b1_eq rfl (fun z => ?_) (fun z => ?_)
    · replace h := h.1 z
      refine am_wpb (c' := (58, [some (.ref 42), some (.int v1), some (.int v2), some (.int v3), some (.int v4), some (.int v5)], [.long (-9223372036854775808)], (I2, L2, D2, am_rf X))) 1 rfl ?_
      exact am_ret_l rfl rfl h
    · replace h := h.2 z
      refine am_wpb (c' := (28, [some (.ref 42), some (.int v1), some (.int v2), some (.int v3), some (.int v4), some (.int v5)], [.int 64, .int v2, .int v3], (I2, L2, D2, am_rf X))) 3 rfl ?_
      obtain ⟨r3, I3, L3, D3, hr, h⟩ := h
      refine am_wp_inv (as := [.int v3, .int v2, .int 64]) rfl rfl rfl rfl ⟨_, hr, ?_⟩
      show am_wp ext d mz_173 (31, [some (.ref 42), some (.int v1), some (.int v2), some (.int v3), some (.int v4), some (.int v5)], [.int r3], (I3, L3, D3, am_rf X)) P
      refine am_b1_eq rfl (fun z => ?_) (fun z => ?_)
      · replace h := h.1 z
        refine am_wpb (c' := (58, [some (.ref 42), some (.int v1), some (.int v2), some (.int v3), some (.int v4), some (.int v5)], [.long (-9223372036854775808)], (I3, L3, D3, am_rf X))) 1 rfl ?_
        exact am_ret_l rfl rfl h
      · replace h := h.2 z
        refine am_wpb (c' := (39, [some (.ref 42), some (.int v1), some (.int v2), some (.int v3), some (.int v4), some (.int v5)], [.int 20, .int 4, .int v4], (I3, L3, D3, am_rf X))) 3 rfl ?_
        obtain ⟨r4, I4, L4, D4, hr, h⟩ := h
        refine am_wp_inv (as := [.int v4, .int 4, .int 20]) rfl rfl rfl rfl ⟨_, hr, ?_⟩
        show am_wp ext d mz_173 (42, [some (.ref 42), some (.int v1), some (.int v2), some (.int v3), some (.int v4), some (.int v5)], [.int r4], (I4, L4, D4, am_rf X)) P
        refine am_b1_eq rfl (fun z => ?_) (fun z => ?_)
        · replace h := h.1 z
          refine am_wpb (c' := (58, [some (.ref 42), some (.int v1), some (.int v2), some (.int v3), some (.int v4), some (.int v5)], [.long (-9223372036854775808)], (I4, L4, D4, am_rf X))) 1 rfl ?_
          exact am_ret_l rfl rfl h
        · replace h := h.2 z
          refine am_wpb (c' := (49, [some (.ref 42), some (.int v1), some (.int v2), some (.int v3), some (.int v4), some (.int v5)], [.int 2, .int 0, .int v5], (I4, L4, D4, am_rf X))) 3 rfl ?_
          obtain ⟨r5, I5, L5, D5, hr, h⟩ := h
          refine am_wp_inv (as := [.int v5, .int 0, .int 2]) rfl rfl rfl rfl ⟨_, hr, ?_⟩
          show am_wp ext d mz_173 (52, [some (.ref 42), some (.int v1), some (.int v2), some (.int v3), some (.int v4), some (.int v5)], [.int r5], (I5, L5, D5, am_rf X)) P
          refine am_b1_ne rfl (fun z => ?_) (fun z => ?_)
          · replace h := h.1 z
            refine am_wpb (c' := (71, [some (.ref 42), some (.int v1), some (.int v2), some (.int v3), some (.int v4), some (.int v5)], [.int v1, .ref 52, .ref 42], (am_uI I5 42 48 v4, L5, D5, am_rf X))) 7 rfl ?_
            obtain ⟨o, h⟩ := h
            refine am_wps (c' := (72, [some (.ref 42), some (.int v1), some (.int v2), some (.int v3), some (.int v4), some (.int v5)], [.int (I5 52 (Int32.toNatClampNeg v1)), .ref 42], (am_uI I5 42 48 v4, L5, D5, am_rf X))) rfl rfl (am_s_iald rfl o) ?_
            refine am_wpb (c' := (82, [some (.ref 42), some (.int v1), some (.int v2), some (.int v3), some (.int v4), some (.int v5)], [.long ((Int32.toInt64 v3) <<< ((Int32.toInt64 v4) &&& 63)), .long ((Int32.toInt64 v2) <<< ((Int32.toInt64 v4) &&& 63)), .int (I5 52 (Int32.toNatClampNeg v1)), .ref 42], (am_uI I5 42 48 v4, L5, D5, am_rf X))) 8 rfl ?_
            obtain ⟨I6, L6, D6, hr, h⟩ := h
            refine am_wp_inv (as := [.ref 42, .int (I5 52 (Int32.toNatClampNeg v1)), .long ((Int32.toInt64 v2) <<< ((Int32.toInt64 v4) &&& 63)), .long ((Int32.toInt64 v3) <<< ((Int32.toInt64 v4) &&& 63))]) rfl rfl rfl rfl ⟨_, hr, ?_⟩
            show am_wp ext d mz_173 (85, [some (.ref 42), some (.int v1), some (.int v2), some (.int v3), some (.int v4), some (.int v5)], [], (I6, L6, D6, am_rf X)) P
            refine am_wpb (c' := (88, [some (.ref 42), some (.int v1), some (.int v2), some (.int v3), some (.int v4), some (.int v5)], [.int v5, .ref 42], (I6, L6, D6, am_rf X))) 2 rfl ?_
            obtain ⟨r7, I7, L7, D7, hr, h⟩ := h
            refine am_wp_inv (as := [.ref 42, .int v5]) rfl rfl rfl rfl ⟨_, hr, ?_⟩
            show am_wp ext d mz_173 (91, [some (.ref 42), some (.int v1), some (.int v2), some (.int v3), some (.int v4), some (.int v5)], [.long r7], (I7, L7, D7, am_rf X)) P
            exact am_ret_l rfl rfl h
          · replace h := h.2 z
            refine am_wpb (c' := (58, [some (.ref 42), some (.int v1), some (.int v2), some (.int v3), some (.int v4), some (.int v5)], [.long (-9223372036854775808)], (I5, L5, D5, am_rf X))) 1 rfl ?_
            exact am_ret_l rfl rfl h
/-- SureSumsModel.ask(III)J -/
def mz_174 : am_Y := (fun pc => am_q174.lookup pc, 9, 3)
theorem mh_174 : am_Ys 174 = some mz_174 := rfl
theorem w174_0 {ext : Nat → List Value → am_M → Option am_R} {d : Nat} {P : am_R → Prop} (I : Nat → Nat → Int32) (L : Nat → Nat → Int64) (D : Nat → Nat → UInt64) (X : am_Rf) (v1 : Int32) (v2 : Int32) (v3 : Int32)
    (h : ∃ (r1 : Int32) (I1 : Nat → Nat → Int32) (L1 : Nat → Nat → Int64) (D1 : Nat → Nat → UInt64), am_Rn ext d 148 [.ref 42, .int v1] (am_uI I 42 2 0, L, D, am_rf X) (some (.int r1), (I1, L1, D1, am_rf X)) ∧ (((r1 = 0 → (P (some (.long (-9223372036854775808)), (I1, L1, D1, am_rf X)))) ∧ (¬ r1 = 0 → (∃ (r2 : Int32) (I2 : Nat → Nat → Int32) (L2 : Nat → Nat → Int64) (D2 : Nat → Nat → UInt64), am_Rn ext d 117 [.int v2, .int 0, .int 16] (I1, L1, D1, am_rf X) (some (.int r2), (I2, L2, D2, am_rf X)) ∧ (((r2 = 0 → (P (some (.long (-9223372036854775808)), (I2, L2, D2, am_rf X)))) ∧ (¬ r2 = 0 → (∃ (r3 : Int32) (I3 : Nat → Nat → Int32) (L3 : Nat → Nat → Int64) (D3 : Nat → Nat → UInt64), am_Rn ext d 117 [.int v3, .int 0, .int 2] (I2, L2, D2, am_rf X) (some (.int r3), (I3, L3, D3, am_rf X)) ∧ (((¬ r3 = 0 → (((4 ≤ v2 → (am_wp ext d mz_174 (64, [some (.ref 42), some (.int v1), some (.int v2), some (.int v3), some (.long (-9223372036854775808)), none, some (.long (-9223372036854775808)), none, some (.int (((v2 + 3) / 4) * 4))], [], (I3, L3, D3, am_rf X)) P)) ∧ (¬ 4 ≤ v2 → (am_wp ext d mz_174 (64, [some (.ref 42), some (.int v1), some (.int v2), some (.int v3), some (.long (-9223372036854775808)), none, some (.long (-9223372036854775808)), none, some (.int 4)], [], (I3, L3, D3, am_rf X)) P))))) ∧ (r3 = 0 → (P (some (.long (-9223372036854775808)), (I3, L3, D3, am_rf X))))))))))))))) : am_wp ext d mz_174 (0, [some (.ref 42), some (.int v1), some (.int v2), some (.int v3), none, none, none, none, none], [], (I, L, D, am_rf X)) P := by
  refine am_wpb (c' := (7, [some (.ref 42), some (.int v1), some (.int v2), some (.int v3), none, none, none, none, none], [.int v1, .ref 42], (am_uI I 42 2 0, L, D, am_rf X))) 5 rfl ?_
  obtain ⟨r1, I1, L1, D1, hr, h⟩ := h
  refine am_wp_inv (as := [.ref 42, .int v1]) rfl rfl rfl rfl ⟨_, hr, ?_⟩
  show am_wp ext d mz_174 (10, [some (.ref 42), some (.int v1), some (.int v2), some (.int v3), none, none, none, none, none], [.int r1], (I1, L1, D1, am_rf X)) P
  refine am_b1_eq rfl (fun z => ?_) (fun z => ?_)
  · replace h := h.1 z
    refine am_wpb (c' := (35, [some (.ref 42), some (.int v1), some (.int v2), some (.int v3), none, none, none, none, none], [.long (-9223372036854775808)], (I1, L1, D1, am_rf X))) 1 rfl ?_
    exact am_ret_l rfl rfl h
  · replace h := h.2 z
    refine am_wpb (c' := (17, [some (.ref 42), some (.int v1), some (.int v2), some (.int v3), none, none, none, none, none], [.int 16, .int 0, .int v2], (I1, L1, D1, am_rf X))) 3 rfl ?_
    obtain ⟨r2, I2, L2, D2, hr, h⟩ := h
    refine am_wp_inv (as := [.int v2, .int 0, .int 16]) rfl rfl rfl rfl ⟨_, hr, ?_⟩
    show am_wp ext d mz_174 (20, [some (.ref 42), some (.int v1), some (.int v2), some (.int v3), none, none, none, none, none], [.int r2], (I2, L2, D2, am_rf X)) P
    refine am_b1_eq rfl (fun z => ?_) (fun z => ?_)
    · replace h := h.1 z
      refine am_wpb (c' := (35, [some (.ref 42), some (.int v1), some (.int v2), some (.int v3), none, none, none, none, none], [.long (-9223372036854775808)], (I2, L2, D2, am_rf X))) 1 rfl ?_
      exact am_ret_l rfl rfl h
    · replace h := h.2 z
      refine am_wpb (c' := (26, [some (.ref 42), some (.int v1), some (.int v2), some (.int v3), none, none, none, none, none], [.int 2, .int 0, .int v3], (I2, L2, D2, am_rf X))) 3 rfl ?_
      obtain ⟨r3, I3, L3, D3, hr, h⟩ := h
      refine am_wp_inv (as := [.int v3, .int 0, .int 2]) rfl rfl rfl rfl ⟨_, hr, ?_⟩
      show am_wp ext d mz_174 (29, [some (.ref 42), some (.int v1), some (.int v2), some (.int v3), none, none, none, none, none], [.int r3], (I3, L3, D3, am_rf X)) P
      refine am_b1_ne rfl (fun z => ?_) (fun z => ?_)
      · replace h := h.1 z
        refine am_wpb (c' := (48, [some (.ref 42), some (.int v1), some (.int v2), some (.int v3), some (.long (-9223372036854775808)), none, some (.long (-9223372036854775808)), none, none], [.int 4, .int v2], (I3, L3, D3, am_rf X))) 6 rfl ?_
        refine am_b2_ge rfl (fun z => ?_) (fun z => ?_)
        · replace h := h.1 z
          refine am_wpb (c' := (59, [some (.ref 42), some (.int v1), some (.int v2), some (.int v3), some (.long (-9223372036854775808)), none, some (.long (-9223372036854775808)), none, none], [.int 4, .int (v2 + 3)], (I3, L3, D3, am_rf X))) 4 rfl ?_
          refine am_wps (c' := (60, [some (.ref 42), some (.int v1), some (.int v2), some (.int v3), some (.long (-9223372036854775808)), none, some (.long (-9223372036854775808)), none, none], [.int ((v2 + 3) / 4)], (I3, L3, D3, am_rf X))) rfl rfl (am_s_idiv (by decide)) ?_
          refine am_wpb (c' := (64, [some (.ref 42), some (.int v1), some (.int v2), some (.int v3), some (.long (-9223372036854775808)), none, some (.long (-9223372036854775808)), none, some (.int (((v2 + 3) / 4) * 4))], [], (I3, L3, D3, am_rf X))) 3 rfl ?_
          exact h
        · replace h := h.2 z
          refine am_wpb (c' := (64, [some (.ref 42), some (.int v1), some (.int v2), some (.int v3), some (.long (-9223372036854775808)), none, some (.long (-9223372036854775808)), none, some (.int 4)], [], (I3, L3, D3, am_rf X))) 3 rfl ?_
          exact h
      · replace h := h.2 z
        refine am_wpb (c' := (35, [some (.ref 42), some (.int v1), some (.int v2), some (.int v3), none, none, none, none, none], [.long (-9223372036854775808)], (I3, L3, D3, am_rf X))) 1 rfl ?_
        exact am_ret_l rfl rfl h
theorem w174_64 {ext : Nat → List Value → am_M → Option am_R} {d : Nat} {P : am_R → Prop} (I : Nat → Nat → Int32) (L : Nat → Nat → Int64) (D : Nat → Nat → UInt64) (X : am_Rf) (v1 : Int32) (v2 : Int32) (v3 : Int32) (v4 : Int64) (v6 : Int64) (v8 : Int32)
    (h : ((20 < v8 → (((¬ v3 = 0 → (((¬ v3 = 1 → (P (some (.long v6), (I, L, D, am_rf X)))) ∧ (v3 = 1 → (P (some (.long v4), (I, L, D, am_rf X))))))) ∧ (v3 = 0 → (P (some (.long (-1)), (I, L, D, am_rf X))))))) ∧ (¬ 20 < v8 → (∃ (I1 : Nat → Nat → Int32) (L1 : Nat → Nat → Int64) (D1 : Nat → Nat → UInt64), am_Rn ext d 170 [.ref 42, .int v1, .int v8] (I, L, D, am_rf X) (none, (I1, L1, D1, am_rf X)) ∧ (((¬ (I1 42 50) = 0 → ((((1 <<< ((Int32.toInt64 (v8 - v2)) &&& 63)) < ((L1 42 52) - (L1 42 51)) → (am_wp ext d mz_174 (64, [some (.ref 42), some (.int v1), some (.int v2), some (.int v3), some (.long (L1 42 51)), none, some (.long (L1 42 52)), none, some (.int (v8 + 4))], [], (I1, L1, D1, am_rf X)) P)) ∧ (¬ (1 <<< ((Int32.toInt64 (v8 - v2)) &&& 63)) < ((L1 42 52) - (L1 42 51)) → (((¬ v3 = 0 → (((¬ v3 = 1 → (P (some (.long (L1 42 52)), (I1, L1, D1, am_rf X)))) ∧ (v3 = 1 → (P (some (.long (L1 42 51)), (I1, L1, D1, am_rf X))))))) ∧ (v3 = 0 → (P (some (.long (Int32.toInt64 v8)), (I1, L1, D1, am_rf X)))))))))) ∧ ((I1 42 50) = 0 → (am_wp ext d mz_174 (64, [some (.ref 42), some (.int v1), some (.int v2), some (.int v3), some (.long v4), none, some (.long v6), none, some (.int (v8 + 4))], [], (I1, L1, D1, am_rf X)) P)))))))) : am_wp ext d mz_174 (64, [some (.ref 42), some (.int v1), some (.int v2), some (.int v3), some (.long v4), none, some (.long v6), none, some (.int v8)], [], (I, L, D, am_rf X)) P := by
  refine am_wpb (c' := (68, [some (.ref 42), some (.int v1), some (.int v2), some (.int v3), some (.long v4), none, some (.long v6), none, some (.int v8)], [.int 20, .int v8], (I, L, D, am_rf X))) 2 rfl ?_
  refine am_b2_gt rfl (fun z => ?_) (fun z => ?_)
  · replace h := h.1 z
    refine am_wpb (c' := (149, [some (.ref 42), some (.int v1), some (.int v2), some (.int v3), some (.long v4), none, some (.long v6), none, some (.int v8)], [.int v3], (I, L, D, am_rf X))) 1 rfl ?_
    refine am_b1_ne rfl (fun z => ?_) (fun z => ?_)
    · replace h := h.1 z
      refine am_wpb (c' := (160, [some (.ref 42), some (.int v1), some (.int v2), some (.int v3), some (.long v4), none, some (.long v6), none, some (.int v8)], [.int 1, .int v3], (I, L, D, am_rf X))) 2 rfl ?_
      refine am_b2_ne rfl (fun z => ?_) (fun z => ?_)
      · replace h := h.1 z
        refine am_wpb (c' := (170, [some (.ref 42), some (.int v1), some (.int v2), some (.int v3), some (.long v4), none, some (.long v6), none, some (.int v8)], [.long v6], (I, L, D, am_rf X))) 1 rfl ?_
        exact am_ret_l rfl rfl h
      · replace h := h.2 z
        refine am_wpb (c' := (170, [some (.ref 42), some (.int v1), some (.int v2), some (.int v3), some (.long v4), none, some (.long v6), none, some (.int v8)], [.long v4], (I, L, D, am_rf X))) 2 rfl ?_
        exact am_ret_l rfl rfl h
    · replace h := h.2 z
      refine am_wpb (c' := (170, [some (.ref 42), some (.int v1), some (.int v2), some (.int v3), some (.long v4), none, some (.long v6), none, some (.int v8)], [.long (-1)], (I, L, D, am_rf X))) 2 rfl ?_
      exact am_ret_l rfl rfl h
  · replace h := h.2 z
    refine am_wpb (c' := (75, [some (.ref 42), some (.int v1), some (.int v2), some (.int v3), some (.long v4), none, some (.long v6), none, some (.int v8)], [.int v8, .int v1, .ref 42], (I, L, D, am_rf X))) 3 rfl ?_
    obtain ⟨I1, L1, D1, hr, h⟩ := h
    refine am_wp_inv (as := [.ref 42, .int v1, .int v8]) rfl rfl rfl rfl ⟨_, hr, ?_⟩
    show am_wp ext d mz_174 (78, [some (.ref 42), some (.int v1), some (.int v2), some (.int v3), some (.long v4), none, some (.long v6), none, some (.int v8)], [], (I1, L1, D1, am_rf X)) P
    refine am_wpb (c' := (82, [some (.ref 42), some (.int v1), some (.int v2), some (.int v3), some (.long v4), none, some (.long v6), none, some (.int v8)], [.int (I1 42 50)], (I1, L1, D1, am_rf X))) 2 rfl ?_
    refine am_b1_ne rfl (fun z => ?_) (fun z => ?_)
    · replace h := h.1 z
      refine am_wpb (c' := (115, [some (.ref 42), some (.int v1), some (.int v2), some (.int v3), some (.long (L1 42 51)), none, some (.long (L1 42 52)), none, some (.int v8)], [.long (1 <<< ((Int32.toInt64 (v8 - v2)) &&& 63)), .long ((L1 42 52) - (L1 42 51))], (I1, L1, D1, am_rf X))) 16 rfl ?_
      refine am_lc_gt rfl rfl (fun z => ?_) (fun z => ?_)
      · replace h := h.1 z
        refine am_wpb (c' := (64, [some (.ref 42), some (.int v1), some (.int v2), some (.int v3), some (.long (L1 42 51)), none, some (.long (L1 42 52)), none, some (.int (v8 + 4))], [], (I1, L1, D1, am_rf X))) 2 rfl ?_
        exact h
      · replace h := h.2 z
        refine am_wpb (c' := (120, [some (.ref 42), some (.int v1), some (.int v2), some (.int v3), some (.long (L1 42 51)), none, some (.long (L1 42 52)), none, some (.int v8)], [.int v3], (I1, L1, D1, am_rf X))) 1 rfl ?_
        refine am_b1_ne rfl (fun z => ?_) (fun z => ?_)
        · replace h := h.1 z
          refine am_wpb (c' := (131, [some (.ref 42), some (.int v1), some (.int v2), some (.int v3), some (.long (L1 42 51)), none, some (.long (L1 42 52)), none, some (.int v8)], [.int 1, .int v3], (I1, L1, D1, am_rf X))) 2 rfl ?_
          refine am_b2_ne rfl (fun z => ?_) (fun z => ?_)
          · replace h := h.1 z
            refine am_wpb (c' := (141, [some (.ref 42), some (.int v1), some (.int v2), some (.int v3), some (.long (L1 42 51)), none, some (.long (L1 42 52)), none, some (.int v8)], [.long (L1 42 52)], (I1, L1, D1, am_rf X))) 1 rfl ?_
            exact am_ret_l rfl rfl h
          · replace h := h.2 z
            refine am_wpb (c' := (141, [some (.ref 42), some (.int v1), some (.int v2), some (.int v3), some (.long (L1 42 51)), none, some (.long (L1 42 52)), none, some (.int v8)], [.long (L1 42 51)], (I1, L1, D1, am_rf X))) 2 rfl ?_
            exact am_ret_l rfl rfl h
        · replace h := h.2 z
          refine am_wpb (c' := (141, [some (.ref 42), some (.int v1), some (.int v2), some (.int v3), some (.long (L1 42 51)), none, some (.long (L1 42 52)), none, some (.int v8)], [.long (Int32.toInt64 v8)], (I1, L1, D1, am_rf X))) 3 rfl ?_
          exact am_ret_l rfl rfl h
    · replace h := h.2 z
      refine am_wpb (c' := (64, [some (.ref 42), some (.int v1), some (.int v2), some (.int v3), some (.long v4), none, some (.long v6), none, some (.int (v8 + 4))], [], (I1, L1, D1, am_rf X))) 3 rfl ?_
      exact h
/-- SureSumsModel.digits(I)I -/
def mz_175 : am_Y := (fun pc => am_q175.lookup pc, 6, 1)
theorem mh_175 : am_Ys 175 = some mz_175 := rfl
theorem w175_0 {ext : Nat → List Value → am_M → Option am_R} {d : Nat} {P : am_R → Prop} (I : Nat → Nat → Int32) (L : Nat → Nat → Int64) (D : Nat → Nat → UInt64) (X : am_Rf) (v1 : Int32)
    (h : ∃ (r1 : Int32) (I1 : Nat → Nat → Int32) (L1 : Nat → Nat → Int64) (D1 : Nat → Nat → UInt64), am_Rn ext d 148 [.ref 42, .int v1] (am_uI I 42 2 0, L, D, am_rf X) (some (.int r1), (I1, L1, D1, am_rf X)) ∧ (((¬ r1 = 0 → (∃ (I2 : Nat → Nat → Int32) (L2 : Nat → Nat → Int64) (D2 : Nat → Nat → UInt64), am_Rn ext d 170 [.ref 42, .int v1, .int 20] (I1, L1, D1, am_rf X) (none, (I2, L2, D2, am_rf X)) ∧ (((¬ (I2 42 50) = 0 → (am_wp ext d mz_175 (39, [some (.ref 42), none, some (.int (-1)), some (.long 1), none, some (.int 0)], [], (I2, L2, D2, am_rf X)) P)) ∧ ((I2 42 50) = 0 → (P (some (.int (-2)), (I2, L2, D2, am_rf X)))))))) ∧ (r1 = 0 → (P (some (.int (-1)), (I1, L1, D1, am_rf X))))))) : am_wp ext d mz_175 (0, [some (.ref 42), some (.int v1), none, none, none, none], [], (I, L, D, am_rf X)) P := by
  refine am_wpb (c' := (7, [some (.ref 42), some (.int v1), none, none, none, none], [.int v1, .ref 42], (am_uI I 42 2 0, L, D, am_rf X))) 5 rfl ?_
  obtain ⟨r1, I1, L1, D1, hr, h⟩ := h
  refine am_wp_inv (as := [.ref 42, .int v1]) rfl rfl rfl rfl ⟨_, hr, ?_⟩
  show am_wp ext d mz_175 (10, [some (.ref 42), some (.int v1), none, none, none, none], [.int r1], (I1, L1, D1, am_rf X)) P
  refine am_b1_ne rfl (fun z => ?_) (fun z => ?_)
  · replace h := h.1 z
    refine am_wpb (c' := (19, [some (.ref 42), some (.int v1), none, none, none, none], [.int 20, .int v1, .ref 42], (I1, L1, D1, am_rf X))) 3 rfl ?_
    obtain ⟨I2, L2, D2, hr, h⟩ := h
    refine am_wp_inv (as := [.ref 42, .int v1, .int 20]) rfl rfl rfl rfl ⟨_, hr, ?_⟩
    show am_wp ext d mz_175 (22, [some (.ref 42), some (.int v1), none, none, none, none], [], (I2, L2, D2, am_rf X)) P
    refine am_wpb (c' := (26, [some (.ref 42), some (.int v1), none, none, none, none], [.int (I2 42 50)], (I2, L2, D2, am_rf X))) 2 rfl ?_
    refine am_b1_ne rfl (fun z => ?_) (fun z => ?_)
    · replace h := h.1 z
      refine am_wpb (c' := (39, [some (.ref 42), some (.int v1), some (.int (-1)), some (.long 1), none, some (.int 0)], [], (I2, L2, D2, am_rf X))) 6 rfl ?_
      exact am_fgt (l := [some (.ref 42), none, some (.int (-1)), some (.long 1), none, some (.int 0)]) (am_le_of (am_leS (am_leN (am_leS (am_leS (am_leN (am_leS (am_leZ)))))))) h
    · replace h := h.2 z
      refine am_wpb (c' := (31, [some (.ref 42), some (.int v1), none, none, none, none], [.int (-2)], (I2, L2, D2, am_rf X))) 1 rfl ?_
      exact am_ret_i rfl rfl h
  · replace h := h.2 z
    refine am_wpb (c' := (14, [some (.ref 42), some (.int v1), none, none, none, none], [.int (-1)], (I1, L1, D1, am_rf X))) 1 rfl ?_
    exact am_ret_i rfl rfl h
theorem w175_39 {ext : Nat → List Value → am_M → Option am_R} {d : Nat} {P : am_R → Prop} (I : Nat → Nat → Int32) (L : Nat → Nat → Int64) (D : Nat → Nat → UInt64) (X : am_Rf) (v2 : Int32) (v3 : Int64) (v5 : Int32)
    (h : ((6 ≤ v5 → (P (some (.int v2), (I, L, D, am_rf X)))) ∧ (¬ 6 ≤ v5 → (((¬ (((L 42 51) * v3) >>> ((Int32.toInt64 20) &&& 63)) = (((L 42 52) * v3) >>> ((Int32.toInt64 20) &&& 63)) → (am_wp ext d mz_175 (39, [some (.ref 42), none, some (.int v2), some (.long (v3 * 10)), none, some (.int (v5 + 1))], [], (I, L, D, am_rf X)) P)) ∧ ((((L 42 51) * v3) >>> ((Int32.toInt64 20) &&& 63)) = (((L 42 52) * v3) >>> ((Int32.toInt64 20) &&& 63)) → (am_wp ext d mz_175 (39, [some (.ref 42), none, some (.int v5), some (.long (v3 * 10)), none, some (.int (v5 + 1))], [], (I, L, D, am_rf X)) P))))))) : am_wp ext d mz_175 (39, [some (.ref 42), none, some (.int v2), some (.long v3), none, some (.int v5)], [], (I, L, D, am_rf X)) P := by
  refine am_wpb (c' := (43, [some (.ref 42), none, some (.int v2), some (.long v3), none, some (.int v5)], [.int 6, .int v5], (I, L, D, am_rf X))) 2 rfl ?_
  refine am_b2_ge rfl (fun z => ?_) (fun z => ?_)
  · replace h := h.1 z
    refine am_wpb (c' := (84, [some (.ref 42), none, some (.int v2), some (.long v3), none, some (.int v5)], [.int v2], (I, L, D, am_rf X))) 1 rfl ?_
    exact am_ret_i rfl rfl h
  · replace h := h.2 z
    refine am_wpb (c' := (64, [some (.ref 42), none, some (.int v2), some (.long v3), none, some (.int v5)], [.long (((L 42 52) * v3) >>> ((Int32.toInt64 20) &&& 63)), .long (((L 42 51) * v3) >>> ((Int32.toInt64 20) &&& 63))], (I, L, D, am_rf X))) 12 rfl ?_
    refine am_lc_ne rfl rfl (fun z => ?_) (fun z => ?_)
    · replace h := h.1 z
      refine am_wpb (c' := (39, [some (.ref 42), none, some (.int v2), some (.long (v3 * 10)), none, some (.int (v5 + 1))], [], (I, L, D, am_rf X))) 6 rfl ?_
      exact h
    · replace h := h.2 z
      refine am_wpb (c' := (39, [some (.ref 42), none, some (.int v5), some (.long (v3 * 10)), none, some (.int (v5 + 1))], [], (I, L, D, am_rf X))) 8 rfl ?_
      exact h
/-- SureSumsModel.size(J)J -/
def mz_176 : am_Y := (fun pc => am_q176.lookup pc, 2, 3)
theorem mh_176 : am_Ys 176 = some mz_176 := rfl
theorem w176_0 {ext : Nat → List Value → am_M → Option am_R} {d : Nat} {P : am_R → Prop} (I : Nat → Nat → Int32) (L : Nat → Nat → Int64) (D : Nat → Nat → UInt64) (X : am_Rf) (v0 : Int64)
    (h : ((0 ≤ v0 → (P (some (.long v0), (I, L, D, am_rf X)))) ∧ (¬ 0 ≤ v0 → (P (some (.long (-v0)), (I, L, D, am_rf X)))))) : am_wp ext d mz_176 (0, [some (.long v0), none], [], (I, L, D, am_rf X)) P := by
  refine am_wpb (c' := (2, [some (.long v0), none], [.long 0, .long v0], (I, L, D, am_rf X))) 2 rfl ?_
  refine am_lc_ge rfl rfl (fun z => ?_) (fun z => ?_)
  · replace h := h.1 z
    refine am_wpb (c' := (12, [some (.long v0), none], [.long v0], (I, L, D, am_rf X))) 1 rfl ?_
    exact am_ret_l rfl rfl h
  · replace h := h.2 z
    refine am_wpb (c' := (12, [some (.long v0), none], [.long (-v0)], (I, L, D, am_rf X))) 3 rfl ?_
    exact am_ret_l rfl rfl h
/-- SureSumsModel.shared(JJ)J -/
def mz_177 : am_Y := (fun pc => am_q177.lookup pc, 10, 3)
theorem mh_177 : am_Ys 177 = some mz_177 := rfl
theorem w177_0 {ext : Nat → List Value → am_M → Option am_R} {d : Nat} {P : am_R → Prop} (I : Nat → Nat → Int32) (L : Nat → Nat → Int64) (D : Nat → Nat → UInt64) (X : am_Rf) (v0 : Int64) (v2 : Int64)
    (h : ∃ (r1 : Int64) (I1 : Nat → Nat → Int32) (L1 : Nat → Nat → Int64) (D1 : Nat → Nat → UInt64), am_Rn ext d 176 [.long v0] (I, L, D, am_rf X) (some (.long r1), (I1, L1, D1, am_rf X)) ∧ (∃ (r2 : Int64) (I2 : Nat → Nat → Int32) (L2 : Nat → Nat → Int64) (D2 : Nat → Nat → UInt64), am_Rn ext d 176 [.long v2] (I1, L1, D1, am_rf X) (some (.long r2), (I2, L2, D2, am_rf X)) ∧ (am_wp ext d mz_177 (12, [none, none, none, none, some (.long r1), none, some (.long r2), none, none, none], [], (I2, L2, D2, am_rf X)) P))) : am_wp ext d mz_177 (0, [some (.long v0), none, some (.long v2), none, none, none, none, none, none, none], [], (I, L, D, am_rf X)) P := by
  refine am_wpb (c' := (1, [some (.long v0), none, some (.long v2), none, none, none, none, none, none, none], [.long v0], (I, L, D, am_rf X))) 1 rfl ?_
  obtain ⟨r1, I1, L1, D1, hr, h⟩ := h
  refine am_wp_inv (as := [.long v0]) rfl rfl rfl rfl ⟨_, hr, ?_⟩
  show am_wp ext d mz_177 (4, [some (.long v0), none, some (.long v2), none, none, none, none, none, none, none], [.long r1], (I1, L1, D1, am_rf X)) P
  refine am_wpb (c' := (7, [some (.long v0), none, some (.long v2), none, some (.long r1), none, none, none, none, none], [.long v2], (I1, L1, D1, am_rf X))) 2 rfl ?_
  obtain ⟨r2, I2, L2, D2, hr, h⟩ := h
  refine am_wp_inv (as := [.long v2]) rfl rfl rfl rfl ⟨_, hr, ?_⟩
  show am_wp ext d mz_177 (10, [some (.long v0), none, some (.long v2), none, some (.long r1), none, none, none, none, none], [.long r2], (I2, L2, D2, am_rf X)) P
  refine am_wpb (c' := (12, [some (.long v0), none, some (.long v2), none, some (.long r1), none, some (.long r2), none, none, none], [], (I2, L2, D2, am_rf X))) 1 rfl ?_
  exact am_fgt (l := [none, none, none, none, some (.long r1), none, some (.long r2), none, none, none]) (am_le_of (am_leN (am_leN (am_leN (am_leN (am_leS (am_leN (am_leS (am_leN (am_leN (am_leN (am_leZ)))))))))))) h
theorem w177_12 {ext : Nat → List Value → am_M → Option am_R} {d : Nat} {P : am_R → Prop} (I : Nat → Nat → Int32) (L : Nat → Nat → Int64) (D : Nat → Nat → UInt64) (X : am_Rf) (v4 : Int64) (v6 : Int64)
    (h : ((v6 = 0 → (P (some (.long v4), (I, L, D, am_rf X)))) ∧ (¬ v6 = 0 → (¬ v6 = 0 ∧ (am_wp ext d mz_177 (12, [none, none, none, none, some (.long v6), none, some (.long (v4 - v4 / v6 * v6)), none, none, none], [], (I, L, D, am_rf X)) P))))) : am_wp ext d mz_177 (12, [none, none, none, none, some (.long v4), none, some (.long v6), none, none, none], [], (I, L, D, am_rf X)) P := by
  refine am_wpb (c' := (15, [none, none, none, none, some (.long v4), none, some (.long v6), none, none, none], [.long 0, .long v6], (I, L, D, am_rf X))) 2 rfl ?_
  refine am_lc_eq rfl rfl (fun z => ?_) (fun z => ?_)
  · replace h := h.1 z
    refine am_wpb (c' := (39, [none, none, none, none, some (.long v4), none, some (.long v6), none, none, none], [.long v4], (I, L, D, am_rf X))) 1 rfl ?_
    exact am_ret_l rfl rfl h
  · replace h := h.2 z
    refine am_wpb (c' := (23, [none, none, none, none, some (.long v4), none, some (.long v6), none, none, none], [.long v6, .long v4], (I, L, D, am_rf X))) 2 rfl ?_
    obtain ⟨o, h⟩ := h
    refine am_wps (c' := (24, [none, none, none, none, some (.long v4), none, some (.long v6), none, none, none], [.long (v4 - v4 / v6 * v6)], (I, L, D, am_rf X))) rfl rfl (am_s_lrem o) ?_
    refine am_wpb (c' := (12, [none, none, none, none, some (.long v6), none, some (.long (v4 - v4 / v6 * v6)), none, some (.long (v4 - v4 / v6 * v6)), none], [], (I, L, D, am_rf X))) 6 rfl ?_
    exact am_fgt (l := [none, none, none, none, some (.long v6), none, some (.long (v4 - v4 / v6 * v6)), none, none, none]) (am_le_of (am_leN (am_leN (am_leN (am_leN (am_leS (am_leN (am_leS (am_leN (am_leN (am_leN (am_leZ)))))))))))) h
/-- SureSumsModel.trailOf(I)I -/
def mz_178 : am_Y := (fun pc => am_q178.lookup pc, 5, 1)
theorem mh_178 : am_Ys 178 = some mz_178 := rfl
theorem w178_0 {ext : Nat → List Value → am_M → Option am_R} {d : Nat} {P : am_R → Prop} (I : Nat → Nat → Int32) (L : Nat → Nat → Int64) (D : Nat → Nat → UInt64) (X : am_Rf) (v1 : Int32)
    (h : am_wp ext d mz_178 (11, [some (.ref 42), none, some (.int 1), some (.int 0), none], [], (am_uI I 74 0 v1, L, D, am_rf X)) P) : am_wp ext d mz_178 (0, [some (.ref 42), some (.int v1), none, none, none], [], (I, L, D, am_rf X)) P := by
  refine am_wpb (c' := (8, [some (.ref 42), some (.int v1), some (.int 1), none, none], [.int v1, .int 0, .ref 74], (I, L, D, am_rf X))) 6 rfl ?_
  refine am_wps (c' := (9, [some (.ref 42), some (.int v1), some (.int 1), none, none], [], (am_uI I 74 0 v1, L, D, am_rf X))) rfl rfl (am_s_iast rfl (by decide)) ?_
  refine am_wpb (c' := (11, [some (.ref 42), some (.int v1), some (.int 1), some (.int 0), none], [], (am_uI I 74 0 v1, L, D, am_rf X))) 2 rfl ?_
  exact am_fgt (l := [some (.ref 42), none, some (.int 1), some (.int 0), none]) (am_le_of (am_leS (am_leN (am_leS (am_leS (am_leN (am_leZ))))))) h
theorem w178_11 {ext : Nat → List Value → am_M → Option am_R} {d : Nat} {P : am_R → Prop} (I : Nat → Nat → Int32) (L : Nat → Nat → Int64) (D : Nat → Nat → UInt64) (X : am_Rf) (v2 : Int32) (v3 : Int32)
    (h : ((v2 ≤ v3 → (P (some (.int v2), (I, L, D, am_rf X)))) ∧ (¬ v2 ≤ v3 → (am_inb v3 96 = true ∧ (am_inb (I 74 (Int32.toNatClampNeg v3)) 192 = true ∧ ((((I 45 (Int32.toNatClampNeg (I 74 (Int32.toNatClampNeg v3)))) < 3 → (am_wp ext d mz_178 (11, [some (.ref 42), none, some (.int v2), some (.int (v3 + 1)), none], [], (I, L, D, am_rf X)) P)) ∧ (¬ (I 45 (Int32.toNatClampNeg (I 74 (Int32.toNatClampNeg v3)))) < 3 → (am_inb (I 74 (Int32.toNatClampNeg v3)) 192 = true ∧ (((¬ (I 45 (Int32.toNatClampNeg (I 74 (Int32.toNatClampNeg v3)))) = 15 → (am_inb (I 74 (Int32.toNatClampNeg v3)) 192 = true ∧ (am_inb v2 96 = true ∧ (am_inb (I 74 (Int32.toNatClampNeg v3)) 192 = true ∧ ((((I 45 (Int32.toNatClampNeg (I 74 (Int32.toNatClampNeg v3)))) < 6 → (am_wp ext d mz_178 (11, [some (.ref 42), none, some (.int (v2 + 1)), some (.int (v3 + 1)), none], [], (am_uI I 74 (Int32.toNatClampNeg v2) (I 47 (Int32.toNatClampNeg (I 74 (Int32.toNatClampNeg v3)))), L, D, am_rf X)) P)) ∧ (¬ (I 45 (Int32.toNatClampNeg (I 74 (Int32.toNatClampNeg v3)))) < 6 → (am_inb (I 74 (Int32.toNatClampNeg v3)) 192 = true ∧ (((¬ (I 45 (Int32.toNatClampNeg (I 74 (Int32.toNatClampNeg v3)))) = 14 → (am_inb (I 74 (Int32.toNatClampNeg v3)) 192 = true ∧ (am_inb (v2 + 1) 96 = true ∧ (am_inb (I 74 (Int32.toNatClampNeg v3)) 192 = true ∧ ((((I 45 (Int32.toNatClampNeg (I 74 (Int32.toNatClampNeg v3)))) = 12 → (am_wp ext d mz_178 (136, [some (.ref 42), none, some (.int ((v2 + 1) + 1)), some (.int v3), some (.int (I 74 (Int32.toNatClampNeg v3)))], [], (am_uI (am_uI I 74 (Int32.toNatClampNeg v2) (I 47 (Int32.toNatClampNeg (I 74 (Int32.toNatClampNeg v3))))) 74 (Int32.toNatClampNeg (v2 + 1)) (I 48 (Int32.toNatClampNeg (I 74 (Int32.toNatClampNeg v3)))), L, D, am_rf X)) P)) ∧ (¬ (I 45 (Int32.toNatClampNeg (I 74 (Int32.toNatClampNeg v3)))) = 12 → (am_inb (I 74 (Int32.toNatClampNeg v3)) 192 = true ∧ ((((I 45 (Int32.toNatClampNeg (I 74 (Int32.toNatClampNeg v3)))) = 13 → (am_wp ext d mz_178 (136, [some (.ref 42), none, some (.int ((v2 + 1) + 1)), some (.int v3), some (.int (I 74 (Int32.toNatClampNeg v3)))], [], (am_uI (am_uI I 74 (Int32.toNatClampNeg v2) (I 47 (Int32.toNatClampNeg (I 74 (Int32.toNatClampNeg v3))))) 74 (Int32.toNatClampNeg (v2 + 1)) (I 48 (Int32.toNatClampNeg (I 74 (Int32.toNatClampNeg v3)))), L, D, am_rf X)) P)) ∧ (¬ (I 45 (Int32.toNatClampNeg (I 74 (Int32.toNatClampNeg v3)))) = 13 → (am_wp ext d mz_178 (11, [some (.ref 42), none, some (.int ((v2 + 1) + 1)), some (.int (v3 + 1)), none], [], (am_uI (am_uI I 74 (Int32.toNatClampNeg v2) (I 47 (Int32.toNatClampNeg (I 74 (Int32.toNatClampNeg v3))))) 74 (Int32.toNatClampNeg (v2 + 1)) (I 48 (Int32.toNatClampNeg (I 74 (Int32.toNatClampNeg v3)))), L, D, am_rf X)) P)))))))))))) ∧ ((I 45 (Int32.toNatClampNeg (I 74 (Int32.toNatClampNeg v3)))) = 14 → (am_wp ext d mz_178 (11, [some (.ref 42), none, some (.int (v2 + 1)), some (.int (v3 + 1)), none], [], (am_uI I 74 (Int32.toNatClampNeg v2) (I 47 (Int32.toNatClampNeg (I 74 (Int32.toNatClampNeg v3)))), L, D, am_rf X)) P)))))))))))) ∧ ((I 45 (Int32.toNatClampNeg (I 74 (Int32.toNatClampNeg v3)))) = 15 → (am_wp ext d mz_178 (11, [some (.ref 42), none, some (.int v2), some (.int (v3 + 1)), none], [], (I, L, D, am_rf X)) P))))))))))))) : am_wp ext d mz_178 (11, [some (.ref 42), none, some (.int v2), some (.int v3), none], [], (I, L, D, am_rf X)) P := by
  refine am_wpb (c' := (13, [some (.ref 42), none, some (.int v2), some (.int v3), none], [.int v2, .int v3], (I, L, D, am_rf X))) 2 rfl ?_
  refine am_b2_ge rfl (fun z => ?_) (fun z => ?_)
  · replace h := h.1 z
    refine am_wpb (c' := (174, [some (.ref 42), none, some (.int v2), some (.int v3), none], [.int v2], (I, L, D, am_rf X))) 1 rfl ?_
    exact am_ret_i rfl rfl h
  · replace h := h.2 z
    refine am_wpb (c' := (21, [some (.ref 42), none, some (.int v2), some (.int v3), none], [.int v3, .ref 74], (I, L, D, am_rf X))) 3 rfl ?_
    obtain ⟨o, h⟩ := h
    refine am_wps (c' := (22, [some (.ref 42), none, some (.int v2), some (.int v3), none], [.int (I 74 (Int32.toNatClampNeg v3))], (I, L, D, am_rf X))) rfl rfl (am_s_iald rfl o) ?_
    refine am_wpb (c' := (30, [some (.ref 42), none, some (.int v2), some (.int v3), some (.int (I 74 (Int32.toNatClampNeg v3)))], [.int (I 74 (Int32.toNatClampNeg v3)), .ref 45], (I, L, D, am_rf X))) 4 rfl ?_
    obtain ⟨o, h⟩ := h
    refine am_wps (c' := (31, [some (.ref 42), none, some (.int v2), some (.int v3), some (.int (I 74 (Int32.toNatClampNeg v3)))], [.int (I 45 (Int32.toNatClampNeg (I 74 (Int32.toNatClampNeg v3))))], (I, L, D, am_rf X))) rfl rfl (am_s_iald rfl o) ?_
    refine am_wpb (c' := (32, [some (.ref 42), none, some (.int v2), some (.int v3), some (.int (I 74 (Int32.toNatClampNeg v3)))], [.int 3, .int (I 45 (Int32.toNatClampNeg (I 74 (Int32.toNatClampNeg v3))))], (I, L, D, am_rf X))) 1 rfl ?_
    refine am_b2_lt rfl (fun z => ?_) (fun z => ?_)
    · replace h := h.1 z
      refine am_wpb (c' := (11, [some (.ref 42), none, some (.int v2), some (.int (v3 + 1)), some (.int (I 74 (Int32.toNatClampNeg v3)))], [], (I, L, D, am_rf X))) 2 rfl ?_
      exact am_fgt (l := [some (.ref 42), none, some (.int v2), some (.int (v3 + 1)), none]) (am_le_of (am_leS (am_leN (am_leS (am_leS (am_leN (am_leZ))))))) h
    · replace h := h.2 z
      refine am_wpb (c' := (41, [some (.ref 42), none, some (.int v2), some (.int v3), some (.int (I 74 (Int32.toNatClampNeg v3)))], [.int (I 74 (Int32.toNatClampNeg v3)), .ref 45], (I, L, D, am_rf X))) 3 rfl ?_
      obtain ⟨o, h⟩ := h
      refine am_wps (c' := (42, [some (.ref 42), none, some (.int v2), some (.int v3), some (.int (I 74 (Int32.toNatClampNeg v3)))], [.int (I 45 (Int32.toNatClampNeg (I 74 (Int32.toNatClampNeg v3))))], (I, L, D, am_rf X))) rfl rfl (am_s_iald rfl o) ?_
      refine am_wpb (c' := (44, [some (.ref 42), none, some (.int v2), some (.int v3), some (.int (I 74 (Int32.toNatClampNeg v3)))], [.int 15, .int (I 45 (Int32.toNatClampNeg (I 74 (Int32.toNatClampNeg v3))))], (I, L, D, am_rf X))) 1 rfl ?_
      refine am_b2_ne rfl (fun z => ?_) (fun z => ?_)
      · replace h := h.1 z
        refine am_wpb (c' := (61, [some (.ref 42), none, some (.int v2), some (.int v3), some (.int (I 74 (Int32.toNatClampNeg v3)))], [.int (I 74 (Int32.toNatClampNeg v3)), .ref 47, .int v2, .ref 74], (I, L, D, am_rf X))) 6 rfl ?_
        obtain ⟨o, h⟩ := h
        refine am_wps (c' := (62, [some (.ref 42), none, some (.int v2), some (.int v3), some (.int (I 74 (Int32.toNatClampNeg v3)))], [.int (I 47 (Int32.toNatClampNeg (I 74 (Int32.toNatClampNeg v3)))), .int v2, .ref 74], (I, L, D, am_rf X))) rfl rfl (am_s_iald rfl o) ?_
        obtain ⟨o, h⟩ := h
        refine am_wps (c' := (63, [some (.ref 42), none, some (.int v2), some (.int v3), some (.int (I 74 (Int32.toNatClampNeg v3)))], [], (am_uI I 74 (Int32.toNatClampNeg v2) (I 47 (Int32.toNatClampNeg (I 74 (Int32.toNatClampNeg v3)))), L, D, am_rf X))) rfl rfl (am_s_iast rfl o) ?_
        refine am_wpb (c' := (72, [some (.ref 42), none, some (.int (v2 + 1)), some (.int v3), some (.int (I 74 (Int32.toNatClampNeg v3)))], [.int (I 74 (Int32.toNatClampNeg v3)), .ref 45], (am_uI I 74 (Int32.toNatClampNeg v2) (I 47 (Int32.toNatClampNeg (I 74 (Int32.toNatClampNeg v3)))), L, D, am_rf X))) 4 rfl ?_
        obtain ⟨o, h⟩ := h
        refine am_wps (c' := (73, [some (.ref 42), none, some (.int (v2 + 1)), some (.int v3), some (.int (I 74 (Int32.toNatClampNeg v3)))], [.int (I 45 (Int32.toNatClampNeg (I 74 (Int32.toNatClampNeg v3))))], (am_uI I 74 (Int32.toNatClampNeg v2) (I 47 (Int32.toNatClampNeg (I 74 (Int32.toNatClampNeg v3)))), L, D, am_rf X))) rfl rfl (am_s_iald rfl o) ?_
        refine am_wpb (c' := (75, [some (.ref 42), none, some (.int (v2 + 1)), some (.int v3), some (.int (I 74 (Int32.toNatClampNeg v3)))], [.int 6, .int (I 45 (Int32.toNatClampNeg (I 74 (Int32.toNatClampNeg v3))))], (am_uI I 74 (Int32.toNatClampNeg v2) (I 47 (Int32.toNatClampNeg (I 74 (Int32.toNatClampNeg v3)))), L, D, am_rf X))) 1 rfl ?_
        refine am_b2_lt rfl (fun z => ?_) (fun z => ?_)
        · replace h := h.1 z
          refine am_wpb (c' := (11, [some (.ref 42), none, some (.int (v2 + 1)), some (.int (v3 + 1)), some (.int (I 74 (Int32.toNatClampNeg v3)))], [], (am_uI I 74 (Int32.toNatClampNeg v2) (I 47 (Int32.toNatClampNeg (I 74 (Int32.toNatClampNeg v3)))), L, D, am_rf X))) 2 rfl ?_
          exact am_fgt (l := [some (.ref 42), none, some (.int (v2 + 1)), some (.int (v3 + 1)), none]) (am_le_of (am_leS (am_leN (am_leS (am_leS (am_leN (am_leZ))))))) h
        · replace h := h.2 z
          refine am_wpb (c' := (84, [some (.ref 42), none, some (.int (v2 + 1)), some (.int v3), some (.int (I 74 (Int32.toNatClampNeg v3)))], [.int (I 74 (Int32.toNatClampNeg v3)), .ref 45], (am_uI I 74 (Int32.toNatClampNeg v2) (I 47 (Int32.toNatClampNeg (I 74 (Int32.toNatClampNeg v3)))), L, D, am_rf X))) 3 rfl ?_
          obtain ⟨o, h⟩ := h
          refine am_wps (c' := (85, [some (.ref 42), none, some (.int (v2 + 1)), some (.int v3), some (.int (I 74 (Int32.toNatClampNeg v3)))], [.int (I 45 (Int32.toNatClampNeg (I 74 (Int32.toNatClampNeg v3))))], (am_uI I 74 (Int32.toNatClampNeg v2) (I 47 (Int32.toNatClampNeg (I 74 (Int32.toNatClampNeg v3)))), L, D, am_rf X))) rfl rfl (am_s_iald rfl o) ?_
          refine am_wpb (c' := (87, [some (.ref 42), none, some (.int (v2 + 1)), some (.int v3), some (.int (I 74 (Int32.toNatClampNeg v3)))], [.int 14, .int (I 45 (Int32.toNatClampNeg (I 74 (Int32.toNatClampNeg v3))))], (am_uI I 74 (Int32.toNatClampNeg v2) (I 47 (Int32.toNatClampNeg (I 74 (Int32.toNatClampNeg v3)))), L, D, am_rf X))) 1 rfl ?_
          refine am_b2_ne rfl (fun z => ?_) (fun z => ?_)
          · replace h := h.1 z
            refine am_wpb (c' := (104, [some (.ref 42), none, some (.int (v2 + 1)), some (.int v3), some (.int (I 74 (Int32.toNatClampNeg v3)))], [.int (I 74 (Int32.toNatClampNeg v3)), .ref 48, .int (v2 + 1), .ref 74], (am_uI I 74 (Int32.toNatClampNeg v2) (I 47 (Int32.toNatClampNeg (I 74 (Int32.toNatClampNeg v3)))), L, D, am_rf X))) 6 rfl ?_
            obtain ⟨o, h⟩ := h
            refine am_wps (c' := (105, [some (.ref 42), none, some (.int (v2 + 1)), some (.int v3), some (.int (I 74 (Int32.toNatClampNeg v3)))], [.int (I 48 (Int32.toNatClampNeg (I 74 (Int32.toNatClampNeg v3)))), .int (v2 + 1), .ref 74], (am_uI I 74 (Int32.toNatClampNeg v2) (I 47 (Int32.toNatClampNeg (I 74 (Int32.toNatClampNeg v3)))), L, D, am_rf X))) rfl rfl (am_s_iald rfl o) ?_
            obtain ⟨o, h⟩ := h
            refine am_wps (c' := (106, [some (.ref 42), none, some (.int (v2 + 1)), some (.int v3), some (.int (I 74 (Int32.toNatClampNeg v3)))], [], (am_uI (am_uI I 74 (Int32.toNatClampNeg v2) (I 47 (Int32.toNatClampNeg (I 74 (Int32.toNatClampNeg v3))))) 74 (Int32.toNatClampNeg (v2 + 1)) (I 48 (Int32.toNatClampNeg (I 74 (Int32.toNatClampNeg v3)))), L, D, am_rf X))) rfl rfl (am_s_iast rfl o) ?_
            refine am_wpb (c' := (115, [some (.ref 42), none, some (.int ((v2 + 1) + 1)), some (.int v3), some (.int (I 74 (Int32.toNatClampNeg v3)))], [.int (I 74 (Int32.toNatClampNeg v3)), .ref 45], (am_uI (am_uI I 74 (Int32.toNatClampNeg v2) (I 47 (Int32.toNatClampNeg (I 74 (Int32.toNatClampNeg v3))))) 74 (Int32.toNatClampNeg (v2 + 1)) (I 48 (Int32.toNatClampNeg (I 74 (Int32.toNatClampNeg v3)))), L, D, am_rf X))) 4 rfl ?_
            obtain ⟨o, h⟩ := h
            refine am_wps (c' := (116, [some (.ref 42), none, some (.int ((v2 + 1) + 1)), some (.int v3), some (.int (I 74 (Int32.toNatClampNeg v3)))], [.int (I 45 (Int32.toNatClampNeg (I 74 (Int32.toNatClampNeg v3))))], (am_uI (am_uI I 74 (Int32.toNatClampNeg v2) (I 47 (Int32.toNatClampNeg (I 74 (Int32.toNatClampNeg v3))))) 74 (Int32.toNatClampNeg (v2 + 1)) (I 48 (Int32.toNatClampNeg (I 74 (Int32.toNatClampNeg v3)))), L, D, am_rf X))) rfl rfl (am_s_iald rfl o) ?_
            refine am_wpb (c' := (118, [some (.ref 42), none, some (.int ((v2 + 1) + 1)), some (.int v3), some (.int (I 74 (Int32.toNatClampNeg v3)))], [.int 12, .int (I 45 (Int32.toNatClampNeg (I 74 (Int32.toNatClampNeg v3))))], (am_uI (am_uI I 74 (Int32.toNatClampNeg v2) (I 47 (Int32.toNatClampNeg (I 74 (Int32.toNatClampNeg v3))))) 74 (Int32.toNatClampNeg (v2 + 1)) (I 48 (Int32.toNatClampNeg (I 74 (Int32.toNatClampNeg v3)))), L, D, am_rf X))) 1 rfl ?_
            refine am_b2_eq rfl (fun z => ?_) (fun z => ?_)
            · replace h := h.1 z
              exact h
            · replace h := h.2 z
              refine am_wpb (c' := (127, [some (.ref 42), none, some (.int ((v2 + 1) + 1)), some (.int v3), some (.int (I 74 (Int32.toNatClampNeg v3)))], [.int (I 74 (Int32.toNatClampNeg v3)), .ref 45], (am_uI (am_uI I 74 (Int32.toNatClampNeg v2) (I 47 (Int32.toNatClampNeg (I 74 (Int32.toNatClampNeg v3))))) 74 (Int32.toNatClampNeg (v2 + 1)) (I 48 (Int32.toNatClampNeg (I 74 (Int32.toNatClampNeg v3)))), L, D, am_rf X))) 3 rfl ?_
              obtain ⟨o, h⟩ := h
              refine am_wps (c' := (128, [some (.ref 42), none, some (.int ((v2 + 1) + 1)), some (.int v3), some (.int (I 74 (Int32.toNatClampNeg v3)))], [.int (I 45 (Int32.toNatClampNeg (I 74 (Int32.toNatClampNeg v3))))], (am_uI (am_uI I 74 (Int32.toNatClampNeg v2) (I 47 (Int32.toNatClampNeg (I 74 (Int32.toNatClampNeg v3))))) 74 (Int32.toNatClampNeg (v2 + 1)) (I 48 (Int32.toNatClampNeg (I 74 (Int32.toNatClampNeg v3)))), L, D, am_rf X))) rfl rfl (am_s_iald rfl o) ?_
              refine am_wpb (c' := (130, [some (.ref 42), none, some (.int ((v2 + 1) + 1)), some (.int v3), some (.int (I 74 (Int32.toNatClampNeg v3)))], [.int 13, .int (I 45 (Int32.toNatClampNeg (I 74 (Int32.toNatClampNeg v3))))], (am_uI (am_uI I 74 (Int32.toNatClampNeg v2) (I 47 (Int32.toNatClampNeg (I 74 (Int32.toNatClampNeg v3))))) 74 (Int32.toNatClampNeg (v2 + 1)) (I 48 (Int32.toNatClampNeg (I 74 (Int32.toNatClampNeg v3)))), L, D, am_rf X))) 1 rfl ?_
              refine am_b2_eq rfl (fun z => ?_) (fun z => ?_)
              · replace h := h.1 z
                exact h
              · replace h := h.2 z
                refine am_wpb (c' := (11, [some (.ref 42), none, some (.int ((v2 + 1) + 1)), some (.int (v3 + 1)), some (.int (I 74 (Int32.toNatClampNeg v3)))], [], (am_uI (am_uI I 74 (Int32.toNatClampNeg v2) (I 47 (Int32.toNatClampNeg (I 74 (Int32.toNatClampNeg v3))))) 74 (Int32.toNatClampNeg (v2 + 1)) (I 48 (Int32.toNatClampNeg (I 74 (Int32.toNatClampNeg v3)))), L, D, am_rf X))) 3 rfl ?_
                exact am_fgt (l := [some (.ref 42), none, some (.int ((v2 + 1) + 1)), some (.int (v3 + 1)), none]) (am_le_of (am_leS (am_leN (am_leS (am_leS (am_leN (am_leZ))))))) h
          · replace h := h.2 z
            refine am_wpb (c' := (11, [some (.ref 42), none, some (.int (v2 + 1)), some (.int (v3 + 1)), some (.int (I 74 (Int32.toNatClampNeg v3)))], [], (am_uI I 74 (Int32.toNatClampNeg v2) (I 47 (Int32.toNatClampNeg (I 74 (Int32.toNatClampNeg v3)))), L, D, am_rf X))) 3 rfl ?_
            exact am_fgt (l := [some (.ref 42), none, some (.int (v2 + 1)), some (.int (v3 + 1)), none]) (am_le_of (am_leS (am_leN (am_leS (am_leS (am_leN (am_leZ))))))) h
      · replace h := h.2 z
        refine am_wpb (c' := (11, [some (.ref 42), none, some (.int v2), some (.int (v3 + 1)), some (.int (I 74 (Int32.toNatClampNeg v3)))], [], (I, L, D, am_rf X))) 3 rfl ?_
        exact am_fgt (l := [some (.ref 42), none, some (.int v2), some (.int (v3 + 1)), none]) (am_le_of (am_leS (am_leN (am_leS (am_leS (am_leN (am_leZ))))))) h
theorem w178_136 {ext : Nat → List Value → am_M → Option am_R} {d : Nat} {P : am_R → Prop} (I : Nat → Nat → Int32) (L : Nat → Nat → Int64) (D : Nat → Nat → UInt64) (X : am_Rf) (v2 : Int32) (v3 : Int32) (v4 : Int32)
    (h : am_inb v4 192 = true ∧ (am_inb v2 96 = true ∧ (am_inb v4 192 = true ∧ (am_inb (v2 + 1) 96 = true ∧ (am_wp ext d mz_178 (11, [some (.ref 42), none, some (.int (v2 + 2)), some (.int (v3 + 1)), none], [], (am_uI (am_uI I 74 (Int32.toNatClampNeg v2) (I 49 (Int32.toNatClampNeg v4))) 74 (Int32.toNatClampNeg (v2 + 1)) (I 50 (Int32.toNatClampNeg v4)), L, D, am_rf X)) P))))) : am_wp ext d mz_178 (136, [some (.ref 42), none, some (.int v2), some (.int v3), some (.int v4)], [], (I, L, D, am_rf X)) P := by
  refine am_wpb (c' := (147, [some (.ref 42), none, some (.int v2), some (.int v3), some (.int v4)], [.int v4, .ref 49, .int v2, .ref 74], (I, L, D, am_rf X))) 6 rfl ?_
  obtain ⟨o, h⟩ := h
  refine am_wps (c' := (148, [some (.ref 42), none, some (.int v2), some (.int v3), some (.int v4)], [.int (I 49 (Int32.toNatClampNeg v4)), .int v2, .ref 74], (I, L, D, am_rf X))) rfl rfl (am_s_iald rfl o) ?_
  obtain ⟨o, h⟩ := h
  refine am_wps (c' := (149, [some (.ref 42), none, some (.int v2), some (.int v3), some (.int v4)], [], (am_uI I 74 (Int32.toNatClampNeg v2) (I 49 (Int32.toNatClampNeg v4)), L, D, am_rf X))) rfl rfl (am_s_iast rfl o) ?_
  refine am_wpb (c' := (162, [some (.ref 42), none, some (.int v2), some (.int v3), some (.int v4)], [.int v4, .ref 50, .int (v2 + 1), .ref 74], (am_uI I 74 (Int32.toNatClampNeg v2) (I 49 (Int32.toNatClampNeg v4)), L, D, am_rf X))) 8 rfl ?_
  obtain ⟨o, h⟩ := h
  refine am_wps (c' := (163, [some (.ref 42), none, some (.int v2), some (.int v3), some (.int v4)], [.int (I 50 (Int32.toNatClampNeg v4)), .int (v2 + 1), .ref 74], (am_uI I 74 (Int32.toNatClampNeg v2) (I 49 (Int32.toNatClampNeg v4)), L, D, am_rf X))) rfl rfl (am_s_iald rfl o) ?_
  obtain ⟨o, h⟩ := h
  refine am_wps (c' := (164, [some (.ref 42), none, some (.int v2), some (.int v3), some (.int v4)], [], (am_uI (am_uI I 74 (Int32.toNatClampNeg v2) (I 49 (Int32.toNatClampNeg v4))) 74 (Int32.toNatClampNeg (v2 + 1)) (I 50 (Int32.toNatClampNeg v4)), L, D, am_rf X))) rfl rfl (am_s_iast rfl o) ?_
  refine am_wpb (c' := (11, [some (.ref 42), none, some (.int (v2 + 2)), some (.int (v3 + 1)), some (.int v4)], [], (am_uI (am_uI I 74 (Int32.toNatClampNeg v2) (I 49 (Int32.toNatClampNeg v4))) 74 (Int32.toNatClampNeg (v2 + 1)) (I 50 (Int32.toNatClampNeg v4)), L, D, am_rf X))) 3 rfl ?_
  exact am_fgt (l := [some (.ref 42), none, some (.int (v2 + 2)), some (.int (v3 + 1)), none]) (am_le_of (am_leS (am_leN (am_leS (am_leS (am_leN (am_leZ))))))) h
/-- SureSumsModel.exactly(I)Z -/
def mz_179 : am_Y := (fun pc => am_q179.lookup pc, 15, 2)
theorem mh_179 : am_Ys 179 = some mz_179 := rfl
theorem w179_0 {ext : Nat → List Value → am_M → Option am_R} {d : Nat} {P : am_R → Prop} (I : Nat → Nat → Int32) (L : Nat → Nat → Int64) (D : Nat → Nat → UInt64) (X : am_Rf) (v1 : Int32)
    (h : am_inb v1 192 = true ∧ (((¬ (I 45 (Int32.toNatClampNeg v1)) = 0 → (((¬ (I 45 (Int32.toNatClampNeg v1)) = 2 → (((¬ (I 45 (Int32.toNatClampNeg v1)) = 3 → ((((I 45 (Int32.toNatClampNeg v1)) < 6 → (P (some (.int 0), (I, L, D, am_rf X)))) ∧ (¬ (I 45 (Int32.toNatClampNeg v1)) < 6 → (((9 < (I 45 (Int32.toNatClampNeg v1)) → (P (some (.int 0), (I, L, D, am_rf X)))) ∧ (¬ 9 < (I 45 (Int32.toNatClampNeg v1)) → (am_inb v1 192 = true ∧ (am_inb (I 47 (Int32.toNatClampNeg v1)) 96 = true ∧ (am_inb v1 192 = true ∧ (am_inb (I 47 (Int32.toNatClampNeg v1)) 96 = true ∧ (am_inb v1 192 = true ∧ (am_inb (I 48 (Int32.toNatClampNeg v1)) 96 = true ∧ (am_inb v1 192 = true ∧ (am_inb (I 48 (Int32.toNatClampNeg v1)) 96 = true ∧ (((¬ (I 45 (Int32.toNatClampNeg v1)) = 9 → (am_wp ext d mz_179 (189, [some (.ref 42), some (.int v1), some (.int (I 45 (Int32.toNatClampNeg v1))), none, none, none, none, some (.long (L 72 (Int32.toNatClampNeg (I 47 (Int32.toNatClampNeg v1))))), none, some (.long (L 73 (Int32.toNatClampNeg (I 47 (Int32.toNatClampNeg v1))))), none, some (.long (L 72 (Int32.toNatClampNeg (I 48 (Int32.toNatClampNeg v1))))), none, some (.long (L 73 (Int32.toNatClampNeg (I 48 (Int32.toNatClampNeg v1))))), none], [], (I, L, D, am_rf X)) P)) ∧ ((I 45 (Int32.toNatClampNeg v1)) = 9 → (((¬ (L 72 (Int32.toNatClampNeg (I 48 (Int32.toNatClampNeg v1)))) = 0 → (am_wp ext d mz_179 (189, [some (.ref 42), some (.int v1), some (.int (I 45 (Int32.toNatClampNeg v1))), none, none, none, none, some (.long (L 72 (Int32.toNatClampNeg (I 47 (Int32.toNatClampNeg v1))))), none, some (.long (L 73 (Int32.toNatClampNeg (I 47 (Int32.toNatClampNeg v1))))), none, some (.long (L 72 (Int32.toNatClampNeg (I 48 (Int32.toNatClampNeg v1))))), none, some (.long (L 73 (Int32.toNatClampNeg (I 48 (Int32.toNatClampNeg v1))))), none], [], (I, L, D, am_rf X)) P)) ∧ ((L 72 (Int32.toNatClampNeg (I 48 (Int32.toNatClampNeg v1)))) = 0 → (P (some (.int 0), (I, L, D, am_rf X)))))))))))))))))))))))) ∧ ((I 45 (Int32.toNatClampNeg v1)) = 3 → (am_inb v1 192 = true ∧ (am_inb (I 47 (Int32.toNatClampNeg v1)) 96 = true ∧ (am_inb v1 192 = true ∧ (am_inb (I 47 (Int32.toNatClampNeg v1)) 96 = true ∧ (am_wp ext d mz_179 (294, [some (.ref 42), some (.int v1), none, some (.long (-(L 72 (Int32.toNatClampNeg (I 47 (Int32.toNatClampNeg v1)))))), none, some (.long (L 73 (Int32.toNatClampNeg (I 47 (Int32.toNatClampNeg v1))))), none, none, none, none, none, none, none, none, none], [], (I, L, D, am_rf X)) P))))))))) ∧ ((I 45 (Int32.toNatClampNeg v1)) = 2 → (am_inb v1 192 = true ∧ (am_inb (I 46 (Int32.toNatClampNeg v1)) 26 = true ∧ (((¬ (I 71 (Int32.toNatClampNeg (I 46 (Int32.toNatClampNeg v1)))) = 0 → (am_inb v1 192 = true ∧ (am_inb (I 46 (Int32.toNatClampNeg v1)) 26 = true ∧ (am_inb v1 192 = true ∧ (am_inb (I 46 (Int32.toNatClampNeg v1)) 26 = true ∧ (am_wp ext d mz_179 (294, [some (.ref 42), some (.int v1), none, some (.long (L 69 (Int32.toNatClampNeg (I 46 (Int32.toNatClampNeg v1))))), none, some (.long (L 70 (Int32.toNatClampNeg (I 46 (Int32.toNatClampNeg v1))))), none, none, none, none, none, none, none, none, none], [], (I, L, D, am_rf X)) P)))))) ∧ ((I 71 (Int32.toNatClampNeg (I 46 (Int32.toNatClampNeg v1)))) = 0 → (P (some (.int 0), (I, L, D, am_rf X)))))))))))) ∧ ((I 45 (Int32.toNatClampNeg v1)) = 0 → (am_inb v1 192 = true ∧ (am_wp ext d mz_179 (294, [some (.ref 42), some (.int v1), none, some (.long (Int32.toInt64 (I 46 (Int32.toNatClampNeg v1)))), none, some (.long 1), none, none, none, none, none, none, none, none, none], [], (I, L, D, am_rf X)) P)))))) : am_wp ext d mz_179 (0, [some (.ref 42), some (.int v1), none, none, none, none, none, none, none, none, none, none, none, none, none], [], (I, L, D, am_rf X)) P := by
  refine am_wpb (c' := (5, [some (.ref 42), some (.int v1), none, none, none, none, none, none, none, none, none, none, none, none, none], [.int v1, .ref 45], (I, L, D, am_rf X))) 3 rfl ?_
  obtain ⟨o, h⟩ := h
  refine am_wps (c' := (6, [some (.ref 42), some (.int v1), none, none, none, none, none, none, none, none, none, none, none, none, none], [.int (I 45 (Int32.toNatClampNeg v1))], (I, L, D, am_rf X))) rfl rfl (am_s_iald rfl o) ?_
  refine am_wpb (c' := (13, [some (.ref 42), some (.int v1), some (.int (I 45 (Int32.toNatClampNeg v1))), some (.long 0), none, some (.long 1), none, none, none, none, none, none, none, none, none], [.int (I 45 (Int32.toNatClampNeg v1))], (I, L, D, am_rf X))) 6 rfl ?_
  refine am_b1_ne rfl (fun z => ?_) (fun z => ?_)
  · replace h := h.1 z
    refine am_wpb (c' := (29, [some (.ref 42), some (.int v1), some (.int (I 45 (Int32.toNatClampNeg v1))), some (.long 0), none, some (.long 1), none, none, none, none, none, none, none, none, none], [.int 2, .int (I 45 (Int32.toNatClampNeg v1))], (I, L, D, am_rf X))) 2 rfl ?_
    refine am_b2_ne rfl (fun z => ?_) (fun z => ?_)
    · replace h := h.1 z
      refine am_wpb (c' := (78, [some (.ref 42), some (.int v1), some (.int (I 45 (Int32.toNatClampNeg v1))), some (.long 0), none, some (.long 1), none, none, none, none, none, none, none, none, none], [.int 3, .int (I 45 (Int32.toNatClampNeg v1))], (I, L, D, am_rf X))) 2 rfl ?_
      refine am_b2_ne rfl (fun z => ?_) (fun z => ?_)
      · replace h := h.1 z
        refine am_wpb (c' := (113, [some (.ref 42), some (.int v1), some (.int (I 45 (Int32.toNatClampNeg v1))), some (.long 0), none, some (.long 1), none, none, none, none, none, none, none, none, none], [.int 6, .int (I 45 (Int32.toNatClampNeg v1))], (I, L, D, am_rf X))) 2 rfl ?_
        refine am_b2_lt rfl (fun z => ?_) (fun z => ?_)
        · replace h := h.1 z
          refine am_wpb (c' := (293, [some (.ref 42), some (.int v1), some (.int (I 45 (Int32.toNatClampNeg v1))), some (.long 0), none, some (.long 1), none, none, none, none, none, none, none, none, none], [.int 0], (I, L, D, am_rf X))) 1 rfl ?_
          exact am_ret_z rfl rfl (Or.inl rfl) h
        · replace h := h.2 z
          refine am_wpb (c' := (119, [some (.ref 42), some (.int v1), some (.int (I 45 (Int32.toNatClampNeg v1))), some (.long 0), none, some (.long 1), none, none, none, none, none, none, none, none, none], [.int 9, .int (I 45 (Int32.toNatClampNeg v1))], (I, L, D, am_rf X))) 2 rfl ?_
          refine am_b2_gt rfl (fun z => ?_) (fun z => ?_)
          · replace h := h.1 z
            refine am_wpb (c' := (293, [some (.ref 42), some (.int v1), some (.int (I 45 (Int32.toNatClampNeg v1))), some (.long 0), none, some (.long 1), none, none, none, none, none, none, none, none, none], [.int 0], (I, L, D, am_rf X))) 1 rfl ?_
            exact am_ret_z rfl rfl (Or.inl rfl) h
          · replace h := h.2 z
            refine am_wpb (c' := (131, [some (.ref 42), some (.int v1), some (.int (I 45 (Int32.toNatClampNeg v1))), some (.long 0), none, some (.long 1), none, none, none, none, none, none, none, none, none], [.int v1, .ref 47, .ref 72], (I, L, D, am_rf X))) 5 rfl ?_
            obtain ⟨o, h⟩ := h
            refine am_wps (c' := (132, [some (.ref 42), some (.int v1), some (.int (I 45 (Int32.toNatClampNeg v1))), some (.long 0), none, some (.long 1), none, none, none, none, none, none, none, none, none], [.int (I 47 (Int32.toNatClampNeg v1)), .ref 72], (I, L, D, am_rf X))) rfl rfl (am_s_iald rfl o) ?_
            obtain ⟨o, h⟩ := h
            refine am_wps (c' := (133, [some (.ref 42), some (.int v1), some (.int (I 45 (Int32.toNatClampNeg v1))), some (.long 0), none, some (.long 1), none, none, none, none, none, none, none, none, none], [.long (L 72 (Int32.toNatClampNeg (I 47 (Int32.toNatClampNeg v1))))], (I, L, D, am_rf X))) rfl rfl (am_s_lald rfl o) ?_
            refine am_wpb (c' := (144, [some (.ref 42), some (.int v1), some (.int (I 45 (Int32.toNatClampNeg v1))), some (.long 0), none, some (.long 1), none, some (.long (L 72 (Int32.toNatClampNeg (I 47 (Int32.toNatClampNeg v1))))), none, none, none, none, none, none, none], [.int v1, .ref 47, .ref 73], (I, L, D, am_rf X))) 6 rfl ?_
            obtain ⟨o, h⟩ := h
            refine am_wps (c' := (145, [some (.ref 42), some (.int v1), some (.int (I 45 (Int32.toNatClampNeg v1))), some (.long 0), none, some (.long 1), none, some (.long (L 72 (Int32.toNatClampNeg (I 47 (Int32.toNatClampNeg v1))))), none, none, none, none, none, none, none], [.int (I 47 (Int32.toNatClampNeg v1)), .ref 73], (I, L, D, am_rf X))) rfl rfl (am_s_iald rfl o) ?_
            obtain ⟨o, h⟩ := h
            refine am_wps (c' := (146, [some (.ref 42), some (.int v1), some (.int (I 45 (Int32.toNatClampNeg v1))), some (.long 0), none, some (.long 1), none, some (.long (L 72 (Int32.toNatClampNeg (I 47 (Int32.toNatClampNeg v1))))), none, none, none, none, none, none, none], [.long (L 73 (Int32.toNatClampNeg (I 47 (Int32.toNatClampNeg v1))))], (I, L, D, am_rf X))) rfl rfl (am_s_lald rfl o) ?_
            refine am_wpb (c' := (157, [some (.ref 42), some (.int v1), some (.int (I 45 (Int32.toNatClampNeg v1))), some (.long 0), none, some (.long 1), none, some (.long (L 72 (Int32.toNatClampNeg (I 47 (Int32.toNatClampNeg v1))))), none, some (.long (L 73 (Int32.toNatClampNeg (I 47 (Int32.toNatClampNeg v1))))), none, none, none, none, none], [.int v1, .ref 48, .ref 72], (I, L, D, am_rf X))) 6 rfl ?_
            obtain ⟨o, h⟩ := h
            refine am_wps (c' := (158, [some (.ref 42), some (.int v1), some (.int (I 45 (Int32.toNatClampNeg v1))), some (.long 0), none, some (.long 1), none, some (.long (L 72 (Int32.toNatClampNeg (I 47 (Int32.toNatClampNeg v1))))), none, some (.long (L 73 (Int32.toNatClampNeg (I 47 (Int32.toNatClampNeg v1))))), none, none, none, none, none], [.int (I 48 (Int32.toNatClampNeg v1)), .ref 72], (I, L, D, am_rf X))) rfl rfl (am_s_iald rfl o) ?_
            obtain ⟨o, h⟩ := h
            refine am_wps (c' := (159, [some (.ref 42), some (.int v1), some (.int (I 45 (Int32.toNatClampNeg v1))), some (.long 0), none, some (.long 1), none, some (.long (L 72 (Int32.toNatClampNeg (I 47 (Int32.toNatClampNeg v1))))), none, some (.long (L 73 (Int32.toNatClampNeg (I 47 (Int32.toNatClampNeg v1))))), none, none, none, none, none], [.long (L 72 (Int32.toNatClampNeg (I 48 (Int32.toNatClampNeg v1))))], (I, L, D, am_rf X))) rfl rfl (am_s_lald rfl o) ?_
            refine am_wpb (c' := (170, [some (.ref 42), some (.int v1), some (.int (I 45 (Int32.toNatClampNeg v1))), some (.long 0), none, some (.long 1), none, some (.long (L 72 (Int32.toNatClampNeg (I 47 (Int32.toNatClampNeg v1))))), none, some (.long (L 73 (Int32.toNatClampNeg (I 47 (Int32.toNatClampNeg v1))))), none, some (.long (L 72 (Int32.toNatClampNeg (I 48 (Int32.toNatClampNeg v1))))), none, none, none], [.int v1, .ref 48, .ref 73], (I, L, D, am_rf X))) 6 rfl ?_
            obtain ⟨o, h⟩ := h
            refine am_wps (c' := (171, [some (.ref 42), some (.int v1), some (.int (I 45 (Int32.toNatClampNeg v1))), some (.long 0), none, some (.long 1), none, some (.long (L 72 (Int32.toNatClampNeg (I 47 (Int32.toNatClampNeg v1))))), none, some (.long (L 73 (Int32.toNatClampNeg (I 47 (Int32.toNatClampNeg v1))))), none, some (.long (L 72 (Int32.toNatClampNeg (I 48 (Int32.toNatClampNeg v1))))), none, none, none], [.int (I 48 (Int32.toNatClampNeg v1)), .ref 73], (I, L, D, am_rf X))) rfl rfl (am_s_iald rfl o) ?_
            obtain ⟨o, h⟩ := h
            refine am_wps (c' := (172, [some (.ref 42), some (.int v1), some (.int (I 45 (Int32.toNatClampNeg v1))), some (.long 0), none, some (.long 1), none, some (.long (L 72 (Int32.toNatClampNeg (I 47 (Int32.toNatClampNeg v1))))), none, some (.long (L 73 (Int32.toNatClampNeg (I 47 (Int32.toNatClampNeg v1))))), none, some (.long (L 72 (Int32.toNatClampNeg (I 48 (Int32.toNatClampNeg v1))))), none, none, none], [.long (L 73 (Int32.toNatClampNeg (I 48 (Int32.toNatClampNeg v1))))], (I, L, D, am_rf X))) rfl rfl (am_s_lald rfl o) ?_
            refine am_wpb (c' := (177, [some (.ref 42), some (.int v1), some (.int (I 45 (Int32.toNatClampNeg v1))), some (.long 0), none, some (.long 1), none, some (.long (L 72 (Int32.toNatClampNeg (I 47 (Int32.toNatClampNeg v1))))), none, some (.long (L 73 (Int32.toNatClampNeg (I 47 (Int32.toNatClampNeg v1))))), none, some (.long (L 72 (Int32.toNatClampNeg (I 48 (Int32.toNatClampNeg v1))))), none, some (.long (L 73 (Int32.toNatClampNeg (I 48 (Int32.toNatClampNeg v1))))), none], [.int 9, .int (I 45 (Int32.toNatClampNeg v1))], (I, L, D, am_rf X))) 3 rfl ?_
            refine am_b2_ne rfl (fun z => ?_) (fun z => ?_)
            · replace h := h.1 z
              exact am_fgt (l := [some (.ref 42), some (.int v1), some (.int (I 45 (Int32.toNatClampNeg v1))), none, none, none, none, some (.long (L 72 (Int32.toNatClampNeg (I 47 (Int32.toNatClampNeg v1))))), none, some (.long (L 73 (Int32.toNatClampNeg (I 47 (Int32.toNatClampNeg v1))))), none, some (.long (L 72 (Int32.toNatClampNeg (I 48 (Int32.toNatClampNeg v1))))), none, some (.long (L 73 (Int32.toNatClampNeg (I 48 (Int32.toNatClampNeg v1))))), none]) (am_le_of (am_leS (am_leS (am_leS (am_leN (am_leN (am_leN (am_leN (am_leS (am_leN (am_leS (am_leN (am_leS (am_leN (am_leS (am_leN (am_leZ))))))))))))))))) h
            · replace h := h.2 z
              refine am_wpb (c' := (183, [some (.ref 42), some (.int v1), some (.int (I 45 (Int32.toNatClampNeg v1))), some (.long 0), none, some (.long 1), none, some (.long (L 72 (Int32.toNatClampNeg (I 47 (Int32.toNatClampNeg v1))))), none, some (.long (L 73 (Int32.toNatClampNeg (I 47 (Int32.toNatClampNeg v1))))), none, some (.long (L 72 (Int32.toNatClampNeg (I 48 (Int32.toNatClampNeg v1))))), none, some (.long (L 73 (Int32.toNatClampNeg (I 48 (Int32.toNatClampNeg v1))))), none], [.long 0, .long (L 72 (Int32.toNatClampNeg (I 48 (Int32.toNatClampNeg v1))))], (I, L, D, am_rf X))) 2 rfl ?_
              refine am_lc_ne rfl rfl (fun z => ?_) (fun z => ?_)
              · replace h := h.1 z
                exact am_fgt (l := [some (.ref 42), some (.int v1), some (.int (I 45 (Int32.toNatClampNeg v1))), none, none, none, none, some (.long (L 72 (Int32.toNatClampNeg (I 47 (Int32.toNatClampNeg v1))))), none, some (.long (L 73 (Int32.toNatClampNeg (I 47 (Int32.toNatClampNeg v1))))), none, some (.long (L 72 (Int32.toNatClampNeg (I 48 (Int32.toNatClampNeg v1))))), none, some (.long (L 73 (Int32.toNatClampNeg (I 48 (Int32.toNatClampNeg v1))))), none]) (am_le_of (am_leS (am_leS (am_leS (am_leN (am_leN (am_leN (am_leN (am_leS (am_leN (am_leS (am_leN (am_leS (am_leN (am_leS (am_leN (am_leZ))))))))))))))))) h
              · replace h := h.2 z
                refine am_wpb (c' := (188, [some (.ref 42), some (.int v1), some (.int (I 45 (Int32.toNatClampNeg v1))), some (.long 0), none, some (.long 1), none, some (.long (L 72 (Int32.toNatClampNeg (I 47 (Int32.toNatClampNeg v1))))), none, some (.long (L 73 (Int32.toNatClampNeg (I 47 (Int32.toNatClampNeg v1))))), none, some (.long (L 72 (Int32.toNatClampNeg (I 48 (Int32.toNatClampNeg v1))))), none, some (.long (L 73 (Int32.toNatClampNeg (I 48 (Int32.toNatClampNeg v1))))), none], [.int 0], (I, L, D, am_rf X))) 1 rfl ?_
                exact am_ret_z rfl rfl (Or.inl rfl) h
      · replace h := h.2 z
        refine am_wpb (c' := (90, [some (.ref 42), some (.int v1), some (.int (I 45 (Int32.toNatClampNeg v1))), some (.long 0), none, some (.long 1), none, none, none, none, none, none, none, none, none], [.int v1, .ref 47, .ref 72], (I, L, D, am_rf X))) 5 rfl ?_
        obtain ⟨o, h⟩ := h
        refine am_wps (c' := (91, [some (.ref 42), some (.int v1), some (.int (I 45 (Int32.toNatClampNeg v1))), some (.long 0), none, some (.long 1), none, none, none, none, none, none, none, none, none], [.int (I 47 (Int32.toNatClampNeg v1)), .ref 72], (I, L, D, am_rf X))) rfl rfl (am_s_iald rfl o) ?_
        obtain ⟨o, h⟩ := h
        refine am_wps (c' := (92, [some (.ref 42), some (.int v1), some (.int (I 45 (Int32.toNatClampNeg v1))), some (.long 0), none, some (.long 1), none, none, none, none, none, none, none, none, none], [.long (L 72 (Int32.toNatClampNeg (I 47 (Int32.toNatClampNeg v1))))], (I, L, D, am_rf X))) rfl rfl (am_s_lald rfl o) ?_
        refine am_wpb (c' := (103, [some (.ref 42), some (.int v1), some (.int (I 45 (Int32.toNatClampNeg v1))), some (.long (-(L 72 (Int32.toNatClampNeg (I 47 (Int32.toNatClampNeg v1)))))), none, some (.long 1), none, none, none, none, none, none, none, none, none], [.int v1, .ref 47, .ref 73], (I, L, D, am_rf X))) 7 rfl ?_
        obtain ⟨o, h⟩ := h
        refine am_wps (c' := (104, [some (.ref 42), some (.int v1), some (.int (I 45 (Int32.toNatClampNeg v1))), some (.long (-(L 72 (Int32.toNatClampNeg (I 47 (Int32.toNatClampNeg v1)))))), none, some (.long 1), none, none, none, none, none, none, none, none, none], [.int (I 47 (Int32.toNatClampNeg v1)), .ref 73], (I, L, D, am_rf X))) rfl rfl (am_s_iald rfl o) ?_
        obtain ⟨o, h⟩ := h
        refine am_wps (c' := (105, [some (.ref 42), some (.int v1), some (.int (I 45 (Int32.toNatClampNeg v1))), some (.long (-(L 72 (Int32.toNatClampNeg (I 47 (Int32.toNatClampNeg v1)))))), none, some (.long 1), none, none, none, none, none, none, none, none, none], [.long (L 73 (Int32.toNatClampNeg (I 47 (Int32.toNatClampNeg v1))))], (I, L, D, am_rf X))) rfl rfl (am_s_lald rfl o) ?_
        refine am_wpb (c' := (294, [some (.ref 42), some (.int v1), some (.int (I 45 (Int32.toNatClampNeg v1))), some (.long (-(L 72 (Int32.toNatClampNeg (I 47 (Int32.toNatClampNeg v1)))))), none, some (.long (L 73 (Int32.toNatClampNeg (I 47 (Int32.toNatClampNeg v1))))), none, none, none, none, none, none, none, none, none], [], (I, L, D, am_rf X))) 2 rfl ?_
        exact am_fgt (l := [some (.ref 42), some (.int v1), none, some (.long (-(L 72 (Int32.toNatClampNeg (I 47 (Int32.toNatClampNeg v1)))))), none, some (.long (L 73 (Int32.toNatClampNeg (I 47 (Int32.toNatClampNeg v1))))), none, none, none, none, none, none, none, none, none]) (am_le_of (am_leS (am_leS (am_leN (am_leS (am_leN (am_leS (am_leN (am_leN (am_leN (am_leN (am_leN (am_leN (am_leN (am_leN (am_leN (am_leZ))))))))))))))))) h
    · replace h := h.2 z
      refine am_wpb (c' := (41, [some (.ref 42), some (.int v1), some (.int (I 45 (Int32.toNatClampNeg v1))), some (.long 0), none, some (.long 1), none, none, none, none, none, none, none, none, none], [.int v1, .ref 46, .ref 71], (I, L, D, am_rf X))) 5 rfl ?_
      obtain ⟨o, h⟩ := h
      refine am_wps (c' := (42, [some (.ref 42), some (.int v1), some (.int (I 45 (Int32.toNatClampNeg v1))), some (.long 0), none, some (.long 1), none, none, none, none, none, none, none, none, none], [.int (I 46 (Int32.toNatClampNeg v1)), .ref 71], (I, L, D, am_rf X))) rfl rfl (am_s_iald rfl o) ?_
      obtain ⟨o, h⟩ := h
      refine am_wps (c' := (43, [some (.ref 42), some (.int v1), some (.int (I 45 (Int32.toNatClampNeg v1))), some (.long 0), none, some (.long 1), none, none, none, none, none, none, none, none, none], [.int (I 71 (Int32.toNatClampNeg (I 46 (Int32.toNatClampNeg v1))))], (I, L, D, am_rf X))) rfl rfl (am_s_zald rfl o) ?_
      refine am_b1_ne rfl (fun z => ?_) (fun z => ?_)
      · replace h := h.1 z
        refine am_wpb (c' := (57, [some (.ref 42), some (.int v1), some (.int (I 45 (Int32.toNatClampNeg v1))), some (.long 0), none, some (.long 1), none, none, none, none, none, none, none, none, none], [.int v1, .ref 46, .ref 69], (I, L, D, am_rf X))) 5 rfl ?_
        obtain ⟨o, h⟩ := h
        refine am_wps (c' := (58, [some (.ref 42), some (.int v1), some (.int (I 45 (Int32.toNatClampNeg v1))), some (.long 0), none, some (.long 1), none, none, none, none, none, none, none, none, none], [.int (I 46 (Int32.toNatClampNeg v1)), .ref 69], (I, L, D, am_rf X))) rfl rfl (am_s_iald rfl o) ?_
        obtain ⟨o, h⟩ := h
        refine am_wps (c' := (59, [some (.ref 42), some (.int v1), some (.int (I 45 (Int32.toNatClampNeg v1))), some (.long 0), none, some (.long 1), none, none, none, none, none, none, none, none, none], [.long (L 69 (Int32.toNatClampNeg (I 46 (Int32.toNatClampNeg v1))))], (I, L, D, am_rf X))) rfl rfl (am_s_lald rfl o) ?_
        refine am_wpb (c' := (69, [some (.ref 42), some (.int v1), some (.int (I 45 (Int32.toNatClampNeg v1))), some (.long (L 69 (Int32.toNatClampNeg (I 46 (Int32.toNatClampNeg v1))))), none, some (.long 1), none, none, none, none, none, none, none, none, none], [.int v1, .ref 46, .ref 70], (I, L, D, am_rf X))) 6 rfl ?_
        obtain ⟨o, h⟩ := h
        refine am_wps (c' := (70, [some (.ref 42), some (.int v1), some (.int (I 45 (Int32.toNatClampNeg v1))), some (.long (L 69 (Int32.toNatClampNeg (I 46 (Int32.toNatClampNeg v1))))), none, some (.long 1), none, none, none, none, none, none, none, none, none], [.int (I 46 (Int32.toNatClampNeg v1)), .ref 70], (I, L, D, am_rf X))) rfl rfl (am_s_iald rfl o) ?_
        obtain ⟨o, h⟩ := h
        refine am_wps (c' := (71, [some (.ref 42), some (.int v1), some (.int (I 45 (Int32.toNatClampNeg v1))), some (.long (L 69 (Int32.toNatClampNeg (I 46 (Int32.toNatClampNeg v1))))), none, some (.long 1), none, none, none, none, none, none, none, none, none], [.long (L 70 (Int32.toNatClampNeg (I 46 (Int32.toNatClampNeg v1))))], (I, L, D, am_rf X))) rfl rfl (am_s_lald rfl o) ?_
        refine am_wpb (c' := (294, [some (.ref 42), some (.int v1), some (.int (I 45 (Int32.toNatClampNeg v1))), some (.long (L 69 (Int32.toNatClampNeg (I 46 (Int32.toNatClampNeg v1))))), none, some (.long (L 70 (Int32.toNatClampNeg (I 46 (Int32.toNatClampNeg v1))))), none, none, none, none, none, none, none, none, none], [], (I, L, D, am_rf X))) 2 rfl ?_
        exact am_fgt (l := [some (.ref 42), some (.int v1), none, some (.long (L 69 (Int32.toNatClampNeg (I 46 (Int32.toNatClampNeg v1))))), none, some (.long (L 70 (Int32.toNatClampNeg (I 46 (Int32.toNatClampNeg v1))))), none, none, none, none, none, none, none, none, none]) (am_le_of (am_leS (am_leS (am_leN (am_leS (am_leN (am_leS (am_leN (am_leN (am_leN (am_leN (am_leN (am_leN (am_leN (am_leN (am_leN (am_leZ))))))))))))))))) h
      · replace h := h.2 z
        refine am_wpb (c' := (47, [some (.ref 42), some (.int v1), some (.int (I 45 (Int32.toNatClampNeg v1))), some (.long 0), none, some (.long 1), none, none, none, none, none, none, none, none, none], [.int 0], (I, L, D, am_rf X))) 1 rfl ?_
        exact am_ret_z rfl rfl (Or.inl rfl) h
  · replace h := h.2 z
    refine am_wpb (c' := (21, [some (.ref 42), some (.int v1), some (.int (I 45 (Int32.toNatClampNeg v1))), some (.long 0), none, some (.long 1), none, none, none, none, none, none, none, none, none], [.int v1, .ref 46], (I, L, D, am_rf X))) 3 rfl ?_
    obtain ⟨o, h⟩ := h
    refine am_wps (c' := (22, [some (.ref 42), some (.int v1), some (.int (I 45 (Int32.toNatClampNeg v1))), some (.long 0), none, some (.long 1), none, none, none, none, none, none, none, none, none], [.int (I 46 (Int32.toNatClampNeg v1))], (I, L, D, am_rf X))) rfl rfl (am_s_iald rfl o) ?_
    refine am_wpb (c' := (294, [some (.ref 42), some (.int v1), some (.int (I 45 (Int32.toNatClampNeg v1))), some (.long (Int32.toInt64 (I 46 (Int32.toNatClampNeg v1)))), none, some (.long 1), none, none, none, none, none, none, none, none, none], [], (I, L, D, am_rf X))) 3 rfl ?_
    exact am_fgt (l := [some (.ref 42), some (.int v1), none, some (.long (Int32.toInt64 (I 46 (Int32.toNatClampNeg v1)))), none, some (.long 1), none, none, none, none, none, none, none, none, none]) (am_le_of (am_leS (am_leS (am_leN (am_leS (am_leN (am_leS (am_leN (am_leN (am_leN (am_leN (am_leN (am_leN (am_leN (am_leN (am_leN (am_leZ))))))))))))))))) h
theorem w179_189 {ext : Nat → List Value → am_M → Option am_R} {d : Nat} {P : am_R → Prop} (I : Nat → Nat → Int32) (L : Nat → Nat → Int64) (D : Nat → Nat → UInt64) (X : am_Rf) (v1 : Int32) (v2 : Int32) (v7 : Int64) (v9 : Int64) (v11 : Int64) (v13 : Int64)
    (h : ((¬ v2 = 6 → (((¬ v2 = 7 → (((¬ v2 = 8 → (((0 ≤ v11 → (am_wp ext d mz_179 (264, [some (.ref 42), some (.int v1), some (.int v2), none, none, none, none, none, none, some (.long v9), none, some (.long v11), none, some (.long v13), none], [.long (v7 * v13)], (I, L, D, am_rf X)) P)) ∧ (¬ 0 ≤ v11 → (am_wp ext d mz_179 (264, [some (.ref 42), some (.int v1), some (.int v2), none, none, none, none, none, none, some (.long v9), none, some (.long v11), none, some (.long v13), none], [.long ((-v7) * v13)], (I, L, D, am_rf X)) P))))) ∧ (v2 = 8 → (am_wp ext d mz_179 (264, [some (.ref 42), some (.int v1), some (.int v2), none, none, none, none, none, none, some (.long v9), none, some (.long v11), none, some (.long v13), none], [.long (v7 * v11)], (I, L, D, am_rf X)) P))))) ∧ (v2 = 7 → (am_wp ext d mz_179 (264, [some (.ref 42), some (.int v1), some (.int v2), none, none, none, none, none, none, some (.long v9), none, some (.long v11), none, some (.long v13), none], [.long ((v7 * v13) - (v11 * v9))], (I, L, D, am_rf X)) P))))) ∧ (v2 = 6 → (am_wp ext d mz_179 (264, [some (.ref 42), some (.int v1), some (.int v2), none, none, none, none, none, none, some (.long v9), none, some (.long v11), none, some (.long v13), none], [.long ((v7 * v13) + (v11 * v9))], (I, L, D, am_rf X)) P)))) : am_wp ext d mz_179 (189, [some (.ref 42), some (.int v1), some (.int v2), none, none, none, none, some (.long v7), none, some (.long v9), none, some (.long v11), none, some (.long v13), none], [], (I, L, D, am_rf X)) P := by
  refine am_wpb (c' := (192, [some (.ref 42), some (.int v1), some (.int v2), none, none, none, none, some (.long v7), none, some (.long v9), none, some (.long v11), none, some (.long v13), none], [.int 6, .int v2], (I, L, D, am_rf X))) 2 rfl ?_
  refine am_b2_ne rfl (fun z => ?_) (fun z => ?_)
  · replace h := h.1 z
    refine am_wpb (c' := (212, [some (.ref 42), some (.int v1), some (.int v2), none, none, none, none, some (.long v7), none, some (.long v9), none, some (.long v11), none, some (.long v13), none], [.int 7, .int v2], (I, L, D, am_rf X))) 2 rfl ?_
    refine am_b2_ne rfl (fun z => ?_) (fun z => ?_)
    · replace h := h.1 z
      refine am_wpb (c' := (232, [some (.ref 42), some (.int v1), some (.int v2), none, none, none, none, some (.long v7), none, some (.long v9), none, some (.long v11), none, some (.long v13), none], [.int 8, .int v2], (I, L, D, am_rf X))) 2 rfl ?_
      refine am_b2_ne rfl (fun z => ?_) (fun z => ?_)
      · replace h := h.1 z
        refine am_wpb (c' := (246, [some (.ref 42), some (.int v1), some (.int v2), none, none, none, none, some (.long v7), none, some (.long v9), none, some (.long v11), none, some (.long v13), none], [.long 0, .long v11], (I, L, D, am_rf X))) 2 rfl ?_
        refine am_lc_ge rfl rfl (fun z => ?_) (fun z => ?_)
        · replace h := h.1 z
          refine am_wpb (c' := (264, [some (.ref 42), some (.int v1), some (.int v2), none, none, none, none, some (.long v7), none, some (.long v9), none, some (.long v11), none, some (.long v13), none], [.long (v7 * v13)], (I, L, D, am_rf X))) 3 rfl ?_
          exact am_fgt (l := [some (.ref 42), some (.int v1), some (.int v2), none, none, none, none, none, none, some (.long v9), none, some (.long v11), none, some (.long v13), none]) (am_le_of (am_leS (am_leS (am_leS (am_leN (am_leN (am_leN (am_leN (am_leN (am_leN (am_leS (am_leN (am_leS (am_leN (am_leS (am_leN (am_leZ))))))))))))))))) h
        · replace h := h.2 z
          refine am_wpb (c' := (264, [some (.ref 42), some (.int v1), some (.int v2), none, none, none, none, some (.long v7), none, some (.long v9), none, some (.long v11), none, some (.long v13), none], [.long ((-v7) * v13)], (I, L, D, am_rf X))) 5 rfl ?_
          exact am_fgt (l := [some (.ref 42), some (.int v1), some (.int v2), none, none, none, none, none, none, some (.long v9), none, some (.long v11), none, some (.long v13), none]) (am_le_of (am_leS (am_leS (am_leS (am_leN (am_leN (am_leN (am_leN (am_leN (am_leN (am_leS (am_leN (am_leS (am_leN (am_leS (am_leN (am_leZ))))))))))))))))) h
      · replace h := h.2 z
        refine am_wpb (c' := (264, [some (.ref 42), some (.int v1), some (.int v2), none, none, none, none, some (.long v7), none, some (.long v9), none, some (.long v11), none, some (.long v13), none], [.long (v7 * v11)], (I, L, D, am_rf X))) 4 rfl ?_
        exact am_fgt (l := [some (.ref 42), some (.int v1), some (.int v2), none, none, none, none, none, none, some (.long v9), none, some (.long v11), none, some (.long v13), none]) (am_le_of (am_leS (am_leS (am_leS (am_leN (am_leN (am_leN (am_leN (am_leN (am_leN (am_leS (am_leN (am_leS (am_leN (am_leS (am_leN (am_leZ))))))))))))))))) h
    · replace h := h.2 z
      refine am_wpb (c' := (264, [some (.ref 42), some (.int v1), some (.int v2), none, none, none, none, some (.long v7), none, some (.long v9), none, some (.long v11), none, some (.long v13), none], [.long ((v7 * v13) - (v11 * v9))], (I, L, D, am_rf X))) 8 rfl ?_
      exact am_fgt (l := [some (.ref 42), some (.int v1), some (.int v2), none, none, none, none, none, none, some (.long v9), none, some (.long v11), none, some (.long v13), none]) (am_le_of (am_leS (am_leS (am_leS (am_leN (am_leN (am_leN (am_leN (am_leN (am_leN (am_leS (am_leN (am_leS (am_leN (am_leS (am_leN (am_leZ))))))))))))))))) h
  · replace h := h.2 z
    refine am_wpb (c' := (264, [some (.ref 42), some (.int v1), some (.int v2), none, none, none, none, some (.long v7), none, some (.long v9), none, some (.long v11), none, some (.long v13), none], [.long ((v7 * v13) + (v11 * v9))], (I, L, D, am_rf X))) 8 rfl ?_
    exact am_fgt (l := [some (.ref 42), some (.int v1), some (.int v2), none, none, none, none, none, none, some (.long v9), none, some (.long v11), none, some (.long v13), none]) (am_le_of (am_leS (am_leS (am_leS (am_leN (am_leN (am_leN (am_leN (am_leN (am_leN (am_leS (am_leN (am_leS (am_leN (am_leS (am_leN (am_leZ))))))))))))))))) h
theorem w179_264 {ext : Nat → List Value → am_M → Option am_R} {d : Nat} {P : am_R → Prop} (I : Nat → Nat → Int32) (L : Nat → Nat → Int64) (D : Nat → Nat → UInt64) (X : am_Rf) (v1 : Int32) (v2 : Int32) (v9 : Int64) (v11 : Int64) (v13 : Int64) (s0 : Int64)
    (h : ((¬ v2 = 9 → (am_wp ext d mz_179 (287, [some (.ref 42), some (.int v1), none, some (.long s0), none, none, none, none, none, none, none, none, none, none, none], [.long (v9 * v13)], (I, L, D, am_rf X)) P)) ∧ (v2 = 9 → (∃ (r1 : Int64) (I1 : Nat → Nat → Int32) (L1 : Nat → Nat → Int64) (D1 : Nat → Nat → UInt64), am_Rn ext d 176 [.long v11] (I, L, D, am_rf X) (some (.long r1), (I1, L1, D1, am_rf X)) ∧ (am_wp ext d mz_179 (287, [some (.ref 42), some (.int v1), none, some (.long s0), none, none, none, none, none, none, none, none, none, none, none], [.long (v9 * r1)], (I1, L1, D1, am_rf X)) P))))) : am_wp ext d mz_179 (264, [some (.ref 42), some (.int v1), some (.int v2), none, none, none, none, none, none, some (.long v9), none, some (.long v11), none, some (.long v13), none], [.long s0], (I, L, D, am_rf X)) P := by
  refine am_wpb (c' := (268, [some (.ref 42), some (.int v1), some (.int v2), some (.long s0), none, none, none, none, none, some (.long v9), none, some (.long v11), none, some (.long v13), none], [.int 9, .int v2], (I, L, D, am_rf X))) 3 rfl ?_
  refine am_b2_ne rfl (fun z => ?_) (fun z => ?_)
  · replace h := h.1 z
    refine am_wpb (c' := (287, [some (.ref 42), some (.int v1), some (.int v2), some (.long s0), none, none, none, none, none, some (.long v9), none, some (.long v11), none, some (.long v13), none], [.long (v9 * v13)], (I, L, D, am_rf X))) 3 rfl ?_
    exact am_fgt (l := [some (.ref 42), some (.int v1), none, some (.long s0), none, none, none, none, none, none, none, none, none, none, none]) (am_le_of (am_leS (am_leS (am_leN (am_leS (am_leN (am_leN (am_leN (am_leN (am_leN (am_leN (am_leN (am_leN (am_leN (am_leN (am_leN (am_leZ))))))))))))))))) h
  · replace h := h.2 z
    refine am_wpb (c' := (275, [some (.ref 42), some (.int v1), some (.int v2), some (.long s0), none, none, none, none, none, some (.long v9), none, some (.long v11), none, some (.long v13), none], [.long v11, .long v9], (I, L, D, am_rf X))) 2 rfl ?_
    obtain ⟨r1, I1, L1, D1, hr, h⟩ := h
    refine am_wp_inv (as := [.long v11]) rfl rfl rfl rfl ⟨_, hr, ?_⟩
    show am_wp ext d mz_179 (278, [some (.ref 42), some (.int v1), some (.int v2), some (.long s0), none, none, none, none, none, some (.long v9), none, some (.long v11), none, some (.long v13), none], [.long r1, .long v9], (I1, L1, D1, am_rf X)) P
    refine am_wpb (c' := (287, [some (.ref 42), some (.int v1), some (.int v2), some (.long s0), none, none, none, none, none, some (.long v9), none, some (.long v11), none, some (.long v13), none], [.long (v9 * r1)], (I1, L1, D1, am_rf X))) 2 rfl ?_
    exact am_fgt (l := [some (.ref 42), some (.int v1), none, some (.long s0), none, none, none, none, none, none, none, none, none, none, none]) (am_le_of (am_leS (am_leS (am_leN (am_leS (am_leN (am_leN (am_leN (am_leN (am_leN (am_leN (am_leN (am_leN (am_leN (am_leN (am_leN (am_leZ))))))))))))))))) h
theorem w179_287 {ext : Nat → List Value → am_M → Option am_R} {d : Nat} {P : am_R → Prop} (I : Nat → Nat → Int32) (L : Nat → Nat → Int64) (D : Nat → Nat → UInt64) (X : am_Rf) (v1 : Int32) (v3 : Int64) (s0 : Int64)
    (h : am_wp ext d mz_179 (294, [some (.ref 42), some (.int v1), none, some (.long v3), none, some (.long s0), none, none, none, none, none, none, none, none, none], [], (I, L, D, am_rf X)) P) : am_wp ext d mz_179 (287, [some (.ref 42), some (.int v1), none, some (.long v3), none, none, none, none, none, none, none, none, none, none, none], [.long s0], (I, L, D, am_rf X)) P := by
  refine am_wpb (c' := (294, [some (.ref 42), some (.int v1), none, some (.long v3), none, some (.long s0), none, none, none, none, none, none, none, none, none], [], (I, L, D, am_rf X))) 2 rfl ?_
  exact h
theorem w179_294 {ext : Nat → List Value → am_M → Option am_R} {d : Nat} {P : am_R → Prop} (I : Nat → Nat → Int32) (L : Nat → Nat → Int64) (D : Nat → Nat → UInt64) (X : am_Rf) (v1 : Int32) (v3 : Int64) (v5 : Int64)
    (h : ∃ (r1 : Int64) (I1 : Nat → Nat → Int32) (L1 : Nat → Nat → Int64) (D1 : Nat → Nat → UInt64), am_Rn ext d 177 [.long v3, .long v5] (I, L, D, am_rf X) (some (.long r1), (I1, L1, D1, am_rf X)) ∧ (¬ r1 = 0 ∧ (am_inb v1 96 = true ∧ (¬ r1 = 0 ∧ (am_inb v1 96 = true ∧ (am_inb v1 96 = true ∧ (∃ (r2 : Int64) (I2 : Nat → Nat → Int32) (L2 : Nat → Nat → Int64) (D2 : Nat → Nat → UInt64), am_Rn ext d 176 [.long ((am_uL L1 72 (Int32.toNatClampNeg v1) (v3 / r1)) 72 (Int32.toNatClampNeg v1))] (I1, am_uL (am_uL L1 72 (Int32.toNatClampNeg v1) (v3 / r1)) 73 (Int32.toNatClampNeg v1) (v5 / r1), D1, am_rf X) (some (.long r2), (I2, L2, D2, am_rf X)) ∧ (((1000000000 < r2 → (P (some (.int 0), (I2, L2, D2, am_rf X)))) ∧ (¬ 1000000000 < r2 → (am_inb v1 96 = true ∧ (((1000000000 < (L2 73 (Int32.toNatClampNeg v1)) → (P (some (.int 0), (I2, L2, D2, am_rf X)))) ∧ (¬ 1000000000 < (L2 73 (Int32.toNatClampNeg v1)) → (P (some (.int 1), (I2, L2, D2, am_rf X))))))))))))))))) : am_wp ext d mz_179 (294, [some (.ref 42), some (.int v1), none, some (.long v3), none, some (.long v5), none, none, none, none, none, none, none, none, none], [], (I, L, D, am_rf X)) P := by
  refine am_wpb (c' := (297, [some (.ref 42), some (.int v1), none, some (.long v3), none, some (.long v5), none, none, none, none, none, none, none, none, none], [.long v5, .long v3], (I, L, D, am_rf X))) 2 rfl ?_
  obtain ⟨r1, I1, L1, D1, hr, h⟩ := h
  refine am_wp_inv (as := [.long v3, .long v5]) rfl rfl rfl rfl ⟨_, hr, ?_⟩
  show am_wp ext d mz_179 (300, [some (.ref 42), some (.int v1), none, some (.long v3), none, some (.long v5), none, none, none, none, none, none, none, none, none], [.long r1], (I1, L1, D1, am_rf X)) P
  refine am_wpb (c' := (310, [some (.ref 42), some (.int v1), none, some (.long v3), none, some (.long v5), none, some (.long r1), none, none, none, none, none, none, none], [.long r1, .long v3, .int v1, .ref 72], (I1, L1, D1, am_rf X))) 6 rfl ?_
  obtain ⟨o, h⟩ := h
  refine am_wps (c' := (311, [some (.ref 42), some (.int v1), none, some (.long v3), none, some (.long v5), none, some (.long r1), none, none, none, none, none, none, none], [.long (v3 / r1), .int v1, .ref 72], (I1, L1, D1, am_rf X))) rfl rfl (am_s_ldiv o) ?_
  obtain ⟨o, h⟩ := h
  refine am_wps (c' := (312, [some (.ref 42), some (.int v1), none, some (.long v3), none, some (.long v5), none, some (.long r1), none, none, none, none, none, none, none], [], (I1, am_uL L1 72 (Int32.toNatClampNeg v1) (v3 / r1), D1, am_rf X))) rfl rfl (am_s_last rfl o) ?_
  refine am_wpb (c' := (321, [some (.ref 42), some (.int v1), none, some (.long v3), none, some (.long v5), none, some (.long r1), none, none, none, none, none, none, none], [.long r1, .long v5, .int v1, .ref 73], (I1, am_uL L1 72 (Int32.toNatClampNeg v1) (v3 / r1), D1, am_rf X))) 5 rfl ?_
  obtain ⟨o, h⟩ := h
  refine am_wps (c' := (322, [some (.ref 42), some (.int v1), none, some (.long v3), none, some (.long v5), none, some (.long r1), none, none, none, none, none, none, none], [.long (v5 / r1), .int v1, .ref 73], (I1, am_uL L1 72 (Int32.toNatClampNeg v1) (v3 / r1), D1, am_rf X))) rfl rfl (am_s_ldiv o) ?_
  obtain ⟨o, h⟩ := h
  refine am_wps (c' := (323, [some (.ref 42), some (.int v1), none, some (.long v3), none, some (.long v5), none, some (.long r1), none, none, none, none, none, none, none], [], (I1, am_uL (am_uL L1 72 (Int32.toNatClampNeg v1) (v3 / r1)) 73 (Int32.toNatClampNeg v1) (v5 / r1), D1, am_rf X))) rfl rfl (am_s_last rfl o) ?_
  refine am_wpb (c' := (328, [some (.ref 42), some (.int v1), none, some (.long v3), none, some (.long v5), none, some (.long r1), none, none, none, none, none, none, none], [.int v1, .ref 72], (I1, am_uL (am_uL L1 72 (Int32.toNatClampNeg v1) (v3 / r1)) 73 (Int32.toNatClampNeg v1) (v5 / r1), D1, am_rf X))) 3 rfl ?_
  obtain ⟨o, h⟩ := h
  refine am_wps (c' := (329, [some (.ref 42), some (.int v1), none, some (.long v3), none, some (.long v5), none, some (.long r1), none, none, none, none, none, none, none], [.long ((am_uL L1 72 (Int32.toNatClampNeg v1) (v3 / r1)) 72 (Int32.toNatClampNeg v1))], (I1, am_uL (am_uL L1 72 (Int32.toNatClampNeg v1) (v3 / r1)) 73 (Int32.toNatClampNeg v1) (v5 / r1), D1, am_rf X))) rfl rfl (am_s_lald rfl o) ?_
  obtain ⟨r2, I2, L2, D2, hr, h⟩ := h
  refine am_wp_inv (as := [.long ((am_uL L1 72 (Int32.toNatClampNeg v1) (v3 / r1)) 72 (Int32.toNatClampNeg v1))]) rfl rfl rfl rfl ⟨_, hr, ?_⟩
  show am_wp ext d mz_179 (332, [some (.ref 42), some (.int v1), none, some (.long v3), none, some (.long v5), none, some (.long r1), none, none, none, none, none, none, none], [.long r2], (I2, L2, D2, am_rf X)) P
  refine am_wpb (c' := (335, [some (.ref 42), some (.int v1), none, some (.long v3), none, some (.long v5), none, some (.long r1), none, none, none, none, none, none, none], [.long 1000000000, .long r2], (I2, L2, D2, am_rf X))) 1 rfl ?_
  refine am_lc_gt rfl rfl (fun z => ?_) (fun z => ?_)
  · replace h := h.1 z
    refine am_wpb (c' := (357, [some (.ref 42), some (.int v1), none, some (.long v3), none, some (.long v5), none, some (.long r1), none, none, none, none, none, none, none], [.int 0], (I2, L2, D2, am_rf X))) 1 rfl ?_
    exact am_ret_z rfl rfl (Or.inl rfl) h
  · replace h := h.2 z
    refine am_wpb (c' := (344, [some (.ref 42), some (.int v1), none, some (.long v3), none, some (.long v5), none, some (.long r1), none, none, none, none, none, none, none], [.int v1, .ref 73], (I2, L2, D2, am_rf X))) 3 rfl ?_
    obtain ⟨o, h⟩ := h
    refine am_wps (c' := (345, [some (.ref 42), some (.int v1), none, some (.long v3), none, some (.long v5), none, some (.long r1), none, none, none, none, none, none, none], [.long (L2 73 (Int32.toNatClampNeg v1))], (I2, L2, D2, am_rf X))) rfl rfl (am_s_lald rfl o) ?_
    refine am_wpb (c' := (348, [some (.ref 42), some (.int v1), none, some (.long v3), none, some (.long v5), none, some (.long r1), none, none, none, none, none, none, none], [.long 1000000000, .long (L2 73 (Int32.toNatClampNeg v1))], (I2, L2, D2, am_rf X))) 1 rfl ?_
    refine am_lc_gt rfl rfl (fun z => ?_) (fun z => ?_)
    · replace h := h.1 z
      refine am_wpb (c' := (357, [some (.ref 42), some (.int v1), none, some (.long v3), none, some (.long v5), none, some (.long r1), none, none, none, none, none, none, none], [.int 0], (I2, L2, D2, am_rf X))) 1 rfl ?_
      exact am_ret_z rfl rfl (Or.inl rfl) h
    · replace h := h.2 z
      refine am_wpb (c' := (357, [some (.ref 42), some (.int v1), none, some (.long v3), none, some (.long v5), none, some (.long r1), none, none, none, none, none, none, none], [.int 1], (I2, L2, D2, am_rf X))) 2 rfl ?_
      exact am_ret_z rfl rfl (Or.inr rfl) h
