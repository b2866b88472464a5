/-- SureSums.apartBy(III)I -/
def mz_104 : am_Y := (fun pc => am_q104.lookup pc, 8, 1)
theorem mh_104 : am_Ys 104 = some mz_104 := rfl
theorem w104_0 {ext : Nat → List Value → am_M → Option am_R} {d : Nat} {P : am_R → Prop} (I : Nat → Nat → Int32) (L : Nat → Nat → Int64) (D : Nat → Nat → UInt64) (xc : Nat) (xi : Nat) (xp : Nat) (v1 : Int32) (v2 : Int32) (v3 : Int32)
    (h : ((v1 = v2 → (P (some (.int 0), (I, L, D, am_rf (2, 11, xi, xp, 2, xc))))) ∧ (¬ v1 = v2 → (∃ (r1 : Int32) (I1 : Nat → Nat → Int32) (L1 : Nat → Nat → Int64) (D1 : Nat → Nat → UInt64), am_Rn ext d 60 [.ref 25, .ref 2, .int v1, .long 0, .long 0, .int v3] (I, L, D, am_rf (2, 11, xi, xp, 2, xc)) (some (.int r1), (I1, L1, D1, am_rf (2, 11, xi, 2, 2, xc))) ∧ (((¬ r1 = 0 → (∃ (r2 : Int32) (I2 : Nat → Nat → Int32) (L2 : Nat → Nat → Int64) (D2 : Nat → Nat → UInt64), am_Rn ext d 60 [.ref 25, .ref 2, .int v2, .long 0, .long 0, .int v3] (I1, L1, D1, am_rf (2, 11, xi, 2, 2, xc)) (some (.int r2), (I2, L2, D2, am_rf (2, 11, xi, 2, 2, xc))) ∧ (((¬ r2 = 0 → ((((L2 25 9) ≤ (L1 25 10) → ((((L1 25 9) ≤ (L2 25 10) → (P (some (.int 0), (I2, L2, D2, am_rf (2, 11, xi, 2, 2, xc))))) ∧ (¬ (L1 25 9) ≤ (L2 25 10) → (P (some (.int (-v3)), (I2, L2, D2, am_rf (2, 11, xi, 2, 2, xc)))))))) ∧ (¬ (L2 25 9) ≤ (L1 25 10) → (P (some (.int v3), (I2, L2, D2, am_rf (2, 11, xi, 2, 2, xc)))))))) ∧ (r2 = 0 → (P (some (.int 0), (I2, L2, D2, am_rf (2, 11, xi, 2, 2, xc))))))))) ∧ (r1 = 0 → (P (some (.int 0), (I1, L1, D1, am_rf (2, 11, xi, 2, 2, xc))))))))))) : am_wp ext d mz_104 (0, [some (.ref 0), some (.int v1), some (.int v2), some (.int v3), none, none, none, none], [], (I, L, D, am_rf (2, 11, xi, xp, 2, xc))) P := by
  refine am_wpb (c' := (2, [some (.ref 0), some (.int v1), some (.int v2), some (.int v3), none, none, none, none], [.int v2, .int v1], (I, L, D, am_rf (2, 11, xi, xp, 2, xc)))) 2 rfl ?_
  refine am_b2_eq rfl (fun z => ?_) (fun z => ?_)
  · replace h := h.1 z
    refine am_wpb (c' := (24, [some (.ref 0), some (.int v1), some (.int v2), some (.int v3), none, none, none, none], [.int 0], (I, L, D, am_rf (2, 11, xi, xp, 2, xc)))) 1 rfl ?_
    exact am_ret_i rfl rfl h
  · replace h := h.2 z
    refine am_wpb (c' := (17, [some (.ref 0), some (.int v1), some (.int v2), some (.int v3), none, none, none, none], [.int v3, .long 0, .long 0, .int v1, .ref 2, .ref 25], (I, L, D, am_rf (2, 11, xi, xp, 2, xc)))) 8 rfl ?_
    obtain ⟨r1, I1, L1, D1, hr, h⟩ := h
    refine am_wp_inv (as := [.ref 25, .ref 2, .int v1, .long 0, .long 0, .int v3]) rfl rfl rfl rfl ⟨_, hr, ?_⟩
    show am_wp ext d mz_104 (20, [some (.ref 0), some (.int v1), some (.int v2), some (.int v3), none, none, none, none], [.int r1], (I1, L1, D1, am_rf (2, 11, xi, 2, 2, xc))) P
    refine am_b1_ne rfl (fun z => ?_) (fun z => ?_)
    · replace h := h.1 z
      refine am_wpb (c' := (55, [some (.ref 0), some (.int v1), some (.int v2), some (.int v3), some (.long (L1 25 9)), none, some (.long (L1 25 10)), none], [.int v3, .long 0, .long 0, .int v2, .ref 2, .ref 25], (I1, L1, D1, am_rf (2, 11, xi, 2, 2, xc)))) 16 rfl ?_
      obtain ⟨r2, I2, L2, D2, hr, h⟩ := h
      refine am_wp_inv (as := [.ref 25, .ref 2, .int v2, .long 0, .long 0, .int v3]) rfl rfl rfl rfl ⟨_, hr, ?_⟩
      show am_wp ext d mz_104 (58, [some (.ref 0), some (.int v1), some (.int v2), some (.int v3), some (.long (L1 25 9)), none, some (.long (L1 25 10)), none], [.int r2], (I2, L2, D2, am_rf (2, 11, xi, 2, 2, xc))) P
      refine am_b1_ne rfl (fun z => ?_) (fun z => ?_)
      · replace h := h.1 z
        refine am_wpb (c' := (72, [some (.ref 0), some (.int v1), some (.int v2), some (.int v3), some (.long (L1 25 9)), none, some (.long (L1 25 10)), none], [.long (L2 25 9), .long (L1 25 10)], (I2, L2, D2, am_rf (2, 11, xi, 2, 2, xc)))) 4 rfl ?_
        refine am_lc_ge rfl rfl (fun z => ?_) (fun z => ?_)
        · replace h := h.1 z
          refine am_wpb (c' := (87, [some (.ref 0), some (.int v1), some (.int v2), some (.int v3), some (.long (L1 25 9)), none, some (.long (L1 25 10)), none], [.long (L1 25 9), .long (L2 25 10)], (I2, L2, D2, am_rf (2, 11, xi, 2, 2, xc)))) 4 rfl ?_
          refine am_lc_ge rfl rfl (fun z => ?_) (fun z => ?_)
          · replace h := h.1 z
            refine am_wpb (c' := (97, [some (.ref 0), some (.int v1), some (.int v2), some (.int v3), some (.long (L1 25 9)), none, some (.long (L1 25 10)), none], [.int 0], (I2, L2, D2, am_rf (2, 11, xi, 2, 2, xc)))) 1 rfl ?_
            exact am_ret_i rfl rfl h
          · replace h := h.2 z
            refine am_wpb (c' := (97, [some (.ref 0), some (.int v1), some (.int v2), some (.int v3), some (.long (L1 25 9)), none, some (.long (L1 25 10)), none], [.int (-v3)], (I2, L2, D2, am_rf (2, 11, xi, 2, 2, xc)))) 3 rfl ?_
            exact am_ret_i rfl rfl h
        · replace h := h.2 z
          refine am_wpb (c' := (77, [some (.ref 0), some (.int v1), some (.int v2), some (.int v3), some (.long (L1 25 9)), none, some (.long (L1 25 10)), none], [.int v3], (I2, L2, D2, am_rf (2, 11, xi, 2, 2, xc)))) 1 rfl ?_
          exact am_ret_i rfl rfl h
      · replace h := h.2 z
        refine am_wpb (c' := (62, [some (.ref 0), some (.int v1), some (.int v2), some (.int v3), some (.long (L1 25 9)), none, some (.long (L1 25 10)), none], [.int 0], (I2, L2, D2, am_rf (2, 11, xi, 2, 2, xc)))) 1 rfl ?_
        exact am_ret_i rfl rfl h
    · replace h := h.2 z
      refine am_wpb (c' := (24, [some (.ref 0), some (.int v1), some (.int v2), some (.int v3), none, none, none, none], [.int 0], (I1, L1, D1, am_rf (2, 11, xi, 2, 2, xc)))) 1 rfl ?_
      exact am_ret_i rfl rfl h
/-- SureSums.where(III)I -/
def mz_105 : am_Y := (fun pc => am_q105.lookup pc, 5, 1)
theorem mh_105 : am_Ys 105 = some mz_105 := rfl
theorem w105_0 {ext : Nat → List Value → am_M → Option am_R} {d : Nat} {P : am_R → Prop} (I : Nat → Nat → Int32) (L : Nat → Nat → Int64) (D : Nat → Nat → UInt64) (xc : Nat) (xi : Nat) (xp : Nat) (v1 : Int32) (v2 : Int32) (v3 : Int32)
    (h : ∃ (r1 : Int32) (I1 : Nat → Nat → Int32) (L1 : Nat → Nat → Int64) (D1 : Nat → Nat → UInt64), am_Rn ext d 112 [.ref 0, .int v1] (I, L, D, am_rf (2, 11, xi, xp, 2, xc)) (some (.int r1), (I1, L1, D1, am_rf (2, 11, xi, xp, 2, xc))) ∧ (((r1 < 0 → (P (some (.int 0), (I1, L1, D1, am_rf (2, 11, xi, xp, 2, xc))))) ∧ (¬ r1 < 0 → (((v2 < (-64) → (P (some (.int 0), (I1, L1, D1, am_rf (2, 11, xi, xp, 2, xc))))) ∧ (¬ v2 < (-64) → (((64 < v3 → (P (some (.int 0), (I1, L1, D1, am_rf (2, 11, xi, xp, 2, xc))))) ∧ (¬ 64 < v3 → (((v2 < v3 → (∃ (r2 : Int32) (I2 : Nat → Nat → Int32) (L2 : Nat → Nat → Int64) (D2 : Nat → Nat → UInt64), am_Rn ext d 0 [.ref 39, .ref 2, .int r1, .int v2, .int v3] (I1, L1, D1, am_rf (2, 11, xi, xp, 2, xc)) (some (.int r2), (I2, L2, D2, am_rf (2, 11, xi, 2, 2, xc))) ∧ (P (some (.int r2), (I2, L2, D2, am_rf (2, 11, xi, 2, 2, xc)))))) ∧ (¬ v2 < v3 → (P (some (.int 0), (I1, L1, D1, am_rf (2, 11, xi, xp, 2, xc))))))))))))))))) : am_wp ext d mz_105 (0, [some (.ref 0), some (.int v1), some (.int v2), some (.int v3), none], [], (I, L, D, am_rf (2, 11, xi, xp, 2, xc))) P := by
  refine am_wpb (c' := (2, [some (.ref 0), some (.int v1), some (.int v2), some (.int v3), none], [.int v1, .ref 0], (I, L, D, am_rf (2, 11, xi, xp, 2, xc)))) 2 rfl ?_
  obtain ⟨r1, I1, L1, D1, hr, h⟩ := h
  refine am_wp_inv (as := [.ref 0, .int v1]) rfl rfl rfl rfl ⟨_, hr, ?_⟩
  show am_wp ext d mz_105 (5, [some (.ref 0), some (.int v1), some (.int v2), some (.int v3), none], [.int r1], (I1, L1, D1, am_rf (2, 11, xi, xp, 2, xc))) P
  refine am_wpb (c' := (9, [some (.ref 0), some (.int v1), some (.int v2), some (.int v3), some (.int r1)], [.int r1], (I1, L1, D1, am_rf (2, 11, xi, xp, 2, xc)))) 2 rfl ?_
  refine am_b1_lt rfl (fun z => ?_) (fun z => ?_)
  · replace h := h.1 z
    refine am_wpb (c' := (30, [some (.ref 0), some (.int v1), some (.int v2), some (.int v3), some (.int r1)], [.int 0], (I1, L1, D1, am_rf (2, 11, xi, xp, 2, xc)))) 1 rfl ?_
    exact am_ret_i rfl rfl h
  · replace h := h.2 z
    refine am_wpb (c' := (15, [some (.ref 0), some (.int v1), some (.int v2), some (.int v3), some (.int r1)], [.int (-64), .int v2], (I1, L1, D1, am_rf (2, 11, xi, xp, 2, xc)))) 2 rfl ?_
    refine am_b2_lt rfl (fun z => ?_) (fun z => ?_)
    · replace h := h.1 z
      refine am_wpb (c' := (30, [some (.ref 0), some (.int v1), some (.int v2), some (.int v3), some (.int r1)], [.int 0], (I1, L1, D1, am_rf (2, 11, xi, xp, 2, xc)))) 1 rfl ?_
      exact am_ret_i rfl rfl h
    · replace h := h.2 z
      refine am_wpb (c' := (21, [some (.ref 0), some (.int v1), some (.int v2), some (.int v3), some (.int r1)], [.int 64, .int v3], (I1, L1, D1, am_rf (2, 11, xi, xp, 2, xc)))) 2 rfl ?_
      refine am_b2_gt rfl (fun z => ?_) (fun z => ?_)
      · replace h := h.1 z
        refine am_wpb (c' := (30, [some (.ref 0), some (.int v1), some (.int v2), some (.int v3), some (.int r1)], [.int 0], (I1, L1, D1, am_rf (2, 11, xi, xp, 2, xc)))) 1 rfl ?_
        exact am_ret_i rfl rfl h
      · replace h := h.2 z
        refine am_wpb (c' := (26, [some (.ref 0), some (.int v1), some (.int v2), some (.int v3), some (.int r1)], [.int v3, .int v2], (I1, L1, D1, am_rf (2, 11, xi, xp, 2, xc)))) 2 rfl ?_
        refine am_b2_lt rfl (fun z => ?_) (fun z => ?_)
        · replace h := h.1 z
          refine am_wpb (c' := (43, [some (.ref 0), some (.int v1), some (.int v2), some (.int v3), some (.int r1)], [.int v3, .int v2, .int r1, .ref 2, .ref 39], (I1, L1, D1, am_rf (2, 11, xi, xp, 2, xc)))) 7 rfl ?_
          obtain ⟨r2, I2, L2, D2, hr, h⟩ := h
          refine am_wp_inv (as := [.ref 39, .ref 2, .int r1, .int v2, .int v3]) rfl rfl rfl rfl ⟨_, hr, ?_⟩
          show am_wp ext d mz_105 (46, [some (.ref 0), some (.int v1), some (.int v2), some (.int v3), some (.int r1)], [.int r2], (I2, L2, D2, am_rf (2, 11, xi, 2, 2, xc))) P
          exact am_ret_i rfl rfl h
        · replace h := h.2 z
          refine am_wpb (c' := (30, [some (.ref 0), some (.int v1), some (.int v2), some (.int v3), some (.int r1)], [.int 0], (I1, L1, D1, am_rf (2, 11, xi, xp, 2, xc)))) 1 rfl ?_
          exact am_ret_i rfl rfl h
/-- SureSums.dot(III)I -/
def mz_106 : am_Y := (fun pc => am_q106.lookup pc, 5, 1)
theorem mh_106 : am_Ys 106 = some mz_106 := rfl
theorem w106_0 {ext : Nat → List Value → am_M → Option am_R} {d : Nat} {P : am_R → Prop} (I : Nat → Nat → Int32) (L : Nat → Nat → Int64) (D : Nat → Nat → UInt64) (xc : Nat) (xi : Nat) (xp : Nat) (v1 : Int32) (v2 : Int32) (v3 : Int32)
    (h : ∃ (r1 : Int32) (I1 : Nat → Nat → Int32) (L1 : Nat → Nat → Int64) (D1 : Nat → Nat → UInt64), am_Rn ext d 112 [.ref 0, .int v1] (I, L, D, am_rf (2, 11, xi, xp, 2, xc)) (some (.int r1), (I1, L1, D1, am_rf (2, 11, xi, xp, 2, xc))) ∧ (((r1 < 0 → (P (some (.int (-1)), (I1, L1, D1, am_rf (2, 11, xi, xp, 2, xc))))) ∧ (¬ r1 < 0 → (∃ (r2 : Int32) (I2 : Nat → Nat → Int32) (L2 : Nat → Nat → Int64) (D2 : Nat → Nat → UInt64), am_Rn ext d 114 [.int v2] (I1, L1, D1, am_rf (2, 11, xi, xp, 2, xc)) (some (.int r2), (I2, L2, D2, am_rf (2, 11, xi, xp, 2, xc))) ∧ (((r2 = 0 → (P (some (.int (-1)), (I2, L2, D2, am_rf (2, 11, xi, xp, 2, xc))))) ∧ (¬ r2 = 0 → (∃ (r3 : Int32) (I3 : Nat → Nat → Int32) (L3 : Nat → Nat → Int64) (D3 : Nat → Nat → UInt64), am_Rn ext d 114 [.int v3] (I2, L2, D2, am_rf (2, 11, xi, xp, 2, xc)) (some (.int r3), (I3, L3, D3, am_rf (2, 11, xi, xp, 2, xc))) ∧ (((¬ r3 = 0 → (∃ (I4 : Nat → Nat → Int32) (L4 : Nat → Nat → Int64) (D4 : Nat → Nat → UInt64), am_Rn ext d 1 [.ref 39, .ref 2, .int r1, .int v2] (I3, L3, D3, am_rf (2, 11, xi, xp, 2, xc)) (none, (I4, L4, D4, am_rf (2, 11, xi, 2, 2, 2))) ∧ (∃ (r5 : Int32) (I5 : Nat → Nat → Int32) (L5 : Nat → Nat → Int64) (D5 : Nat → Nat → UInt64), am_Rn ext d 2 [.ref 39, .int v3] (I4, L4, D4, am_rf (2, 11, xi, 2, 2, 2)) (some (.int r5), (I5, L5, D5, am_rf (2, 11, xi, 2, 2, 2))) ∧ (P (some (.int r5), (I5, L5, D5, am_rf (2, 11, xi, 2, 2, 2))))))) ∧ (r3 = 0 → (P (some (.int (-1)), (I3, L3, D3, am_rf (2, 11, xi, xp, 2, xc)))))))))))))))) : am_wp ext d mz_106 (0, [some (.ref 0), some (.int v1), some (.int v2), some (.int v3), none], [], (I, L, D, am_rf (2, 11, xi, xp, 2, xc))) P := by
  refine am_wpb (c' := (2, [some (.ref 0), some (.int v1), some (.int v2), some (.int v3), none], [.int v1, .ref 0], (I, L, D, am_rf (2, 11, xi, xp, 2, xc)))) 2 rfl ?_
  obtain ⟨r1, I1, L1, D1, hr, h⟩ := h
  refine am_wp_inv (as := [.ref 0, .int v1]) rfl rfl rfl rfl ⟨_, hr, ?_⟩
  show am_wp ext d mz_106 (5, [some (.ref 0), some (.int v1), some (.int v2), some (.int v3), none], [.int r1], (I1, L1, D1, am_rf (2, 11, xi, xp, 2, xc))) P
  refine am_wpb (c' := (9, [some (.ref 0), some (.int v1), some (.int v2), some (.int v3), some (.int r1)], [.int r1], (I1, L1, D1, am_rf (2, 11, xi, xp, 2, xc)))) 2 rfl ?_
  refine am_b1_lt rfl (fun z => ?_) (fun z => ?_)
  · replace h := h.1 z
    refine am_wpb (c' := (27, [some (.ref 0), some (.int v1), some (.int v2), some (.int v3), some (.int r1)], [.int (-1)], (I1, L1, D1, am_rf (2, 11, xi, xp, 2, xc)))) 1 rfl ?_
    exact am_ret_i rfl rfl h
  · replace h := h.2 z
    refine am_wpb (c' := (13, [some (.ref 0), some (.int v1), some (.int v2), some (.int v3), some (.int r1)], [.int v2], (I1, L1, D1, am_rf (2, 11, xi, xp, 2, xc)))) 1 rfl ?_
    obtain ⟨r2, I2, L2, D2, hr, h⟩ := h
    refine am_wp_inv (as := [.int v2]) rfl rfl rfl rfl ⟨_, hr, ?_⟩
    show am_wp ext d mz_106 (16, [some (.ref 0), some (.int v1), some (.int v2), some (.int v3), some (.int r1)], [.int r2], (I2, L2, D2, am_rf (2, 11, xi, xp, 2, xc))) P
    refine am_b1_eq rfl (fun z => ?_) (fun z => ?_)
    · replace h := h.1 z
      refine am_wpb (c' := (27, [some (.ref 0), some (.int v1), some (.int v2), some (.int v3), some (.int r1)], [.int (-1)], (I2, L2, D2, am_rf (2, 11, xi, xp, 2, xc)))) 1 rfl ?_
      exact am_ret_i rfl rfl h
    · replace h := h.2 z
      refine am_wpb (c' := (20, [some (.ref 0), some (.int v1), some (.int v2), some (.int v3), some (.int r1)], [.int v3], (I2, L2, D2, am_rf (2, 11, xi, xp, 2, xc)))) 1 rfl ?_
      obtain ⟨r3, I3, L3, D3, hr, h⟩ := h
      refine am_wp_inv (as := [.int v3]) rfl rfl rfl rfl ⟨_, hr, ?_⟩
      show am_wp ext d mz_106 (23, [some (.ref 0), some (.int v1), some (.int v2), some (.int v3), some (.int r1)], [.int r3], (I3, L3, D3, am_rf (2, 11, xi, xp, 2, xc))) P
      refine am_b1_ne rfl (fun z => ?_) (fun z => ?_)
      · replace h := h.1 z
        refine am_wpb (c' := (39, [some (.ref 0), some (.int v1), some (.int v2), some (.int v3), some (.int r1)], [.int v2, .int r1, .ref 2, .ref 39], (I3, L3, D3, am_rf (2, 11, xi, xp, 2, xc)))) 6 rfl ?_
        obtain ⟨I4, L4, D4, hr, h⟩ := h
        refine am_wp_inv (as := [.ref 39, .ref 2, .int r1, .int v2]) rfl rfl rfl rfl ⟨_, hr, ?_⟩
        show am_wp ext d mz_106 (42, [some (.ref 0), some (.int v1), some (.int v2), some (.int v3), some (.int r1)], [], (I4, L4, D4, am_rf (2, 11, xi, 2, 2, 2))) P
        refine am_wpb (c' := (47, [some (.ref 0), some (.int v1), some (.int v2), some (.int v3), some (.int r1)], [.int v3, .ref 39], (I4, L4, D4, am_rf (2, 11, xi, 2, 2, 2)))) 3 rfl ?_
        obtain ⟨r5, I5, L5, D5, hr, h⟩ := h
        refine am_wp_inv (as := [.ref 39, .int v3]) rfl rfl rfl rfl ⟨_, hr, ?_⟩
        show am_wp ext d mz_106 (50, [some (.ref 0), some (.int v1), some (.int v2), some (.int v3), some (.int r1)], [.int r5], (I5, L5, D5, am_rf (2, 11, xi, 2, 2, 2))) P
        exact am_ret_i rfl rfl h
      · replace h := h.2 z
        refine am_wpb (c' := (27, [some (.ref 0), some (.int v1), some (.int v2), some (.int v3), some (.int r1)], [.int (-1)], (I3, L3, D3, am_rf (2, 11, xi, xp, 2, xc)))) 1 rfl ?_
        exact am_ret_i rfl rfl h
/-- SureSums.dots(IIIII)I -/
def mz_107 : am_Y := (fun pc => am_q107.lookup pc, 10, 1)
theorem mh_107 : am_Ys 107 = some mz_107 := rfl
theorem w107_0 {ext : Nat → List Value → am_M → Option am_R} {d : Nat} {P : am_R → Prop} (I : Nat → Nat → Int32) (L : Nat → Nat → Int64) (D : Nat → Nat → UInt64) (xc : Nat) (xi : Nat) (xp : Nat) (v1 : Int32) (v2 : Int32) (v3 : Int32) (v4 : Int32) (v5 : Int32)
    (h : ∃ (r1 : Int32) (I1 : Nat → Nat → Int32) (L1 : Nat → Nat → Int64) (D1 : Nat → Nat → UInt64), am_Rn ext d 112 [.ref 0, .int v1] (I, L, D, am_rf (2, 11, xi, xp, 2, xc)) (some (.int r1), (I1, L1, D1, am_rf (2, 11, xi, xp, 2, xc))) ∧ (((r1 < 0 → (P (some (.int (-1)), (I1, L1, D1, am_rf (2, 11, xi, xp, 2, xc))))) ∧ (¬ r1 < 0 → (∃ (r2 : Int32) (I2 : Nat → Nat → Int32) (L2 : Nat → Nat → Int64) (D2 : Nat → Nat → UInt64), am_Rn ext d 114 [.int v2] (I1, L1, D1, am_rf (2, 11, xi, xp, 2, xc)) (some (.int r2), (I2, L2, D2, am_rf (2, 11, xi, xp, 2, xc))) ∧ (((r2 = 0 → (P (some (.int (-1)), (I2, L2, D2, am_rf (2, 11, xi, xp, 2, xc))))) ∧ (¬ r2 = 0 → (∃ (r3 : Int32) (I3 : Nat → Nat → Int32) (L3 : Nat → Nat → Int64) (D3 : Nat → Nat → UInt64), am_Rn ext d 114 [.int v3] (I2, L2, D2, am_rf (2, 11, xi, xp, 2, xc)) (some (.int r3), (I3, L3, D3, am_rf (2, 11, xi, xp, 2, xc))) ∧ (((¬ r3 = 0 → (((v4 < 1 → (P (some (.int (-1)), (I3, L3, D3, am_rf (2, 11, xi, xp, 2, xc))))) ∧ (¬ v4 < 1 → (((16 < v4 → (P (some (.int (-1)), (I3, L3, D3, am_rf (2, 11, xi, xp, 2, xc))))) ∧ (¬ 16 < v4 → (((v5 < 0 → (P (some (.int (-1)), (I3, L3, D3, am_rf (2, 11, xi, xp, 2, xc))))) ∧ (¬ v5 < 0 → (((v5 ≤ 2 → (am_wp ext d mz_107 (60, [some (.ref 0), none, some (.int v2), some (.int v3), some (.int v4), some (.int v5), some (.int r1), some (.int 0), some (.int 0), none], [], (I3, L3, D3, am_rf (2, 11, xi, xp, 2, xc))) P)) ∧ (¬ v5 ≤ 2 → (P (some (.int (-1)), (I3, L3, D3, am_rf (2, 11, xi, xp, 2, xc))))))))))))))))) ∧ (r3 = 0 → (P (some (.int (-1)), (I3, L3, D3, am_rf (2, 11, xi, xp, 2, xc)))))))))))))))) : am_wp ext d mz_107 (0, [some (.ref 0), some (.int v1), some (.int v2), some (.int v3), some (.int v4), some (.int v5), none, none, none, none], [], (I, L, D, am_rf (2, 11, xi, xp, 2, xc))) P := by
  refine am_wpb (c' := (2, [some (.ref 0), some (.int v1), some (.int v2), some (.int v3), some (.int v4), some (.int v5), none, none, none, none], [.int v1, .ref 0], (I, L, D, am_rf (2, 11, xi, xp, 2, xc)))) 2 rfl ?_
  obtain ⟨r1, I1, L1, D1, hr, h⟩ := h
  refine am_wp_inv (as := [.ref 0, .int v1]) rfl rfl rfl rfl ⟨_, hr, ?_⟩
  show am_wp ext d mz_107 (5, [some (.ref 0), some (.int v1), some (.int v2), some (.int v3), some (.int v4), some (.int v5), none, none, none, none], [.int r1], (I1, L1, D1, am_rf (2, 11, xi, xp, 2, xc))) P
  refine am_wpb (c' := (9, [some (.ref 0), some (.int v1), some (.int v2), some (.int v3), some (.int v4), some (.int v5), some (.int r1), none, none, none], [.int r1], (I1, L1, D1, am_rf (2, 11, xi, xp, 2, xc)))) 2 rfl ?_
  refine am_b1_lt rfl (fun z => ?_) (fun z => ?_)
  · replace h := h.1 z
    refine am_wpb (c' := (27, [some (.ref 0), some (.int v1), some (.int v2), some (.int v3), some (.int v4), some (.int v5), some (.int r1), none, none, none], [.int (-1)], (I1, L1, D1, am_rf (2, 11, xi, xp, 2, xc)))) 1 rfl ?_
    exact am_ret_i rfl rfl h
  · replace h := h.2 z
    refine am_wpb (c' := (13, [some (.ref 0), some (.int v1), some (.int v2), some (.int v3), some (.int v4), some (.int v5), some (.int r1), none, none, none], [.int v2], (I1, L1, D1, am_rf (2, 11, xi, xp, 2, xc)))) 1 rfl ?_
    obtain ⟨r2, I2, L2, D2, hr, h⟩ := h
    refine am_wp_inv (as := [.int v2]) rfl rfl rfl rfl ⟨_, hr, ?_⟩
    show am_wp ext d mz_107 (16, [some (.ref 0), some (.int v1), some (.int v2), some (.int v3), some (.int v4), some (.int v5), some (.int r1), none, none, none], [.int r2], (I2, L2, D2, am_rf (2, 11, xi, xp, 2, xc))) P
    refine am_b1_eq rfl (fun z => ?_) (fun z => ?_)
    · replace h := h.1 z
      refine am_wpb (c' := (27, [some (.ref 0), some (.int v1), some (.int v2), some (.int v3), some (.int v4), some (.int v5), some (.int r1), none, none, none], [.int (-1)], (I2, L2, D2, am_rf (2, 11, xi, xp, 2, xc)))) 1 rfl ?_
      exact am_ret_i rfl rfl h
    · replace h := h.2 z
      refine am_wpb (c' := (20, [some (.ref 0), some (.int v1), some (.int v2), some (.int v3), some (.int v4), some (.int v5), some (.int r1), none, none, none], [.int v3], (I2, L2, D2, am_rf (2, 11, xi, xp, 2, xc)))) 1 rfl ?_
      obtain ⟨r3, I3, L3, D3, hr, h⟩ := h
      refine am_wp_inv (as := [.int v3]) rfl rfl rfl rfl ⟨_, hr, ?_⟩
      show am_wp ext d mz_107 (23, [some (.ref 0), some (.int v1), some (.int v2), some (.int v3), some (.int v4), some (.int v5), some (.int r1), none, none, none], [.int r3], (I3, L3, D3, am_rf (2, 11, xi, xp, 2, xc))) P
      refine am_b1_ne rfl (fun z => ?_) (fun z => ?_)
      · replace h := h.1 z
        refine am_wpb (c' := (31, [some (.ref 0), some (.int v1), some (.int v2), some (.int v3), some (.int v4), some (.int v5), some (.int r1), none, none, none], [.int 1, .int v4], (I3, L3, D3, am_rf (2, 11, xi, xp, 2, xc)))) 2 rfl ?_
        refine am_b2_lt rfl (fun z => ?_) (fun z => ?_)
        · replace h := h.1 z
          refine am_wpb (c' := (53, [some (.ref 0), some (.int v1), some (.int v2), some (.int v3), some (.int v4), some (.int v5), some (.int r1), none, none, none], [.int (-1)], (I3, L3, D3, am_rf (2, 11, xi, xp, 2, xc)))) 1 rfl ?_
          exact am_ret_i rfl rfl h
        · replace h := h.2 z
          refine am_wpb (c' := (38, [some (.ref 0), some (.int v1), some (.int v2), some (.int v3), some (.int v4), some (.int v5), some (.int r1), none, none, none], [.int 16, .int v4], (I3, L3, D3, am_rf (2, 11, xi, xp, 2, xc)))) 2 rfl ?_
          refine am_b2_gt rfl (fun z => ?_) (fun z => ?_)
          · replace h := h.1 z
            refine am_wpb (c' := (53, [some (.ref 0), some (.int v1), some (.int v2), some (.int v3), some (.int v4), some (.int v5), some (.int r1), none, none, none], [.int (-1)], (I3, L3, D3, am_rf (2, 11, xi, xp, 2, xc)))) 1 rfl ?_
            exact am_ret_i rfl rfl h
          · replace h := h.2 z
            refine am_wpb (c' := (43, [some (.ref 0), some (.int v1), some (.int v2), some (.int v3), some (.int v4), some (.int v5), some (.int r1), none, none, none], [.int v5], (I3, L3, D3, am_rf (2, 11, xi, xp, 2, xc)))) 1 rfl ?_
            refine am_b1_lt rfl (fun z => ?_) (fun z => ?_)
            · replace h := h.1 z
              refine am_wpb (c' := (53, [some (.ref 0), some (.int v1), some (.int v2), some (.int v3), some (.int v4), some (.int v5), some (.int r1), none, none, none], [.int (-1)], (I3, L3, D3, am_rf (2, 11, xi, xp, 2, xc)))) 1 rfl ?_
              exact am_ret_i rfl rfl h
            · replace h := h.2 z
              refine am_wpb (c' := (49, [some (.ref 0), some (.int v1), some (.int v2), some (.int v3), some (.int v4), some (.int v5), some (.int r1), none, none, none], [.int 2, .int v5], (I3, L3, D3, am_rf (2, 11, xi, xp, 2, xc)))) 2 rfl ?_
              refine am_b2_le rfl (fun z => ?_) (fun z => ?_)
              · replace h := h.1 z
                refine am_wpb (c' := (60, [some (.ref 0), some (.int v1), some (.int v2), some (.int v3), some (.int v4), some (.int v5), some (.int r1), some (.int 0), some (.int 0), none], [], (I3, L3, D3, am_rf (2, 11, xi, xp, 2, xc)))) 4 rfl ?_
                exact am_fgt (l := [some (.ref 0), none, some (.int v2), some (.int v3), some (.int v4), some (.int v5), some (.int r1), some (.int 0), some (.int 0), none]) (am_le_of (am_leS (am_leN (am_leS (am_leS (am_leS (am_leS (am_leS (am_leS (am_leS (am_leN (am_leZ)))))))))))) h
              · replace h := h.2 z
                refine am_wpb (c' := (53, [some (.ref 0), some (.int v1), some (.int v2), some (.int v3), some (.int v4), some (.int v5), some (.int r1), none, none, none], [.int (-1)], (I3, L3, D3, am_rf (2, 11, xi, xp, 2, xc)))) 1 rfl ?_
                exact am_ret_i rfl rfl h
      · replace h := h.2 z
        refine am_wpb (c' := (27, [some (.ref 0), some (.int v1), some (.int v2), some (.int v3), some (.int v4), some (.int v5), some (.int r1), none, none, none], [.int (-1)], (I3, L3, D3, am_rf (2, 11, xi, xp, 2, xc)))) 1 rfl ?_
        exact am_ret_i rfl rfl h
theorem w107_60 {ext : Nat → List Value → am_M → Option am_R} {d : Nat} {P : am_R → Prop} (I : Nat → Nat → Int32) (L : Nat → Nat → Int64) (D : Nat → Nat → UInt64) (xc : Nat) (xi : Nat) (xp : Nat) (v2 : Int32) (v3 : Int32) (v4 : Int32) (v5 : Int32) (v6 : Int32) (v7 : Int32) (v8 : Int32)
    (h : ((16 ≤ v8 → (P (some (.int v7), (I, L, D, am_rf (2, 11, xi, xp, 2, xc))))) ∧ (¬ 16 ≤ v8 → (((63 < (v2 + v8) → (P (some (.int v7), (I, L, D, am_rf (2, 11, xi, xp, 2, xc))))) ∧ (¬ 63 < (v2 + v8) → (∃ (I1 : Nat → Nat → Int32) (L1 : Nat → Nat → Int64) (D1 : Nat → Nat → UInt64), am_Rn ext d 1 [.ref 39, .ref 2, .int v6, .int (v2 + v8)] (I, L, D, am_rf (2, 11, xi, xp, 2, xc)) (none, (I1, L1, D1, am_rf (2, 11, xi, 2, 2, 2))) ∧ (am_wp ext d mz_107 (96, [some (.ref 0), none, some (.int v2), some (.int v3), some (.int v4), some (.int v5), some (.int v6), some (.int v7), some (.int v8), some (.int 0)], [], (I1, L1, D1, am_rf (2, 11, xi, 2, 2, 2))) P)))))))) : am_wp ext d mz_107 (60, [some (.ref 0), none, some (.int v2), some (.int v3), some (.int v4), some (.int v5), some (.int v6), some (.int v7), some (.int v8), none], [], (I, L, D, am_rf (2, 11, xi, xp, 2, xc))) P := by
  refine am_wpb (c' := (64, [some (.ref 0), none, some (.int v2), some (.int v3), some (.int v4), some (.int v5), some (.int v6), some (.int v7), some (.int v8), none], [.int 16, .int v8], (I, L, D, am_rf (2, 11, xi, xp, 2, xc)))) 2 rfl ?_
  refine am_b2_ge rfl (fun z => ?_) (fun z => ?_)
  · replace h := h.1 z
    refine am_wpb (c' := (152, [some (.ref 0), none, some (.int v2), some (.int v3), some (.int v4), some (.int v5), some (.int v6), some (.int v7), some (.int v8), none], [.int v7], (I, L, D, am_rf (2, 11, xi, xp, 2, xc)))) 1 rfl ?_
    exact am_ret_i rfl rfl h
  · replace h := h.2 z
    refine am_wpb (c' := (73, [some (.ref 0), none, some (.int v2), some (.int v3), some (.int v4), some (.int v5), some (.int v6), some (.int v7), some (.int v8), none], [.int 63, .int (v2 + v8)], (I, L, D, am_rf (2, 11, xi, xp, 2, xc)))) 4 rfl ?_
    refine am_b2_gt rfl (fun z => ?_) (fun z => ?_)
    · replace h := h.1 z
      refine am_wpb (c' := (152, [some (.ref 0), none, some (.int v2), some (.int v3), some (.int v4), some (.int v5), some (.int v6), some (.int v7), some (.int v8), none], [.int v7], (I, L, D, am_rf (2, 11, xi, xp, 2, xc)))) 1 rfl ?_
      exact am_ret_i rfl rfl h
    · replace h := h.2 z
      refine am_wpb (c' := (90, [some (.ref 0), none, some (.int v2), some (.int v3), some (.int v4), some (.int v5), some (.int v6), some (.int v7), some (.int v8), none], [.int (v2 + v8), .int v6, .ref 2, .ref 39], (I, L, D, am_rf (2, 11, xi, xp, 2, xc)))) 8 rfl ?_
      obtain ⟨I1, L1, D1, hr, h⟩ := h
      refine am_wp_inv (as := [.ref 39, .ref 2, .int v6, .int (v2 + v8)]) rfl rfl rfl rfl ⟨_, hr, ?_⟩
      show am_wp ext d mz_107 (93, [some (.ref 0), none, some (.int v2), some (.int v3), some (.int v4), some (.int v5), some (.int v6), some (.int v7), some (.int v8), none], [], (I1, L1, D1, am_rf (2, 11, xi, 2, 2, 2))) P
      refine am_wpb (c' := (96, [some (.ref 0), none, some (.int v2), some (.int v3), some (.int v4), some (.int v5), some (.int v6), some (.int v7), some (.int v8), some (.int 0)], [], (I1, L1, D1, am_rf (2, 11, xi, 2, 2, 2)))) 2 rfl ?_
      exact h
theorem w107_96 {ext : Nat → List Value → am_M → Option am_R} {d : Nat} {P : am_R → Prop} (I : Nat → Nat → Int32) (L : Nat → Nat → Int64) (D : Nat → Nat → UInt64) (xi : Nat) (v2 : Int32) (v3 : Int32) (v4 : Int32) (v5 : Int32) (v6 : Int32) (v7 : Int32) (v8 : Int32) (v9 : Int32)
    (h : ((v4 ≤ v9 → (am_wp ext d mz_107 (60, [some (.ref 0), none, some (.int v2), some (.int v3), some (.int v4), some (.int v5), some (.int v6), some (.int v7), some (.int (v8 + 1)), none], [], (I, L, D, am_rf (2, 11, xi, 2, 2, 2))) P)) ∧ (¬ v4 ≤ v9 → (((63 < (v3 + v9) → (am_wp ext d mz_107 (60, [some (.ref 0), none, some (.int v2), some (.int v3), some (.int v4), some (.int v5), some (.int v6), some (.int v7), some (.int (v8 + 1)), none], [], (I, L, D, am_rf (2, 11, xi, 2, 2, 2))) P)) ∧ (¬ 63 < (v3 + v9) → (∃ (r1 : Int32) (I1 : Nat → Nat → Int32) (L1 : Nat → Nat → Int64) (D1 : Nat → Nat → UInt64), am_Rn ext d 2 [.ref 39, .int (v3 + v9)] (I, L, D, am_rf (2, 11, xi, 2, 2, 2)) (some (.int r1), (I1, L1, D1, am_rf (2, 11, xi, 2, 2, 2))) ∧ (((¬ r1 = v5 → (am_wp ext d mz_107 (96, [some (.ref 0), none, some (.int v2), some (.int v3), some (.int v4), some (.int v5), some (.int v6), some (.int (v7 + 0)), some (.int v8), some (.int (v9 + 1))], [], (I1, L1, D1, am_rf (2, 11, xi, 2, 2, 2))) P)) ∧ (r1 = v5 → (am_wp ext d mz_107 (96, [some (.ref 0), none, some (.int v2), some (.int v3), some (.int v4), some (.int v5), some (.int v6), some (.int (v7 + 1)), some (.int v8), some (.int (v9 + 1))], [], (I1, L1, D1, am_rf (2, 11, xi, 2, 2, 2))) P))))))))))) : am_wp ext d mz_107 (96, [some (.ref 0), none, some (.int v2), some (.int v3), some (.int v4), some (.int v5), some (.int v6), some (.int v7), some (.int v8), some (.int v9)], [], (I, L, D, am_rf (2, 11, xi, 2, 2, 2))) P := by
  refine am_wpb (c' := (100, [some (.ref 0), none, some (.int v2), some (.int v3), some (.int v4), some (.int v5), some (.int v6), some (.int v7), some (.int v8), some (.int v9)], [.int v4, .int v9], (I, L, D, am_rf (2, 11, xi, 2, 2, 2)))) 2 rfl ?_
  refine am_b2_ge rfl (fun z => ?_) (fun z => ?_)
  · replace h := h.1 z
    refine am_wpb (c' := (60, [some (.ref 0), none, some (.int v2), some (.int v3), some (.int v4), some (.int v5), some (.int v6), some (.int v7), some (.int (v8 + 1)), some (.int v9)], [], (I, L, D, am_rf (2, 11, xi, 2, 2, 2)))) 2 rfl ?_
    exact am_fgt (l := [some (.ref 0), none, some (.int v2), some (.int v3), some (.int v4), some (.int v5), some (.int v6), some (.int v7), some (.int (v8 + 1)), none]) (am_le_of (am_leS (am_leN (am_leS (am_leS (am_leS (am_leS (am_leS (am_leS (am_leS (am_leN (am_leZ)))))))))))) h
  · replace h := h.2 z
    refine am_wpb (c' := (109, [some (.ref 0), none, some (.int v2), some (.int v3), some (.int v4), some (.int v5), some (.int v6), some (.int v7), some (.int v8), some (.int v9)], [.int 63, .int (v3 + v9)], (I, L, D, am_rf (2, 11, xi, 2, 2, 2)))) 4 rfl ?_
    refine am_b2_gt rfl (fun z => ?_) (fun z => ?_)
    · replace h := h.1 z
      refine am_wpb (c' := (60, [some (.ref 0), none, some (.int v2), some (.int v3), some (.int v4), some (.int v5), some (.int v6), some (.int v7), some (.int (v8 + 1)), some (.int v9)], [], (I, L, D, am_rf (2, 11, xi, 2, 2, 2)))) 2 rfl ?_
      exact am_fgt (l := [some (.ref 0), none, some (.int v2), some (.int v3), some (.int v4), some (.int v5), some (.int v6), some (.int v7), some (.int (v8 + 1)), none]) (am_le_of (am_leS (am_leN (am_leS (am_leS (am_leS (am_leS (am_leS (am_leS (am_leS (am_leN (am_leZ)))))))))))) h
    · replace h := h.2 z
      refine am_wpb (c' := (122, [some (.ref 0), none, some (.int v2), some (.int v3), some (.int v4), some (.int v5), some (.int v6), some (.int v7), some (.int v8), some (.int v9)], [.int (v3 + v9), .ref 39, .int v7], (I, L, D, am_rf (2, 11, xi, 2, 2, 2)))) 6 rfl ?_
      obtain ⟨r1, I1, L1, D1, hr, h⟩ := h
      refine am_wp_inv (as := [.ref 39, .int (v3 + v9)]) rfl rfl rfl rfl ⟨_, hr, ?_⟩
      show am_wp ext d mz_107 (125, [some (.ref 0), none, some (.int v2), some (.int v3), some (.int v4), some (.int v5), some (.int v6), some (.int v7), some (.int v8), some (.int v9)], [.int r1, .int v7], (I1, L1, D1, am_rf (2, 11, xi, 2, 2, 2))) P
      refine am_wpb (c' := (127, [some (.ref 0), none, some (.int v2), some (.int v3), some (.int v4), some (.int v5), some (.int v6), some (.int v7), some (.int v8), some (.int v9)], [.int v5, .int r1, .int v7], (I1, L1, D1, am_rf (2, 11, xi, 2, 2, 2)))) 1 rfl ?_
      refine am_b2_ne rfl (fun z => ?_) (fun z => ?_)
      · replace h := h.1 z
        refine am_wpb (c' := (96, [some (.ref 0), none, some (.int v2), some (.int v3), some (.int v4), some (.int v5), some (.int v6), some (.int (v7 + 0)), some (.int v8), some (.int (v9 + 1))], [], (I1, L1, D1, am_rf (2, 11, xi, 2, 2, 2)))) 5 rfl ?_
        exact h
      · replace h := h.2 z
        refine am_wpb (c' := (96, [some (.ref 0), none, some (.int v2), some (.int v3), some (.int v4), some (.int v5), some (.int v6), some (.int (v7 + 1)), some (.int v8), some (.int (v9 + 1))], [], (I1, L1, D1, am_rf (2, 11, xi, 2, 2, 2)))) 6 rfl ?_
        exact h
/-- SureSums.off(I)I -/
def mz_109 : am_Y := (fun pc => am_q109.lookup pc, 5, 1)
theorem mh_109 : am_Ys 109 = some mz_109 := rfl
theorem w109_0 {ext : Nat → List Value → am_M → Option am_R} {d : Nat} {P : am_R → Prop} (I : Nat → Nat → Int32) (L : Nat → Nat → Int64) (D : Nat → Nat → UInt64) (xc : Nat) (xi : Nat) (xp : Nat) (v1 : Int32)
    (h : ∃ (r1 : Int32) (I1 : Nat → Nat → Int32) (L1 : Nat → Nat → Int64) (D1 : Nat → Nat → UInt64), am_Rn ext d 111 [.ref 0, .int v1] (I, L, D, am_rf (2, 11, xi, xp, 2, xc)) (some (.int r1), (I1, L1, D1, am_rf (2, 11, xi, xp, 2, xc))) ∧ (((0 ≤ r1 → (∃ (r2 : Int32) (I2 : Nat → Nat → Int32) (L2 : Nat → Nat → Int64) (D2 : Nat → Nat → UInt64), am_Rn ext d 4 [.ref 34, .int r1] (I1, L1, D1, am_rf (2, 11, xi, xp, 2, xc)) (some (.int r2), (I2, L2, D2, am_rf (2, 11, xi, xp, 2, xc))) ∧ (((r2 = 0 → (P (some (.int 2), (I2, L2, D2, am_rf (2, 11, xi, xp, 2, xc))))) ∧ (¬ r2 = 0 → (∃ (r3 : Int32) (I3 : Nat → Nat → Int32) (L3 : Nat → Nat → Int64) (D3 : Nat → Nat → UInt64), am_Rn ext d 60 [.ref 25, .ref 2, .int r1, .long 0, .long 0, .int 20] (I2, L2, D2, am_rf (2, 11, xi, xp, 2, xc)) (some (.int r3), (I3, L3, D3, am_rf (2, 11, xi, 2, 2, xc))) ∧ (((¬ r3 = 0 → (am_nn (FP.ddiv (FP.l2d (L3 25 9)) 4697254411347427328) = true ∧ (((0 ≤ (Op.cmpValue (FP.dcmp (D3 34 6) (FP.ddiv (FP.l2d (L3 25 9)) 4697254411347427328)) .g) → (am_nn (FP.ddiv (FP.l2d (L3 25 10)) 4697254411347427328) = true ∧ ((((Op.cmpValue (FP.dcmp (D3 34 6) (FP.ddiv (FP.l2d (L3 25 10)) 4697254411347427328)) .l) ≤ 0 → (P (some (.int 0), (I3, L3, D3, am_rf (2, 11, xi, 2, 2, xc))))) ∧ (¬ (Op.cmpValue (FP.dcmp (D3 34 6) (FP.ddiv (FP.l2d (L3 25 10)) 4697254411347427328)) .l) ≤ 0 → (P (some (.int 1), (I3, L3, D3, am_rf (2, 11, xi, 2, 2, xc))))))))) ∧ (¬ 0 ≤ (Op.cmpValue (FP.dcmp (D3 34 6) (FP.ddiv (FP.l2d (L3 25 9)) 4697254411347427328)) .g) → (P (some (.int (-1)), (I3, L3, D3, am_rf (2, 11, xi, 2, 2, xc))))))))) ∧ (r3 = 0 → (P (some (.int 2), (I3, L3, D3, am_rf (2, 11, xi, 2, 2, xc))))))))))))) ∧ (¬ 0 ≤ r1 → (P (some (.int (-1)), (I1, L1, D1, am_rf (2, 11, xi, xp, 2, xc)))))))) : am_wp ext d mz_109 (0, [some (.ref 0), some (.int v1), none, none, none], [], (I, L, D, am_rf (2, 11, xi, xp, 2, xc))) P := by
  refine am_wpb (c' := (2, [some (.ref 0), some (.int v1), none, none, none], [.int v1, .ref 0], (I, L, D, am_rf (2, 11, xi, xp, 2, xc)))) 2 rfl ?_
  obtain ⟨r1, I1, L1, D1, hr, h⟩ := h
  refine am_wp_inv (as := [.ref 0, .int v1]) rfl rfl rfl rfl ⟨_, hr, ?_⟩
  show am_wp ext d mz_109 (5, [some (.ref 0), some (.int v1), none, none, none], [.int r1], (I1, L1, D1, am_rf (2, 11, xi, xp, 2, xc))) P
  refine am_wpb (c' := (7, [some (.ref 0), some (.int v1), some (.int r1), none, none], [.int r1], (I1, L1, D1, am_rf (2, 11, xi, xp, 2, xc)))) 2 rfl ?_
  refine am_b1_ge rfl (fun z => ?_) (fun z => ?_)
  · replace h := h.1 z
    refine am_wpb (c' := (17, [some (.ref 0), some (.int v1), some (.int r1), none, none], [.int r1, .ref 34], (I1, L1, D1, am_rf (2, 11, xi, xp, 2, xc)))) 3 rfl ?_
    obtain ⟨r2, I2, L2, D2, hr, h⟩ := h
    refine am_wp_inv (as := [.ref 34, .int r1]) rfl rfl rfl rfl ⟨_, hr, ?_⟩
    show am_wp ext d mz_109 (20, [some (.ref 0), some (.int v1), some (.int r1), none, none], [.int r2], (I2, L2, D2, am_rf (2, 11, xi, xp, 2, xc))) P
    refine am_b1_eq rfl (fun z => ?_) (fun z => ?_)
    · replace h := h.1 z
      refine am_wpb (c' := (43, [some (.ref 0), some (.int v1), some (.int r1), none, none], [.int 2], (I2, L2, D2, am_rf (2, 11, xi, xp, 2, xc)))) 1 rfl ?_
      exact am_ret_i rfl rfl h
    · replace h := h.2 z
      refine am_wpb (c' := (36, [some (.ref 0), some (.int v1), some (.int r1), none, none], [.int 20, .long 0, .long 0, .int r1, .ref 2, .ref 25], (I2, L2, D2, am_rf (2, 11, xi, xp, 2, xc)))) 8 rfl ?_
      obtain ⟨r3, I3, L3, D3, hr, h⟩ := h
      refine am_wp_inv (as := [.ref 25, .ref 2, .int r1, .long 0, .long 0, .int 20]) rfl rfl rfl rfl ⟨_, hr, ?_⟩
      show am_wp ext d mz_109 (39, [some (.ref 0), some (.int v1), some (.int r1), none, none], [.int r3], (I3, L3, D3, am_rf (2, 11, xi, 2, 2, xc))) P
      refine am_b1_ne rfl (fun z => ?_) (fun z => ?_)
      · replace h := h.1 z
        refine am_wpb (c' := (64, [some (.ref 0), some (.int v1), some (.int r1), some (.double 4697254411347427328), none], [.double 4697254411347427328, .double (FP.l2d (L3 25 9)), .double (D3 34 6)], (I3, L3, D3, am_rf (2, 11, xi, 2, 2, xc)))) 10 rfl ?_
        obtain ⟨o, h⟩ := h
        refine am_wps (c' := (65, [some (.ref 0), some (.int v1), some (.int r1), some (.double 4697254411347427328), none], [.double (FP.ddiv (FP.l2d (L3 25 9)) 4697254411347427328), .double (D3 34 6)], (I3, L3, D3, am_rf (2, 11, xi, 2, 2, xc)))) rfl rfl (am_s_ddiv o) ?_
        refine am_wpb (c' := (66, [some (.ref 0), some (.int v1), some (.int r1), some (.double 4697254411347427328), none], [.int (Op.cmpValue (FP.dcmp (D3 34 6) (FP.ddiv (FP.l2d (L3 25 9)) 4697254411347427328)) .g)], (I3, L3, D3, am_rf (2, 11, xi, 2, 2, xc)))) 1 rfl ?_
        refine am_b1_ge rfl (fun z => ?_) (fun z => ?_)
        · replace h := h.1 z
          refine am_wpb (c' := (87, [some (.ref 0), some (.int v1), some (.int r1), some (.double 4697254411347427328), none], [.double 4697254411347427328, .double (FP.l2d (L3 25 10)), .double (D3 34 6)], (I3, L3, D3, am_rf (2, 11, xi, 2, 2, xc)))) 8 rfl ?_
          obtain ⟨o, h⟩ := h
          refine am_wps (c' := (88, [some (.ref 0), some (.int v1), some (.int r1), some (.double 4697254411347427328), none], [.double (FP.ddiv (FP.l2d (L3 25 10)) 4697254411347427328), .double (D3 34 6)], (I3, L3, D3, am_rf (2, 11, xi, 2, 2, xc)))) rfl rfl (am_s_ddiv o) ?_
          refine am_wpb (c' := (89, [some (.ref 0), some (.int v1), some (.int r1), some (.double 4697254411347427328), none], [.int (Op.cmpValue (FP.dcmp (D3 34 6) (FP.ddiv (FP.l2d (L3 25 10)) 4697254411347427328)) .l)], (I3, L3, D3, am_rf (2, 11, xi, 2, 2, xc)))) 1 rfl ?_
          refine am_b1_le rfl (fun z => ?_) (fun z => ?_)
          · replace h := h.1 z
            refine am_wpb (c' := (97, [some (.ref 0), some (.int v1), some (.int r1), some (.double 4697254411347427328), none], [.int 0], (I3, L3, D3, am_rf (2, 11, xi, 2, 2, xc)))) 1 rfl ?_
            exact am_ret_i rfl rfl h
          · replace h := h.2 z
            refine am_wpb (c' := (97, [some (.ref 0), some (.int v1), some (.int r1), some (.double 4697254411347427328), none], [.int 1], (I3, L3, D3, am_rf (2, 11, xi, 2, 2, xc)))) 2 rfl ?_
            exact am_ret_i rfl rfl h
        · replace h := h.2 z
          refine am_wpb (c' := (70, [some (.ref 0), some (.int v1), some (.int r1), some (.double 4697254411347427328), none], [.int (-1)], (I3, L3, D3, am_rf (2, 11, xi, 2, 2, xc)))) 1 rfl ?_
          exact am_ret_i rfl rfl h
      · replace h := h.2 z
        refine am_wpb (c' := (43, [some (.ref 0), some (.int v1), some (.int r1), none, none], [.int 2], (I3, L3, D3, am_rf (2, 11, xi, 2, 2, xc)))) 1 rfl ?_
        exact am_ret_i rfl rfl h
  · replace h := h.2 z
    refine am_wpb (c' := (11, [some (.ref 0), some (.int v1), some (.int r1), none, none], [.int (-1)], (I1, L1, D1, am_rf (2, 11, xi, xp, 2, xc)))) 1 rfl ?_
    exact am_ret_i rfl rfl h
/-- SureSums.count(I)I -/
def mz_110 : am_Y := (fun pc => am_q110.lookup pc, 2, 1)
theorem mh_110 : am_Ys 110 = some mz_110 := rfl
theorem w110_0 {ext : Nat → List Value → am_M → Option am_R} {d : Nat} {P : am_R → Prop} (I : Nat → Nat → Int32) (L : Nat → Nat → Int64) (D : Nat → Nat → UInt64) (xc : Nat) (xi : Nat) (xp : Nat) (v1 : Int32)
    (h : ((v1 = 0 → (P (some (.int (I 2 10)), (I, L, D, am_rf (2, 11, xi, xp, 2, xc))))) ∧ (v1 = 1 → (P (some (.int (I 2 11)), (I, L, D, am_rf (2, 11, xi, xp, 2, xc))))) ∧ (v1 = 2 → (P (some (.int (I 2 12)), (I, L, D, am_rf (2, 11, xi, xp, 2, xc))))) ∧ (v1 = 3 → (P (some (.int (I 2 9)), (I, L, D, am_rf (2, 11, xi, xp, 2, xc))))) ∧ (¬ v1 = 0 ∧ ¬ v1 = 1 ∧ ¬ v1 = 2 ∧ ¬ v1 = 3 → (P (some (.int (-1)), (I, L, D, am_rf (2, 11, xi, xp, 2, xc))))))) : am_wp ext d mz_110 (0, [some (.ref 0), some (.int v1)], [], (I, L, D, am_rf (2, 11, xi, xp, 2, xc))) P := by
  refine am_wpb (c' := (1, [some (.ref 0), some (.int v1)], [.int v1], (I, L, D, am_rf (2, 11, xi, xp, 2, xc)))) 1 rfl ?_
  have hsw := am_swc v1 0 3
  by_cases c0 : v1 = 0
  · replace h := h.1 c0
    have e := c0
    refine am_ts_in 0 rfl (by rw [e]; rfl) (by decide) rfl ?_
    refine am_wpb (c' := (39, [some (.ref 0), some (.int v1)], [.int (I 2 10)], (I, L, D, am_rf (2, 11, xi, xp, 2, xc)))) 3 rfl ?_
    exact am_ret_i rfl rfl h
  by_cases c1 : v1 = 1
  · replace h := h.2.1 c1
    have e := c1
    refine am_ts_in 1 rfl (by rw [e]; rfl) (by decide) rfl ?_
    refine am_wpb (c' := (47, [some (.ref 0), some (.int v1)], [.int (I 2 11)], (I, L, D, am_rf (2, 11, xi, xp, 2, xc)))) 3 rfl ?_
    exact am_ret_i rfl rfl h
  by_cases c2 : v1 = 2
  · replace h := h.2.2.1 c2
    have e := c2
    refine am_ts_in 2 rfl (by rw [e]; rfl) (by decide) rfl ?_
    refine am_wpb (c' := (55, [some (.ref 0), some (.int v1)], [.int (I 2 12)], (I, L, D, am_rf (2, 11, xi, xp, 2, xc)))) 3 rfl ?_
    exact am_ret_i rfl rfl h
  by_cases c3 : v1 = 3
  · replace h := h.2.2.2.1 c3
    have e := c3
    refine am_ts_in 3 rfl (by rw [e]; rfl) (by decide) rfl ?_
    refine am_wpb (c' := (63, [some (.ref 0), some (.int v1)], [.int (I 2 9)], (I, L, D, am_rf (2, 11, xi, xp, 2, xc)))) 3 rfl ?_
    exact am_ret_i rfl rfl h
  replace h := h.2.2.2.2 ⟨fun e => c0 (e), fun e => c1 (e), fun e => c2 (e), fun e => c3 (e)⟩
  rcases hsw with hsw | ⟨k, hk, hsw⟩
  · refine am_ts_out rfl hsw ?_
    refine am_wpb (c' := (65, [some (.ref 0), some (.int v1)], [.int (-1)], (I, L, D, am_rf (2, 11, xi, xp, 2, xc)))) 1 rfl ?_
    exact am_ret_i rfl rfl h
  · refine am_ts_in (t := 64) k rfl hsw (by omega) ?_ ?_
    · refine am_sw_d (bad := [0, 1, 2, 3]) hk (by decide) (fun hm => ?_)
      simp only [List.mem_cons, List.not_mem_nil, or_false] at hm
      rcases hm with e | e | e | e
      · exact c0 (am_i32 (v := 0) (by rw [hsw, e]; rfl))
      · exact c1 (am_i32 (v := 1) (by rw [hsw, e]; rfl))
      · exact c2 (am_i32 (v := 2) (by rw [hsw, e]; rfl))
      · exact c3 (am_i32 (v := 3) (by rw [hsw, e]; rfl))
    · skip
      refine am_wpb (c' := (65, [some (.ref 0), some (.int v1)], [.int (-1)], (I, L, D, am_rf (2, 11, xi, xp, 2, xc)))) 1 rfl ?_
      exact am_ret_i rfl rfl h
/-- SureSums.numberLine(I)I -/
def mz_111 : am_Y := (fun pc => am_q111.lookup pc, 3, 1)
theorem mh_111 : am_Ys 111 = some mz_111 := rfl
theorem w111_0 {ext : Nat → List Value → am_M → Option am_R} {d : Nat} {P : am_R → Prop} (I : Nat → Nat → Int32) (L : Nat → Nat → Int64) (D : Nat → Nat → UInt64) (xc : Nat) (xi : Nat) (xp : Nat) (v1 : Int32)
    (h : ∃ (r1 : Int32) (I1 : Nat → Nat → Int32) (L1 : Nat → Nat → Int64) (D1 : Nat → Nat → UInt64), am_Rn ext d 32 [.ref 2, .int v1] (I, L, D, am_rf (2, 11, xi, xp, 2, xc)) (some (.int r1), (I1, L1, D1, am_rf (2, 11, xi, xp, 2, xc))) ∧ (((r1 < 0 → (P (some (.int (-1)), (I1, L1, D1, am_rf (2, 11, xi, xp, 2, xc))))) ∧ (¬ r1 < 0 → (∃ (r2 : Int32) (I2 : Nat → Nat → Int32) (L2 : Nat → Nat → Int64) (D2 : Nat → Nat → UInt64), am_Rn ext d 33 [.ref 2, .int r1] (I1, L1, D1, am_rf (2, 11, xi, xp, 2, xc)) (some (.int r2), (I2, L2, D2, am_rf (2, 11, xi, xp, 2, xc))) ∧ (((¬ r2 = 0 → (P (some (.int (-1)), (I2, L2, D2, am_rf (2, 11, xi, xp, 2, xc))))) ∧ (r2 = 0 → (P (some (.int r1), (I2, L2, D2, am_rf (2, 11, xi, xp, 2, xc)))))))))))) : am_wp ext d mz_111 (0, [some (.ref 0), some (.int v1), none], [], (I, L, D, am_rf (2, 11, xi, xp, 2, xc))) P := by
  refine am_wpb (c' := (5, [some (.ref 0), some (.int v1), none], [.int v1, .ref 2], (I, L, D, am_rf (2, 11, xi, xp, 2, xc)))) 3 rfl ?_
  obtain ⟨r1, I1, L1, D1, hr, h⟩ := h
  refine am_wp_inv (as := [.ref 2, .int v1]) rfl rfl rfl rfl ⟨_, hr, ?_⟩
  show am_wp ext d mz_111 (8, [some (.ref 0), some (.int v1), none], [.int r1], (I1, L1, D1, am_rf (2, 11, xi, xp, 2, xc))) P
  refine am_wpb (c' := (10, [some (.ref 0), some (.int v1), some (.int r1)], [.int r1], (I1, L1, D1, am_rf (2, 11, xi, xp, 2, xc)))) 2 rfl ?_
  refine am_b1_lt rfl (fun z => ?_) (fun z => ?_)
  · replace h := h.1 z
    refine am_wpb (c' := (29, [some (.ref 0), some (.int v1), some (.int r1)], [.int (-1)], (I1, L1, D1, am_rf (2, 11, xi, xp, 2, xc)))) 1 rfl ?_
    exact am_ret_i rfl rfl h
  · replace h := h.2 z
    refine am_wpb (c' := (18, [some (.ref 0), some (.int v1), some (.int r1)], [.int r1, .ref 2], (I1, L1, D1, am_rf (2, 11, xi, xp, 2, xc)))) 3 rfl ?_
    obtain ⟨r2, I2, L2, D2, hr, h⟩ := h
    refine am_wp_inv (as := [.ref 2, .int r1]) rfl rfl rfl rfl ⟨_, hr, ?_⟩
    show am_wp ext d mz_111 (21, [some (.ref 0), some (.int v1), some (.int r1)], [.int r2], (I2, L2, D2, am_rf (2, 11, xi, xp, 2, xc))) P
    refine am_b1_ne rfl (fun z => ?_) (fun z => ?_)
    · replace h := h.1 z
      refine am_wpb (c' := (29, [some (.ref 0), some (.int v1), some (.int r1)], [.int (-1)], (I2, L2, D2, am_rf (2, 11, xi, xp, 2, xc)))) 1 rfl ?_
      exact am_ret_i rfl rfl h
    · replace h := h.2 z
      refine am_wpb (c' := (29, [some (.ref 0), some (.int v1), some (.int r1)], [.int r1], (I2, L2, D2, am_rf (2, 11, xi, xp, 2, xc)))) 2 rfl ?_
      exact am_ret_i rfl rfl h
/-- SureSums.functionLine(I)I -/
def mz_112 : am_Y := (fun pc => am_q112.lookup pc, 3, 1)
theorem mh_112 : am_Ys 112 = some mz_112 := rfl
theorem w112_0 {ext : Nat → List Value → am_M → Option am_R} {d : Nat} {P : am_R → Prop} (I : Nat → Nat → Int32) (L : Nat → Nat → Int64) (D : Nat → Nat → UInt64) (xc : Nat) (xi : Nat) (xp : Nat) (v1 : Int32)
    (h : ∃ (r1 : Int32) (I1 : Nat → Nat → Int32) (L1 : Nat → Nat → Int64) (D1 : Nat → Nat → UInt64), am_Rn ext d 32 [.ref 2, .int v1] (I, L, D, am_rf (2, 11, xi, xp, 2, xc)) (some (.int r1), (I1, L1, D1, am_rf (2, 11, xi, xp, 2, xc))) ∧ (∃ (r2 : Int32) (I2 : Nat → Nat → Int32) (L2 : Nat → Nat → Int64) (D2 : Nat → Nat → UInt64), am_Rn ext d 33 [.ref 2, .int r1] (I1, L1, D1, am_rf (2, 11, xi, xp, 2, xc)) (some (.int r2), (I2, L2, D2, am_rf (2, 11, xi, xp, 2, xc))) ∧ (((r2 = 0 → (P (some (.int (-1)), (I2, L2, D2, am_rf (2, 11, xi, xp, 2, xc))))) ∧ (¬ r2 = 0 → (P (some (.int r1), (I2, L2, D2, am_rf (2, 11, xi, xp, 2, xc))))))))) : am_wp ext d mz_112 (0, [some (.ref 0), some (.int v1), none], [], (I, L, D, am_rf (2, 11, xi, xp, 2, xc))) P := by
  refine am_wpb (c' := (5, [some (.ref 0), some (.int v1), none], [.int v1, .ref 2], (I, L, D, am_rf (2, 11, xi, xp, 2, xc)))) 3 rfl ?_
  obtain ⟨r1, I1, L1, D1, hr, h⟩ := h
  refine am_wp_inv (as := [.ref 2, .int v1]) rfl rfl rfl rfl ⟨_, hr, ?_⟩
  show am_wp ext d mz_112 (8, [some (.ref 0), some (.int v1), none], [.int r1], (I1, L1, D1, am_rf (2, 11, xi, xp, 2, xc))) P
  refine am_wpb (c' := (14, [some (.ref 0), some (.int v1), some (.int r1)], [.int r1, .ref 2], (I1, L1, D1, am_rf (2, 11, xi, xp, 2, xc)))) 4 rfl ?_
  obtain ⟨r2, I2, L2, D2, hr, h⟩ := h
  refine am_wp_inv (as := [.ref 2, .int r1]) rfl rfl rfl rfl ⟨_, hr, ?_⟩
  show am_wp ext d mz_112 (17, [some (.ref 0), some (.int v1), some (.int r1)], [.int r2], (I2, L2, D2, am_rf (2, 11, xi, xp, 2, xc))) P
  refine am_b1_eq rfl (fun z => ?_) (fun z => ?_)
  · replace h := h.1 z
    refine am_wpb (c' := (25, [some (.ref 0), some (.int v1), some (.int r1)], [.int (-1)], (I2, L2, D2, am_rf (2, 11, xi, xp, 2, xc)))) 1 rfl ?_
    exact am_ret_i rfl rfl h
  · replace h := h.2 z
    refine am_wpb (c' := (25, [some (.ref 0), some (.int v1), some (.int r1)], [.int r1], (I2, L2, D2, am_rf (2, 11, xi, xp, 2, xc)))) 2 rfl ?_
    exact am_ret_i rfl rfl h
/-- SureSums.bitsFit(I)Z -/
def mz_113 : am_Y := (fun pc => am_q113.lookup pc, 1, 2)
theorem mh_113 : am_Ys 113 = some mz_113 := rfl
theorem w113_0 {ext : Nat → List Value → am_M → Option am_R} {d : Nat} {P : am_R → Prop} (I : Nat → Nat → Int32) (L : Nat → Nat → Int64) (D : Nat → Nat → UInt64) (xc : Nat) (xi : Nat) (xp : Nat) (v0 : Int32)
    (h : ((v0 < 4 → (P (some (.int 0), (I, L, D, am_rf (2, 11, xi, xp, 2, xc))))) ∧ (¬ v0 < 4 → (((20 < v0 → (P (some (.int 0), (I, L, D, am_rf (2, 11, xi, xp, 2, xc))))) ∧ (¬ 20 < v0 → (P (some (.int 1), (I, L, D, am_rf (2, 11, xi, xp, 2, xc)))))))))) : am_wp ext d mz_113 (0, [some (.int v0)], [], (I, L, D, am_rf (2, 11, xi, xp, 2, xc))) P := by
  refine am_wpb (c' := (2, [some (.int v0)], [.int 4, .int v0], (I, L, D, am_rf (2, 11, xi, xp, 2, xc)))) 2 rfl ?_
  refine am_b2_lt rfl (fun z => ?_) (fun z => ?_)
  · replace h := h.1 z
    refine am_wpb (c' := (16, [some (.int v0)], [.int 0], (I, L, D, am_rf (2, 11, xi, xp, 2, xc)))) 1 rfl ?_
    exact am_ret_z rfl rfl (Or.inl rfl) h
  · replace h := h.2 z
    refine am_wpb (c' := (8, [some (.int v0)], [.int 20, .int v0], (I, L, D, am_rf (2, 11, xi, xp, 2, xc)))) 2 rfl ?_
    refine am_b2_gt rfl (fun z => ?_) (fun z => ?_)
    · replace h := h.1 z
      refine am_wpb (c' := (16, [some (.int v0)], [.int 0], (I, L, D, am_rf (2, 11, xi, xp, 2, xc)))) 1 rfl ?_
      exact am_ret_z rfl rfl (Or.inl rfl) h
    · replace h := h.2 z
      refine am_wpb (c' := (16, [some (.int v0)], [.int 1], (I, L, D, am_rf (2, 11, xi, xp, 2, xc)))) 2 rfl ?_
      exact am_ret_z rfl rfl (Or.inr rfl) h
/-- SureSums.squareFits(I)Z -/
def mz_114 : am_Y := (fun pc => am_q114.lookup pc, 1, 2)
theorem mh_114 : am_Ys 114 = some mz_114 := rfl
theorem w114_0 {ext : Nat → List Value → am_M → Option am_R} {d : Nat} {P : am_R → Prop} (I : Nat → Nat → Int32) (L : Nat → Nat → Int64) (D : Nat → Nat → UInt64) (xc : Nat) (xi : Nat) (xp : Nat) (v0 : Int32)
    (h : ((v0 < (-64) → (P (some (.int 0), (I, L, D, am_rf (2, 11, xi, xp, 2, xc))))) ∧ (¬ v0 < (-64) → (((63 < v0 → (P (some (.int 0), (I, L, D, am_rf (2, 11, xi, xp, 2, xc))))) ∧ (¬ 63 < v0 → (P (some (.int 1), (I, L, D, am_rf (2, 11, xi, xp, 2, xc)))))))))) : am_wp ext d mz_114 (0, [some (.int v0)], [], (I, L, D, am_rf (2, 11, xi, xp, 2, xc))) P := by
  refine am_wpb (c' := (3, [some (.int v0)], [.int (-64), .int v0], (I, L, D, am_rf (2, 11, xi, xp, 2, xc)))) 2 rfl ?_
  refine am_b2_lt rfl (fun z => ?_) (fun z => ?_)
  · replace h := h.1 z
    refine am_wpb (c' := (17, [some (.int v0)], [.int 0], (I, L, D, am_rf (2, 11, xi, xp, 2, xc)))) 1 rfl ?_
    exact am_ret_z rfl rfl (Or.inl rfl) h
  · replace h := h.2 z
    refine am_wpb (c' := (9, [some (.int v0)], [.int 63, .int v0], (I, L, D, am_rf (2, 11, xi, xp, 2, xc)))) 2 rfl ?_
    refine am_b2_gt rfl (fun z => ?_) (fun z => ?_)
    · replace h := h.1 z
      refine am_wpb (c' := (17, [some (.int v0)], [.int 0], (I, L, D, am_rf (2, 11, xi, xp, 2, xc)))) 1 rfl ?_
      exact am_ret_z rfl rfl (Or.inl rfl) h
    · replace h := h.2 z
      refine am_wpb (c' := (17, [some (.int v0)], [.int 1], (I, L, D, am_rf (2, 11, xi, xp, 2, xc)))) 2 rfl ?_
      exact am_ret_z rfl rfl (Or.inr rfl) h
/-- SureSumsModel.thrown()I -/
def mz_115 : am_Y := (fun pc => am_q115.lookup pc, 1, 1)
theorem mh_115 : am_Ys 115 = some mz_115 := rfl
theorem w115_0 {ext : Nat → List Value → am_M → Option am_R} {d : Nat} {P : am_R → Prop} (I : Nat → Nat → Int32) (L : Nat → Nat → Int64) (D : Nat → Nat → UInt64) (X : am_Rf)
    (h : P (some (.int (I 42 2)), (I, L, D, am_rf X))) : am_wp ext d mz_115 (0, [some (.ref 42)], [], (I, L, D, am_rf X)) P := by
  refine am_wpb (c' := (4, [some (.ref 42)], [.int (I 42 2)], (I, L, D, am_rf X))) 2 rfl ?_
  exact am_ret_i rfl rfl h
/-- SureSumsModel.feed(IIIII)I -/
def mz_116 : am_Y := (fun pc => am_q116.lookup pc, 8, 1)
theorem mh_116 : am_Ys 116 = some mz_116 := rfl
theorem w116_0 {ext : Nat → List Value → am_M → Option am_R} {d : Nat} {P : am_R → Prop} (I : Nat → Nat → Int32) (L : Nat → Nat → Int64) (D : Nat → Nat → UInt64) (X : am_Rf) (v1 : Int32) (v2 : Int32) (v3 : Int32) (v4 : Int32) (v5 : Int32)
    (h : ((((I 42 1) + 20) ≤ 500 → (am_wp ext d mz_116 (23, [some (.ref 42), some (.int v1), some (.int v2), some (.int v3), some (.int v4), some (.int v5), some (.int 0), none], [], (am_uI I 42 2 0, L, D, am_rf X)) P)) ∧ (¬ ((I 42 1) + 20) ≤ 500 → (P (some (.int (-1)), (am_uI I 42 2 0, L, D, am_rf X)))))) : am_wp ext d mz_116 (0, [some (.ref 42), some (.int v1), some (.int v2), some (.int v3), some (.int v4), some (.int v5), none, none], [], (I, L, D, am_rf X)) P := by
  refine am_wpb (c' := (15, [some (.ref 42), some (.int v1), some (.int v2), some (.int v3), some (.int v4), some (.int v5), none, none], [.int 500, .int ((I 42 1) + 20)], (am_uI I 42 2 0, L, D, am_rf X))) 8 rfl ?_
  refine am_b2_le rfl (fun z => ?_) (fun z => ?_)
  · replace h := h.1 z
    refine am_wpb (c' := (23, [some (.ref 42), some (.int v1), some (.int v2), some (.int v3), some (.int v4), some (.int v5), some (.int 0), none], [], (am_uI I 42 2 0, L, D, am_rf X))) 2 rfl ?_
    exact h
  · replace h := h.2 z
    refine am_wpb (c' := (19, [some (.ref 42), some (.int v1), some (.int v2), some (.int v3), some (.int v4), some (.int v5), none, none], [.int (-1)], (am_uI I 42 2 0, L, D, am_rf X))) 1 rfl ?_
    exact am_ret_i rfl rfl h
theorem w116_23 {ext : Nat → List Value → am_M → Option am_R} {d : Nat} {P : am_R → Prop} (I : Nat → Nat → Int32) (L : Nat → Nat → Int64) (D : Nat → Nat → UInt64) (X : am_Rf) (v1 : Int32) (v2 : Int32) (v3 : Int32) (v4 : Int32) (v5 : Int32) (v6 : Int32)
    (h : ((20 ≤ v6 → (P (some (.int ((I 42 1) + 20)), (am_uI I 42 1 ((I 42 1) + 20), L, D, am_rf X)))) ∧ (¬ 20 ≤ v6 → (((4 ≤ v6 → (((8 ≤ v6 → (((12 ≤ v6 → (((16 ≤ v6 → (am_wp ext d mz_116 (76, [some (.ref 42), some (.int v1), some (.int v2), some (.int v3), some (.int v4), some (.int v5), some (.int v6), none], [.int v5], (I, L, D, am_rf X)) P)) ∧ (¬ 16 ≤ v6 → (am_wp ext d mz_116 (76, [some (.ref 42), some (.int v1), some (.int v2), some (.int v3), some (.int v4), some (.int v5), some (.int v6), none], [.int v4], (I, L, D, am_rf X)) P))))) ∧ (¬ 12 ≤ v6 → (am_wp ext d mz_116 (76, [some (.ref 42), some (.int v1), some (.int v2), some (.int v3), some (.int v4), some (.int v5), some (.int v6), none], [.int v3], (I, L, D, am_rf X)) P))))) ∧ (¬ 8 ≤ v6 → (am_wp ext d mz_116 (76, [some (.ref 42), some (.int v1), some (.int v2), some (.int v3), some (.int v4), some (.int v5), some (.int v6), none], [.int v2], (I, L, D, am_rf X)) P))))) ∧ (¬ 4 ≤ v6 → (am_wp ext d mz_116 (76, [some (.ref 42), some (.int v1), some (.int v2), some (.int v3), some (.int v4), some (.int v5), some (.int v6), none], [.int v1], (I, L, D, am_rf X)) P))))))) : am_wp ext d mz_116 (23, [some (.ref 42), some (.int v1), some (.int v2), some (.int v3), some (.int v4), some (.int v5), some (.int v6), none], [], (I, L, D, am_rf X)) P := by
  refine am_wpb (c' := (27, [some (.ref 42), some (.int v1), some (.int v2), some (.int v3), some (.int v4), some (.int v5), some (.int v6), none], [.int 20, .int v6], (I, L, D, am_rf X))) 2 rfl ?_
  refine am_b2_ge rfl (fun z => ?_) (fun z => ?_)
  · replace h := h.1 z
    refine am_wpb (c' := (128, [some (.ref 42), some (.int v1), some (.int v2), some (.int v3), some (.int v4), some (.int v5), some (.int v6), none], [.int ((I 42 1) + 20)], (am_uI I 42 1 ((I 42 1) + 20), L, D, am_rf X))) 8 rfl ?_
    exact am_ret_i rfl rfl h
  · replace h := h.2 z
    refine am_wpb (c' := (33, [some (.ref 42), some (.int v1), some (.int v2), some (.int v3), some (.int v4), some (.int v5), some (.int v6), none], [.int 4, .int v6], (I, L, D, am_rf X))) 2 rfl ?_
    refine am_b2_ge rfl (fun z => ?_) (fun z => ?_)
    · replace h := h.1 z
      refine am_wpb (c' := (44, [some (.ref 42), some (.int v1), some (.int v2), some (.int v3), some (.int v4), some (.int v5), some (.int v6), none], [.int 8, .int v6], (I, L, D, am_rf X))) 2 rfl ?_
      refine am_b2_ge rfl (fun z => ?_) (fun z => ?_)
      · replace h := h.1 z
        refine am_wpb (c' := (55, [some (.ref 42), some (.int v1), some (.int v2), some (.int v3), some (.int v4), some (.int v5), some (.int v6), none], [.int 12, .int v6], (I, L, D, am_rf X))) 2 rfl ?_
        refine am_b2_ge rfl (fun z => ?_) (fun z => ?_)
        · replace h := h.1 z
          refine am_wpb (c' := (66, [some (.ref 42), some (.int v1), some (.int v2), some (.int v3), some (.int v4), some (.int v5), some (.int v6), none], [.int 16, .int v6], (I, L, D, am_rf X))) 2 rfl ?_
          refine am_b2_ge rfl (fun z => ?_) (fun z => ?_)
          · replace h := h.1 z
            refine am_wpb (c' := (76, [some (.ref 42), some (.int v1), some (.int v2), some (.int v3), some (.int v4), some (.int v5), some (.int v6), none], [.int v5], (I, L, D, am_rf X))) 1 rfl ?_
            exact h
          · replace h := h.2 z
            refine am_wpb (c' := (76, [some (.ref 42), some (.int v1), some (.int v2), some (.int v3), some (.int v4), some (.int v5), some (.int v6), none], [.int v4], (I, L, D, am_rf X))) 2 rfl ?_
            exact h
        · replace h := h.2 z
          refine am_wpb (c' := (76, [some (.ref 42), some (.int v1), some (.int v2), some (.int v3), some (.int v4), some (.int v5), some (.int v6), none], [.int v3], (I, L, D, am_rf X))) 2 rfl ?_
          exact h
      · replace h := h.2 z
        refine am_wpb (c' := (76, [some (.ref 42), some (.int v1), some (.int v2), some (.int v3), some (.int v4), some (.int v5), some (.int v6), none], [.int v2], (I, L, D, am_rf X))) 2 rfl ?_
        exact h
    · replace h := h.2 z
      refine am_wpb (c' := (76, [some (.ref 42), some (.int v1), some (.int v2), some (.int v3), some (.int v4), some (.int v5), some (.int v6), none], [.int v1], (I, L, D, am_rf X))) 2 rfl ?_
      exact h
theorem w116_76 {ext : Nat → List Value → am_M → Option am_R} {d : Nat} {P : am_R → Prop} (I : Nat → Nat → Int32) (L : Nat → Nat → Int64) (D : Nat → Nat → UInt64) (X : am_Rf) (v1 : Int32) (v2 : Int32) (v3 : Int32) (v4 : Int32) (v5 : Int32) (v6 : Int32) (s0 : Int32)
    (h : am_inb ((I 42 1) + v6) 500 = true ∧ (am_wp ext d mz_116 (23, [some (.ref 42), some (.int v1), some (.int v2), some (.int v3), some (.int v4), some (.int v5), some (.int (v6 + 1)), none], [], (am_uI I 43 (Int32.toNatClampNeg ((I 42 1) + v6)) ((s0 >>> ((24 - (8 * (v6 - v6 / 4 * 4))) &&& 31)) &&& 255), L, D, am_rf X)) P)) : am_wp ext d mz_116 (76, [some (.ref 42), some (.int v1), some (.int v2), some (.int v3), some (.int v4), some (.int v5), some (.int v6), none], [.int s0], (I, L, D, am_rf X)) P := by
  refine am_wpb (c' := (98, [some (.ref 42), some (.int v1), some (.int v2), some (.int v3), some (.int v4), some (.int v5), some (.int v6), some (.int s0)], [.int 4, .int v6, .int 8, .int 24, .int s0, .int ((I 42 1) + v6), .ref 43], (I, L, D, am_rf X))) 12 rfl ?_
  refine am_wps (c' := (99, [some (.ref 42), some (.int v1), some (.int v2), some (.int v3), some (.int v4), some (.int v5), some (.int v6), some (.int s0)], [.int (v6 - v6 / 4 * 4), .int 8, .int 24, .int s0, .int ((I 42 1) + v6), .ref 43], (I, L, D, am_rf X))) rfl rfl (am_s_irem (by decide)) ?_
  refine am_wpb (c' := (106, [some (.ref 42), some (.int v1), some (.int v2), some (.int v3), some (.int v4), some (.int v5), some (.int v6), some (.int s0)], [.int ((s0 >>> ((24 - (8 * (v6 - v6 / 4 * 4))) &&& 31)) &&& 255), .int ((I 42 1) + v6), .ref 43], (I, L, D, am_rf X))) 5 rfl ?_
  obtain ⟨o, h⟩ := h
  refine am_wps (c' := (107, [some (.ref 42), some (.int v1), some (.int v2), some (.int v3), some (.int v4), some (.int v5), some (.int v6), some (.int s0)], [], (am_uI I 43 (Int32.toNatClampNeg ((I 42 1) + v6)) ((s0 >>> ((24 - (8 * (v6 - v6 / 4 * 4))) &&& 31)) &&& 255), L, D, am_rf X))) rfl rfl (am_s_iast rfl o) ?_
  refine am_wpb (c' := (23, [some (.ref 42), some (.int v1), some (.int v2), some (.int v3), some (.int v4), some (.int v5), some (.int (v6 + 1)), some (.int s0)], [], (am_uI I 43 (Int32.toNatClampNeg ((I 42 1) + v6)) ((s0 >>> ((24 - (8 * (v6 - v6 / 4 * 4))) &&& 31)) &&& 255), L, D, am_rf X))) 2 rfl ?_
  exact am_fgt (l := [some (.ref 42), some (.int v1), some (.int v2), some (.int v3), some (.int v4), some (.int v5), some (.int (v6 + 1)), none]) (am_le_of (am_leS (am_leS (am_leS (am_leS (am_leS (am_leS (am_leS (am_leN (am_leZ)))))))))) h
/-- SureSumsModel.isIn(III)Z -/
def mz_117 : am_Y := (fun pc => am_q117.lookup pc, 3, 2)
theorem mh_117 : am_Ys 117 = some mz_117 := rfl
theorem w117_0 {ext : Nat → List Value → am_M → Option am_R} {d : Nat} {P : am_R → Prop} (I : Nat → Nat → Int32) (L : Nat → Nat → Int64) (D : Nat → Nat → UInt64) (X : am_Rf) (v0 : Int32) (v1 : Int32) (v2 : Int32)
    (h : ((v0 < v1 → (P (some (.int 0), (I, L, D, am_rf X)))) ∧ (¬ v0 < v1 → (((v2 < v0 → (P (some (.int 0), (I, L, D, am_rf X)))) ∧ (¬ v2 < v0 → (P (some (.int 1), (I, L, D, am_rf X))))))))) : am_wp ext d mz_117 (0, [some (.int v0), some (.int v1), some (.int v2)], [], (I, L, D, am_rf X)) P := by
  refine am_wpb (c' := (2, [some (.int v0), some (.int v1), some (.int v2)], [.int v1, .int v0], (I, L, D, am_rf X))) 2 rfl ?_
  refine am_b2_lt rfl (fun z => ?_) (fun z => ?_)
  · replace h := h.1 z
    refine am_wpb (c' := (15, [some (.int v0), some (.int v1), some (.int v2)], [.int 0], (I, L, D, am_rf X))) 1 rfl ?_
    exact am_ret_z rfl rfl (Or.inl rfl) h
  · replace h := h.2 z
    refine am_wpb (c' := (7, [some (.int v0), some (.int v1), some (.int v2)], [.int v2, .int v0], (I, L, D, am_rf X))) 2 rfl ?_
    refine am_b2_gt rfl (fun z => ?_) (fun z => ?_)
    · replace h := h.1 z
      refine am_wpb (c' := (15, [some (.int v0), some (.int v1), some (.int v2)], [.int 0], (I, L, D, am_rf X))) 1 rfl ?_
      exact am_ret_z rfl rfl (Or.inl rfl) h
    · replace h := h.2 z
      refine am_wpb (c' := (15, [some (.int v0), some (.int v1), some (.int v2)], [.int 1], (I, L, D, am_rf X))) 2 rfl ?_
      exact am_ret_z rfl rfl (Or.inr rfl) h
/-- SureSumsModel.wrong(I)Z -/
def mz_118 : am_Y := (fun pc => am_q118.lookup pc, 2, 2)
theorem mh_118 : am_Ys 118 = some mz_118 := rfl
theorem w118_0 {ext : Nat → List Value → am_M → Option am_R} {d : Nat} {P : am_R → Prop} (I : Nat → Nat → Int32) (L : Nat → Nat → Int64) (D : Nat → Nat → UInt64) (X : am_Rf) (v1 : Int32)
    (h : P (some (.int 0), (am_uI (am_uI I 42 4 v1) 42 5 (I 42 10), L, D, am_rf X))) : am_wp ext d mz_118 (0, [some (.ref 42), some (.int v1)], [], (I, L, D, am_rf X)) P := by
  refine am_wpb (c' := (14, [some (.ref 42), some (.int v1)], [.int 0], (am_uI (am_uI I 42 4 v1) 42 5 (I 42 10), L, D, am_rf X))) 8 rfl ?_
  exact am_ret_z rfl rfl (Or.inl rfl) h
/-- SureSumsModel.wordAt(II)I -/
def mz_119 : am_Y := (fun pc => am_q119.lookup pc, 8, 1)
theorem mh_119 : am_Ys 119 = some mz_119 := rfl
theorem w119_0 {ext : Nat → List Value → am_M → Option am_R} {d : Nat} {P : am_R → Prop} (I : Nat → Nat → Int32) (L : Nat → Nat → Int64) (D : Nat → Nat → UInt64) (X : am_Rf) (v1 : Int32) (v2 : Int32)
    (h : am_wp ext d mz_119 (5, [some (.ref 42), some (.int v1), some (.int v2), some (.int 0), some (.int 0), none, none, none], [], (I, L, D, am_rf X)) P) : am_wp ext d mz_119 (0, [some (.ref 42), some (.int v1), some (.int v2), none, none, none, none, none], [], (I, L, D, am_rf X)) P := by
  refine am_wpb (c' := (5, [some (.ref 42), some (.int v1), some (.int v2), some (.int 0), some (.int 0), none, none, none], [], (I, L, D, am_rf X))) 4 rfl ?_
  exact h
theorem w119_5 {ext : Nat → List Value → am_M → Option am_R} {d : Nat} {P : am_R → Prop} (I : Nat → Nat → Int32) (L : Nat → Nat → Int64) (D : Nat → Nat → UInt64) (X : am_Rf) (v1 : Int32) (v2 : Int32) (v3 : Int32) (v4 : Int32)
    (h : ((51 ≤ v4 → (P (some (.int (-1)), (I, L, D, am_rf X)))) ∧ (¬ 51 ≤ v4 → (am_wp ext d mz_119 (18, [some (.ref 42), some (.int v1), some (.int v2), some (.int v3), some (.int v4), some (.int 0), none, none], [], (I, L, D, am_rf X)) P)))) : am_wp ext d mz_119 (5, [some (.ref 42), some (.int v1), some (.int v2), some (.int v3), some (.int v4), none, none, none], [], (I, L, D, am_rf X)) P := by
  refine am_wpb (c' := (12, [some (.ref 42), some (.int v1), some (.int v2), some (.int v3), some (.int v4), none, none, none], [.int 51, .int v4], (I, L, D, am_rf X))) 4 rfl ?_
  refine am_b2_ge rfl (fun z => ?_) (fun z => ?_)
  · replace h := h.1 z
    refine am_wpb (c' := (127, [some (.ref 42), some (.int v1), some (.int v2), some (.int v3), some (.int v4), none, none, none], [.int (-1)], (I, L, D, am_rf X))) 1 rfl ?_
    exact am_ret_i rfl rfl h
  · replace h := h.2 z
    refine am_wpb (c' := (18, [some (.ref 42), some (.int v1), some (.int v2), some (.int v3), some (.int v4), some (.int 0), none, none], [], (I, L, D, am_rf X))) 2 rfl ?_
    exact h
theorem w119_18 {ext : Nat → List Value → am_M → Option am_R} {d : Nat} {P : am_R → Prop} (I : Nat → Nat → Int32) (L : Nat → Nat → Int64) (D : Nat → Nat → UInt64) (X : am_Rf) (v1 : Int32) (v2 : Int32) (v3 : Int32) (v4 : Int32) (v5 : Int32)
    (h : am_inb (v4 + v5) 51 = true ∧ ((((I 44 (Int32.toNatClampNeg (v4 + v5))) = 32 → (((¬ v5 = (v2 - v1) → (am_wp ext d mz_119 (57, [some (.ref 42), some (.int v1), some (.int v2), some (.int v3), some (.int v4), some (.int v5), some (.int 0), some (.int 0)], [], (I, L, D, am_rf X)) P)) ∧ (v5 = (v2 - v1) → (am_wp ext d mz_119 (57, [some (.ref 42), some (.int v1), some (.int v2), some (.int v3), some (.int v4), some (.int v5), some (.int 1), some (.int 0)], [], (I, L, D, am_rf X)) P))))) ∧ (¬ (I 44 (Int32.toNatClampNeg (v4 + v5))) = 32 → (am_wp ext d mz_119 (18, [some (.ref 42), some (.int v1), some (.int v2), some (.int v3), some (.int v4), some (.int (v5 + 1)), none, none], [], (I, L, D, am_rf X)) P))))) : am_wp ext d mz_119 (18, [some (.ref 42), some (.int v1), some (.int v2), some (.int v3), some (.int v4), some (.int v5), none, none], [], (I, L, D, am_rf X)) P := by
  refine am_wpb (c' := (27, [some (.ref 42), some (.int v1), some (.int v2), some (.int v3), some (.int v4), some (.int v5), none, none], [.int (v4 + v5), .ref 44], (I, L, D, am_rf X))) 5 rfl ?_
  obtain ⟨o, h⟩ := h
  refine am_wps (c' := (28, [some (.ref 42), some (.int v1), some (.int v2), some (.int v3), some (.int v4), some (.int v5), none, none], [.int (I 44 (Int32.toNatClampNeg (v4 + v5)))], (I, L, D, am_rf X))) rfl rfl (am_s_iald rfl o) ?_
  refine am_wpb (c' := (30, [some (.ref 42), some (.int v1), some (.int v2), some (.int v3), some (.int v4), some (.int v5), none, none], [.int 32, .int (I 44 (Int32.toNatClampNeg (v4 + v5)))], (I, L, D, am_rf X))) 1 rfl ?_
  refine am_b2_eq rfl (fun z => ?_) (fun z => ?_)
  · replace h := h.1 z
    refine am_wpb (c' := (44, [some (.ref 42), some (.int v1), some (.int v2), some (.int v3), some (.int v4), some (.int v5), none, none], [.int (v2 - v1), .int v5], (I, L, D, am_rf X))) 4 rfl ?_
    refine am_b2_ne rfl (fun z => ?_) (fun z => ?_)
    · replace h := h.1 z
      refine am_wpb (c' := (57, [some (.ref 42), some (.int v1), some (.int v2), some (.int v3), some (.int v4), some (.int v5), some (.int 0), some (.int 0)], [], (I, L, D, am_rf X))) 4 rfl ?_
      exact h
    · replace h := h.2 z
      refine am_wpb (c' := (57, [some (.ref 42), some (.int v1), some (.int v2), some (.int v3), some (.int v4), some (.int v5), some (.int 1), some (.int 0)], [], (I, L, D, am_rf X))) 5 rfl ?_
      exact h
  · replace h := h.2 z
    refine am_wpb (c' := (18, [some (.ref 42), some (.int v1), some (.int v2), some (.int v3), some (.int v4), some (.int (v5 + 1)), none, none], [], (I, L, D, am_rf X))) 2 rfl ?_
    exact h
theorem w119_57 {ext : Nat → List Value → am_M → Option am_R} {d : Nat} {P : am_R → Prop} (I : Nat → Nat → Int32) (L : Nat → Nat → Int64) (D : Nat → Nat → UInt64) (X : am_Rf) (v1 : Int32) (v2 : Int32) (v3 : Int32) (v4 : Int32) (v5 : Int32) (v6 : Int32) (v7 : Int32)
    (h : ((v5 ≤ v7 → (((v6 = 0 → (am_wp ext d mz_119 (5, [some (.ref 42), some (.int v1), some (.int v2), some (.int (v3 + 1)), some (.int (v4 + (v5 + 1))), none, none, none], [], (I, L, D, am_rf X)) P)) ∧ (¬ v6 = 0 → (P (some (.int v3), (I, L, D, am_rf X))))))) ∧ (¬ v5 ≤ v7 → (((v6 = 0 → (((v6 = 0 → (am_wp ext d mz_119 (5, [some (.ref 42), some (.int v1), some (.int v2), some (.int (v3 + 1)), some (.int (v4 + (v5 + 1))), none, none, none], [], (I, L, D, am_rf X)) P)) ∧ (¬ v6 = 0 → (P (some (.int v3), (I, L, D, am_rf X))))))) ∧ (¬ v6 = 0 → (am_inb (v4 + v7) 51 = true ∧ (am_inb (v1 + v7) 500 = true ∧ (((¬ (I 44 (Int32.toNatClampNeg (v4 + v7))) = (I 43 (Int32.toNatClampNeg (v1 + v7))) → (am_wp ext d mz_119 (57, [some (.ref 42), some (.int v1), some (.int v2), some (.int v3), some (.int v4), some (.int v5), some (.int 0), some (.int (v7 + 1))], [], (I, L, D, am_rf X)) P)) ∧ ((I 44 (Int32.toNatClampNeg (v4 + v7))) = (I 43 (Int32.toNatClampNeg (v1 + v7))) → (am_wp ext d mz_119 (57, [some (.ref 42), some (.int v1), some (.int v2), some (.int v3), some (.int v4), some (.int v5), some (.int 1), some (.int (v7 + 1))], [], (I, L, D, am_rf X)) P)))))))))))) : am_wp ext d mz_119 (57, [some (.ref 42), some (.int v1), some (.int v2), some (.int v3), some (.int v4), some (.int v5), some (.int v6), some (.int v7)], [], (I, L, D, am_rf X)) P := by
  refine am_wpb (c' := (61, [some (.ref 42), some (.int v1), some (.int v2), some (.int v3), some (.int v4), some (.int v5), some (.int v6), some (.int v7)], [.int v5, .int v7], (I, L, D, am_rf X))) 2 rfl ?_
  refine am_b2_ge rfl (fun z => ?_) (fun z => ?_)
  · replace h := h.1 z
    refine am_wpb (c' := (106, [some (.ref 42), some (.int v1), some (.int v2), some (.int v3), some (.int v4), some (.int v5), some (.int v6), some (.int v7)], [.int v6], (I, L, D, am_rf X))) 1 rfl ?_
    refine am_b1_eq rfl (fun z => ?_) (fun z => ?_)
    · replace h := h.1 z
      refine am_wpb (c' := (5, [some (.ref 42), some (.int v1), some (.int v2), some (.int (v3 + 1)), some (.int (v4 + (v5 + 1))), some (.int v5), some (.int v6), some (.int v7)], [], (I, L, D, am_rf X))) 8 rfl ?_
      exact am_fgt (l := [some (.ref 42), some (.int v1), some (.int v2), some (.int (v3 + 1)), some (.int (v4 + (v5 + 1))), none, none, none]) (am_le_of (am_leS (am_leS (am_leS (am_leS (am_leS (am_leN (am_leN (am_leN (am_leZ)))))))))) h
    · replace h := h.2 z
      refine am_wpb (c' := (110, [some (.ref 42), some (.int v1), some (.int v2), some (.int v3), some (.int v4), some (.int v5), some (.int v6), some (.int v7)], [.int v3], (I, L, D, am_rf X))) 1 rfl ?_
      exact am_ret_i rfl rfl h
  · replace h := h.2 z
    refine am_wpb (c' := (66, [some (.ref 42), some (.int v1), some (.int v2), some (.int v3), some (.int v4), some (.int v5), some (.int v6), some (.int v7)], [.int v6], (I, L, D, am_rf X))) 1 rfl ?_
    refine am_b1_eq rfl (fun z => ?_) (fun z => ?_)
    · replace h := h.1 z
      refine am_wpb (c' := (106, [some (.ref 42), some (.int v1), some (.int v2), some (.int v3), some (.int v4), some (.int v5), some (.int v6), some (.int v7)], [.int v6], (I, L, D, am_rf X))) 1 rfl ?_
      refine am_b1_eq rfl (fun z => ?_) (fun z => ?_)
      · replace h := h.1 z
        refine am_wpb (c' := (5, [some (.ref 42), some (.int v1), some (.int v2), some (.int (v3 + 1)), some (.int (v4 + (v5 + 1))), some (.int v5), some (.int v6), some (.int v7)], [], (I, L, D, am_rf X))) 8 rfl ?_
        exact am_fgt (l := [some (.ref 42), some (.int v1), some (.int v2), some (.int (v3 + 1)), some (.int (v4 + (v5 + 1))), none, none, none]) (am_le_of (am_leS (am_leS (am_leS (am_leS (am_leS (am_leN (am_leN (am_leN (am_leZ)))))))))) h
      · replace h := h.2 z
        refine am_wpb (c' := (110, [some (.ref 42), some (.int v1), some (.int v2), some (.int v3), some (.int v4), some (.int v5), some (.int v6), some (.int v7)], [.int v3], (I, L, D, am_rf X))) 1 rfl ?_
        exact am_ret_i rfl rfl h
    · replace h := h.2 z
      refine am_wpb (c' := (78, [some (.ref 42), some (.int v1), some (.int v2), some (.int v3), some (.int v4), some (.int v5), some (.int v6), some (.int v7)], [.int (v4 + v7), .ref 44], (I, L, D, am_rf X))) 5 rfl ?_
      obtain ⟨o, h⟩ := h
      refine am_wps (c' := (79, [some (.ref 42), some (.int v1), some (.int v2), some (.int v3), some (.int v4), some (.int v5), some (.int v6), some (.int v7)], [.int (I 44 (Int32.toNatClampNeg (v4 + v7)))], (I, L, D, am_rf X))) rfl rfl (am_s_iald rfl o) ?_
      refine am_wpb (c' := (87, [some (.ref 42), some (.int v1), some (.int v2), some (.int v3), some (.int v4), some (.int v5), some (.int v6), some (.int v7)], [.int (v1 + v7), .ref 43, .int (I 44 (Int32.toNatClampNeg (v4 + v7)))], (I, L, D, am_rf X))) 5 rfl ?_
      obtain ⟨o, h⟩ := h
      refine am_wps (c' := (88, [some (.ref 42), some (.int v1), some (.int v2), some (.int v3), some (.int v4), some (.int v5), some (.int v6), some (.int v7)], [.int (I 43 (Int32.toNatClampNeg (v1 + v7))), .int (I 44 (Int32.toNatClampNeg (v4 + v7)))], (I, L, D, am_rf X))) rfl rfl (am_s_iald rfl o) ?_
      refine am_b2_ne rfl (fun z => ?_) (fun z => ?_)
      · replace h := h.1 z
        refine am_wpb (c' := (57, [some (.ref 42), some (.int v1), some (.int v2), some (.int v3), some (.int v4), some (.int v5), some (.int 0), some (.int (v7 + 1))], [], (I, L, D, am_rf X))) 4 rfl ?_
        exact h
      · replace h := h.2 z
        refine am_wpb (c' := (57, [some (.ref 42), some (.int v1), some (.int v2), some (.int v3), some (.int v4), some (.int v5), some (.int 1), some (.int (v7 + 1))], [], (I, L, D, am_rf X))) 5 rfl ?_
        exact h
/-- SureSumsModel.isSmall(I)Z -/
def mz_120 : am_Y := (fun pc => am_q120.lookup pc, 2, 2)
theorem mh_120 : am_Ys 120 = some mz_120 := rfl
theorem w120_0 {ext : Nat → List Value → am_M → Option am_R} {d : Nat} {P : am_R → Prop} (I : Nat → Nat → Int32) (L : Nat → Nat → Int64) (D : Nat → Nat → UInt64) (X : am_Rf) (v1 : Int32)
    (h : (((I 42 6) ≤ v1 → (P (some (.int 0), (I, L, D, am_rf X)))) ∧ (¬ (I 42 6) ≤ v1 → (am_inb v1 500 = true ∧ ((((I 43 (Int32.toNatClampNeg v1)) < 97 → (P (some (.int 0), (I, L, D, am_rf X)))) ∧ (¬ (I 43 (Int32.toNatClampNeg v1)) < 97 → (am_inb v1 500 = true ∧ (((122 < (I 43 (Int32.toNatClampNeg v1)) → (P (some (.int 0), (I, L, D, am_rf X)))) ∧ (¬ 122 < (I 43 (Int32.toNatClampNeg v1)) → (P (some (.int 1), (I, L, D, am_rf X)))))))))))))) : am_wp ext d mz_120 (0, [some (.ref 42), some (.int v1)], [], (I, L, D, am_rf X)) P := by
  refine am_wpb (c' := (5, [some (.ref 42), some (.int v1)], [.int (I 42 6), .int v1], (I, L, D, am_rf X))) 3 rfl ?_
  refine am_b2_ge rfl (fun z => ?_) (fun z => ?_)
  · replace h := h.1 z
    refine am_wpb (c' := (35, [some (.ref 42), some (.int v1)], [.int 0], (I, L, D, am_rf X))) 1 rfl ?_
    exact am_ret_z rfl rfl (Or.inl rfl) h
  · replace h := h.2 z
    refine am_wpb (c' := (13, [some (.ref 42), some (.int v1)], [.int v1, .ref 43], (I, L, D, am_rf X))) 3 rfl ?_
    obtain ⟨o, h⟩ := h
    refine am_wps (c' := (14, [some (.ref 42), some (.int v1)], [.int (I 43 (Int32.toNatClampNeg v1))], (I, L, D, am_rf X))) rfl rfl (am_s_iald rfl o) ?_
    refine am_wpb (c' := (16, [some (.ref 42), some (.int v1)], [.int 97, .int (I 43 (Int32.toNatClampNeg v1))], (I, L, D, am_rf X))) 1 rfl ?_
    refine am_b2_lt rfl (fun z => ?_) (fun z => ?_)
    · replace h := h.1 z
      refine am_wpb (c' := (35, [some (.ref 42), some (.int v1)], [.int 0], (I, L, D, am_rf X))) 1 rfl ?_
      exact am_ret_z rfl rfl (Or.inl rfl) h
    · replace h := h.2 z
      refine am_wpb (c' := (24, [some (.ref 42), some (.int v1)], [.int v1, .ref 43], (I, L, D, am_rf X))) 3 rfl ?_
      obtain ⟨o, h⟩ := h
      refine am_wps (c' := (25, [some (.ref 42), some (.int v1)], [.int (I 43 (Int32.toNatClampNeg v1))], (I, L, D, am_rf X))) rfl rfl (am_s_iald rfl o) ?_
      refine am_wpb (c' := (27, [some (.ref 42), some (.int v1)], [.int 122, .int (I 43 (Int32.toNatClampNeg v1))], (I, L, D, am_rf X))) 1 rfl ?_
      refine am_b2_gt rfl (fun z => ?_) (fun z => ?_)
      · replace h := h.1 z
        refine am_wpb (c' := (35, [some (.ref 42), some (.int v1)], [.int 0], (I, L, D, am_rf X))) 1 rfl ?_
        exact am_ret_z rfl rfl (Or.inl rfl) h
      · replace h := h.2 z
        refine am_wpb (c' := (35, [some (.ref 42), some (.int v1)], [.int 1], (I, L, D, am_rf X))) 2 rfl ?_
        exact am_ret_z rfl rfl (Or.inr rfl) h
/-- SureSumsModel.isDigit(I)Z -/
def mz_121 : am_Y := (fun pc => am_q121.lookup pc, 2, 2)
theorem mh_121 : am_Ys 121 = some mz_121 := rfl
theorem w121_0 {ext : Nat → List Value → am_M → Option am_R} {d : Nat} {P : am_R → Prop} (I : Nat → Nat → Int32) (L : Nat → Nat → Int64) (D : Nat → Nat → UInt64) (X : am_Rf) (v1 : Int32)
    (h : (((I 42 6) ≤ v1 → (P (some (.int 0), (I, L, D, am_rf X)))) ∧ (¬ (I 42 6) ≤ v1 → (am_inb v1 500 = true ∧ ((((I 43 (Int32.toNatClampNeg v1)) < 48 → (P (some (.int 0), (I, L, D, am_rf X)))) ∧ (¬ (I 43 (Int32.toNatClampNeg v1)) < 48 → (am_inb v1 500 = true ∧ (((57 < (I 43 (Int32.toNatClampNeg v1)) → (P (some (.int 0), (I, L, D, am_rf X)))) ∧ (¬ 57 < (I 43 (Int32.toNatClampNeg v1)) → (P (some (.int 1), (I, L, D, am_rf X)))))))))))))) : am_wp ext d mz_121 (0, [some (.ref 42), some (.int v1)], [], (I, L, D, am_rf X)) P := by
  refine am_wpb (c' := (5, [some (.ref 42), some (.int v1)], [.int (I 42 6), .int v1], (I, L, D, am_rf X))) 3 rfl ?_
  refine am_b2_ge rfl (fun z => ?_) (fun z => ?_)
  · replace h := h.1 z
    refine am_wpb (c' := (35, [some (.ref 42), some (.int v1)], [.int 0], (I, L, D, am_rf X))) 1 rfl ?_
    exact am_ret_z rfl rfl (Or.inl rfl) h
  · replace h := h.2 z
    refine am_wpb (c' := (13, [some (.ref 42), some (.int v1)], [.int v1, .ref 43], (I, L, D, am_rf X))) 3 rfl ?_
    obtain ⟨o, h⟩ := h
    refine am_wps (c' := (14, [some (.ref 42), some (.int v1)], [.int (I 43 (Int32.toNatClampNeg v1))], (I, L, D, am_rf X))) rfl rfl (am_s_iald rfl o) ?_
    refine am_wpb (c' := (16, [some (.ref 42), some (.int v1)], [.int 48, .int (I 43 (Int32.toNatClampNeg v1))], (I, L, D, am_rf X))) 1 rfl ?_
    refine am_b2_lt rfl (fun z => ?_) (fun z => ?_)
    · replace h := h.1 z
      refine am_wpb (c' := (35, [some (.ref 42), some (.int v1)], [.int 0], (I, L, D, am_rf X))) 1 rfl ?_
      exact am_ret_z rfl rfl (Or.inl rfl) h
    · replace h := h.2 z
      refine am_wpb (c' := (24, [some (.ref 42), some (.int v1)], [.int v1, .ref 43], (I, L, D, am_rf X))) 3 rfl ?_
      obtain ⟨o, h⟩ := h
      refine am_wps (c' := (25, [some (.ref 42), some (.int v1)], [.int (I 43 (Int32.toNatClampNeg v1))], (I, L, D, am_rf X))) rfl rfl (am_s_iald rfl o) ?_
      refine am_wpb (c' := (27, [some (.ref 42), some (.int v1)], [.int 57, .int (I 43 (Int32.toNatClampNeg v1))], (I, L, D, am_rf X))) 1 rfl ?_
      refine am_b2_gt rfl (fun z => ?_) (fun z => ?_)
      · replace h := h.1 z
        refine am_wpb (c' := (35, [some (.ref 42), some (.int v1)], [.int 0], (I, L, D, am_rf X))) 1 rfl ?_
        exact am_ret_z rfl rfl (Or.inl rfl) h
      · replace h := h.2 z
        refine am_wpb (c' := (35, [some (.ref 42), some (.int v1)], [.int 1], (I, L, D, am_rf X))) 2 rfl ?_
        exact am_ret_z rfl rfl (Or.inr rfl) h
/-- SureSumsModel.isMark(I)Z -/
def mz_122 : am_Y := (fun pc => am_q122.lookup pc, 1, 2)
theorem mh_122 : am_Ys 122 = some mz_122 := rfl
theorem w122_0 {ext : Nat → List Value → am_M → Option am_R} {d : Nat} {P : am_R → Prop} (I : Nat → Nat → Int32) (L : Nat → Nat → Int64) (D : Nat → Nat → UInt64) (X : am_Rf) (v0 : Int32)
    (h : ((v0 = 43 → (P (some (.int 1), (I, L, D, am_rf X)))) ∧ (¬ v0 = 43 → (((v0 = 45 → (P (some (.int 1), (I, L, D, am_rf X)))) ∧ (¬ v0 = 45 → (((v0 = 42 → (P (some (.int 1), (I, L, D, am_rf X)))) ∧ (¬ v0 = 42 → (((v0 = 47 → (P (some (.int 1), (I, L, D, am_rf X)))) ∧ (¬ v0 = 47 → (((v0 = 61 → (P (some (.int 1), (I, L, D, am_rf X)))) ∧ (¬ v0 = 61 → (((v0 = 59 → (P (some (.int 1), (I, L, D, am_rf X)))) ∧ (¬ v0 = 59 → (((v0 = 40 → (P (some (.int 1), (I, L, D, am_rf X)))) ∧ (¬ v0 = 40 → (((v0 = 41 → (P (some (.int 1), (I, L, D, am_rf X)))) ∧ (¬ v0 = 41 → (((v0 = 44 → (P (some (.int 1), (I, L, D, am_rf X)))) ∧ (¬ v0 = 44 → (((v0 = 60 → (P (some (.int 1), (I, L, D, am_rf X)))) ∧ (¬ v0 = 60 → (((¬ v0 = 62 → (P (some (.int 0), (I, L, D, am_rf X)))) ∧ (v0 = 62 → (P (some (.int 1), (I, L, D, am_rf X)))))))))))))))))))))))))))))))))))) : am_wp ext d mz_122 (0, [some (.int v0)], [], (I, L, D, am_rf X)) P := by
  refine am_wpb (c' := (3, [some (.int v0)], [.int 43, .int v0], (I, L, D, am_rf X))) 2 rfl ?_
  refine am_b2_eq rfl (fun z => ?_) (fun z => ?_)
  · replace h := h.1 z
    refine am_wpb (c' := (71, [some (.int v0)], [.int 1], (I, L, D, am_rf X))) 2 rfl ?_
    exact am_ret_z rfl rfl (Or.inr rfl) h
  · replace h := h.2 z
    refine am_wpb (c' := (9, [some (.int v0)], [.int 45, .int v0], (I, L, D, am_rf X))) 2 rfl ?_
    refine am_b2_eq rfl (fun z => ?_) (fun z => ?_)
    · replace h := h.1 z
      refine am_wpb (c' := (71, [some (.int v0)], [.int 1], (I, L, D, am_rf X))) 2 rfl ?_
      exact am_ret_z rfl rfl (Or.inr rfl) h
    · replace h := h.2 z
      refine am_wpb (c' := (15, [some (.int v0)], [.int 42, .int v0], (I, L, D, am_rf X))) 2 rfl ?_
      refine am_b2_eq rfl (fun z => ?_) (fun z => ?_)
      · replace h := h.1 z
        refine am_wpb (c' := (71, [some (.int v0)], [.int 1], (I, L, D, am_rf X))) 2 rfl ?_
        exact am_ret_z rfl rfl (Or.inr rfl) h
      · replace h := h.2 z
        refine am_wpb (c' := (21, [some (.int v0)], [.int 47, .int v0], (I, L, D, am_rf X))) 2 rfl ?_
        refine am_b2_eq rfl (fun z => ?_) (fun z => ?_)
        · replace h := h.1 z
          refine am_wpb (c' := (71, [some (.int v0)], [.int 1], (I, L, D, am_rf X))) 2 rfl ?_
          exact am_ret_z rfl rfl (Or.inr rfl) h
        · replace h := h.2 z
          refine am_wpb (c' := (27, [some (.int v0)], [.int 61, .int v0], (I, L, D, am_rf X))) 2 rfl ?_
          refine am_b2_eq rfl (fun z => ?_) (fun z => ?_)
          · replace h := h.1 z
            refine am_wpb (c' := (71, [some (.int v0)], [.int 1], (I, L, D, am_rf X))) 2 rfl ?_
            exact am_ret_z rfl rfl (Or.inr rfl) h
          · replace h := h.2 z
            refine am_wpb (c' := (33, [some (.int v0)], [.int 59, .int v0], (I, L, D, am_rf X))) 2 rfl ?_
            refine am_b2_eq rfl (fun z => ?_) (fun z => ?_)
            · replace h := h.1 z
              refine am_wpb (c' := (71, [some (.int v0)], [.int 1], (I, L, D, am_rf X))) 2 rfl ?_
              exact am_ret_z rfl rfl (Or.inr rfl) h
            · replace h := h.2 z
              refine am_wpb (c' := (39, [some (.int v0)], [.int 40, .int v0], (I, L, D, am_rf X))) 2 rfl ?_
              refine am_b2_eq rfl (fun z => ?_) (fun z => ?_)
              · replace h := h.1 z
                refine am_wpb (c' := (71, [some (.int v0)], [.int 1], (I, L, D, am_rf X))) 2 rfl ?_
                exact am_ret_z rfl rfl (Or.inr rfl) h
              · replace h := h.2 z
                refine am_wpb (c' := (45, [some (.int v0)], [.int 41, .int v0], (I, L, D, am_rf X))) 2 rfl ?_
                refine am_b2_eq rfl (fun z => ?_) (fun z => ?_)
                · replace h := h.1 z
                  refine am_wpb (c' := (71, [some (.int v0)], [.int 1], (I, L, D, am_rf X))) 2 rfl ?_
                  exact am_ret_z rfl rfl (Or.inr rfl) h
                · replace h := h.2 z
                  refine am_wpb (c' := (51, [some (.int v0)], [.int 44, .int v0], (I, L, D, am_rf X))) 2 rfl ?_
                  refine am_b2_eq rfl (fun z => ?_) (fun z => ?_)
                  · replace h := h.1 z
                    refine am_wpb (c' := (71, [some (.int v0)], [.int 1], (I, L, D, am_rf X))) 2 rfl ?_
                    exact am_ret_z rfl rfl (Or.inr rfl) h
                  · replace h := h.2 z
                    refine am_wpb (c' := (57, [some (.int v0)], [.int 60, .int v0], (I, L, D, am_rf X))) 2 rfl ?_
                    refine am_b2_eq rfl (fun z => ?_) (fun z => ?_)
                    · replace h := h.1 z
                      refine am_wpb (c' := (71, [some (.int v0)], [.int 1], (I, L, D, am_rf X))) 2 rfl ?_
                      exact am_ret_z rfl rfl (Or.inr rfl) h
                    · replace h := h.2 z
                      refine am_wpb (c' := (63, [some (.int v0)], [.int 62, .int v0], (I, L, D, am_rf X))) 2 rfl ?_
                      refine am_b2_ne rfl (fun z => ?_) (fun z => ?_)
                      · replace h := h.1 z
                        refine am_wpb (c' := (71, [some (.int v0)], [.int 0], (I, L, D, am_rf X))) 1 rfl ?_
                        exact am_ret_z rfl rfl (Or.inl rfl) h
                      · replace h := h.2 z
                        refine am_wpb (c' := (71, [some (.int v0)], [.int 1], (I, L, D, am_rf X))) 2 rfl ?_
                        exact am_ret_z rfl rfl (Or.inr rfl) h
/-- SureSumsModel.take()V -/
def mz_123 : am_Y := (fun pc => am_q123.lookup pc, 2, 0)
theorem mh_123 : am_Ys 123 = some mz_123 := rfl
theorem w123_0 {ext : Nat → List Value → am_M → Option am_R} {d : Nat} {P : am_R → Prop} (I : Nat → Nat → Int32) (L : Nat → Nat → Int64) (D : Nat → Nat → UInt64) (X : am_Rf)
    (h : (((I 42 6) ≤ (I 42 7) → (am_wp ext d mz_123 (52, [some (.ref 42), none], [], (I, L, D, am_rf X)) P)) ∧ (¬ (I 42 6) ≤ (I 42 7) → (am_inb (I 42 7) 500 = true ∧ ((((I 43 (Int32.toNatClampNeg (I 42 7))) = 10 → (am_wp ext d mz_123 (0, [some (.ref 42), none], [], (am_uI I 42 7 ((I 42 7) + 1), L, D, am_rf X)) P)) ∧ (¬ (I 43 (Int32.toNatClampNeg (I 42 7))) = 10 → (am_inb (I 42 7) 500 = true ∧ (((¬ (I 43 (Int32.toNatClampNeg (I 42 7))) = 32 → (am_wp ext d mz_123 (52, [some (.ref 42), none], [], (I, L, D, am_rf X)) P)) ∧ ((I 43 (Int32.toNatClampNeg (I 42 7))) = 32 → (am_wp ext d mz_123 (0, [some (.ref 42), none], [], (am_uI I 42 7 ((I 42 7) + 1), L, D, am_rf X)) P)))))))))))) : am_wp ext d mz_123 (0, [some (.ref 42), none], [], (I, L, D, am_rf X)) P := by
  refine am_wpb (c' := (8, [some (.ref 42), none], [.int (I 42 6), .int (I 42 7)], (I, L, D, am_rf X))) 4 rfl ?_
  refine am_b2_ge rfl (fun z => ?_) (fun z => ?_)
  · replace h := h.1 z
    exact h
  · replace h := h.2 z
    refine am_wpb (c' := (19, [some (.ref 42), none], [.int (I 42 7), .ref 43], (I, L, D, am_rf X))) 4 rfl ?_
    obtain ⟨o, h⟩ := h
    refine am_wps (c' := (20, [some (.ref 42), none], [.int (I 43 (Int32.toNatClampNeg (I 42 7)))], (I, L, D, am_rf X))) rfl rfl (am_s_iald rfl o) ?_
    refine am_wpb (c' := (22, [some (.ref 42), none], [.int 10, .int (I 43 (Int32.toNatClampNeg (I 42 7)))], (I, L, D, am_rf X))) 1 rfl ?_
    refine am_b2_eq rfl (fun z => ?_) (fun z => ?_)
    · replace h := h.1 z
      refine am_wpb (c' := (0, [some (.ref 42), none], [], (am_uI I 42 7 ((I 42 7) + 1), L, D, am_rf X))) 7 rfl ?_
      exact h
    · replace h := h.2 z
      refine am_wpb (c' := (33, [some (.ref 42), none], [.int (I 42 7), .ref 43], (I, L, D, am_rf X))) 4 rfl ?_
      obtain ⟨o, h⟩ := h
      refine am_wps (c' := (34, [some (.ref 42), none], [.int (I 43 (Int32.toNatClampNeg (I 42 7)))], (I, L, D, am_rf X))) rfl rfl (am_s_iald rfl o) ?_
      refine am_wpb (c' := (36, [some (.ref 42), none], [.int 32, .int (I 43 (Int32.toNatClampNeg (I 42 7)))], (I, L, D, am_rf X))) 1 rfl ?_
      refine am_b2_ne rfl (fun z => ?_) (fun z => ?_)
      · replace h := h.1 z
        exact h
      · replace h := h.2 z
        refine am_wpb (c' := (0, [some (.ref 42), none], [], (am_uI I 42 7 ((I 42 7) + 1), L, D, am_rf X))) 7 rfl ?_
        exact h
theorem w123_52 {ext : Nat → List Value → am_M → Option am_R} {d : Nat} {P : am_R → Prop} (I : Nat → Nat → Int32) (L : Nat → Nat → Int64) (D : Nat → Nat → UInt64) (X : am_Rf)
    (h : ((¬ (I 42 7) = (I 42 6) → (∃ (r1 : Int32) (I1 : Nat → Nat → Int32) (L1 : Nat → Nat → Int64) (D1 : Nat → Nat → UInt64), am_Rn ext d 120 [.ref 42, .int (I 42 7)] (am_uI I 42 10 (I 42 7), L, D, am_rf X) (some (.int r1), (I1, L1, D1, am_rf X)) ∧ (((r1 = 0 → (∃ (r2 : Int32) (I2 : Nat → Nat → Int32) (L2 : Nat → Nat → Int64) (D2 : Nat → Nat → UInt64), am_Rn ext d 121 [.ref 42, .int (I1 42 7)] (I1, L1, D1, am_rf X) (some (.int r2), (I2, L2, D2, am_rf X)) ∧ (((r2 = 0 → (am_inb (I2 42 7) 500 = true ∧ (∃ (r3 : Int32) (I3 : Nat → Nat → Int32) (L3 : Nat → Nat → Int64) (D3 : Nat → Nat → UInt64), am_Rn ext d 122 [.int (I2 43 (Int32.toNatClampNeg (I2 42 7)))] (am_uI I2 42 9 (I2 43 (Int32.toNatClampNeg (I2 42 7))), L2, D2, am_rf X) (some (.int r3), (I3, L3, D3, am_rf X)) ∧ (((r3 = 0 → (P (none, (am_uI (am_uI I3 42 8 5) 42 7 ((I3 42 7) + 1), L3, D3, am_rf X)))) ∧ (¬ r3 = 0 → (P (none, (am_uI (am_uI I3 42 8 4) 42 7 ((I3 42 7) + 1), L3, D3, am_rf X))))))))) ∧ (¬ r2 = 0 → (am_wp ext d mz_123 (216, [some (.ref 42), none], [], (am_uI (am_uI I2 42 8 3) 42 9 0, L2, D2, am_rf X)) P)))))) ∧ (¬ r1 = 0 → (am_wp ext d mz_123 (90, [some (.ref 42), none], [], (I1, L1, D1, am_rf X)) P)))))) ∧ ((I 42 7) = (I 42 6) → (P (none, (am_uI (am_uI I 42 10 (I 42 7)) 42 8 0, L, D, am_rf X)))))) : am_wp ext d mz_123 (52, [some (.ref 42), none], [], (I, L, D, am_rf X)) P := by
  refine am_wpb (c' := (68, [some (.ref 42), none], [.int (I 42 6), .int (I 42 7)], (am_uI I 42 10 (I 42 7), L, D, am_rf X))) 8 rfl ?_
  refine am_b2_ne rfl (fun z => ?_) (fun z => ?_)
  · replace h := h.1 z
    refine am_wpb (c' := (84, [some (.ref 42), none], [.int (I 42 7), .ref 42], (am_uI I 42 10 (I 42 7), L, D, am_rf X))) 3 rfl ?_
    obtain ⟨r1, I1, L1, D1, hr, h⟩ := h
    refine am_wp_inv (as := [.ref 42, .int (I 42 7)]) rfl rfl rfl rfl ⟨_, hr, ?_⟩
    show am_wp ext d mz_123 (87, [some (.ref 42), none], [.int r1], (I1, L1, D1, am_rf X)) P
    refine am_b1_eq rfl (fun z => ?_) (fun z => ?_)
    · replace h := h.1 z
      refine am_wpb (c' := (200, [some (.ref 42), none], [.int (I1 42 7), .ref 42], (I1, L1, D1, am_rf X))) 3 rfl ?_
      obtain ⟨r2, I2, L2, D2, hr, h⟩ := h
      refine am_wp_inv (as := [.ref 42, .int (I1 42 7)]) rfl rfl rfl rfl ⟨_, hr, ?_⟩
      show am_wp ext d mz_123 (203, [some (.ref 42), none], [.int r2], (I2, L2, D2, am_rf X)) P
      refine am_b1_eq rfl (fun z => ?_) (fun z => ?_)
      · replace h := h.1 z
        refine am_wpb (c' := (290, [some (.ref 42), none], [.int (I2 42 7), .ref 43, .ref 42], (I2, L2, D2, am_rf X))) 5 rfl ?_
        obtain ⟨o, h⟩ := h
        refine am_wps (c' := (291, [some (.ref 42), none], [.int (I2 43 (Int32.toNatClampNeg (I2 42 7))), .ref 42], (I2, L2, D2, am_rf X))) rfl rfl (am_s_iald rfl o) ?_
        refine am_wpb (c' := (299, [some (.ref 42), none], [.int (I2 43 (Int32.toNatClampNeg (I2 42 7))), .ref 42], (am_uI I2 42 9 (I2 43 (Int32.toNatClampNeg (I2 42 7))), L2, D2, am_rf X))) 4 rfl ?_
        obtain ⟨r3, I3, L3, D3, hr, h⟩ := h
        refine am_wp_inv (as := [.int (I2 43 (Int32.toNatClampNeg (I2 42 7)))]) rfl rfl rfl rfl ⟨_, hr, ?_⟩
        show am_wp ext d mz_123 (302, [some (.ref 42), none], [.int r3, .ref 42], (I3, L3, D3, am_rf X)) P
        refine am_b1_eq rfl (fun z => ?_) (fun z => ?_)
        · replace h := h.1 z
          refine am_wpb (c' := (323, [some (.ref 42), none], [], (am_uI (am_uI I3 42 8 5) 42 7 ((I3 42 7) + 1), L3, D3, am_rf X))) 8 rfl ?_
          exact am_ret_v rfl rfl h
        · replace h := h.2 z
          refine am_wpb (c' := (323, [some (.ref 42), none], [], (am_uI (am_uI I3 42 8 4) 42 7 ((I3 42 7) + 1), L3, D3, am_rf X))) 9 rfl ?_
          exact am_ret_v rfl rfl h
      · replace h := h.2 z
        refine am_wpb (c' := (216, [some (.ref 42), none], [], (am_uI (am_uI I2 42 8 3) 42 9 0, L2, D2, am_rf X))) 6 rfl ?_
        exact h
    · replace h := h.2 z
      exact h
  · replace h := h.2 z
    refine am_wpb (c' := (323, [some (.ref 42), none], [], (am_uI (am_uI I 42 10 (I 42 7)) 42 8 0, L, D, am_rf X))) 4 rfl ?_
    exact am_ret_v rfl rfl h
theorem w123_90 {ext : Nat → List Value → am_M → Option am_R} {d : Nat} {P : am_R → Prop} (I : Nat → Nat → Int32) (L : Nat → Nat → Int64) (D : Nat → Nat → UInt64) (X : am_Rf)
    (h : ∃ (r1 : Int32) (I1 : Nat → Nat → Int32) (L1 : Nat → Nat → Int64) (D1 : Nat → Nat → UInt64), am_Rn ext d 120 [.ref 42, .int (I 42 7)] (I, L, D, am_rf X) (some (.int r1), (I1, L1, D1, am_rf X)) ∧ (((r1 = 0 → (((¬ (I1 42 7) = ((I1 42 10) + 1) → (am_wp ext d mz_123 (132, [some (.ref 42), none], [.int 0], (I1, L1, D1, am_rf X)) P)) ∧ ((I1 42 7) = ((I1 42 10) + 1) → (am_wp ext d mz_123 (132, [some (.ref 42), none], [.int 1], (I1, L1, D1, am_rf X)) P))))) ∧ (¬ r1 = 0 → (am_wp ext d mz_123 (90, [some (.ref 42), none], [], (am_uI I1 42 7 ((I1 42 7) + 1), L1, D1, am_rf X)) P))))) : am_wp ext d mz_123 (90, [some (.ref 42), none], [], (I, L, D, am_rf X)) P := by
  refine am_wpb (c' := (95, [some (.ref 42), none], [.int (I 42 7), .ref 42], (I, L, D, am_rf X))) 3 rfl ?_
  obtain ⟨r1, I1, L1, D1, hr, h⟩ := h
  refine am_wp_inv (as := [.ref 42, .int (I 42 7)]) rfl rfl rfl rfl ⟨_, hr, ?_⟩
  show am_wp ext d mz_123 (98, [some (.ref 42), none], [.int r1], (I1, L1, D1, am_rf X)) P
  refine am_b1_eq rfl (fun z => ?_) (fun z => ?_)
  · replace h := h.1 z
    refine am_wpb (c' := (124, [some (.ref 42), none], [.int ((I1 42 10) + 1), .int (I1 42 7)], (I1, L1, D1, am_rf X))) 6 rfl ?_
    refine am_b2_ne rfl (fun z => ?_) (fun z => ?_)
    · replace h := h.1 z
      refine am_wpb (c' := (132, [some (.ref 42), none], [.int 0], (I1, L1, D1, am_rf X))) 1 rfl ?_
      exact h
    · replace h := h.2 z
      refine am_wpb (c' := (132, [some (.ref 42), none], [.int 1], (I1, L1, D1, am_rf X))) 2 rfl ?_
      exact h
  · replace h := h.2 z
    refine am_wpb (c' := (90, [some (.ref 42), none], [], (am_uI I1 42 7 ((I1 42 7) + 1), L1, D1, am_rf X))) 7 rfl ?_
    exact h
theorem w123_132 {ext : Nat → List Value → am_M → Option am_R} {d : Nat} {P : am_R → Prop} (I : Nat → Nat → Int32) (L : Nat → Nat → Int64) (D : Nat → Nat → UInt64) (X : am_Rf) (s0 : Int32)
    (h : ((s0 = 0 → (∃ (r1 : Int32) (I1 : Nat → Nat → Int32) (L1 : Nat → Nat → Int64) (D1 : Nat → Nat → UInt64), am_Rn ext d 119 [.ref 42, .int (I 42 10), .int (I 42 7)] (I, L, D, am_rf X) (some (.int r1), (I1, L1, D1, am_rf X)) ∧ (am_wp ext d mz_123 (165, [some (.ref 42), some (.int s0)], [.int r1, .ref 42], (I1, L1, D1, am_rf X)) P))) ∧ (¬ s0 = 0 → (am_inb (I 42 10) 500 = true ∧ (am_wp ext d mz_123 (165, [some (.ref 42), some (.int s0)], [.int ((I 43 (Int32.toNatClampNeg (I 42 10))) - 97), .ref 42], (I, L, D, am_rf X)) P))))) : am_wp ext d mz_123 (132, [some (.ref 42), none], [.int s0], (I, L, D, am_rf X)) P := by
  refine am_wpb (c' := (135, [some (.ref 42), some (.int s0)], [.int s0, .ref 42], (I, L, D, am_rf X))) 3 rfl ?_
  refine am_b1_eq rfl (fun z => ?_) (fun z => ?_)
  · replace h := h.1 z
    refine am_wpb (c' := (162, [some (.ref 42), some (.int s0)], [.int (I 42 7), .int (I 42 10), .ref 42, .ref 42], (I, L, D, am_rf X))) 5 rfl ?_
    obtain ⟨r1, I1, L1, D1, hr, h⟩ := h
    refine am_wp_inv (as := [.ref 42, .int (I 42 10), .int (I 42 7)]) rfl rfl rfl rfl ⟨_, hr, ?_⟩
    show am_wp ext d mz_123 (165, [some (.ref 42), some (.int s0)], [.int r1, .ref 42], (I1, L1, D1, am_rf X)) P
    exact h
  · replace h := h.2 z
    refine am_wpb (c' := (146, [some (.ref 42), some (.int s0)], [.int (I 42 10), .ref 43, .ref 42], (I, L, D, am_rf X))) 4 rfl ?_
    obtain ⟨o, h⟩ := h
    refine am_wps (c' := (147, [some (.ref 42), some (.int s0)], [.int (I 43 (Int32.toNatClampNeg (I 42 10))), .ref 42], (I, L, D, am_rf X))) rfl rfl (am_s_iald rfl o) ?_
    refine am_wpb (c' := (165, [some (.ref 42), some (.int s0)], [.int ((I 43 (Int32.toNatClampNeg (I 42 10))) - 97), .ref 42], (I, L, D, am_rf X))) 3 rfl ?_
    exact h
theorem w123_165 {ext : Nat → List Value → am_M → Option am_R} {d : Nat} {P : am_R → Prop} (I : Nat → Nat → Int32) (L : Nat → Nat → Int64) (D : Nat → Nat → UInt64) (X : am_Rf) (v1 : Int32) (s0 : Int32)
    (h : ((v1 = 0 → (((0 ≤ s0 → (P (none, (am_uI (am_uI I 42 9 s0) 42 8 1, L, D, am_rf X)))) ∧ (¬ 0 ≤ s0 → (P (none, (am_uI (am_uI I 42 9 s0) 42 8 5, L, D, am_rf X))))))) ∧ (¬ v1 = 0 → (P (none, (am_uI (am_uI I 42 9 s0) 42 8 2, L, D, am_rf X)))))) : am_wp ext d mz_123 (165, [some (.ref 42), some (.int v1)], [.int s0, .ref 42], (I, L, D, am_rf X)) P := by
  refine am_wpb (c' := (170, [some (.ref 42), some (.int v1)], [.int v1, .ref 42], (am_uI I 42 9 s0, L, D, am_rf X))) 3 rfl ?_
  refine am_b1_eq rfl (fun z => ?_) (fun z => ?_)
  · replace h := h.1 z
    refine am_wpb (c' := (181, [some (.ref 42), some (.int v1)], [.int s0, .ref 42], (am_uI I 42 9 s0, L, D, am_rf X))) 2 rfl ?_
    refine am_b1_ge rfl (fun z => ?_) (fun z => ?_)
    · replace h := h.1 z
      refine am_wpb (c' := (323, [some (.ref 42), some (.int v1)], [], (am_uI (am_uI I 42 9 s0) 42 8 1, L, D, am_rf X))) 3 rfl ?_
      exact am_ret_v rfl rfl h
    · replace h := h.2 z
      refine am_wpb (c' := (323, [some (.ref 42), some (.int v1)], [], (am_uI (am_uI I 42 9 s0) 42 8 5, L, D, am_rf X))) 4 rfl ?_
      exact am_ret_v rfl rfl h
  · replace h := h.2 z
    refine am_wpb (c' := (323, [some (.ref 42), some (.int v1)], [], (am_uI (am_uI I 42 9 s0) 42 8 2, L, D, am_rf X))) 4 rfl ?_
    exact am_ret_v rfl rfl h
theorem w123_216 {ext : Nat → List Value → am_M → Option am_R} {d : Nat} {P : am_R → Prop} (I : Nat → Nat → Int32) (L : Nat → Nat → Int64) (D : Nat → Nat → UInt64) (X : am_Rf)
    (h : ∃ (r1 : Int32) (I1 : Nat → Nat → Int32) (L1 : Nat → Nat → Int64) (D1 : Nat → Nat → UInt64), am_Rn ext d 121 [.ref 42, .int (I 42 7)] (I, L, D, am_rf X) (some (.int r1), (I1, L1, D1, am_rf X)) ∧ (((r1 = 0 → (P (none, (I1, L1, D1, am_rf X)))) ∧ (¬ r1 = 0 → ((((I1 42 9) ≤ 999 → (am_inb (I1 42 7) 500 = true ∧ (am_wp ext d mz_123 (216, [some (.ref 42), none], [], (am_uI (am_uI I1 42 9 (((10 * (I1 42 9)) + (I1 43 (Int32.toNatClampNeg (I1 42 7)))) - 48)) 42 7 ((I1 42 7) + 1), L1, D1, am_rf X)) P))) ∧ (¬ (I1 42 9) ≤ 999 → (am_wp ext d mz_123 (216, [some (.ref 42), none], [], (am_uI (am_uI I1 42 9 (I1 42 9)) 42 7 ((I1 42 7) + 1), L1, D1, am_rf X)) P)))))))) : am_wp ext d mz_123 (216, [some (.ref 42), none], [], (I, L, D, am_rf X)) P := by
  refine am_wpb (c' := (221, [some (.ref 42), none], [.int (I 42 7), .ref 42], (I, L, D, am_rf X))) 3 rfl ?_
  obtain ⟨r1, I1, L1, D1, hr, h⟩ := h
  refine am_wp_inv (as := [.ref 42, .int (I 42 7)]) rfl rfl rfl rfl ⟨_, hr, ?_⟩
  show am_wp ext d mz_123 (224, [some (.ref 42), none], [.int r1], (I1, L1, D1, am_rf X)) P
  refine am_b1_eq rfl (fun z => ?_) (fun z => ?_)
  · replace h := h.1 z
    exact am_ret_v rfl rfl h
  · replace h := h.2 z
    refine am_wpb (c' := (235, [some (.ref 42), none], [.int 999, .int (I1 42 9), .ref 42], (I1, L1, D1, am_rf X))) 4 rfl ?_
    refine am_b2_le rfl (fun z => ?_) (fun z => ?_)
    · replace h := h.1 z
      refine am_wpb (c' := (260, [some (.ref 42), none], [.int (I1 42 7), .ref 43, .int (10 * (I1 42 9)), .ref 42], (I1, L1, D1, am_rf X))) 8 rfl ?_
      obtain ⟨o, h⟩ := h
      refine am_wps (c' := (261, [some (.ref 42), none], [.int (I1 43 (Int32.toNatClampNeg (I1 42 7))), .int (10 * (I1 42 9)), .ref 42], (I1, L1, D1, am_rf X))) rfl rfl (am_s_iald rfl o) ?_
      refine am_wpb (c' := (216, [some (.ref 42), none], [], (am_uI (am_uI I1 42 9 (((10 * (I1 42 9)) + (I1 43 (Int32.toNatClampNeg (I1 42 7)))) - 48)) 42 7 ((I1 42 7) + 1), L1, D1, am_rf X))) 11 rfl ?_
      exact h
    · replace h := h.2 z
      refine am_wpb (c' := (216, [some (.ref 42), none], [], (am_uI (am_uI I1 42 9 (I1 42 9)) 42 7 ((I1 42 7) + 1), L1, D1, am_rf X))) 11 rfl ?_
      exact h
/-- SureSumsModel.isSign(I)Z -/
def mz_124 : am_Y := (fun pc => am_q124.lookup pc, 2, 2)
theorem mh_124 : am_Ys 124 = some mz_124 := rfl
theorem w124_0 {ext : Nat → List Value → am_M → Option am_R} {d : Nat} {P : am_R → Prop} (I : Nat → Nat → Int32) (L : Nat → Nat → Int64) (D : Nat → Nat → UInt64) (X : am_Rf) (v1 : Int32)
    (h : ((¬ (I 42 8) = 4 → (P (some (.int 0), (I, L, D, am_rf X)))) ∧ ((I 42 8) = 4 → (((¬ (I 42 9) = v1 → (P (some (.int 0), (I, L, D, am_rf X)))) ∧ ((I 42 9) = v1 → (P (some (.int 1), (I, L, D, am_rf X))))))))) : am_wp ext d mz_124 (0, [some (.ref 42), some (.int v1)], [], (I, L, D, am_rf X)) P := by
  refine am_wpb (c' := (5, [some (.ref 42), some (.int v1)], [.int 4, .int (I 42 8)], (I, L, D, am_rf X))) 3 rfl ?_
  refine am_b2_ne rfl (fun z => ?_) (fun z => ?_)
  · replace h := h.1 z
    refine am_wpb (c' := (21, [some (.ref 42), some (.int v1)], [.int 0], (I, L, D, am_rf X))) 1 rfl ?_
    exact am_ret_z rfl rfl (Or.inl rfl) h
  · replace h := h.2 z
    refine am_wpb (c' := (13, [some (.ref 42), some (.int v1)], [.int v1, .int (I 42 9)], (I, L, D, am_rf X))) 3 rfl ?_
    refine am_b2_ne rfl (fun z => ?_) (fun z => ?_)
    · replace h := h.1 z
      refine am_wpb (c' := (21, [some (.ref 42), some (.int v1)], [.int 0], (I, L, D, am_rf X))) 1 rfl ?_
      exact am_ret_z rfl rfl (Or.inl rfl) h
    · replace h := h.2 z
      refine am_wpb (c' := (21, [some (.ref 42), some (.int v1)], [.int 1], (I, L, D, am_rf X))) 2 rfl ?_
      exact am_ret_z rfl rfl (Or.inr rfl) h
/-- SureSumsModel.comes(I)Z -/
def mz_125 : am_Y := (fun pc => am_q125.lookup pc, 2, 2)
theorem mh_125 : am_Ys 125 = some mz_125 := rfl
theorem w125_0 {ext : Nat → List Value → am_M → Option am_R} {d : Nat} {P : am_R → Prop} (I : Nat → Nat → Int32) (L : Nat → Nat → Int64) (D : Nat → Nat → UInt64) (X : am_Rf) (v1 : Int32)
    (h : ∃ (r1 : Int32) (I1 : Nat → Nat → Int32) (L1 : Nat → Nat → Int64) (D1 : Nat → Nat → UInt64), am_Rn ext d 124 [.ref 42, .int v1] (I, L, D, am_rf X) (some (.int r1), (I1, L1, D1, am_rf X)) ∧ (((¬ r1 = 0 → (∃ (I2 : Nat → Nat → Int32) (L2 : Nat → Nat → Int64) (D2 : Nat → Nat → UInt64), am_Rn ext d 123 [.ref 42] (I1, L1, D1, am_rf X) (none, (I2, L2, D2, am_rf X)) ∧ (P (some (.int 1), (I2, L2, D2, am_rf X))))) ∧ (r1 = 0 → (∃ (r3 : Int32) (I3 : Nat → Nat → Int32) (L3 : Nat → Nat → Int64) (D3 : Nat → Nat → UInt64), am_Rn ext d 118 [.ref 42, .int 1] (I1, L1, D1, am_rf X) (some (.int r3), (I3, L3, D3, am_rf X)) ∧ ((r3 = 0 ∨ r3 = 1) ∧ P (some (.int r3), (I3, L3, D3, am_rf X)))))))) : am_wp ext d mz_125 (0, [some (.ref 42), some (.int v1)], [], (I, L, D, am_rf X)) P := by
  refine am_wpb (c' := (2, [some (.ref 42), some (.int v1)], [.int v1, .ref 42], (I, L, D, am_rf X))) 2 rfl ?_
  obtain ⟨r1, I1, L1, D1, hr, h⟩ := h
  refine am_wp_inv (as := [.ref 42, .int v1]) rfl rfl rfl rfl ⟨_, hr, ?_⟩
  show am_wp ext d mz_125 (5, [some (.ref 42), some (.int v1)], [.int r1], (I1, L1, D1, am_rf X)) P
  refine am_b1_ne rfl (fun z => ?_) (fun z => ?_)
  · replace h := h.1 z
    refine am_wpb (c' := (15, [some (.ref 42), some (.int v1)], [.ref 42], (I1, L1, D1, am_rf X))) 1 rfl ?_
    obtain ⟨I2, L2, D2, hr, h⟩ := h
    refine am_wp_inv (as := [.ref 42]) rfl rfl rfl rfl ⟨_, hr, ?_⟩
    show am_wp ext d mz_125 (18, [some (.ref 42), some (.int v1)], [], (I2, L2, D2, am_rf X)) P
    refine am_wpb (c' := (19, [some (.ref 42), some (.int v1)], [.int 1], (I2, L2, D2, am_rf X))) 1 rfl ?_
    exact am_ret_z rfl rfl (Or.inr rfl) h
  · replace h := h.2 z
    refine am_wpb (c' := (10, [some (.ref 42), some (.int v1)], [.int 1, .ref 42], (I1, L1, D1, am_rf X))) 2 rfl ?_
    obtain ⟨r3, I3, L3, D3, hr, h⟩ := h
    refine am_wp_inv (as := [.ref 42, .int 1]) rfl rfl rfl rfl ⟨_, hr, ?_⟩
    show am_wp ext d mz_125 (13, [some (.ref 42), some (.int v1)], [.int r3], (I3, L3, D3, am_rf X)) P
    exact am_ret_z rfl rfl h.1 h.2
/-- SureSumsModel.grown(II)I -/
def mz_126 : am_Y := (fun pc => am_q126.lookup pc, 4, 1)
theorem mh_126 : am_Ys 126 = some mz_126 := rfl
theorem w126_0 {ext : Nat → List Value → am_M → Option am_R} {d : Nat} {P : am_R → Prop} (I : Nat → Nat → Int32) (L : Nat → Nat → Int64) (D : Nat → Nat → UInt64) (X : am_Rf) (v1 : Int32) (v2 : Int32)
    (h : ((¬ (I 42 18) = 96 → (am_inb (96 + (I 42 18)) 192 = true ∧ (am_inb (96 + (I 42 18)) 192 = true ∧ (am_inb (96 + (I 42 18)) 192 = true ∧ (am_inb (96 + (I 42 18)) 192 = true ∧ (am_inb (96 + (I 42 18)) 192 = true ∧ (am_inb (96 + (I 42 18)) 192 = true ∧ (P (some (.int (96 + (I 42 18))), (am_uI (am_uI (am_uI (am_uI (am_uI (am_uI (am_uI I 42 18 ((I 42 18) + 1)) 45 (Int32.toNatClampNeg (96 + (I 42 18))) v1) 46 (Int32.toNatClampNeg (96 + (I 42 18))) v2) 47 (Int32.toNatClampNeg (96 + (I 42 18))) (-1)) 48 (Int32.toNatClampNeg (96 + (I 42 18))) (-1)) 49 (Int32.toNatClampNeg (96 + (I 42 18))) (-1)) 50 (Int32.toNatClampNeg (96 + (I 42 18))) (-1), L, D, am_rf X)))))))))) ∧ ((I 42 18) = 96 → (∃ (r1 : Int32) (I1 : Nat → Nat → Int32) (L1 : Nat → Nat → Int64) (D1 : Nat → Nat → UInt64), am_Rn ext d 118 [.ref 42, .int 2] (I, L, D, am_rf X) (some (.int r1), (I1, L1, D1, am_rf X)) ∧ (P (some (.int (-1)), (I1, L1, D1, am_rf X))))))) : am_wp ext d mz_126 (0, [some (.ref 42), some (.int v1), some (.int v2), none], [], (I, L, D, am_rf X)) P := by
  refine am_wpb (c' := (6, [some (.ref 42), some (.int v1), some (.int v2), none], [.int 96, .int (I 42 18)], (I, L, D, am_rf X))) 3 rfl ?_
  refine am_b2_ne rfl (fun z => ?_) (fun z => ?_)
  · replace h := h.1 z
    refine am_wpb (c' := (41, [some (.ref 42), some (.int v1), some (.int v2), some (.int (96 + (I 42 18)))], [.int v1, .int (96 + (I 42 18)), .ref 45], (am_uI I 42 18 ((I 42 18) + 1), L, D, am_rf X))) 15 rfl ?_
    obtain ⟨o, h⟩ := h
    refine am_wps (c' := (42, [some (.ref 42), some (.int v1), some (.int v2), some (.int (96 + (I 42 18)))], [], (am_uI (am_uI I 42 18 ((I 42 18) + 1)) 45 (Int32.toNatClampNeg (96 + (I 42 18))) v1, L, D, am_rf X))) rfl rfl (am_s_iast rfl o) ?_
    refine am_wpb (c' := (48, [some (.ref 42), some (.int v1), some (.int v2), some (.int (96 + (I 42 18)))], [.int v2, .int (96 + (I 42 18)), .ref 46], (am_uI (am_uI I 42 18 ((I 42 18) + 1)) 45 (Int32.toNatClampNeg (96 + (I 42 18))) v1, L, D, am_rf X))) 4 rfl ?_
    obtain ⟨o, h⟩ := h
    refine am_wps (c' := (49, [some (.ref 42), some (.int v1), some (.int v2), some (.int (96 + (I 42 18)))], [], (am_uI (am_uI (am_uI I 42 18 ((I 42 18) + 1)) 45 (Int32.toNatClampNeg (96 + (I 42 18))) v1) 46 (Int32.toNatClampNeg (96 + (I 42 18))) v2, L, D, am_rf X))) rfl rfl (am_s_iast rfl o) ?_
    refine am_wpb (c' := (55, [some (.ref 42), some (.int v1), some (.int v2), some (.int (96 + (I 42 18)))], [.int (-1), .int (96 + (I 42 18)), .ref 47], (am_uI (am_uI (am_uI I 42 18 ((I 42 18) + 1)) 45 (Int32.toNatClampNeg (96 + (I 42 18))) v1) 46 (Int32.toNatClampNeg (96 + (I 42 18))) v2, L, D, am_rf X))) 4 rfl ?_
    obtain ⟨o, h⟩ := h
    refine am_wps (c' := (56, [some (.ref 42), some (.int v1), some (.int v2), some (.int (96 + (I 42 18)))], [], (am_uI (am_uI (am_uI (am_uI I 42 18 ((I 42 18) + 1)) 45 (Int32.toNatClampNeg (96 + (I 42 18))) v1) 46 (Int32.toNatClampNeg (96 + (I 42 18))) v2) 47 (Int32.toNatClampNeg (96 + (I 42 18))) (-1), L, D, am_rf X))) rfl rfl (am_s_iast rfl o) ?_
    refine am_wpb (c' := (62, [some (.ref 42), some (.int v1), some (.int v2), some (.int (96 + (I 42 18)))], [.int (-1), .int (96 + (I 42 18)), .ref 48], (am_uI (am_uI (am_uI (am_uI I 42 18 ((I 42 18) + 1)) 45 (Int32.toNatClampNeg (96 + (I 42 18))) v1) 46 (Int32.toNatClampNeg (96 + (I 42 18))) v2) 47 (Int32.toNatClampNeg (96 + (I 42 18))) (-1), L, D, am_rf X))) 4 rfl ?_
    obtain ⟨o, h⟩ := h
    refine am_wps (c' := (63, [some (.ref 42), some (.int v1), some (.int v2), some (.int (96 + (I 42 18)))], [], (am_uI (am_uI (am_uI (am_uI (am_uI I 42 18 ((I 42 18) + 1)) 45 (Int32.toNatClampNeg (96 + (I 42 18))) v1) 46 (Int32.toNatClampNeg (96 + (I 42 18))) v2) 47 (Int32.toNatClampNeg (96 + (I 42 18))) (-1)) 48 (Int32.toNatClampNeg (96 + (I 42 18))) (-1), L, D, am_rf X))) rfl rfl (am_s_iast rfl o) ?_
    refine am_wpb (c' := (69, [some (.ref 42), some (.int v1), some (.int v2), some (.int (96 + (I 42 18)))], [.int (-1), .int (96 + (I 42 18)), .ref 49], (am_uI (am_uI (am_uI (am_uI (am_uI I 42 18 ((I 42 18) + 1)) 45 (Int32.toNatClampNeg (96 + (I 42 18))) v1) 46 (Int32.toNatClampNeg (96 + (I 42 18))) v2) 47 (Int32.toNatClampNeg (96 + (I 42 18))) (-1)) 48 (Int32.toNatClampNeg (96 + (I 42 18))) (-1), L, D, am_rf X))) 4 rfl ?_
    obtain ⟨o, h⟩ := h
    refine am_wps (c' := (70, [some (.ref 42), some (.int v1), some (.int v2), some (.int (96 + (I 42 18)))], [], (am_uI (am_uI (am_uI (am_uI (am_uI (am_uI I 42 18 ((I 42 18) + 1)) 45 (Int32.toNatClampNeg (96 + (I 42 18))) v1) 46 (Int32.toNatClampNeg (96 + (I 42 18))) v2) 47 (Int32.toNatClampNeg (96 + (I 42 18))) (-1)) 48 (Int32.toNatClampNeg (96 + (I 42 18))) (-1)) 49 (Int32.toNatClampNeg (96 + (I 42 18))) (-1), L, D, am_rf X))) rfl rfl (am_s_iast rfl o) ?_
    refine am_wpb (c' := (76, [some (.ref 42), some (.int v1), some (.int v2), some (.int (96 + (I 42 18)))], [.int (-1), .int (96 + (I 42 18)), .ref 50], (am_uI (am_uI (am_uI (am_uI (am_uI (am_uI I 42 18 ((I 42 18) + 1)) 45 (Int32.toNatClampNeg (96 + (I 42 18))) v1) 46 (Int32.toNatClampNeg (96 + (I 42 18))) v2) 47 (Int32.toNatClampNeg (96 + (I 42 18))) (-1)) 48 (Int32.toNatClampNeg (96 + (I 42 18))) (-1)) 49 (Int32.toNatClampNeg (96 + (I 42 18))) (-1), L, D, am_rf X))) 4 rfl ?_
    obtain ⟨o, h⟩ := h
    refine am_wps (c' := (77, [some (.ref 42), some (.int v1), some (.int v2), some (.int (96 + (I 42 18)))], [], (am_uI (am_uI (am_uI (am_uI (am_uI (am_uI (am_uI I 42 18 ((I 42 18) + 1)) 45 (Int32.toNatClampNeg (96 + (I 42 18))) v1) 46 (Int32.toNatClampNeg (96 + (I 42 18))) v2) 47 (Int32.toNatClampNeg (96 + (I 42 18))) (-1)) 48 (Int32.toNatClampNeg (96 + (I 42 18))) (-1)) 49 (Int32.toNatClampNeg (96 + (I 42 18))) (-1)) 50 (Int32.toNatClampNeg (96 + (I 42 18))) (-1), L, D, am_rf X))) rfl rfl (am_s_iast rfl o) ?_
    refine am_wpb (c' := (78, [some (.ref 42), some (.int v1), some (.int v2), some (.int (96 + (I 42 18)))], [.int (96 + (I 42 18))], (am_uI (am_uI (am_uI (am_uI (am_uI (am_uI (am_uI I 42 18 ((I 42 18) + 1)) 45 (Int32.toNatClampNeg (96 + (I 42 18))) v1) 46 (Int32.toNatClampNeg (96 + (I 42 18))) v2) 47 (Int32.toNatClampNeg (96 + (I 42 18))) (-1)) 48 (Int32.toNatClampNeg (96 + (I 42 18))) (-1)) 49 (Int32.toNatClampNeg (96 + (I 42 18))) (-1)) 50 (Int32.toNatClampNeg (96 + (I 42 18))) (-1), L, D, am_rf X))) 1 rfl ?_
    exact am_ret_i rfl rfl h
  · replace h := h.2 z
    refine am_wpb (c' := (11, [some (.ref 42), some (.int v1), some (.int v2), none], [.int 2, .ref 42], (I, L, D, am_rf X))) 2 rfl ?_
    obtain ⟨r1, I1, L1, D1, hr, h⟩ := h
    refine am_wp_inv (as := [.ref 42, .int 2]) rfl rfl rfl rfl ⟨_, hr, ?_⟩
    show am_wp ext d mz_126 (14, [some (.ref 42), some (.int v1), some (.int v2), none], [.int r1], (I1, L1, D1, am_rf X)) P
    refine am_wpb (c' := (16, [some (.ref 42), some (.int v1), some (.int v2), some (.int r1)], [.int (-1)], (I1, L1, D1, am_rf X))) 2 rfl ?_
    exact am_ret_i rfl rfl h
/-- SureSumsModel.weight(I)I -/
def mz_127 : am_Y := (fun pc => am_q127.lookup pc, 1, 1)
theorem mh_127 : am_Ys 127 = some mz_127 := rfl
theorem w127_0 {ext : Nat → List Value → am_M → Option am_R} {d : Nat} {P : am_R → Prop} (I : Nat → Nat → Int32) (L : Nat → Nat → Int64) (D : Nat → Nat → UInt64) (X : am_Rf) (v0 : Int32)
    (h : ((v0 < 100 → (((¬ v0 = 3 → (((v0 = 8 → (P (some (.int 2), (I, L, D, am_rf X)))) ∧ (¬ v0 = 8 → (((¬ v0 = 9 → (P (some (.int 1), (I, L, D, am_rf X)))) ∧ (v0 = 9 → (P (some (.int 2), (I, L, D, am_rf X)))))))))) ∧ (v0 = 3 → (P (some (.int 3), (I, L, D, am_rf X))))))) ∧ (¬ v0 < 100 → (P (some (.int 0), (I, L, D, am_rf X)))))) : am_wp ext d mz_127 (0, [some (.int v0)], [], (I, L, D, am_rf X)) P := by
  refine am_wpb (c' := (3, [some (.int v0)], [.int 100, .int v0], (I, L, D, am_rf X))) 2 rfl ?_
  refine am_b2_lt rfl (fun z => ?_) (fun z => ?_)
  · replace h := h.1 z
    refine am_wpb (c' := (12, [some (.int v0)], [.int 3, .int v0], (I, L, D, am_rf X))) 2 rfl ?_
    refine am_b2_ne rfl (fun z => ?_) (fun z => ?_)
    · replace h := h.1 z
      refine am_wpb (c' := (22, [some (.int v0)], [.int 8, .int v0], (I, L, D, am_rf X))) 2 rfl ?_
      refine am_b2_eq rfl (fun z => ?_) (fun z => ?_)
      · replace h := h.1 z
        refine am_wpb (c' := (36, [some (.int v0)], [.int 2], (I, L, D, am_rf X))) 2 rfl ?_
        exact am_ret_i rfl rfl h
      · replace h := h.2 z
        refine am_wpb (c' := (28, [some (.int v0)], [.int 9, .int v0], (I, L, D, am_rf X))) 2 rfl ?_
        refine am_b2_ne rfl (fun z => ?_) (fun z => ?_)
        · replace h := h.1 z
          refine am_wpb (c' := (36, [some (.int v0)], [.int 1], (I, L, D, am_rf X))) 1 rfl ?_
          exact am_ret_i rfl rfl h
        · replace h := h.2 z
          refine am_wpb (c' := (36, [some (.int v0)], [.int 2], (I, L, D, am_rf X))) 2 rfl ?_
          exact am_ret_i rfl rfl h
    · replace h := h.2 z
      refine am_wpb (c' := (36, [some (.int v0)], [.int 3], (I, L, D, am_rf X))) 2 rfl ?_
      exact am_ret_i rfl rfl h
  · replace h := h.2 z
    refine am_wpb (c' := (36, [some (.int v0)], [.int 0], (I, L, D, am_rf X))) 2 rfl ?_
    exact am_ret_i rfl rfl h
