/-- SureSumsModel.letterRead()Z -/
def mz_135 : am_Y := (fun pc => am_q135.lookup pc, 4, 2)
theorem mh_135 : am_Ys 135 = some mz_135 := rfl
theorem w135_0 {ext : Nat → List Value → am_M → Option am_R} {d : Nat} {P : am_R → Prop} (I : Nat → Nat → Int32) (L : Nat → Nat → Int64) (D : Nat → Nat → UInt64) (X : am_Rf)
    (h : (((I 42 9) = 19 → (am_wp ext d mz_135 (28, [some (.ref 42), some (.int (I 42 9)), none, none], [], (I, L, D, am_rf X)) P)) ∧ (¬ (I 42 9) = 19 → (am_inb (26 + (I 42 9)) 52 = true ∧ (((¬ (I 51 (Int32.toNatClampNeg (26 + (I 42 9)))) = 2 → (am_wp ext d mz_135 (28, [some (.ref 42), some (.int (I 42 9)), none, none], [], (I, L, D, am_rf X)) P)) ∧ ((I 51 (Int32.toNatClampNeg (26 + (I 42 9)))) = 2 → (am_wp ext d mz_135 (29, [some (.ref 42), some (.int (I 42 9)), none, none], [.int 1], (I, L, D, am_rf X)) P)))))))) : am_wp ext d mz_135 (0, [some (.ref 42), none, none, none], [], (I, L, D, am_rf X)) P := by
  refine am_wpb (c' := (8, [some (.ref 42), some (.int (I 42 9)), none, none], [.int 19, .int (I 42 9)], (I, L, D, am_rf X))) 5 rfl ?_
  refine am_b2_eq rfl (fun z => ?_) (fun z => ?_)
  · replace h := h.1 z
    exact h
  · replace h := h.2 z
    refine am_wpb (c' := (19, [some (.ref 42), some (.int (I 42 9)), none, none], [.int (26 + (I 42 9)), .ref 51], (I, L, D, am_rf X))) 5 rfl ?_
    obtain ⟨o, h⟩ := h
    refine am_wps (c' := (20, [some (.ref 42), some (.int (I 42 9)), none, none], [.int (I 51 (Int32.toNatClampNeg (26 + (I 42 9))))], (I, L, D, am_rf X))) rfl rfl (am_s_iald rfl o) ?_
    refine am_wpb (c' := (21, [some (.ref 42), some (.int (I 42 9)), none, none], [.int 2, .int (I 51 (Int32.toNatClampNeg (26 + (I 42 9))))], (I, L, D, am_rf X))) 1 rfl ?_
    refine am_b2_ne rfl (fun z => ?_) (fun z => ?_)
    · replace h := h.1 z
      exact h
    · replace h := h.2 z
      refine am_wpb (c' := (29, [some (.ref 42), some (.int (I 42 9)), none, none], [.int 1], (I, L, D, am_rf X))) 2 rfl ?_
      exact h
theorem w135_28 {ext : Nat → List Value → am_M → Option am_R} {d : Nat} {P : am_R → Prop} (I : Nat → Nat → Int32) (L : Nat → Nat → Int64) (D : Nat → Nat → UInt64) (X : am_Rf) (v1 : Int32)
    (h : am_wp ext d mz_135 (29, [some (.ref 42), some (.int v1), none, none], [.int 0], (I, L, D, am_rf X)) P) : am_wp ext d mz_135 (28, [some (.ref 42), some (.int v1), none, none], [], (I, L, D, am_rf X)) P := by
  refine am_wpb (c' := (29, [some (.ref 42), some (.int v1), none, none], [.int 0], (I, L, D, am_rf X))) 1 rfl ?_
  exact h
theorem w135_29 {ext : Nat → List Value → am_M → Option am_R} {d : Nat} {P : am_R → Prop} (I : Nat → Nat → Int32) (L : Nat → Nat → Int64) (D : Nat → Nat → UInt64) (X : am_Rf) (v1 : Int32) (s0 : Int32)
    (h : ((¬ v1 = 19 → (((s0 = 0 → (am_wp ext d mz_135 (51, [some (.ref 42), some (.int v1), some (.int s0), none], [.int 2, .ref 42], (I, L, D, am_rf X)) P)) ∧ (¬ s0 = 0 → (am_wp ext d mz_135 (51, [some (.ref 42), some (.int v1), some (.int s0), none], [.int 14, .ref 42], (I, L, D, am_rf X)) P))))) ∧ (v1 = 19 → (am_wp ext d mz_135 (51, [some (.ref 42), some (.int v1), some (.int s0), none], [.int 1, .ref 42], (I, L, D, am_rf X)) P)))) : am_wp ext d mz_135 (29, [some (.ref 42), some (.int v1), none, none], [.int s0], (I, L, D, am_rf X)) P := by
  refine am_wpb (c' := (34, [some (.ref 42), some (.int v1), some (.int s0), none], [.int 19, .int v1, .ref 42], (I, L, D, am_rf X))) 4 rfl ?_
  refine am_b2_ne rfl (fun z => ?_) (fun z => ?_)
  · replace h := h.1 z
    refine am_wpb (c' := (42, [some (.ref 42), some (.int v1), some (.int s0), none], [.int s0, .ref 42], (I, L, D, am_rf X))) 1 rfl ?_
    refine am_b1_eq rfl (fun z => ?_) (fun z => ?_)
    · replace h := h.1 z
      refine am_wpb (c' := (51, [some (.ref 42), some (.int v1), some (.int s0), none], [.int 2, .ref 42], (I, L, D, am_rf X))) 1 rfl ?_
      exact h
    · replace h := h.2 z
      refine am_wpb (c' := (51, [some (.ref 42), some (.int v1), some (.int s0), none], [.int 14, .ref 42], (I, L, D, am_rf X))) 2 rfl ?_
      exact h
  · replace h := h.2 z
    refine am_wpb (c' := (51, [some (.ref 42), some (.int v1), some (.int s0), none], [.int 1, .ref 42], (I, L, D, am_rf X))) 2 rfl ?_
    exact h
theorem w135_51 {ext : Nat → List Value → am_M → Option am_R} {d : Nat} {P : am_R → Prop} (I : Nat → Nat → Int32) (L : Nat → Nat → Int64) (D : Nat → Nat → UInt64) (X : am_Rf) (v1 : Int32) (v2 : Int32) (s0 : Int32)
    (h : ∃ (r1 : Int32) (I1 : Nat → Nat → Int32) (L1 : Nat → Nat → Int64) (D1 : Nat → Nat → UInt64), am_Rn ext d 126 [.ref 42, .int s0, .int v1] (I, L, D, am_rf X) (some (.int r1), (I1, L1, D1, am_rf X)) ∧ (((0 ≤ r1 → (((¬ v1 = 19 → (am_inb (26 + v1) 52 = true ∧ (((¬ (I1 51 (Int32.toNatClampNeg (26 + v1))) = 0 → (am_wp ext d mz_135 (96, [some (.ref 42), none, some (.int v2), some (.int r1)], [], (I1, L1, D1, am_rf X)) P)) ∧ ((I1 51 (Int32.toNatClampNeg (26 + v1))) = 0 → (∃ (r2 : Int32) (I2 : Nat → Nat → Int32) (L2 : Nat → Nat → Int64) (D2 : Nat → Nat → UInt64), am_Rn ext d 118 [.ref 42, .int 3] (I1, L1, D1, am_rf X) (some (.int r2), (I2, L2, D2, am_rf X)) ∧ ((r2 = 0 ∨ r2 = 1) ∧ P (some (.int r2), (I2, L2, D2, am_rf X))))))))) ∧ (v1 = 19 → (((¬ (I1 42 36) = 0 → (am_wp ext d mz_135 (96, [some (.ref 42), none, some (.int v2), some (.int r1)], [], (I1, L1, D1, am_rf X)) P)) ∧ ((I1 42 36) = 0 → (∃ (r3 : Int32) (I3 : Nat → Nat → Int32) (L3 : Nat → Nat → Int64) (D3 : Nat → Nat → UInt64), am_Rn ext d 118 [.ref 42, .int 3] (I1, L1, D1, am_rf X) (some (.int r3), (I3, L3, D3, am_rf X)) ∧ ((r3 = 0 ∨ r3 = 1) ∧ P (some (.int r3), (I3, L3, D3, am_rf X))))))))))) ∧ (¬ 0 ≤ r1 → (P (some (.int 0), (I1, L1, D1, am_rf X))))))) : am_wp ext d mz_135 (51, [some (.ref 42), some (.int v1), some (.int v2), none], [.int s0, .ref 42], (I, L, D, am_rf X)) P := by
  refine am_wpb (c' := (52, [some (.ref 42), some (.int v1), some (.int v2), none], [.int v1, .int s0, .ref 42], (I, L, D, am_rf X))) 1 rfl ?_
  obtain ⟨r1, I1, L1, D1, hr, h⟩ := h
  refine am_wp_inv (as := [.ref 42, .int s0, .int v1]) rfl rfl rfl rfl ⟨_, hr, ?_⟩
  show am_wp ext d mz_135 (55, [some (.ref 42), some (.int v1), some (.int v2), none], [.int r1], (I1, L1, D1, am_rf X)) P
  refine am_wpb (c' := (57, [some (.ref 42), some (.int v1), some (.int v2), some (.int r1)], [.int r1], (I1, L1, D1, am_rf X))) 2 rfl ?_
  refine am_b1_ge rfl (fun z => ?_) (fun z => ?_)
  · replace h := h.1 z
    refine am_wpb (c' := (65, [some (.ref 42), some (.int v1), some (.int v2), some (.int r1)], [.int 19, .int v1], (I1, L1, D1, am_rf X))) 2 rfl ?_
    refine am_b2_ne rfl (fun z => ?_) (fun z => ?_)
    · replace h := h.1 z
      refine am_wpb (c' := (86, [some (.ref 42), some (.int v1), some (.int v2), some (.int r1)], [.int (26 + v1), .ref 51], (I1, L1, D1, am_rf X))) 5 rfl ?_
      obtain ⟨o, h⟩ := h
      refine am_wps (c' := (87, [some (.ref 42), some (.int v1), some (.int v2), some (.int r1)], [.int (I1 51 (Int32.toNatClampNeg (26 + v1)))], (I1, L1, D1, am_rf X))) rfl rfl (am_s_iald rfl o) ?_
      refine am_b1_ne rfl (fun z => ?_) (fun z => ?_)
      · replace h := h.1 z
        exact am_fgt (l := [some (.ref 42), none, some (.int v2), some (.int r1)]) (am_le_of (am_leS (am_leN (am_leS (am_leS (am_leZ)))))) h
      · replace h := h.2 z
        refine am_wpb (c' := (92, [some (.ref 42), some (.int v1), some (.int v2), some (.int r1)], [.int 3, .ref 42], (I1, L1, D1, am_rf X))) 2 rfl ?_
        obtain ⟨r2, I2, L2, D2, hr, h⟩ := h
        refine am_wp_inv (as := [.ref 42, .int 3]) rfl rfl rfl rfl ⟨_, hr, ?_⟩
        show am_wp ext d mz_135 (95, [some (.ref 42), some (.int v1), some (.int v2), some (.int r1)], [.int r2], (I2, L2, D2, am_rf X)) P
        exact am_ret_z rfl rfl h.1 h.2
    · replace h := h.2 z
      refine am_wpb (c' := (72, [some (.ref 42), some (.int v1), some (.int v2), some (.int r1)], [.int (I1 42 36)], (I1, L1, D1, am_rf X))) 2 rfl ?_
      refine am_b1_ne rfl (fun z => ?_) (fun z => ?_)
      · replace h := h.1 z
        exact am_fgt (l := [some (.ref 42), none, some (.int v2), some (.int r1)]) (am_le_of (am_leS (am_leN (am_leS (am_leS (am_leZ)))))) h
      · replace h := h.2 z
        refine am_wpb (c' := (92, [some (.ref 42), some (.int v1), some (.int v2), some (.int r1)], [.int 3, .ref 42], (I1, L1, D1, am_rf X))) 3 rfl ?_
        obtain ⟨r3, I3, L3, D3, hr, h⟩ := h
        refine am_wp_inv (as := [.ref 42, .int 3]) rfl rfl rfl rfl ⟨_, hr, ?_⟩
        show am_wp ext d mz_135 (95, [some (.ref 42), some (.int v1), some (.int v2), some (.int r1)], [.int r3], (I3, L3, D3, am_rf X)) P
        exact am_ret_z rfl rfl h.1 h.2
  · replace h := h.2 z
    refine am_wpb (c' := (61, [some (.ref 42), some (.int v1), some (.int v2), some (.int r1)], [.int 0], (I1, L1, D1, am_rf X))) 1 rfl ?_
    exact am_ret_z rfl rfl (Or.inl rfl) h
theorem w135_96 {ext : Nat → List Value → am_M → Option am_R} {d : Nat} {P : am_R → Prop} (I : Nat → Nat → Int32) (L : Nat → Nat → Int64) (D : Nat → Nat → UInt64) (X : am_Rf) (v2 : Int32) (v3 : Int32)
    (h : ∃ (I1 : Nat → Nat → Int32) (L1 : Nat → Nat → Int64) (D1 : Nat → Nat → UInt64), am_Rn ext d 123 [.ref 42] (I, L, D, am_rf X) (none, (I1, L1, D1, am_rf X)) ∧ (((v2 = 0 → (∃ (I2 : Nat → Nat → Int32) (L2 : Nat → Nat → Int64) (D2 : Nat → Nat → UInt64), am_Rn ext d 129 [.ref 42, .int v3] (am_uI I1 42 35 0, L1, D1, am_rf X) (none, (I2, L2, D2, am_rf X)) ∧ (P (some (.int 1), (I2, L2, D2, am_rf X))))) ∧ (¬ v2 = 0 → (∃ (r3 : Int32) (I3 : Nat → Nat → Int32) (L3 : Nat → Nat → Int64) (D3 : Nat → Nat → UInt64), am_Rn ext d 132 [.ref 42, .int v3] (I1, L1, D1, am_rf X) (some (.int r3), (I3, L3, D3, am_rf X)) ∧ ((r3 = 0 ∨ r3 = 1) ∧ P (some (.int r3), (I3, L3, D3, am_rf X)))))))) : am_wp ext d mz_135 (96, [some (.ref 42), none, some (.int v2), some (.int v3)], [], (I, L, D, am_rf X)) P := by
  refine am_wpb (c' := (97, [some (.ref 42), none, some (.int v2), some (.int v3)], [.ref 42], (I, L, D, am_rf X))) 1 rfl ?_
  obtain ⟨I1, L1, D1, hr, h⟩ := h
  refine am_wp_inv (as := [.ref 42]) rfl rfl rfl rfl ⟨_, hr, ?_⟩
  show am_wp ext d mz_135 (100, [some (.ref 42), none, some (.int v2), some (.int v3)], [], (I1, L1, D1, am_rf X)) P
  refine am_wpb (c' := (101, [some (.ref 42), none, some (.int v2), some (.int v3)], [.int v2], (I1, L1, D1, am_rf X))) 1 rfl ?_
  refine am_b1_eq rfl (fun z => ?_) (fun z => ?_)
  · replace h := h.1 z
    refine am_wpb (c' := (117, [some (.ref 42), none, some (.int v2), some (.int v3)], [.int v3, .ref 42], (am_uI I1 42 35 0, L1, D1, am_rf X))) 5 rfl ?_
    obtain ⟨I2, L2, D2, hr, h⟩ := h
    refine am_wp_inv (as := [.ref 42, .int v3]) rfl rfl rfl rfl ⟨_, hr, ?_⟩
    show am_wp ext d mz_135 (120, [some (.ref 42), none, some (.int v2), some (.int v3)], [], (I2, L2, D2, am_rf X)) P
    refine am_wpb (c' := (121, [some (.ref 42), none, some (.int v2), some (.int v3)], [.int 1], (I2, L2, D2, am_rf X))) 1 rfl ?_
    exact am_ret_z rfl rfl (Or.inr rfl) h
  · replace h := h.2 z
    refine am_wpb (c' := (106, [some (.ref 42), none, some (.int v2), some (.int v3)], [.int v3, .ref 42], (I1, L1, D1, am_rf X))) 2 rfl ?_
    obtain ⟨r3, I3, L3, D3, hr, h⟩ := h
    refine am_wp_inv (as := [.ref 42, .int v3]) rfl rfl rfl rfl ⟨_, hr, ?_⟩
    show am_wp ext d mz_135 (109, [some (.ref 42), none, some (.int v2), some (.int v3)], [.int r3], (I3, L3, D3, am_rf X)) P
    exact am_ret_z rfl rfl h.1 h.2
/-- SureSumsModel.wordRead()Z -/
def mz_136 : am_Y := (fun pc => am_q136.lookup pc, 3, 2)
theorem mh_136 : am_Ys 136 = some mz_136 := rfl
theorem w136_0 {ext : Nat → List Value → am_M → Option am_R} {d : Nat} {P : am_R → Prop} (I : Nat → Nat → Int32) (L : Nat → Nat → Int64) (D : Nat → Nat → UInt64) (X : am_Rf)
    (h : ((2 ≤ (I 42 9) → ((((I 42 9) < 7 → (((¬ (I 42 9) = 6 → (((4 ≤ (I 42 9) → (am_wp ext d mz_136 (58, [some (.ref 42), some (.int (I 42 9)), none], [.int ((10 + (I 42 9)) - 4), .ref 42], (I, L, D, am_rf X)) P)) ∧ (¬ 4 ≤ (I 42 9) → (am_wp ext d mz_136 (58, [some (.ref 42), some (.int (I 42 9)), none], [.int ((4 + (I 42 9)) - 2), .ref 42], (I, L, D, am_rf X)) P))))) ∧ ((I 42 9) = 6 → (am_wp ext d mz_136 (58, [some (.ref 42), some (.int (I 42 9)), none], [.int 12, .ref 42], (I, L, D, am_rf X)) P))))) ∧ (¬ (I 42 9) < 7 → (am_wp ext d mz_136 (58, [some (.ref 42), some (.int (I 42 9)), none], [.int 15, .ref 42], (I, L, D, am_rf X)) P))))) ∧ (¬ 2 ≤ (I 42 9) → (∃ (r1 : Int32) (I1 : Nat → Nat → Int32) (L1 : Nat → Nat → Int64) (D1 : Nat → Nat → UInt64), am_Rn ext d 118 [.ref 42, .int 1] (I, L, D, am_rf X) (some (.int r1), (I1, L1, D1, am_rf X)) ∧ ((r1 = 0 ∨ r1 = 1) ∧ P (some (.int r1), (I1, L1, D1, am_rf X))))))) : am_wp ext d mz_136 (0, [some (.ref 42), none, none], [], (I, L, D, am_rf X)) P := by
  refine am_wpb (c' := (7, [some (.ref 42), some (.int (I 42 9)), none], [.int 2, .int (I 42 9)], (I, L, D, am_rf X))) 5 rfl ?_
  refine am_b2_ge rfl (fun z => ?_) (fun z => ?_)
  · replace h := h.1 z
    refine am_wpb (c' := (20, [some (.ref 42), some (.int (I 42 9)), none], [.int 7, .int (I 42 9), .ref 42], (I, L, D, am_rf X))) 3 rfl ?_
    refine am_b2_lt rfl (fun z => ?_) (fun z => ?_)
    · replace h := h.1 z
      refine am_wpb (c' := (31, [some (.ref 42), some (.int (I 42 9)), none], [.int 6, .int (I 42 9), .ref 42], (I, L, D, am_rf X))) 2 rfl ?_
      refine am_b2_ne rfl (fun z => ?_) (fun z => ?_)
      · replace h := h.1 z
        refine am_wpb (c' := (41, [some (.ref 42), some (.int (I 42 9)), none], [.int 4, .int (I 42 9), .ref 42], (I, L, D, am_rf X))) 2 rfl ?_
        refine am_b2_ge rfl (fun z => ?_) (fun z => ?_)
        · replace h := h.1 z
          refine am_wpb (c' := (58, [some (.ref 42), some (.int (I 42 9)), none], [.int ((10 + (I 42 9)) - 4), .ref 42], (I, L, D, am_rf X))) 5 rfl ?_
          exact h
        · replace h := h.2 z
          refine am_wpb (c' := (58, [some (.ref 42), some (.int (I 42 9)), none], [.int ((4 + (I 42 9)) - 2), .ref 42], (I, L, D, am_rf X))) 6 rfl ?_
          exact h
      · replace h := h.2 z
        refine am_wpb (c' := (58, [some (.ref 42), some (.int (I 42 9)), none], [.int 12, .ref 42], (I, L, D, am_rf X))) 2 rfl ?_
        exact h
    · replace h := h.2 z
      refine am_wpb (c' := (58, [some (.ref 42), some (.int (I 42 9)), none], [.int 15, .ref 42], (I, L, D, am_rf X))) 2 rfl ?_
      exact h
  · replace h := h.2 z
    refine am_wpb (c' := (12, [some (.ref 42), some (.int (I 42 9)), none], [.int 1, .ref 42], (I, L, D, am_rf X))) 2 rfl ?_
    obtain ⟨r1, I1, L1, D1, hr, h⟩ := h
    refine am_wp_inv (as := [.ref 42, .int 1]) rfl rfl rfl rfl ⟨_, hr, ?_⟩
    show am_wp ext d mz_136 (15, [some (.ref 42), some (.int (I 42 9)), none], [.int r1], (I1, L1, D1, am_rf X)) P
    exact am_ret_z rfl rfl h.1 h.2
theorem w136_58 {ext : Nat → List Value → am_M → Option am_R} {d : Nat} {P : am_R → Prop} (I : Nat → Nat → Int32) (L : Nat → Nat → Int64) (D : Nat → Nat → UInt64) (X : am_Rf) (v1 : Int32) (s0 : Int32)
    (h : ∃ (r1 : Int32) (I1 : Nat → Nat → Int32) (L1 : Nat → Nat → Int64) (D1 : Nat → Nat → UInt64), am_Rn ext d 126 [.ref 42, .int s0, .int (v1 - 7)] (I, L, D, am_rf X) (some (.int r1), (I1, L1, D1, am_rf X)) ∧ (((0 ≤ r1 → (∃ (I2 : Nat → Nat → Int32) (L2 : Nat → Nat → Int64) (D2 : Nat → Nat → UInt64), am_Rn ext d 123 [.ref 42] (I1, L1, D1, am_rf X) (none, (I2, L2, D2, am_rf X)) ∧ (((v1 < 7 → (∃ (r3 : Int32) (I3 : Nat → Nat → Int32) (L3 : Nat → Nat → Int64) (D3 : Nat → Nat → UInt64), am_Rn ext d 132 [.ref 42, .int r1] (I2, L2, D2, am_rf X) (some (.int r3), (I3, L3, D3, am_rf X)) ∧ ((r3 = 0 ∨ r3 = 1) ∧ P (some (.int r3), (I3, L3, D3, am_rf X))))) ∧ (¬ v1 < 7 → (∃ (r4 : Int32) (I4 : Nat → Nat → Int32) (L4 : Nat → Nat → Int64) (D4 : Nat → Nat → UInt64), am_Rn ext d 134 [.ref 42, .int r1] (I2, L2, D2, am_rf X) (some (.int r4), (I4, L4, D4, am_rf X)) ∧ ((r4 = 0 ∨ r4 = 1) ∧ P (some (.int r4), (I4, L4, D4, am_rf X))))))))) ∧ (¬ 0 ≤ r1 → (P (some (.int 0), (I1, L1, D1, am_rf X))))))) : am_wp ext d mz_136 (58, [some (.ref 42), some (.int v1), none], [.int s0, .ref 42], (I, L, D, am_rf X)) P := by
  refine am_wpb (c' := (62, [some (.ref 42), some (.int v1), none], [.int (v1 - 7), .int s0, .ref 42], (I, L, D, am_rf X))) 3 rfl ?_
  obtain ⟨r1, I1, L1, D1, hr, h⟩ := h
  refine am_wp_inv (as := [.ref 42, .int s0, .int (v1 - 7)]) rfl rfl rfl rfl ⟨_, hr, ?_⟩
  show am_wp ext d mz_136 (65, [some (.ref 42), some (.int v1), none], [.int r1], (I1, L1, D1, am_rf X)) P
  refine am_wpb (c' := (67, [some (.ref 42), some (.int v1), some (.int r1)], [.int r1], (I1, L1, D1, am_rf X))) 2 rfl ?_
  refine am_b1_ge rfl (fun z => ?_) (fun z => ?_)
  · replace h := h.1 z
    refine am_wpb (c' := (73, [some (.ref 42), some (.int v1), some (.int r1)], [.ref 42], (I1, L1, D1, am_rf X))) 1 rfl ?_
    obtain ⟨I2, L2, D2, hr, h⟩ := h
    refine am_wp_inv (as := [.ref 42]) rfl rfl rfl rfl ⟨_, hr, ?_⟩
    show am_wp ext d mz_136 (76, [some (.ref 42), some (.int v1), some (.int r1)], [], (I2, L2, D2, am_rf X)) P
    refine am_wpb (c' := (79, [some (.ref 42), some (.int v1), some (.int r1)], [.int 7, .int v1], (I2, L2, D2, am_rf X))) 2 rfl ?_
    refine am_b2_lt rfl (fun z => ?_) (fun z => ?_)
    · replace h := h.1 z
      refine am_wpb (c' := (92, [some (.ref 42), some (.int v1), some (.int r1)], [.int r1, .ref 42], (I2, L2, D2, am_rf X))) 2 rfl ?_
      obtain ⟨r3, I3, L3, D3, hr, h⟩ := h
      refine am_wp_inv (as := [.ref 42, .int r1]) rfl rfl rfl rfl ⟨_, hr, ?_⟩
      show am_wp ext d mz_136 (95, [some (.ref 42), some (.int v1), some (.int r1)], [.int r3], (I3, L3, D3, am_rf X)) P
      exact am_ret_z rfl rfl h.1 h.2
    · replace h := h.2 z
      refine am_wpb (c' := (84, [some (.ref 42), some (.int v1), some (.int r1)], [.int r1, .ref 42], (I2, L2, D2, am_rf X))) 2 rfl ?_
      obtain ⟨r4, I4, L4, D4, hr, h⟩ := h
      refine am_wp_inv (as := [.ref 42, .int r1]) rfl rfl rfl rfl ⟨_, hr, ?_⟩
      show am_wp ext d mz_136 (87, [some (.ref 42), some (.int v1), some (.int r1)], [.int r4], (I4, L4, D4, am_rf X)) P
      refine am_wpb (c' := (95, [some (.ref 42), some (.int v1), some (.int r1)], [.int r4], (I4, L4, D4, am_rf X))) 1 rfl ?_
      exact am_ret_z rfl rfl h.1 h.2
  · replace h := h.2 z
    refine am_wpb (c' := (71, [some (.ref 42), some (.int v1), some (.int r1)], [.int 0], (I1, L1, D1, am_rf X))) 1 rfl ?_
    exact am_ret_z rfl rfl (Or.inl rfl) h
/-- SureSumsModel.valueRead()Z -/
def mz_137 : am_Y := (fun pc => am_q137.lookup pc, 2, 2)
theorem mh_137 : am_Ys 137 = some mz_137 := rfl
theorem w137_0 {ext : Nat → List Value → am_M → Option am_R} {d : Nat} {P : am_R → Prop} (I : Nat → Nat → Int32) (L : Nat → Nat → Int64) (D : Nat → Nat → UInt64) (X : am_Rf)
    (h : ∃ (r1 : Int32) (I1 : Nat → Nat → Int32) (L1 : Nat → Nat → Int64) (D1 : Nat → Nat → UInt64), am_Rn ext d 124 [.ref 42, .int 40] (I, L, D, am_rf X) (some (.int r1), (I1, L1, D1, am_rf X)) ∧ (((r1 = 0 → (∃ (r2 : Int32) (I2 : Nat → Nat → Int32) (L2 : Nat → Nat → Int64) (D2 : Nat → Nat → UInt64), am_Rn ext d 124 [.ref 42, .int 45] (I1, L1, D1, am_rf X) (some (.int r2), (I2, L2, D2, am_rf X)) ∧ (((r2 = 0 → (((¬ (I2 42 8) = 2 → (((¬ (I2 42 8) = 1 → ((((I2 42 8) = 3 → ((((I2 42 9) ≤ 999 → (∃ (r3 : Int32) (I3 : Nat → Nat → Int32) (L3 : Nat → Nat → Int64) (D3 : Nat → Nat → UInt64), am_Rn ext d 126 [.ref 42, .int 0, .int (I2 42 9)] (I2, L2, D2, am_rf X) (some (.int r3), (I3, L3, D3, am_rf X)) ∧ (((0 ≤ r3 → (∃ (I4 : Nat → Nat → Int32) (L4 : Nat → Nat → Int64) (D4 : Nat → Nat → UInt64), am_Rn ext d 123 [.ref 42] (I3, L3, D3, am_rf X) (none, (I4, L4, D4, am_rf X)) ∧ (∃ (I5 : Nat → Nat → Int32) (L5 : Nat → Nat → Int64) (D5 : Nat → Nat → UInt64), am_Rn ext d 129 [.ref 42, .int r3] (am_uI I4 42 35 0, L4, D4, am_rf X) (none, (I5, L5, D5, am_rf X)) ∧ (P (some (.int 1), (I5, L5, D5, am_rf X)))))) ∧ (¬ 0 ≤ r3 → (P (some (.int 0), (I3, L3, D3, am_rf X)))))))) ∧ (¬ (I2 42 9) ≤ 999 → (∃ (r6 : Int32) (I6 : Nat → Nat → Int32) (L6 : Nat → Nat → Int64) (D6 : Nat → Nat → UInt64), am_Rn ext d 118 [.ref 42, .int 2] (I2, L2, D2, am_rf X) (some (.int r6), (I6, L6, D6, am_rf X)) ∧ ((r6 = 0 ∨ r6 = 1) ∧ P (some (.int r6), (I6, L6, D6, am_rf X)))))))) ∧ (¬ (I2 42 8) = 3 → (∃ (r7 : Int32) (I7 : Nat → Nat → Int32) (L7 : Nat → Nat → Int64) (D7 : Nat → Nat → UInt64), am_Rn ext d 118 [.ref 42, .int 1] (I2, L2, D2, am_rf X) (some (.int r7), (I7, L7, D7, am_rf X)) ∧ ((r7 = 0 ∨ r7 = 1) ∧ P (some (.int r7), (I7, L7, D7, am_rf X)))))))) ∧ ((I2 42 8) = 1 → (∃ (r8 : Int32) (I8 : Nat → Nat → Int32) (L8 : Nat → Nat → Int64) (D8 : Nat → Nat → UInt64), am_Rn ext d 136 [.ref 42] (I2, L2, D2, am_rf X) (some (.int r8), (I8, L8, D8, am_rf X)) ∧ ((r8 = 0 ∨ r8 = 1) ∧ P (some (.int r8), (I8, L8, D8, am_rf X)))))))) ∧ ((I2 42 8) = 2 → (∃ (r9 : Int32) (I9 : Nat → Nat → Int32) (L9 : Nat → Nat → Int64) (D9 : Nat → Nat → UInt64), am_Rn ext d 135 [.ref 42] (I2, L2, D2, am_rf X) (some (.int r9), (I9, L9, D9, am_rf X)) ∧ ((r9 = 0 ∨ r9 = 1) ∧ P (some (.int r9), (I9, L9, D9, am_rf X)))))))) ∧ (¬ r2 = 0 → (∃ (r10 : Int32) (I10 : Nat → Nat → Int32) (L10 : Nat → Nat → Int64) (D10 : Nat → Nat → UInt64), am_Rn ext d 126 [.ref 42, .int 3, .int 0] (I2, L2, D2, am_rf X) (some (.int r10), (I10, L10, D10, am_rf X)) ∧ (((0 ≤ r10 → (∃ (I11 : Nat → Nat → Int32) (L11 : Nat → Nat → Int64) (D11 : Nat → Nat → UInt64), am_Rn ext d 131 [.ref 42, .int 3, .int r10] (I10, L10, D10, am_rf X) (none, (I11, L11, D11, am_rf X)) ∧ (∃ (I12 : Nat → Nat → Int32) (L12 : Nat → Nat → Int64) (D12 : Nat → Nat → UInt64), am_Rn ext d 123 [.ref 42] (I11, L11, D11, am_rf X) (none, (I12, L12, D12, am_rf X)) ∧ (P (some (.int 1), (I12, L12, D12, am_rf X)))))) ∧ (¬ 0 ≤ r10 → (P (some (.int 0), (I10, L10, D10, am_rf X)))))))))))) ∧ (¬ r1 = 0 → (∃ (r13 : Int32) (I13 : Nat → Nat → Int32) (L13 : Nat → Nat → Int64) (D13 : Nat → Nat → UInt64), am_Rn ext d 132 [.ref 42, .int (-1)] (I1, L1, D1, am_rf X) (some (.int r13), (I13, L13, D13, am_rf X)) ∧ ((r13 = 0 ∨ r13 = 1) ∧ P (some (.int r13), (I13, L13, D13, am_rf X)))))))) : am_wp ext d mz_137 (0, [some (.ref 42), none], [], (I, L, D, am_rf X)) P := by
  refine am_wpb (c' := (3, [some (.ref 42), none], [.int 40, .ref 42], (I, L, D, am_rf X))) 2 rfl ?_
  obtain ⟨r1, I1, L1, D1, hr, h⟩ := h
  refine am_wp_inv (as := [.ref 42, .int 40]) rfl rfl rfl rfl ⟨_, hr, ?_⟩
  show am_wp ext d mz_137 (6, [some (.ref 42), none], [.int r1], (I1, L1, D1, am_rf X)) P
  refine am_b1_eq rfl (fun z => ?_) (fun z => ?_)
  · replace h := h.1 z
    refine am_wpb (c' := (18, [some (.ref 42), none], [.int 45, .ref 42], (I1, L1, D1, am_rf X))) 2 rfl ?_
    obtain ⟨r2, I2, L2, D2, hr, h⟩ := h
    refine am_wp_inv (as := [.ref 42, .int 45]) rfl rfl rfl rfl ⟨_, hr, ?_⟩
    show am_wp ext d mz_137 (21, [some (.ref 42), none], [.int r2], (I2, L2, D2, am_rf X)) P
    refine am_b1_eq rfl (fun z => ?_) (fun z => ?_)
    · replace h := h.1 z
      refine am_wpb (c' := (54, [some (.ref 42), none], [.int 2, .int (I2 42 8)], (I2, L2, D2, am_rf X))) 3 rfl ?_
      refine am_b2_ne rfl (fun z => ?_) (fun z => ?_)
      · replace h := h.1 z
        refine am_wpb (c' := (67, [some (.ref 42), none], [.int 1, .int (I2 42 8)], (I2, L2, D2, am_rf X))) 3 rfl ?_
        refine am_b2_ne rfl (fun z => ?_) (fun z => ?_)
        · replace h := h.1 z
          refine am_wpb (c' := (80, [some (.ref 42), none], [.int 3, .int (I2 42 8)], (I2, L2, D2, am_rf X))) 3 rfl ?_
          refine am_b2_eq rfl (fun z => ?_) (fun z => ?_)
          · replace h := h.1 z
            refine am_wpb (c' := (96, [some (.ref 42), none], [.int 999, .int (I2 42 9)], (I2, L2, D2, am_rf X))) 3 rfl ?_
            refine am_b2_le rfl (fun z => ?_) (fun z => ?_)
            · replace h := h.1 z
              refine am_wpb (c' := (111, [some (.ref 42), none], [.int (I2 42 9), .int 0, .ref 42], (I2, L2, D2, am_rf X))) 4 rfl ?_
              obtain ⟨r3, I3, L3, D3, hr, h⟩ := h
              refine am_wp_inv (as := [.ref 42, .int 0, .int (I2 42 9)]) rfl rfl rfl rfl ⟨_, hr, ?_⟩
              show am_wp ext d mz_137 (114, [some (.ref 42), none], [.int r3], (I3, L3, D3, am_rf X)) P
              refine am_wpb (c' := (116, [some (.ref 42), some (.int r3)], [.int r3], (I3, L3, D3, am_rf X))) 2 rfl ?_
              refine am_b1_ge rfl (fun z => ?_) (fun z => ?_)
              · replace h := h.1 z
                refine am_wpb (c' := (122, [some (.ref 42), some (.int r3)], [.ref 42], (I3, L3, D3, am_rf X))) 1 rfl ?_
                obtain ⟨I4, L4, D4, hr, h⟩ := h
                refine am_wp_inv (as := [.ref 42]) rfl rfl rfl rfl ⟨_, hr, ?_⟩
                show am_wp ext d mz_137 (125, [some (.ref 42), some (.int r3)], [], (I4, L4, D4, am_rf X)) P
                refine am_wpb (c' := (132, [some (.ref 42), some (.int r3)], [.int r3, .ref 42], (am_uI I4 42 35 0, L4, D4, am_rf X))) 5 rfl ?_
                obtain ⟨I5, L5, D5, hr, h⟩ := h
                refine am_wp_inv (as := [.ref 42, .int r3]) rfl rfl rfl rfl ⟨_, hr, ?_⟩
                show am_wp ext d mz_137 (135, [some (.ref 42), some (.int r3)], [], (I5, L5, D5, am_rf X)) P
                refine am_wpb (c' := (136, [some (.ref 42), some (.int r3)], [.int 1], (I5, L5, D5, am_rf X))) 1 rfl ?_
                exact am_ret_z rfl rfl (Or.inr rfl) h
              · replace h := h.2 z
                refine am_wpb (c' := (120, [some (.ref 42), some (.int r3)], [.int 0], (I3, L3, D3, am_rf X))) 1 rfl ?_
                exact am_ret_z rfl rfl (Or.inl rfl) h
            · replace h := h.2 z
              refine am_wpb (c' := (101, [some (.ref 42), none], [.int 2, .ref 42], (I2, L2, D2, am_rf X))) 2 rfl ?_
              obtain ⟨r6, I6, L6, D6, hr, h⟩ := h
              refine am_wp_inv (as := [.ref 42, .int 2]) rfl rfl rfl rfl ⟨_, hr, ?_⟩
              show am_wp ext d mz_137 (104, [some (.ref 42), none], [.int r6], (I6, L6, D6, am_rf X)) P
              exact am_ret_z rfl rfl h.1 h.2
          · replace h := h.2 z
            refine am_wpb (c' := (85, [some (.ref 42), none], [.int 1, .ref 42], (I2, L2, D2, am_rf X))) 2 rfl ?_
            obtain ⟨r7, I7, L7, D7, hr, h⟩ := h
            refine am_wp_inv (as := [.ref 42, .int 1]) rfl rfl rfl rfl ⟨_, hr, ?_⟩
            show am_wp ext d mz_137 (88, [some (.ref 42), none], [.int r7], (I7, L7, D7, am_rf X)) P
            exact am_ret_z rfl rfl h.1 h.2
        · replace h := h.2 z
          refine am_wpb (c' := (71, [some (.ref 42), none], [.ref 42], (I2, L2, D2, am_rf X))) 1 rfl ?_
          obtain ⟨r8, I8, L8, D8, hr, h⟩ := h
          refine am_wp_inv (as := [.ref 42]) rfl rfl rfl rfl ⟨_, hr, ?_⟩
          show am_wp ext d mz_137 (74, [some (.ref 42), none], [.int r8], (I8, L8, D8, am_rf X)) P
          exact am_ret_z rfl rfl h.1 h.2
      · replace h := h.2 z
        refine am_wpb (c' := (58, [some (.ref 42), none], [.ref 42], (I2, L2, D2, am_rf X))) 1 rfl ?_
        obtain ⟨r9, I9, L9, D9, hr, h⟩ := h
        refine am_wp_inv (as := [.ref 42]) rfl rfl rfl rfl ⟨_, hr, ?_⟩
        show am_wp ext d mz_137 (61, [some (.ref 42), none], [.int r9], (I9, L9, D9, am_rf X)) P
        exact am_ret_z rfl rfl h.1 h.2
    · replace h := h.2 z
      refine am_wpb (c' := (27, [some (.ref 42), none], [.int 0, .int 3, .ref 42], (I2, L2, D2, am_rf X))) 3 rfl ?_
      obtain ⟨r10, I10, L10, D10, hr, h⟩ := h
      refine am_wp_inv (as := [.ref 42, .int 3, .int 0]) rfl rfl rfl rfl ⟨_, hr, ?_⟩
      show am_wp ext d mz_137 (30, [some (.ref 42), none], [.int r10], (I10, L10, D10, am_rf X)) P
      refine am_wpb (c' := (32, [some (.ref 42), some (.int r10)], [.int r10], (I10, L10, D10, am_rf X))) 2 rfl ?_
      refine am_b1_ge rfl (fun z => ?_) (fun z => ?_)
      · replace h := h.1 z
        refine am_wpb (c' := (40, [some (.ref 42), some (.int r10)], [.int r10, .int 3, .ref 42], (I10, L10, D10, am_rf X))) 3 rfl ?_
        obtain ⟨I11, L11, D11, hr, h⟩ := h
        refine am_wp_inv (as := [.ref 42, .int 3, .int r10]) rfl rfl rfl rfl ⟨_, hr, ?_⟩
        show am_wp ext d mz_137 (43, [some (.ref 42), some (.int r10)], [], (I11, L11, D11, am_rf X)) P
        refine am_wpb (c' := (44, [some (.ref 42), some (.int r10)], [.ref 42], (I11, L11, D11, am_rf X))) 1 rfl ?_
        obtain ⟨I12, L12, D12, hr, h⟩ := h
        refine am_wp_inv (as := [.ref 42]) rfl rfl rfl rfl ⟨_, hr, ?_⟩
        show am_wp ext d mz_137 (47, [some (.ref 42), some (.int r10)], [], (I12, L12, D12, am_rf X)) P
        refine am_wpb (c' := (48, [some (.ref 42), some (.int r10)], [.int 1], (I12, L12, D12, am_rf X))) 1 rfl ?_
        exact am_ret_z rfl rfl (Or.inr rfl) h
      · replace h := h.2 z
        refine am_wpb (c' := (36, [some (.ref 42), some (.int r10)], [.int 0], (I10, L10, D10, am_rf X))) 1 rfl ?_
        exact am_ret_z rfl rfl (Or.inl rfl) h
  · replace h := h.2 z
    refine am_wpb (c' := (11, [some (.ref 42), none], [.int (-1), .ref 42], (I1, L1, D1, am_rf X))) 2 rfl ?_
    obtain ⟨r13, I13, L13, D13, hr, h⟩ := h
    refine am_wp_inv (as := [.ref 42, .int (-1)]) rfl rfl rfl rfl ⟨_, hr, ?_⟩
    show am_wp ext d mz_137 (14, [some (.ref 42), none], [.int r13], (I13, L13, D13, am_rf X)) P
    exact am_ret_z rfl rfl h.1 h.2
/-- SureSumsModel.signNow()I -/
def mz_138 : am_Y := (fun pc => am_q138.lookup pc, 1, 1)
theorem mh_138 : am_Ys 138 = some mz_138 := rfl
theorem w138_0 {ext : Nat → List Value → am_M → Option am_R} {d : Nat} {P : am_R → Prop} (I : Nat → Nat → Int32) (L : Nat → Nat → Int64) (D : Nat → Nat → UInt64) (X : am_Rf)
    (h : (((I 42 8) = 4 → (((¬ (I 42 9) = 43 → (((¬ (I 42 9) = 45 → (((¬ (I 42 9) = 42 → (((¬ (I 42 9) = 47 → (P (some (.int (-1)), (I, L, D, am_rf X)))) ∧ ((I 42 9) = 47 → (P (some (.int 9), (I, L, D, am_rf X))))))) ∧ ((I 42 9) = 42 → (P (some (.int 8), (I, L, D, am_rf X))))))) ∧ ((I 42 9) = 45 → (P (some (.int 7), (I, L, D, am_rf X))))))) ∧ ((I 42 9) = 43 → (P (some (.int 6), (I, L, D, am_rf X))))))) ∧ (¬ (I 42 8) = 4 → (P (some (.int (-1)), (I, L, D, am_rf X)))))) : am_wp ext d mz_138 (0, [some (.ref 42)], [], (I, L, D, am_rf X)) P := by
  refine am_wpb (c' := (5, [some (.ref 42)], [.int 4, .int (I 42 8)], (I, L, D, am_rf X))) 3 rfl ?_
  refine am_b2_eq rfl (fun z => ?_) (fun z => ?_)
  · replace h := h.1 z
    refine am_wpb (c' := (18, [some (.ref 42)], [.int 43, .int (I 42 9)], (I, L, D, am_rf X))) 3 rfl ?_
    refine am_b2_ne rfl (fun z => ?_) (fun z => ?_)
    · replace h := h.1 z
      refine am_wpb (c' := (32, [some (.ref 42)], [.int 45, .int (I 42 9)], (I, L, D, am_rf X))) 3 rfl ?_
      refine am_b2_ne rfl (fun z => ?_) (fun z => ?_)
      · replace h := h.1 z
        refine am_wpb (c' := (46, [some (.ref 42)], [.int 42, .int (I 42 9)], (I, L, D, am_rf X))) 3 rfl ?_
        refine am_b2_ne rfl (fun z => ?_) (fun z => ?_)
        · replace h := h.1 z
          refine am_wpb (c' := (60, [some (.ref 42)], [.int 47, .int (I 42 9)], (I, L, D, am_rf X))) 3 rfl ?_
          refine am_b2_ne rfl (fun z => ?_) (fun z => ?_)
          · replace h := h.1 z
            refine am_wpb (c' := (69, [some (.ref 42)], [.int (-1)], (I, L, D, am_rf X))) 1 rfl ?_
            exact am_ret_i rfl rfl h
          · replace h := h.2 z
            refine am_wpb (c' := (69, [some (.ref 42)], [.int 9], (I, L, D, am_rf X))) 2 rfl ?_
            exact am_ret_i rfl rfl h
        · replace h := h.2 z
          refine am_wpb (c' := (69, [some (.ref 42)], [.int 8], (I, L, D, am_rf X))) 2 rfl ?_
          exact am_ret_i rfl rfl h
      · replace h := h.2 z
        refine am_wpb (c' := (69, [some (.ref 42)], [.int 7], (I, L, D, am_rf X))) 2 rfl ?_
        exact am_ret_i rfl rfl h
    · replace h := h.2 z
      refine am_wpb (c' := (69, [some (.ref 42)], [.int 6], (I, L, D, am_rf X))) 2 rfl ?_
      exact am_ret_i rfl rfl h
  · replace h := h.2 z
    refine am_wpb (c' := (69, [some (.ref 42)], [.int (-1)], (I, L, D, am_rf X))) 2 rfl ?_
    exact am_ret_i rfl rfl h
/-- SureSumsModel.signRead(I)Z -/
def mz_139 : am_Y := (fun pc => am_q139.lookup pc, 3, 2)
theorem mh_139 : am_Ys 139 = some mz_139 := rfl
theorem w139_0 {ext : Nat → List Value → am_M → Option am_R} {d : Nat} {P : am_R → Prop} (I : Nat → Nat → Int32) (L : Nat → Nat → Int64) (D : Nat → Nat → UInt64) (X : am_Rf) (v1 : Int32)
    (h : ∃ (r1 : Int32) (I1 : Nat → Nat → Int32) (L1 : Nat → Nat → Int64) (D1 : Nat → Nat → UInt64), am_Rn ext d 126 [.ref 42, .int v1, .int 0] (I, L, D, am_rf X) (some (.int r1), (I1, L1, D1, am_rf X)) ∧ (((0 ≤ r1 → (∃ (r2 : Int32) (I2 : Nat → Nat → Int32) (L2 : Nat → Nat → Int64) (D2 : Nat → Nat → UInt64), am_Rn ext d 127 [.int v1] (I1, L1, D1, am_rf X) (some (.int r2), (I2, L2, D2, am_rf X)) ∧ (∃ (I3 : Nat → Nat → Int32) (L3 : Nat → Nat → Int64) (D3 : Nat → Nat → UInt64), am_Rn ext d 130 [.ref 42, .int r2] (I2, L2, D2, am_rf X) (none, (I3, L3, D3, am_rf X)) ∧ (∃ (I4 : Nat → Nat → Int32) (L4 : Nat → Nat → Int64) (D4 : Nat → Nat → UInt64), am_Rn ext d 131 [.ref 42, .int v1, .int r1] (I3, L3, D3, am_rf X) (none, (I4, L4, D4, am_rf X)) ∧ (∃ (I5 : Nat → Nat → Int32) (L5 : Nat → Nat → Int64) (D5 : Nat → Nat → UInt64), am_Rn ext d 123 [.ref 42] (am_uI I4 42 35 1, L4, D4, am_rf X) (none, (I5, L5, D5, am_rf X)) ∧ (P (some (.int 1), (I5, L5, D5, am_rf X)))))))) ∧ (¬ 0 ≤ r1 → (P (some (.int 0), (I1, L1, D1, am_rf X))))))) : am_wp ext d mz_139 (0, [some (.ref 42), some (.int v1), none], [], (I, L, D, am_rf X)) P := by
  refine am_wpb (c' := (3, [some (.ref 42), some (.int v1), none], [.int 0, .int v1, .ref 42], (I, L, D, am_rf X))) 3 rfl ?_
  obtain ⟨r1, I1, L1, D1, hr, h⟩ := h
  refine am_wp_inv (as := [.ref 42, .int v1, .int 0]) rfl rfl rfl rfl ⟨_, hr, ?_⟩
  show am_wp ext d mz_139 (6, [some (.ref 42), some (.int v1), none], [.int r1], (I1, L1, D1, am_rf X)) P
  refine am_wpb (c' := (8, [some (.ref 42), some (.int v1), some (.int r1)], [.int r1], (I1, L1, D1, am_rf X))) 2 rfl ?_
  refine am_b1_ge rfl (fun z => ?_) (fun z => ?_)
  · replace h := h.1 z
    refine am_wpb (c' := (15, [some (.ref 42), some (.int v1), some (.int r1)], [.int v1, .ref 42], (I1, L1, D1, am_rf X))) 2 rfl ?_
    obtain ⟨r2, I2, L2, D2, hr, h⟩ := h
    refine am_wp_inv (as := [.int v1]) rfl rfl rfl rfl ⟨_, hr, ?_⟩
    show am_wp ext d mz_139 (18, [some (.ref 42), some (.int v1), some (.int r1)], [.int r2, .ref 42], (I2, L2, D2, am_rf X)) P
    obtain ⟨I3, L3, D3, hr, h⟩ := h
    refine am_wp_inv (as := [.ref 42, .int r2]) rfl rfl rfl rfl ⟨_, hr, ?_⟩
    show am_wp ext d mz_139 (21, [some (.ref 42), some (.int v1), some (.int r1)], [], (I3, L3, D3, am_rf X)) P
    refine am_wpb (c' := (24, [some (.ref 42), some (.int v1), some (.int r1)], [.int r1, .int v1, .ref 42], (I3, L3, D3, am_rf X))) 3 rfl ?_
    obtain ⟨I4, L4, D4, hr, h⟩ := h
    refine am_wp_inv (as := [.ref 42, .int v1, .int r1]) rfl rfl rfl rfl ⟨_, hr, ?_⟩
    show am_wp ext d mz_139 (27, [some (.ref 42), some (.int v1), some (.int r1)], [], (I4, L4, D4, am_rf X)) P
    refine am_wpb (c' := (33, [some (.ref 42), some (.int v1), some (.int r1)], [.ref 42], (am_uI I4 42 35 1, L4, D4, am_rf X))) 4 rfl ?_
    obtain ⟨I5, L5, D5, hr, h⟩ := h
    refine am_wp_inv (as := [.ref 42]) rfl rfl rfl rfl ⟨_, hr, ?_⟩
    show am_wp ext d mz_139 (36, [some (.ref 42), some (.int v1), some (.int r1)], [], (I5, L5, D5, am_rf X)) P
    refine am_wpb (c' := (37, [some (.ref 42), some (.int v1), some (.int r1)], [.int 1], (I5, L5, D5, am_rf X))) 1 rfl ?_
    exact am_ret_z rfl rfl (Or.inr rfl) h
  · replace h := h.2 z
    refine am_wpb (c' := (12, [some (.ref 42), some (.int v1), some (.int r1)], [.int 0], (I1, L1, D1, am_rf X))) 1 rfl ?_
    exact am_ret_z rfl rfl (Or.inl rfl) h
/-- SureSumsModel.parts()Z -/
def mz_140 : am_Y := (fun pc => am_q140.lookup pc, 10, 2)
theorem mh_140 : am_Ys 140 = some mz_140 := rfl
theorem w140_0 {ext : Nat → List Value → am_M → Option am_R} {d : Nat} {P : am_R → Prop} (I : Nat → Nat → Int32) (L : Nat → Nat → Int64) (D : Nat → Nat → UInt64) (X : am_Rf)
    (h : ∃ (I1 : Nat → Nat → Int32) (L1 : Nat → Nat → Int64) (D1 : Nat → Nat → UInt64), am_Rn ext d 130 [.ref 42, .int 1] (I, L, D, am_rf X) (none, (I1, L1, D1, am_rf X)) ∧ (am_inb ((I1 42 31) - 1) 120 = true ∧ (((0 ≤ (I1 56 (Int32.toNatClampNeg ((I1 42 31) - 1))) → (am_inb (I1 56 (Int32.toNatClampNeg ((I1 42 31) - 1))) 192 = true ∧ (am_wp ext d mz_140 (33, [some (.ref 42), some (.int ((I1 42 31) - 1)), some (.int (I1 56 (Int32.toNatClampNeg ((I1 42 31) - 1)))), none, none, none, none, none, none, none], [.int (I1 45 (Int32.toNatClampNeg (I1 56 (Int32.toNatClampNeg ((I1 42 31) - 1)))))], (I1, L1, D1, am_rf X)) P))) ∧ (¬ 0 ≤ (I1 56 (Int32.toNatClampNeg ((I1 42 31) - 1))) → (am_wp ext d mz_140 (33, [some (.ref 42), some (.int ((I1 42 31) - 1)), some (.int (I1 56 (Int32.toNatClampNeg ((I1 42 31) - 1)))), none, none, none, none, none, none, none], [.int (-1)], (I1, L1, D1, am_rf X)) P)))))) : am_wp ext d mz_140 (0, [some (.ref 42), none, none, none, none, none, none, none, none, none], [], (I, L, D, am_rf X)) P := by
  refine am_wpb (c' := (2, [some (.ref 42), none, none, none, none, none, none, none, none, none], [.int 1, .ref 42], (I, L, D, am_rf X))) 2 rfl ?_
  obtain ⟨I1, L1, D1, hr, h⟩ := h
  refine am_wp_inv (as := [.ref 42, .int 1]) rfl rfl rfl rfl ⟨_, hr, ?_⟩
  show am_wp ext d mz_140 (5, [some (.ref 42), none, none, none, none, none, none, none, none, none], [], (I1, L1, D1, am_rf X)) P
  refine am_wpb (c' := (17, [some (.ref 42), some (.int ((I1 42 31) - 1)), none, none, none, none, none, none, none, none], [.int ((I1 42 31) - 1), .ref 56], (I1, L1, D1, am_rf X))) 8 rfl ?_
  obtain ⟨o, h⟩ := h
  refine am_wps (c' := (18, [some (.ref 42), some (.int ((I1 42 31) - 1)), none, none, none, none, none, none, none, none], [.int (I1 56 (Int32.toNatClampNeg ((I1 42 31) - 1)))], (I1, L1, D1, am_rf X))) rfl rfl (am_s_iald rfl o) ?_
  refine am_wpb (c' := (20, [some (.ref 42), some (.int ((I1 42 31) - 1)), some (.int (I1 56 (Int32.toNatClampNeg ((I1 42 31) - 1)))), none, none, none, none, none, none, none], [.int (I1 56 (Int32.toNatClampNeg ((I1 42 31) - 1)))], (I1, L1, D1, am_rf X))) 2 rfl ?_
  refine am_b1_ge rfl (fun z => ?_) (fun z => ?_)
  · replace h := h.1 z
    refine am_wpb (c' := (32, [some (.ref 42), some (.int ((I1 42 31) - 1)), some (.int (I1 56 (Int32.toNatClampNeg ((I1 42 31) - 1)))), none, none, none, none, none, none, none], [.int (I1 56 (Int32.toNatClampNeg ((I1 42 31) - 1))), .ref 45], (I1, L1, D1, am_rf X))) 3 rfl ?_
    obtain ⟨o, h⟩ := h
    refine am_wps (c' := (33, [some (.ref 42), some (.int ((I1 42 31) - 1)), some (.int (I1 56 (Int32.toNatClampNeg ((I1 42 31) - 1)))), none, none, none, none, none, none, none], [.int (I1 45 (Int32.toNatClampNeg (I1 56 (Int32.toNatClampNeg ((I1 42 31) - 1)))))], (I1, L1, D1, am_rf X))) rfl rfl (am_s_iald rfl o) ?_
    exact h
  · replace h := h.2 z
    refine am_wpb (c' := (33, [some (.ref 42), some (.int ((I1 42 31) - 1)), some (.int (I1 56 (Int32.toNatClampNeg ((I1 42 31) - 1)))), none, none, none, none, none, none, none], [.int (-1)], (I1, L1, D1, am_rf X))) 2 rfl ?_
    exact h
theorem w140_33 {ext : Nat → List Value → am_M → Option am_R} {d : Nat} {P : am_R → Prop} (I : Nat → Nat → Int32) (L : Nat → Nat → Int64) (D : Nat → Nat → UInt64) (X : am_Rf) (v1 : Int32) (v2 : Int32) (s0 : Int32)
    (h : am_inb v1 120 = true ∧ (((¬ s0 = 12 → (am_wp ext d mz_140 (53, [some (.ref 42), some (.int v1), some (.int v2), some (.int s0), some (.int (I 57 (Int32.toNatClampNeg v1))), none, none, none, none, none], [.int 0], (I, L, D, am_rf X)) P)) ∧ (s0 = 12 → (am_wp ext d mz_140 (53, [some (.ref 42), some (.int v1), some (.int v2), some (.int s0), some (.int (I 57 (Int32.toNatClampNeg v1))), none, none, none, none, none], [.int 1], (I, L, D, am_rf X)) P))))) : am_wp ext d mz_140 (33, [some (.ref 42), some (.int v1), some (.int v2), none, none, none, none, none, none, none], [.int s0], (I, L, D, am_rf X)) P := by
  refine am_wpb (c' := (39, [some (.ref 42), some (.int v1), some (.int v2), some (.int s0), none, none, none, none, none, none], [.int v1, .ref 57], (I, L, D, am_rf X))) 4 rfl ?_
  obtain ⟨o, h⟩ := h
  refine am_wps (c' := (40, [some (.ref 42), some (.int v1), some (.int v2), some (.int s0), none, none, none, none, none, none], [.int (I 57 (Int32.toNatClampNeg v1))], (I, L, D, am_rf X))) rfl rfl (am_s_iald rfl o) ?_
  refine am_wpb (c' := (45, [some (.ref 42), some (.int v1), some (.int v2), some (.int s0), some (.int (I 57 (Int32.toNatClampNeg v1))), none, none, none, none, none], [.int 12, .int s0], (I, L, D, am_rf X))) 3 rfl ?_
  refine am_b2_ne rfl (fun z => ?_) (fun z => ?_)
  · replace h := h.1 z
    refine am_wpb (c' := (53, [some (.ref 42), some (.int v1), some (.int v2), some (.int s0), some (.int (I 57 (Int32.toNatClampNeg v1))), none, none, none, none, none], [.int 0], (I, L, D, am_rf X))) 1 rfl ?_
    exact h
  · replace h := h.2 z
    refine am_wpb (c' := (53, [some (.ref 42), some (.int v1), some (.int v2), some (.int s0), some (.int (I 57 (Int32.toNatClampNeg v1))), none, none, none, none, none], [.int 1], (I, L, D, am_rf X))) 2 rfl ?_
    exact h
theorem w140_53 {ext : Nat → List Value → am_M → Option am_R} {d : Nat} {P : am_R → Prop} (I : Nat → Nat → Int32) (L : Nat → Nat → Int64) (D : Nat → Nat → UInt64) (X : am_Rf) (v1 : Int32) (v2 : Int32) (v3 : Int32) (v4 : Int32) (s0 : Int32)
    (h : ((s0 = 0 → (am_wp ext d mz_140 (69, [some (.ref 42), some (.int v1), some (.int v2), some (.int v3), some (.int v4), some (.int s0), none, none, none, none], [], (I, L, D, am_rf X)) P)) ∧ (¬ s0 = 0 → (((¬ v4 = 0 → (am_wp ext d mz_140 (69, [some (.ref 42), some (.int v1), some (.int v2), some (.int v3), some (.int v4), some (.int s0), none, none, none, none], [], (I, L, D, am_rf X)) P)) ∧ (v4 = 0 → (am_wp ext d mz_140 (70, [some (.ref 42), some (.int v1), some (.int v2), some (.int v3), some (.int v4), some (.int s0), none, none, none, none], [.int 1], (I, L, D, am_rf X)) P))))))) : am_wp ext d mz_140 (53, [some (.ref 42), some (.int v1), some (.int v2), some (.int v3), some (.int v4), none, none, none, none, none], [.int s0], (I, L, D, am_rf X)) P := by
  refine am_wpb (c' := (57, [some (.ref 42), some (.int v1), some (.int v2), some (.int v3), some (.int v4), some (.int s0), none, none, none, none], [.int s0], (I, L, D, am_rf X))) 2 rfl ?_
  refine am_b1_eq rfl (fun z => ?_) (fun z => ?_)
  · replace h := h.1 z
    exact h
  · replace h := h.2 z
    refine am_wpb (c' := (62, [some (.ref 42), some (.int v1), some (.int v2), some (.int v3), some (.int v4), some (.int s0), none, none, none, none], [.int v4], (I, L, D, am_rf X))) 1 rfl ?_
    refine am_b1_ne rfl (fun z => ?_) (fun z => ?_)
    · replace h := h.1 z
      exact h
    · replace h := h.2 z
      refine am_wpb (c' := (70, [some (.ref 42), some (.int v1), some (.int v2), some (.int v3), some (.int v4), some (.int s0), none, none, none, none], [.int 1], (I, L, D, am_rf X))) 2 rfl ?_
      exact h
theorem w140_69 {ext : Nat → List Value → am_M → Option am_R} {d : Nat} {P : am_R → Prop} (I : Nat → Nat → Int32) (L : Nat → Nat → Int64) (D : Nat → Nat → UInt64) (X : am_Rf) (v1 : Int32) (v2 : Int32) (v3 : Int32) (v4 : Int32) (v5 : Int32)
    (h : am_wp ext d mz_140 (70, [some (.ref 42), some (.int v1), some (.int v2), some (.int v3), some (.int v4), some (.int v5), none, none, none, none], [.int 0], (I, L, D, am_rf X)) P) : am_wp ext d mz_140 (69, [some (.ref 42), some (.int v1), some (.int v2), some (.int v3), some (.int v4), some (.int v5), none, none, none, none], [], (I, L, D, am_rf X)) P := by
  refine am_wpb (c' := (70, [some (.ref 42), some (.int v1), some (.int v2), some (.int v3), some (.int v4), some (.int v5), none, none, none, none], [.int 0], (I, L, D, am_rf X))) 1 rfl ?_
  exact h
theorem w140_70 {ext : Nat → List Value → am_M → Option am_R} {d : Nat} {P : am_R → Prop} (I : Nat → Nat → Int32) (L : Nat → Nat → Int64) (D : Nat → Nat → UInt64) (X : am_Rf) (v1 : Int32) (v2 : Int32) (v3 : Int32) (v4 : Int32) (v5 : Int32) (s0 : Int32)
    (h : ((v5 = 0 → (((v3 = 10 → (am_wp ext d mz_140 (109, [some (.ref 42), some (.int v1), some (.int v2), none, some (.int v4), none, some (.int s0), none, none, none], [], (I, L, D, am_rf X)) P)) ∧ (¬ v3 = 10 → (((¬ v3 = 11 → (am_wp ext d mz_140 (118, [some (.ref 42), some (.int v1), some (.int v2), none, some (.int v4), none, some (.int s0), none, none, none], [], (I, L, D, am_rf X)) P)) ∧ (v3 = 11 → (am_wp ext d mz_140 (109, [some (.ref 42), some (.int v1), some (.int v2), none, some (.int v4), none, some (.int s0), none, none, none], [], (I, L, D, am_rf X)) P)))))))) ∧ (¬ v5 = 0 → (((v4 = 1 → (am_wp ext d mz_140 (119, [some (.ref 42), some (.int v1), some (.int v2), none, some (.int v4), none, some (.int s0), none, none, none], [.int 1], (I, L, D, am_rf X)) P)) ∧ (¬ v4 = 1 → (((¬ v4 = 2 → (am_wp ext d mz_140 (119, [some (.ref 42), some (.int v1), some (.int v2), none, some (.int v4), none, some (.int s0), none, none, none], [.int 0], (I, L, D, am_rf X)) P)) ∧ (v4 = 2 → (am_wp ext d mz_140 (119, [some (.ref 42), some (.int v1), some (.int v2), none, some (.int v4), none, some (.int s0), none, none, none], [.int 1], (I, L, D, am_rf X)) P)))))))))) : am_wp ext d mz_140 (70, [some (.ref 42), some (.int v1), some (.int v2), some (.int v3), some (.int v4), some (.int v5), none, none, none, none], [.int s0], (I, L, D, am_rf X)) P := by
  refine am_wpb (c' := (74, [some (.ref 42), some (.int v1), some (.int v2), some (.int v3), some (.int v4), some (.int v5), some (.int s0), none, none, none], [.int v5], (I, L, D, am_rf X))) 2 rfl ?_
  refine am_b1_eq rfl (fun z => ?_) (fun z => ?_)
  · replace h := h.1 z
    refine am_wpb (c' := (100, [some (.ref 42), some (.int v1), some (.int v2), some (.int v3), some (.int v4), some (.int v5), some (.int s0), none, none, none], [.int 10, .int v3], (I, L, D, am_rf X))) 2 rfl ?_
    refine am_b2_eq rfl (fun z => ?_) (fun z => ?_)
    · replace h := h.1 z
      exact am_fgt (l := [some (.ref 42), some (.int v1), some (.int v2), none, some (.int v4), none, some (.int s0), none, none, none]) (am_le_of (am_leS (am_leS (am_leS (am_leN (am_leS (am_leN (am_leS (am_leN (am_leN (am_leN (am_leZ)))))))))))) h
    · replace h := h.2 z
      refine am_wpb (c' := (106, [some (.ref 42), some (.int v1), some (.int v2), some (.int v3), some (.int v4), some (.int v5), some (.int s0), none, none, none], [.int 11, .int v3], (I, L, D, am_rf X))) 2 rfl ?_
      refine am_b2_ne rfl (fun z => ?_) (fun z => ?_)
      · replace h := h.1 z
        exact am_fgt (l := [some (.ref 42), some (.int v1), some (.int v2), none, some (.int v4), none, some (.int s0), none, none, none]) (am_le_of (am_leS (am_leS (am_leS (am_leN (am_leS (am_leN (am_leS (am_leN (am_leN (am_leN (am_leZ)))))))))))) h
      · replace h := h.2 z
        exact am_fgt (l := [some (.ref 42), some (.int v1), some (.int v2), none, some (.int v4), none, some (.int s0), none, none, none]) (am_le_of (am_leS (am_leS (am_leS (am_leN (am_leS (am_leN (am_leS (am_leN (am_leN (am_leN (am_leZ)))))))))))) h
  · replace h := h.2 z
    refine am_wpb (c' := (80, [some (.ref 42), some (.int v1), some (.int v2), some (.int v3), some (.int v4), some (.int v5), some (.int s0), none, none, none], [.int 1, .int v4], (I, L, D, am_rf X))) 2 rfl ?_
    refine am_b2_eq rfl (fun z => ?_) (fun z => ?_)
    · replace h := h.1 z
      refine am_wpb (c' := (119, [some (.ref 42), some (.int v1), some (.int v2), some (.int v3), some (.int v4), some (.int v5), some (.int s0), none, none, none], [.int 1], (I, L, D, am_rf X))) 2 rfl ?_
      exact am_fgt (l := [some (.ref 42), some (.int v1), some (.int v2), none, some (.int v4), none, some (.int s0), none, none, none]) (am_le_of (am_leS (am_leS (am_leS (am_leN (am_leS (am_leN (am_leS (am_leN (am_leN (am_leN (am_leZ)))))))))))) h
    · replace h := h.2 z
      refine am_wpb (c' := (86, [some (.ref 42), some (.int v1), some (.int v2), some (.int v3), some (.int v4), some (.int v5), some (.int s0), none, none, none], [.int 2, .int v4], (I, L, D, am_rf X))) 2 rfl ?_
      refine am_b2_ne rfl (fun z => ?_) (fun z => ?_)
      · replace h := h.1 z
        refine am_wpb (c' := (119, [some (.ref 42), some (.int v1), some (.int v2), some (.int v3), some (.int v4), some (.int v5), some (.int s0), none, none, none], [.int 0], (I, L, D, am_rf X))) 2 rfl ?_
        exact am_fgt (l := [some (.ref 42), some (.int v1), some (.int v2), none, some (.int v4), none, some (.int s0), none, none, none]) (am_le_of (am_leS (am_leS (am_leS (am_leN (am_leS (am_leN (am_leS (am_leN (am_leN (am_leN (am_leZ)))))))))))) h
      · replace h := h.2 z
        refine am_wpb (c' := (119, [some (.ref 42), some (.int v1), some (.int v2), some (.int v3), some (.int v4), some (.int v5), some (.int s0), none, none, none], [.int 1], (I, L, D, am_rf X))) 2 rfl ?_
        exact am_fgt (l := [some (.ref 42), some (.int v1), some (.int v2), none, some (.int v4), none, some (.int s0), none, none, none]) (am_le_of (am_leS (am_leS (am_leS (am_leN (am_leS (am_leN (am_leS (am_leN (am_leN (am_leN (am_leZ)))))))))))) h
theorem w140_109 {ext : Nat → List Value → am_M → Option am_R} {d : Nat} {P : am_R → Prop} (I : Nat → Nat → Int32) (L : Nat → Nat → Int64) (D : Nat → Nat → UInt64) (X : am_Rf) (v1 : Int32) (v2 : Int32) (v4 : Int32) (v6 : Int32)
    (h : ((¬ v4 = 0 → (am_wp ext d mz_140 (118, [some (.ref 42), some (.int v1), some (.int v2), none, some (.int v4), none, some (.int v6), none, none, none], [], (I, L, D, am_rf X)) P)) ∧ (v4 = 0 → (am_wp ext d mz_140 (119, [some (.ref 42), some (.int v1), some (.int v2), none, some (.int v4), none, some (.int v6), none, none, none], [.int 1], (I, L, D, am_rf X)) P)))) : am_wp ext d mz_140 (109, [some (.ref 42), some (.int v1), some (.int v2), none, some (.int v4), none, some (.int v6), none, none, none], [], (I, L, D, am_rf X)) P := by
  refine am_wpb (c' := (111, [some (.ref 42), some (.int v1), some (.int v2), none, some (.int v4), none, some (.int v6), none, none, none], [.int v4], (I, L, D, am_rf X))) 1 rfl ?_
  refine am_b1_ne rfl (fun z => ?_) (fun z => ?_)
  · replace h := h.1 z
    exact h
  · replace h := h.2 z
    refine am_wpb (c' := (119, [some (.ref 42), some (.int v1), some (.int v2), none, some (.int v4), none, some (.int v6), none, none, none], [.int 1], (I, L, D, am_rf X))) 2 rfl ?_
    exact h
theorem w140_118 {ext : Nat → List Value → am_M → Option am_R} {d : Nat} {P : am_R → Prop} (I : Nat → Nat → Int32) (L : Nat → Nat → Int64) (D : Nat → Nat → UInt64) (X : am_Rf) (v1 : Int32) (v2 : Int32) (v4 : Int32) (v6 : Int32)
    (h : am_wp ext d mz_140 (119, [some (.ref 42), some (.int v1), some (.int v2), none, some (.int v4), none, some (.int v6), none, none, none], [.int 0], (I, L, D, am_rf X)) P) : am_wp ext d mz_140 (118, [some (.ref 42), some (.int v1), some (.int v2), none, some (.int v4), none, some (.int v6), none, none, none], [], (I, L, D, am_rf X)) P := by
  refine am_wpb (c' := (119, [some (.ref 42), some (.int v1), some (.int v2), none, some (.int v4), none, some (.int v6), none, none, none], [.int 0], (I, L, D, am_rf X))) 1 rfl ?_
  exact h
theorem w140_119 {ext : Nat → List Value → am_M → Option am_R} {d : Nat} {P : am_R → Prop} (I : Nat → Nat → Int32) (L : Nat → Nat → Int64) (D : Nat → Nat → UInt64) (X : am_Rf) (v1 : Int32) (v2 : Int32) (v4 : Int32) (v6 : Int32) (s0 : Int32)
    (h : ((v6 = 0 → (((s0 = 0 → (am_wp ext d mz_140 (165, [some (.ref 42), some (.int v1), some (.int v2), none, some (.int v4), none, some (.int v6), some (.int s0), none, none], [.int 41, .ref 42], (I, L, D, am_rf X)) P)) ∧ (¬ s0 = 0 → (am_wp ext d mz_140 (165, [some (.ref 42), some (.int v1), some (.int v2), none, some (.int v4), none, some (.int v6), some (.int s0), none, none], [.int 44, .ref 42], (I, L, D, am_rf X)) P))))) ∧ (¬ v6 = 0 → (∃ (r1 : Int32) (I1 : Nat → Nat → Int32) (L1 : Nat → Nat → Int64) (D1 : Nat → Nat → UInt64), am_Rn ext d 124 [.ref 42, .int 60] (I, L, D, am_rf X) (some (.int r1), (I1, L1, D1, am_rf X)) ∧ (((¬ r1 = 0 → (am_wp ext d mz_140 (168, [some (.ref 42), some (.int v1), some (.int v2), none, some (.int v4), none, some (.int v6), some (.int s0), none, none], [.int 1], (I1, L1, D1, am_rf X)) P)) ∧ (r1 = 0 → (∃ (r2 : Int32) (I2 : Nat → Nat → Int32) (L2 : Nat → Nat → Int64) (D2 : Nat → Nat → UInt64), am_Rn ext d 124 [.ref 42, .int 62] (I1, L1, D1, am_rf X) (some (.int r2), (I2, L2, D2, am_rf X)) ∧ (((r2 = 0 → (am_wp ext d mz_140 (168, [some (.ref 42), some (.int v1), some (.int v2), none, some (.int v4), none, some (.int v6), some (.int s0), none, none], [.int 0], (I2, L2, D2, am_rf X)) P)) ∧ (¬ r2 = 0 → (am_wp ext d mz_140 (168, [some (.ref 42), some (.int v1), some (.int v2), none, some (.int v4), none, some (.int v6), some (.int s0), none, none], [.int 1], (I2, L2, D2, am_rf X)) P)))))))))))) : am_wp ext d mz_140 (119, [some (.ref 42), some (.int v1), some (.int v2), none, some (.int v4), none, some (.int v6), none, none, none], [.int s0], (I, L, D, am_rf X)) P := by
  refine am_wpb (c' := (123, [some (.ref 42), some (.int v1), some (.int v2), none, some (.int v4), none, some (.int v6), some (.int s0), none, none], [.int v6], (I, L, D, am_rf X))) 2 rfl ?_
  refine am_b1_eq rfl (fun z => ?_) (fun z => ?_)
  · replace h := h.1 z
    refine am_wpb (c' := (155, [some (.ref 42), some (.int v1), some (.int v2), none, some (.int v4), none, some (.int v6), some (.int s0), none, none], [.int s0, .ref 42], (I, L, D, am_rf X))) 2 rfl ?_
    refine am_b1_eq rfl (fun z => ?_) (fun z => ?_)
    · replace h := h.1 z
      refine am_wpb (c' := (165, [some (.ref 42), some (.int v1), some (.int v2), none, some (.int v4), none, some (.int v6), some (.int s0), none, none], [.int 41, .ref 42], (I, L, D, am_rf X))) 1 rfl ?_
      exact h
    · replace h := h.2 z
      refine am_wpb (c' := (165, [some (.ref 42), some (.int v1), some (.int v2), none, some (.int v4), none, some (.int v6), some (.int s0), none, none], [.int 44, .ref 42], (I, L, D, am_rf X))) 2 rfl ?_
      exact h
  · replace h := h.2 z
    refine am_wpb (c' := (129, [some (.ref 42), some (.int v1), some (.int v2), none, some (.int v4), none, some (.int v6), some (.int s0), none, none], [.int 60, .ref 42], (I, L, D, am_rf X))) 2 rfl ?_
    obtain ⟨r1, I1, L1, D1, hr, h⟩ := h
    refine am_wp_inv (as := [.ref 42, .int 60]) rfl rfl rfl rfl ⟨_, hr, ?_⟩
    show am_wp ext d mz_140 (132, [some (.ref 42), some (.int v1), some (.int v2), none, some (.int v4), none, some (.int v6), some (.int s0), none, none], [.int r1], (I1, L1, D1, am_rf X)) P
    refine am_b1_ne rfl (fun z => ?_) (fun z => ?_)
    · replace h := h.1 z
      refine am_wpb (c' := (168, [some (.ref 42), some (.int v1), some (.int v2), none, some (.int v4), none, some (.int v6), some (.int s0), none, none], [.int 1], (I1, L1, D1, am_rf X))) 2 rfl ?_
      exact h
    · replace h := h.2 z
      refine am_wpb (c' := (138, [some (.ref 42), some (.int v1), some (.int v2), none, some (.int v4), none, some (.int v6), some (.int s0), none, none], [.int 62, .ref 42], (I1, L1, D1, am_rf X))) 2 rfl ?_
      obtain ⟨r2, I2, L2, D2, hr, h⟩ := h
      refine am_wp_inv (as := [.ref 42, .int 62]) rfl rfl rfl rfl ⟨_, hr, ?_⟩
      show am_wp ext d mz_140 (141, [some (.ref 42), some (.int v1), some (.int v2), none, some (.int v4), none, some (.int v6), some (.int s0), none, none], [.int r2], (I2, L2, D2, am_rf X)) P
      refine am_b1_eq rfl (fun z => ?_) (fun z => ?_)
      · replace h := h.1 z
        refine am_wpb (c' := (168, [some (.ref 42), some (.int v1), some (.int v2), none, some (.int v4), none, some (.int v6), some (.int s0), none, none], [.int 0], (I2, L2, D2, am_rf X))) 2 rfl ?_
        exact h
      · replace h := h.2 z
        refine am_wpb (c' := (168, [some (.ref 42), some (.int v1), some (.int v2), none, some (.int v4), none, some (.int v6), some (.int s0), none, none], [.int 1], (I2, L2, D2, am_rf X))) 2 rfl ?_
        exact h
theorem w140_165 {ext : Nat → List Value → am_M → Option am_R} {d : Nat} {P : am_R → Prop} (I : Nat → Nat → Int32) (L : Nat → Nat → Int64) (D : Nat → Nat → UInt64) (X : am_Rf) (v1 : Int32) (v2 : Int32) (v4 : Int32) (v6 : Int32) (v7 : Int32) (s0 : Int32)
    (h : ∃ (r1 : Int32) (I1 : Nat → Nat → Int32) (L1 : Nat → Nat → Int64) (D1 : Nat → Nat → UInt64), am_Rn ext d 124 [.ref 42, .int s0] (I, L, D, am_rf X) (some (.int r1), (I1, L1, D1, am_rf X)) ∧ (am_wp ext d mz_140 (168, [some (.ref 42), some (.int v1), some (.int v2), none, some (.int v4), none, some (.int v6), some (.int v7), none, none], [.int r1], (I1, L1, D1, am_rf X)) P)) : am_wp ext d mz_140 (165, [some (.ref 42), some (.int v1), some (.int v2), none, some (.int v4), none, some (.int v6), some (.int v7), none, none], [.int s0, .ref 42], (I, L, D, am_rf X)) P := by
  obtain ⟨r1, I1, L1, D1, hr, h⟩ := h
  refine am_wp_inv (as := [.ref 42, .int s0]) rfl rfl rfl rfl ⟨_, hr, ?_⟩
  show am_wp ext d mz_140 (168, [some (.ref 42), some (.int v1), some (.int v2), none, some (.int v4), none, some (.int v6), some (.int v7), none, none], [.int r1], (I1, L1, D1, am_rf X)) P
  exact h
theorem w140_168 {ext : Nat → List Value → am_M → Option am_R} {d : Nat} {P : am_R → Prop} (I : Nat → Nat → Int32) (L : Nat → Nat → Int64) (D : Nat → Nat → UInt64) (X : am_Rf) (v1 : Int32) (v2 : Int32) (v4 : Int32) (v6 : Int32) (v7 : Int32) (s0 : Int32)
    (h : ((¬ s0 = 0 → (((v2 < 0 → (am_wp ext d mz_140 (274, [some (.ref 42), some (.int v1), some (.int v2), none, some (.int v4), none, some (.int v6), some (.int v7), none, none], [], (I, L, D, am_rf X)) P)) ∧ (¬ v2 < 0 → (∃ (r1 : Int32) (I1 : Nat → Nat → Int32) (L1 : Nat → Nat → Int64) (D1 : Nat → Nat → UInt64), am_Rn ext d 128 [.ref 42] (I, L, D, am_rf X) (some (.int r1), (I1, L1, D1, am_rf X)) ∧ (((¬ v4 = 0 → (((¬ v4 = 1 → (((¬ v4 = 2 → (am_inb v2 192 = true ∧ (((v6 = 0 → (am_wp ext d mz_140 (274, [some (.ref 42), some (.int v1), some (.int v2), none, some (.int v4), none, some (.int v6), some (.int v7), none, none], [], (am_uI I1 50 (Int32.toNatClampNeg v2) r1, L1, D1, am_rf X)) P)) ∧ (¬ v6 = 0 → (((¬ (I1 42 9) = 62 → (am_inb v2 192 = true ∧ (am_wp ext d mz_140 (274, [some (.ref 42), some (.int v1), some (.int v2), none, some (.int v4), none, some (.int v6), some (.int v7), none, none], [], (am_uI (am_uI I1 50 (Int32.toNatClampNeg v2) r1) 46 (Int32.toNatClampNeg v2) 0, L1, D1, am_rf X)) P))) ∧ ((I1 42 9) = 62 → (am_inb v2 192 = true ∧ (am_wp ext d mz_140 (274, [some (.ref 42), some (.int v1), some (.int v2), none, some (.int v4), none, some (.int v6), some (.int v7), none, none], [], (am_uI (am_uI I1 50 (Int32.toNatClampNeg v2) r1) 46 (Int32.toNatClampNeg v2) 1, L1, D1, am_rf X)) P)))))))))) ∧ (v4 = 2 → (am_inb v2 192 = true ∧ (((v6 = 0 → (am_wp ext d mz_140 (274, [some (.ref 42), some (.int v1), some (.int v2), none, some (.int v4), none, some (.int v6), some (.int v7), none, none], [], (am_uI I1 49 (Int32.toNatClampNeg v2) r1, L1, D1, am_rf X)) P)) ∧ (¬ v6 = 0 → (((¬ (I1 42 9) = 62 → (am_inb v2 192 = true ∧ (am_wp ext d mz_140 (274, [some (.ref 42), some (.int v1), some (.int v2), none, some (.int v4), none, some (.int v6), some (.int v7), none, none], [], (am_uI (am_uI I1 49 (Int32.toNatClampNeg v2) r1) 46 (Int32.toNatClampNeg v2) 0, L1, D1, am_rf X)) P))) ∧ ((I1 42 9) = 62 → (am_inb v2 192 = true ∧ (am_wp ext d mz_140 (274, [some (.ref 42), some (.int v1), some (.int v2), none, some (.int v4), none, some (.int v6), some (.int v7), none, none], [], (am_uI (am_uI I1 49 (Int32.toNatClampNeg v2) r1) 46 (Int32.toNatClampNeg v2) 1, L1, D1, am_rf X)) P))))))))))))) ∧ (v4 = 1 → (am_inb v2 192 = true ∧ (((v6 = 0 → (am_wp ext d mz_140 (274, [some (.ref 42), some (.int v1), some (.int v2), none, some (.int v4), none, some (.int v6), some (.int v7), none, none], [], (am_uI I1 48 (Int32.toNatClampNeg v2) r1, L1, D1, am_rf X)) P)) ∧ (¬ v6 = 0 → (((¬ (I1 42 9) = 62 → (am_inb v2 192 = true ∧ (am_wp ext d mz_140 (274, [some (.ref 42), some (.int v1), some (.int v2), none, some (.int v4), none, some (.int v6), some (.int v7), none, none], [], (am_uI (am_uI I1 48 (Int32.toNatClampNeg v2) r1) 46 (Int32.toNatClampNeg v2) 0, L1, D1, am_rf X)) P))) ∧ ((I1 42 9) = 62 → (am_inb v2 192 = true ∧ (am_wp ext d mz_140 (274, [some (.ref 42), some (.int v1), some (.int v2), none, some (.int v4), none, some (.int v6), some (.int v7), none, none], [], (am_uI (am_uI I1 48 (Int32.toNatClampNeg v2) r1) 46 (Int32.toNatClampNeg v2) 1, L1, D1, am_rf X)) P))))))))))))) ∧ (v4 = 0 → (am_inb v2 192 = true ∧ (((v6 = 0 → (am_wp ext d mz_140 (274, [some (.ref 42), some (.int v1), some (.int v2), none, some (.int v4), none, some (.int v6), some (.int v7), none, none], [], (am_uI I1 47 (Int32.toNatClampNeg v2) r1, L1, D1, am_rf X)) P)) ∧ (¬ v6 = 0 → (((¬ (I1 42 9) = 62 → (am_inb v2 192 = true ∧ (am_wp ext d mz_140 (274, [some (.ref 42), some (.int v1), some (.int v2), none, some (.int v4), none, some (.int v6), some (.int v7), none, none], [], (am_uI (am_uI I1 47 (Int32.toNatClampNeg v2) r1) 46 (Int32.toNatClampNeg v2) 0, L1, D1, am_rf X)) P))) ∧ ((I1 42 9) = 62 → (am_inb v2 192 = true ∧ (am_wp ext d mz_140 (274, [some (.ref 42), some (.int v1), some (.int v2), none, some (.int v4), none, some (.int v6), some (.int v7), none, none], [], (am_uI (am_uI I1 47 (Int32.toNatClampNeg v2) r1) 46 (Int32.toNatClampNeg v2) 1, L1, D1, am_rf X)) P))))))))))))))))) ∧ (s0 = 0 → (∃ (r2 : Int32) (I2 : Nat → Nat → Int32) (L2 : Nat → Nat → Int64) (D2 : Nat → Nat → UInt64), am_Rn ext d 118 [.ref 42, .int 1] (I, L, D, am_rf X) (some (.int r2), (I2, L2, D2, am_rf X)) ∧ ((r2 = 0 ∨ r2 = 1) ∧ P (some (.int r2), (I2, L2, D2, am_rf X))))))) : am_wp ext d mz_140 (168, [some (.ref 42), some (.int v1), some (.int v2), none, some (.int v4), none, some (.int v6), some (.int v7), none, none], [.int s0], (I, L, D, am_rf X)) P := by
  refine am_wpb (c' := (172, [some (.ref 42), some (.int v1), some (.int v2), none, some (.int v4), none, some (.int v6), some (.int v7), some (.int s0), none], [.int s0], (I, L, D, am_rf X))) 2 rfl ?_
  refine am_b1_ne rfl (fun z => ?_) (fun z => ?_)
  · replace h := h.1 z
    refine am_wpb (c' := (182, [some (.ref 42), some (.int v1), some (.int v2), none, some (.int v4), none, some (.int v6), some (.int v7), some (.int s0), none], [.int v2], (I, L, D, am_rf X))) 1 rfl ?_
    refine am_b1_lt rfl (fun z => ?_) (fun z => ?_)
    · replace h := h.1 z
      exact am_fgt (l := [some (.ref 42), some (.int v1), some (.int v2), none, some (.int v4), none, some (.int v6), some (.int v7), none, none]) (am_le_of (am_leS (am_leS (am_leS (am_leN (am_leS (am_leN (am_leS (am_leS (am_leN (am_leN (am_leZ)))))))))))) h
    · replace h := h.2 z
      refine am_wpb (c' := (186, [some (.ref 42), some (.int v1), some (.int v2), none, some (.int v4), none, some (.int v6), some (.int v7), some (.int s0), none], [.ref 42], (I, L, D, am_rf X))) 1 rfl ?_
      obtain ⟨r1, I1, L1, D1, hr, h⟩ := h
      refine am_wp_inv (as := [.ref 42]) rfl rfl rfl rfl ⟨_, hr, ?_⟩
      show am_wp ext d mz_140 (189, [some (.ref 42), some (.int v1), some (.int v2), none, some (.int v4), none, some (.int v6), some (.int v7), some (.int s0), none], [.int r1], (I1, L1, D1, am_rf X)) P
      refine am_wpb (c' := (193, [some (.ref 42), some (.int v1), some (.int v2), none, some (.int v4), none, some (.int v6), some (.int v7), some (.int s0), some (.int r1)], [.int v4], (I1, L1, D1, am_rf X))) 2 rfl ?_
      refine am_b1_ne rfl (fun z => ?_) (fun z => ?_)
      · replace h := h.1 z
        refine am_wpb (c' := (210, [some (.ref 42), some (.int v1), some (.int v2), none, some (.int v4), none, some (.int v6), some (.int v7), some (.int s0), some (.int r1)], [.int 1, .int v4], (I1, L1, D1, am_rf X))) 2 rfl ?_
        refine am_b2_ne rfl (fun z => ?_) (fun z => ?_)
        · replace h := h.1 z
          refine am_wpb (c' := (227, [some (.ref 42), some (.int v1), some (.int v2), none, some (.int v4), none, some (.int v6), some (.int v7), some (.int s0), some (.int r1)], [.int 2, .int v4], (I1, L1, D1, am_rf X))) 2 rfl ?_
          refine am_b2_ne rfl (fun z => ?_) (fun z => ?_)
          · replace h := h.1 z
            refine am_wpb (c' := (248, [some (.ref 42), some (.int v1), some (.int v2), none, some (.int v4), none, some (.int v6), some (.int v7), some (.int s0), some (.int r1)], [.int r1, .int v2, .ref 50], (I1, L1, D1, am_rf X))) 4 rfl ?_
            obtain ⟨o, h⟩ := h
            refine am_wps (c' := (249, [some (.ref 42), some (.int v1), some (.int v2), none, some (.int v4), none, some (.int v6), some (.int v7), some (.int s0), some (.int r1)], [], (am_uI I1 50 (Int32.toNatClampNeg v2) r1, L1, D1, am_rf X))) rfl rfl (am_s_iast rfl o) ?_
            refine am_wpb (c' := (251, [some (.ref 42), some (.int v1), some (.int v2), none, some (.int v4), none, some (.int v6), some (.int v7), some (.int s0), some (.int r1)], [.int v6], (am_uI I1 50 (Int32.toNatClampNeg v2) r1, L1, D1, am_rf X))) 1 rfl ?_
            refine am_b1_eq rfl (fun z => ?_) (fun z => ?_)
            · replace h := h.1 z
              exact am_fgt (l := [some (.ref 42), some (.int v1), some (.int v2), none, some (.int v4), none, some (.int v6), some (.int v7), none, none]) (am_le_of (am_leS (am_leS (am_leS (am_leN (am_leS (am_leN (am_leS (am_leS (am_leN (am_leN (am_leZ)))))))))))) h
            · replace h := h.2 z
              refine am_wpb (c' := (265, [some (.ref 42), some (.int v1), some (.int v2), none, some (.int v4), none, some (.int v6), some (.int v7), some (.int s0), some (.int r1)], [.int 62, .int (I1 42 9), .int v2, .ref 46], (am_uI I1 50 (Int32.toNatClampNeg v2) r1, L1, D1, am_rf X))) 6 rfl ?_
              refine am_b2_ne rfl (fun z => ?_) (fun z => ?_)
              · replace h := h.1 z
                refine am_wpb (c' := (273, [some (.ref 42), some (.int v1), some (.int v2), none, some (.int v4), none, some (.int v6), some (.int v7), some (.int s0), some (.int r1)], [.int 0, .int v2, .ref 46], (am_uI I1 50 (Int32.toNatClampNeg v2) r1, L1, D1, am_rf X))) 1 rfl ?_
                obtain ⟨o, h⟩ := h
                refine am_wps (c' := (274, [some (.ref 42), some (.int v1), some (.int v2), none, some (.int v4), none, some (.int v6), some (.int v7), some (.int s0), some (.int r1)], [], (am_uI (am_uI I1 50 (Int32.toNatClampNeg v2) r1) 46 (Int32.toNatClampNeg v2) 0, L1, D1, am_rf X))) rfl rfl (am_s_iast rfl o) ?_
                exact am_fgt (l := [some (.ref 42), some (.int v1), some (.int v2), none, some (.int v4), none, some (.int v6), some (.int v7), none, none]) (am_le_of (am_leS (am_leS (am_leS (am_leN (am_leS (am_leN (am_leS (am_leS (am_leN (am_leN (am_leZ)))))))))))) h
              · replace h := h.2 z
                refine am_wpb (c' := (273, [some (.ref 42), some (.int v1), some (.int v2), none, some (.int v4), none, some (.int v6), some (.int v7), some (.int s0), some (.int r1)], [.int 1, .int v2, .ref 46], (am_uI I1 50 (Int32.toNatClampNeg v2) r1, L1, D1, am_rf X))) 2 rfl ?_
                obtain ⟨o, h⟩ := h
                refine am_wps (c' := (274, [some (.ref 42), some (.int v1), some (.int v2), none, some (.int v4), none, some (.int v6), some (.int v7), some (.int s0), some (.int r1)], [], (am_uI (am_uI I1 50 (Int32.toNatClampNeg v2) r1) 46 (Int32.toNatClampNeg v2) 1, L1, D1, am_rf X))) rfl rfl (am_s_iast rfl o) ?_
                exact am_fgt (l := [some (.ref 42), some (.int v1), some (.int v2), none, some (.int v4), none, some (.int v6), some (.int v7), none, none]) (am_le_of (am_leS (am_leS (am_leS (am_leN (am_leS (am_leN (am_leS (am_leS (am_leN (am_leN (am_leZ)))))))))))) h
          · replace h := h.2 z
            refine am_wpb (c' := (237, [some (.ref 42), some (.int v1), some (.int v2), none, some (.int v4), none, some (.int v6), some (.int v7), some (.int s0), some (.int r1)], [.int r1, .int v2, .ref 49], (I1, L1, D1, am_rf X))) 4 rfl ?_
            obtain ⟨o, h⟩ := h
            refine am_wps (c' := (238, [some (.ref 42), some (.int v1), some (.int v2), none, some (.int v4), none, some (.int v6), some (.int v7), some (.int s0), some (.int r1)], [], (am_uI I1 49 (Int32.toNatClampNeg v2) r1, L1, D1, am_rf X))) rfl rfl (am_s_iast rfl o) ?_
            refine am_wpb (c' := (251, [some (.ref 42), some (.int v1), some (.int v2), none, some (.int v4), none, some (.int v6), some (.int v7), some (.int s0), some (.int r1)], [.int v6], (am_uI I1 49 (Int32.toNatClampNeg v2) r1, L1, D1, am_rf X))) 2 rfl ?_
            refine am_b1_eq rfl (fun z => ?_) (fun z => ?_)
            · replace h := h.1 z
              exact am_fgt (l := [some (.ref 42), some (.int v1), some (.int v2), none, some (.int v4), none, some (.int v6), some (.int v7), none, none]) (am_le_of (am_leS (am_leS (am_leS (am_leN (am_leS (am_leN (am_leS (am_leS (am_leN (am_leN (am_leZ)))))))))))) h
            · replace h := h.2 z
              refine am_wpb (c' := (265, [some (.ref 42), some (.int v1), some (.int v2), none, some (.int v4), none, some (.int v6), some (.int v7), some (.int s0), some (.int r1)], [.int 62, .int (I1 42 9), .int v2, .ref 46], (am_uI I1 49 (Int32.toNatClampNeg v2) r1, L1, D1, am_rf X))) 6 rfl ?_
              refine am_b2_ne rfl (fun z => ?_) (fun z => ?_)
              · replace h := h.1 z
                refine am_wpb (c' := (273, [some (.ref 42), some (.int v1), some (.int v2), none, some (.int v4), none, some (.int v6), some (.int v7), some (.int s0), some (.int r1)], [.int 0, .int v2, .ref 46], (am_uI I1 49 (Int32.toNatClampNeg v2) r1, L1, D1, am_rf X))) 1 rfl ?_
                obtain ⟨o, h⟩ := h
                refine am_wps (c' := (274, [some (.ref 42), some (.int v1), some (.int v2), none, some (.int v4), none, some (.int v6), some (.int v7), some (.int s0), some (.int r1)], [], (am_uI (am_uI I1 49 (Int32.toNatClampNeg v2) r1) 46 (Int32.toNatClampNeg v2) 0, L1, D1, am_rf X))) rfl rfl (am_s_iast rfl o) ?_
                exact am_fgt (l := [some (.ref 42), some (.int v1), some (.int v2), none, some (.int v4), none, some (.int v6), some (.int v7), none, none]) (am_le_of (am_leS (am_leS (am_leS (am_leN (am_leS (am_leN (am_leS (am_leS (am_leN (am_leN (am_leZ)))))))))))) h
              · replace h := h.2 z
                refine am_wpb (c' := (273, [some (.ref 42), some (.int v1), some (.int v2), none, some (.int v4), none, some (.int v6), some (.int v7), some (.int s0), some (.int r1)], [.int 1, .int v2, .ref 46], (am_uI I1 49 (Int32.toNatClampNeg v2) r1, L1, D1, am_rf X))) 2 rfl ?_
                obtain ⟨o, h⟩ := h
                refine am_wps (c' := (274, [some (.ref 42), some (.int v1), some (.int v2), none, some (.int v4), none, some (.int v6), some (.int v7), some (.int s0), some (.int r1)], [], (am_uI (am_uI I1 49 (Int32.toNatClampNeg v2) r1) 46 (Int32.toNatClampNeg v2) 1, L1, D1, am_rf X))) rfl rfl (am_s_iast rfl o) ?_
                exact am_fgt (l := [some (.ref 42), some (.int v1), some (.int v2), none, some (.int v4), none, some (.int v6), some (.int v7), none, none]) (am_le_of (am_leS (am_leS (am_leS (am_leN (am_leS (am_leN (am_leS (am_leS (am_leN (am_leN (am_leZ)))))))))))) h
        · replace h := h.2 z
          refine am_wpb (c' := (220, [some (.ref 42), some (.int v1), some (.int v2), none, some (.int v4), none, some (.int v6), some (.int v7), some (.int s0), some (.int r1)], [.int r1, .int v2, .ref 48], (I1, L1, D1, am_rf X))) 4 rfl ?_
          obtain ⟨o, h⟩ := h
          refine am_wps (c' := (221, [some (.ref 42), some (.int v1), some (.int v2), none, some (.int v4), none, some (.int v6), some (.int v7), some (.int s0), some (.int r1)], [], (am_uI I1 48 (Int32.toNatClampNeg v2) r1, L1, D1, am_rf X))) rfl rfl (am_s_iast rfl o) ?_
          refine am_wpb (c' := (251, [some (.ref 42), some (.int v1), some (.int v2), none, some (.int v4), none, some (.int v6), some (.int v7), some (.int s0), some (.int r1)], [.int v6], (am_uI I1 48 (Int32.toNatClampNeg v2) r1, L1, D1, am_rf X))) 2 rfl ?_
          refine am_b1_eq rfl (fun z => ?_) (fun z => ?_)
          · replace h := h.1 z
            exact am_fgt (l := [some (.ref 42), some (.int v1), some (.int v2), none, some (.int v4), none, some (.int v6), some (.int v7), none, none]) (am_le_of (am_leS (am_leS (am_leS (am_leN (am_leS (am_leN (am_leS (am_leS (am_leN (am_leN (am_leZ)))))))))))) h
          · replace h := h.2 z
            refine am_wpb (c' := (265, [some (.ref 42), some (.int v1), some (.int v2), none, some (.int v4), none, some (.int v6), some (.int v7), some (.int s0), some (.int r1)], [.int 62, .int (I1 42 9), .int v2, .ref 46], (am_uI I1 48 (Int32.toNatClampNeg v2) r1, L1, D1, am_rf X))) 6 rfl ?_
            refine am_b2_ne rfl (fun z => ?_) (fun z => ?_)
            · replace h := h.1 z
              refine am_wpb (c' := (273, [some (.ref 42), some (.int v1), some (.int v2), none, some (.int v4), none, some (.int v6), some (.int v7), some (.int s0), some (.int r1)], [.int 0, .int v2, .ref 46], (am_uI I1 48 (Int32.toNatClampNeg v2) r1, L1, D1, am_rf X))) 1 rfl ?_
              obtain ⟨o, h⟩ := h
              refine am_wps (c' := (274, [some (.ref 42), some (.int v1), some (.int v2), none, some (.int v4), none, some (.int v6), some (.int v7), some (.int s0), some (.int r1)], [], (am_uI (am_uI I1 48 (Int32.toNatClampNeg v2) r1) 46 (Int32.toNatClampNeg v2) 0, L1, D1, am_rf X))) rfl rfl (am_s_iast rfl o) ?_
              exact am_fgt (l := [some (.ref 42), some (.int v1), some (.int v2), none, some (.int v4), none, some (.int v6), some (.int v7), none, none]) (am_le_of (am_leS (am_leS (am_leS (am_leN (am_leS (am_leN (am_leS (am_leS (am_leN (am_leN (am_leZ)))))))))))) h
            · replace h := h.2 z
              refine am_wpb (c' := (273, [some (.ref 42), some (.int v1), some (.int v2), none, some (.int v4), none, some (.int v6), some (.int v7), some (.int s0), some (.int r1)], [.int 1, .int v2, .ref 46], (am_uI I1 48 (Int32.toNatClampNeg v2) r1, L1, D1, am_rf X))) 2 rfl ?_
              obtain ⟨o, h⟩ := h
              refine am_wps (c' := (274, [some (.ref 42), some (.int v1), some (.int v2), none, some (.int v4), none, some (.int v6), some (.int v7), some (.int s0), some (.int r1)], [], (am_uI (am_uI I1 48 (Int32.toNatClampNeg v2) r1) 46 (Int32.toNatClampNeg v2) 1, L1, D1, am_rf X))) rfl rfl (am_s_iast rfl o) ?_
              exact am_fgt (l := [some (.ref 42), some (.int v1), some (.int v2), none, some (.int v4), none, some (.int v6), some (.int v7), none, none]) (am_le_of (am_leS (am_leS (am_leS (am_leN (am_leS (am_leN (am_leS (am_leS (am_leN (am_leN (am_leZ)))))))))))) h
      · replace h := h.2 z
        refine am_wpb (c' := (203, [some (.ref 42), some (.int v1), some (.int v2), none, some (.int v4), none, some (.int v6), some (.int v7), some (.int s0), some (.int r1)], [.int r1, .int v2, .ref 47], (I1, L1, D1, am_rf X))) 4 rfl ?_
        obtain ⟨o, h⟩ := h
        refine am_wps (c' := (204, [some (.ref 42), some (.int v1), some (.int v2), none, some (.int v4), none, some (.int v6), some (.int v7), some (.int s0), some (.int r1)], [], (am_uI I1 47 (Int32.toNatClampNeg v2) r1, L1, D1, am_rf X))) rfl rfl (am_s_iast rfl o) ?_
        refine am_wpb (c' := (251, [some (.ref 42), some (.int v1), some (.int v2), none, some (.int v4), none, some (.int v6), some (.int v7), some (.int s0), some (.int r1)], [.int v6], (am_uI I1 47 (Int32.toNatClampNeg v2) r1, L1, D1, am_rf X))) 2 rfl ?_
        refine am_b1_eq rfl (fun z => ?_) (fun z => ?_)
        · replace h := h.1 z
          exact am_fgt (l := [some (.ref 42), some (.int v1), some (.int v2), none, some (.int v4), none, some (.int v6), some (.int v7), none, none]) (am_le_of (am_leS (am_leS (am_leS (am_leN (am_leS (am_leN (am_leS (am_leS (am_leN (am_leN (am_leZ)))))))))))) h
        · replace h := h.2 z
          refine am_wpb (c' := (265, [some (.ref 42), some (.int v1), some (.int v2), none, some (.int v4), none, some (.int v6), some (.int v7), some (.int s0), some (.int r1)], [.int 62, .int (I1 42 9), .int v2, .ref 46], (am_uI I1 47 (Int32.toNatClampNeg v2) r1, L1, D1, am_rf X))) 6 rfl ?_
          refine am_b2_ne rfl (fun z => ?_) (fun z => ?_)
          · replace h := h.1 z
            refine am_wpb (c' := (273, [some (.ref 42), some (.int v1), some (.int v2), none, some (.int v4), none, some (.int v6), some (.int v7), some (.int s0), some (.int r1)], [.int 0, .int v2, .ref 46], (am_uI I1 47 (Int32.toNatClampNeg v2) r1, L1, D1, am_rf X))) 1 rfl ?_
            obtain ⟨o, h⟩ := h
            refine am_wps (c' := (274, [some (.ref 42), some (.int v1), some (.int v2), none, some (.int v4), none, some (.int v6), some (.int v7), some (.int s0), some (.int r1)], [], (am_uI (am_uI I1 47 (Int32.toNatClampNeg v2) r1) 46 (Int32.toNatClampNeg v2) 0, L1, D1, am_rf X))) rfl rfl (am_s_iast rfl o) ?_
            exact am_fgt (l := [some (.ref 42), some (.int v1), some (.int v2), none, some (.int v4), none, some (.int v6), some (.int v7), none, none]) (am_le_of (am_leS (am_leS (am_leS (am_leN (am_leS (am_leN (am_leS (am_leS (am_leN (am_leN (am_leZ)))))))))))) h
          · replace h := h.2 z
            refine am_wpb (c' := (273, [some (.ref 42), some (.int v1), some (.int v2), none, some (.int v4), none, some (.int v6), some (.int v7), some (.int s0), some (.int r1)], [.int 1, .int v2, .ref 46], (am_uI I1 47 (Int32.toNatClampNeg v2) r1, L1, D1, am_rf X))) 2 rfl ?_
            obtain ⟨o, h⟩ := h
            refine am_wps (c' := (274, [some (.ref 42), some (.int v1), some (.int v2), none, some (.int v4), none, some (.int v6), some (.int v7), some (.int s0), some (.int r1)], [], (am_uI (am_uI I1 47 (Int32.toNatClampNeg v2) r1) 46 (Int32.toNatClampNeg v2) 1, L1, D1, am_rf X))) rfl rfl (am_s_iast rfl o) ?_
            exact am_fgt (l := [some (.ref 42), some (.int v1), some (.int v2), none, some (.int v4), none, some (.int v6), some (.int v7), none, none]) (am_le_of (am_leS (am_leS (am_leS (am_leN (am_leS (am_leN (am_leS (am_leS (am_leN (am_leN (am_leZ)))))))))))) h
  · replace h := h.2 z
    refine am_wpb (c' := (177, [some (.ref 42), some (.int v1), some (.int v2), none, some (.int v4), none, some (.int v6), some (.int v7), some (.int s0), none], [.int 1, .ref 42], (I, L, D, am_rf X))) 2 rfl ?_
    obtain ⟨r2, I2, L2, D2, hr, h⟩ := h
    refine am_wp_inv (as := [.ref 42, .int 1]) rfl rfl rfl rfl ⟨_, hr, ?_⟩
    show am_wp ext d mz_140 (180, [some (.ref 42), some (.int v1), some (.int v2), none, some (.int v4), none, some (.int v6), some (.int v7), some (.int s0), none], [.int r2], (I2, L2, D2, am_rf X)) P
    exact am_ret_z rfl rfl h.1 h.2
theorem w140_274 {ext : Nat → List Value → am_M → Option am_R} {d : Nat} {P : am_R → Prop} (I : Nat → Nat → Int32) (L : Nat → Nat → Int64) (D : Nat → Nat → UInt64) (X : am_Rf) (v1 : Int32) (v2 : Int32) (v4 : Int32) (v6 : Int32) (v7 : Int32)
    (h : am_inb v1 120 = true ∧ (((¬ v6 = 0 → (∃ (I1 : Nat → Nat → Int32) (L1 : Nat → Nat → Int64) (D1 : Nat → Nat → UInt64), am_Rn ext d 123 [.ref 42] (am_uI (am_uI I 57 (Int32.toNatClampNeg v1) (v4 + 1)) 42 35 1, L, D, am_rf X) (none, (I1, L1, D1, am_rf X)) ∧ (P (some (.int 1), (I1, L1, D1, am_rf X))))) ∧ (v6 = 0 → (((v7 = 0 → (((v2 < 0 → (∃ (I2 : Nat → Nat → Int32) (L2 : Nat → Nat → Int64) (D2 : Nat → Nat → UInt64), am_Rn ext d 123 [.ref 42] (am_uI (am_uI (am_uI I 57 (Int32.toNatClampNeg v1) (v4 + 1)) 42 31 ((I 42 31) - 1)) 42 34 ((I 42 34) - 1), L, D, am_rf X) (none, (I2, L2, D2, am_rf X)) ∧ (P (some (.int 1), (I2, L2, D2, am_rf X))))) ∧ (¬ v2 < 0 → (∃ (I3 : Nat → Nat → Int32) (L3 : Nat → Nat → Int64) (D3 : Nat → Nat → UInt64), am_Rn ext d 129 [.ref 42, .int v2] (am_uI (am_uI (am_uI I 57 (Int32.toNatClampNeg v1) (v4 + 1)) 42 31 ((I 42 31) - 1)) 42 34 ((I 42 34) - 1), L, D, am_rf X) (none, (I3, L3, D3, am_rf X)) ∧ (∃ (I4 : Nat → Nat → Int32) (L4 : Nat → Nat → Int64) (D4 : Nat → Nat → UInt64), am_Rn ext d 123 [.ref 42] (I3, L3, D3, am_rf X) (none, (I4, L4, D4, am_rf X)) ∧ (P (some (.int 1), (I4, L4, D4, am_rf X))))))))) ∧ (¬ v7 = 0 → (∃ (I5 : Nat → Nat → Int32) (L5 : Nat → Nat → Int64) (D5 : Nat → Nat → UInt64), am_Rn ext d 123 [.ref 42] (am_uI (am_uI I 57 (Int32.toNatClampNeg v1) (v4 + 1)) 42 35 1, L, D, am_rf X) (none, (I5, L5, D5, am_rf X)) ∧ (P (some (.int 1), (I5, L5, D5, am_rf X))))))))))) : am_wp ext d mz_140 (274, [some (.ref 42), some (.int v1), some (.int v2), none, some (.int v4), none, some (.int v6), some (.int v7), none, none], [], (I, L, D, am_rf X)) P := by
  refine am_wpb (c' := (283, [some (.ref 42), some (.int v1), some (.int v2), none, some (.int v4), none, some (.int v6), some (.int v7), none, none], [.int (v4 + 1), .int v1, .ref 57], (I, L, D, am_rf X))) 6 rfl ?_
  obtain ⟨o, h⟩ := h
  refine am_wps (c' := (284, [some (.ref 42), some (.int v1), some (.int v2), none, some (.int v4), none, some (.int v6), some (.int v7), none, none], [], (am_uI I 57 (Int32.toNatClampNeg v1) (v4 + 1), L, D, am_rf X))) rfl rfl (am_s_iast rfl o) ?_
  refine am_wpb (c' := (286, [some (.ref 42), some (.int v1), some (.int v2), none, some (.int v4), none, some (.int v6), some (.int v7), none, none], [.int v6], (am_uI I 57 (Int32.toNatClampNeg v1) (v4 + 1), L, D, am_rf X))) 1 rfl ?_
  refine am_b1_ne rfl (fun z => ?_) (fun z => ?_)
  · replace h := h.1 z
    refine am_wpb (c' := (332, [some (.ref 42), some (.int v1), some (.int v2), none, some (.int v4), none, some (.int v6), some (.int v7), none, none], [.ref 42], (am_uI (am_uI I 57 (Int32.toNatClampNeg v1) (v4 + 1)) 42 35 1, L, D, am_rf X))) 5 rfl ?_
    obtain ⟨I1, L1, D1, hr, h⟩ := h
    refine am_wp_inv (as := [.ref 42]) rfl rfl rfl rfl ⟨_, hr, ?_⟩
    show am_wp ext d mz_140 (335, [some (.ref 42), some (.int v1), some (.int v2), none, some (.int v4), none, some (.int v6), some (.int v7), none, none], [], (I1, L1, D1, am_rf X)) P
    refine am_wpb (c' := (336, [some (.ref 42), some (.int v1), some (.int v2), none, some (.int v4), none, some (.int v6), some (.int v7), none, none], [.int 1], (I1, L1, D1, am_rf X))) 1 rfl ?_
    exact am_ret_z rfl rfl (Or.inr rfl) h
  · replace h := h.2 z
    refine am_wpb (c' := (291, [some (.ref 42), some (.int v1), some (.int v2), none, some (.int v4), none, some (.int v6), some (.int v7), none, none], [.int v7], (am_uI I 57 (Int32.toNatClampNeg v1) (v4 + 1), L, D, am_rf X))) 1 rfl ?_
    refine am_b1_eq rfl (fun z => ?_) (fun z => ?_)
    · replace h := h.1 z
      refine am_wpb (c' := (323, [some (.ref 42), some (.int v1), some (.int v2), none, some (.int v4), none, some (.int v6), some (.int v7), none, none], [.int v2], (am_uI (am_uI (am_uI I 57 (Int32.toNatClampNeg v1) (v4 + 1)) 42 31 ((I 42 31) - 1)) 42 34 ((I 42 34) - 1), L, D, am_rf X))) 13 rfl ?_
      refine am_b1_lt rfl (fun z => ?_) (fun z => ?_)
      · replace h := h.1 z
        refine am_wpb (c' := (332, [some (.ref 42), some (.int v1), some (.int v2), none, some (.int v4), none, some (.int v6), some (.int v7), none, none], [.ref 42], (am_uI (am_uI (am_uI I 57 (Int32.toNatClampNeg v1) (v4 + 1)) 42 31 ((I 42 31) - 1)) 42 34 ((I 42 34) - 1), L, D, am_rf X))) 1 rfl ?_
        obtain ⟨I2, L2, D2, hr, h⟩ := h
        refine am_wp_inv (as := [.ref 42]) rfl rfl rfl rfl ⟨_, hr, ?_⟩
        show am_wp ext d mz_140 (335, [some (.ref 42), some (.int v1), some (.int v2), none, some (.int v4), none, some (.int v6), some (.int v7), none, none], [], (I2, L2, D2, am_rf X)) P
        refine am_wpb (c' := (336, [some (.ref 42), some (.int v1), some (.int v2), none, some (.int v4), none, some (.int v6), some (.int v7), none, none], [.int 1], (I2, L2, D2, am_rf X))) 1 rfl ?_
        exact am_ret_z rfl rfl (Or.inr rfl) h
      · replace h := h.2 z
        refine am_wpb (c' := (328, [some (.ref 42), some (.int v1), some (.int v2), none, some (.int v4), none, some (.int v6), some (.int v7), none, none], [.int v2, .ref 42], (am_uI (am_uI (am_uI I 57 (Int32.toNatClampNeg v1) (v4 + 1)) 42 31 ((I 42 31) - 1)) 42 34 ((I 42 34) - 1), L, D, am_rf X))) 2 rfl ?_
        obtain ⟨I3, L3, D3, hr, h⟩ := h
        refine am_wp_inv (as := [.ref 42, .int v2]) rfl rfl rfl rfl ⟨_, hr, ?_⟩
        show am_wp ext d mz_140 (331, [some (.ref 42), some (.int v1), some (.int v2), none, some (.int v4), none, some (.int v6), some (.int v7), none, none], [], (I3, L3, D3, am_rf X)) P
        refine am_wpb (c' := (332, [some (.ref 42), some (.int v1), some (.int v2), none, some (.int v4), none, some (.int v6), some (.int v7), none, none], [.ref 42], (I3, L3, D3, am_rf X))) 1 rfl ?_
        obtain ⟨I4, L4, D4, hr, h⟩ := h
        refine am_wp_inv (as := [.ref 42]) rfl rfl rfl rfl ⟨_, hr, ?_⟩
        show am_wp ext d mz_140 (335, [some (.ref 42), some (.int v1), some (.int v2), none, some (.int v4), none, some (.int v6), some (.int v7), none, none], [], (I4, L4, D4, am_rf X)) P
        refine am_wpb (c' := (336, [some (.ref 42), some (.int v1), some (.int v2), none, some (.int v4), none, some (.int v6), some (.int v7), none, none], [.int 1], (I4, L4, D4, am_rf X))) 1 rfl ?_
        exact am_ret_z rfl rfl (Or.inr rfl) h
    · replace h := h.2 z
      refine am_wpb (c' := (332, [some (.ref 42), some (.int v1), some (.int v2), none, some (.int v4), none, some (.int v6), some (.int v7), none, none], [.ref 42], (am_uI (am_uI I 57 (Int32.toNatClampNeg v1) (v4 + 1)) 42 35 1, L, D, am_rf X))) 5 rfl ?_
      obtain ⟨I5, L5, D5, hr, h⟩ := h
      refine am_wp_inv (as := [.ref 42]) rfl rfl rfl rfl ⟨_, hr, ?_⟩
      show am_wp ext d mz_140 (335, [some (.ref 42), some (.int v1), some (.int v2), none, some (.int v4), none, some (.int v6), some (.int v7), none, none], [], (I5, L5, D5, am_rf X)) P
      refine am_wpb (c' := (336, [some (.ref 42), some (.int v1), some (.int v2), none, some (.int v4), none, some (.int v6), some (.int v7), none, none], [.int 1], (I5, L5, D5, am_rf X))) 1 rfl ?_
      exact am_ret_z rfl rfl (Or.inr rfl) h
/-- SureSumsModel.expression()Z -/
def mz_141 : am_Y := (fun pc => am_q141.lookup pc, 2, 2)
theorem mh_141 : am_Ys 141 = some mz_141 := rfl
theorem w141_0 {ext : Nat → List Value → am_M → Option am_R} {d : Nat} {P : am_R → Prop} (I : Nat → Nat → Int32) (L : Nat → Nat → Int64) (D : Nat → Nat → UInt64) (X : am_Rf)
    (h : am_wp ext d mz_141 (20, [some (.ref 42), none], [], (am_uI (am_uI (am_uI (am_uI I 42 31 0) 42 33 0) 42 34 0) 42 35 1, L, D, am_rf X)) P) : am_wp ext d mz_141 (0, [some (.ref 42), none], [], (I, L, D, am_rf X)) P := by
  refine am_wpb (c' := (20, [some (.ref 42), none], [], (am_uI (am_uI (am_uI (am_uI I 42 31 0) 42 33 0) 42 34 0) 42 35 1, L, D, am_rf X))) 12 rfl ?_
  exact h
theorem w141_20 {ext : Nat → List Value → am_M → Option am_R} {d : Nat} {P : am_R → Prop} (I : Nat → Nat → Int32) (L : Nat → Nat → Int64) (D : Nat → Nat → UInt64) (X : am_Rf)
    (h : (((I 42 35) = 0 → (∃ (r1 : Int32) (I1 : Nat → Nat → Int32) (L1 : Nat → Nat → Int64) (D1 : Nat → Nat → UInt64), am_Rn ext d 138 [.ref 42] (I, L, D, am_rf X) (some (.int r1), (I1, L1, D1, am_rf X)) ∧ (((r1 < 0 → ((((I1 42 34) ≤ 0 → (∃ (I2 : Nat → Nat → Int32) (L2 : Nat → Nat → Int64) (D2 : Nat → Nat → UInt64), am_Rn ext d 130 [.ref 42, .int 1] (I1, L1, D1, am_rf X) (none, (I2, L2, D2, am_rf X)) ∧ (P (some (.int 1), (I2, L2, D2, am_rf X))))) ∧ (¬ (I1 42 34) ≤ 0 → (∃ (r3 : Int32) (I3 : Nat → Nat → Int32) (L3 : Nat → Nat → Int64) (D3 : Nat → Nat → UInt64), am_Rn ext d 140 [.ref 42] (I1, L1, D1, am_rf X) (some (.int r3), (I3, L3, D3, am_rf X)) ∧ (((¬ r3 = 0 → (am_wp ext d mz_141 (20, [some (.ref 42), none], [], (I3, L3, D3, am_rf X)) P)) ∧ (r3 = 0 → (P (some (.int 0), (I3, L3, D3, am_rf X))))))))))) ∧ (¬ r1 < 0 → (∃ (r4 : Int32) (I4 : Nat → Nat → Int32) (L4 : Nat → Nat → Int64) (D4 : Nat → Nat → UInt64), am_Rn ext d 138 [.ref 42] (I1, L1, D1, am_rf X) (some (.int r4), (I4, L4, D4, am_rf X)) ∧ (∃ (r5 : Int32) (I5 : Nat → Nat → Int32) (L5 : Nat → Nat → Int64) (D5 : Nat → Nat → UInt64), am_Rn ext d 139 [.ref 42, .int r4] (I4, L4, D4, am_rf X) (some (.int r5), (I5, L5, D5, am_rf X)) ∧ (((¬ r5 = 0 → (am_wp ext d mz_141 (20, [some (.ref 42), none], [], (I5, L5, D5, am_rf X)) P)) ∧ (r5 = 0 → (P (some (.int 0), (I5, L5, D5, am_rf X))))))))))))) ∧ (¬ (I 42 35) = 0 → (∃ (r6 : Int32) (I6 : Nat → Nat → Int32) (L6 : Nat → Nat → Int64) (D6 : Nat → Nat → UInt64), am_Rn ext d 137 [.ref 42] (I, L, D, am_rf X) (some (.int r6), (I6, L6, D6, am_rf X)) ∧ (((¬ r6 = 0 → (am_wp ext d mz_141 (20, [some (.ref 42), none], [], (I6, L6, D6, am_rf X)) P)) ∧ (r6 = 0 → (P (some (.int 0), (I6, L6, D6, am_rf X)))))))))) : am_wp ext d mz_141 (20, [some (.ref 42), none], [], (I, L, D, am_rf X)) P := by
  refine am_wpb (c' := (26, [some (.ref 42), some (.int 1)], [.int (I 42 35)], (I, L, D, am_rf X))) 4 rfl ?_
  refine am_b1_eq rfl (fun z => ?_) (fun z => ?_)
  · replace h := h.1 z
    refine am_wpb (c' := (38, [some (.ref 42), some (.int 1)], [.ref 42], (I, L, D, am_rf X))) 1 rfl ?_
    obtain ⟨r1, I1, L1, D1, hr, h⟩ := h
    refine am_wp_inv (as := [.ref 42]) rfl rfl rfl rfl ⟨_, hr, ?_⟩
    show am_wp ext d mz_141 (41, [some (.ref 42), some (.int 1)], [.int r1], (I1, L1, D1, am_rf X)) P
    refine am_b1_lt rfl (fun z => ?_) (fun z => ?_)
    · replace h := h.1 z
      refine am_wpb (c' := (60, [some (.ref 42), some (.int 1)], [.int (I1 42 34)], (I1, L1, D1, am_rf X))) 2 rfl ?_
      refine am_b1_le rfl (fun z => ?_) (fun z => ?_)
      · replace h := h.1 z
        refine am_wpb (c' := (73, [some (.ref 42), some (.int 1)], [.int 1, .ref 42], (I1, L1, D1, am_rf X))) 2 rfl ?_
        obtain ⟨I2, L2, D2, hr, h⟩ := h
        refine am_wp_inv (as := [.ref 42, .int 1]) rfl rfl rfl rfl ⟨_, hr, ?_⟩
        show am_wp ext d mz_141 (76, [some (.ref 42), some (.int 1)], [], (I2, L2, D2, am_rf X)) P
        refine am_wpb (c' := (77, [some (.ref 42), some (.int 1)], [.int 1], (I2, L2, D2, am_rf X))) 1 rfl ?_
        exact am_ret_z rfl rfl (Or.inr rfl) h
      · replace h := h.2 z
        refine am_wpb (c' := (64, [some (.ref 42), some (.int 1)], [.ref 42], (I1, L1, D1, am_rf X))) 1 rfl ?_
        obtain ⟨r3, I3, L3, D3, hr, h⟩ := h
        refine am_wp_inv (as := [.ref 42]) rfl rfl rfl rfl ⟨_, hr, ?_⟩
        show am_wp ext d mz_141 (67, [some (.ref 42), some (.int 1)], [.int r3], (I3, L3, D3, am_rf X)) P
        refine am_wpb (c' := (79, [some (.ref 42), some (.int r3)], [.int r3], (I3, L3, D3, am_rf X))) 3 rfl ?_
        refine am_b1_ne rfl (fun z => ?_) (fun z => ?_)
        · replace h := h.1 z
          refine am_wpb (c' := (20, [some (.ref 42), some (.int r3)], [], (I3, L3, D3, am_rf X))) 1 rfl ?_
          exact am_fgt (l := [some (.ref 42), none]) (am_le_of (am_leS (am_leN (am_leZ)))) h
        · replace h := h.2 z
          refine am_wpb (c' := (83, [some (.ref 42), some (.int r3)], [.int 0], (I3, L3, D3, am_rf X))) 1 rfl ?_
          exact am_ret_z rfl rfl (Or.inl rfl) h
    · replace h := h.2 z
      refine am_wpb (c' := (46, [some (.ref 42), some (.int 1)], [.ref 42, .ref 42], (I1, L1, D1, am_rf X))) 2 rfl ?_
      obtain ⟨r4, I4, L4, D4, hr, h⟩ := h
      refine am_wp_inv (as := [.ref 42]) rfl rfl rfl rfl ⟨_, hr, ?_⟩
      show am_wp ext d mz_141 (49, [some (.ref 42), some (.int 1)], [.int r4, .ref 42], (I4, L4, D4, am_rf X)) P
      obtain ⟨r5, I5, L5, D5, hr, h⟩ := h
      refine am_wp_inv (as := [.ref 42, .int r4]) rfl rfl rfl rfl ⟨_, hr, ?_⟩
      show am_wp ext d mz_141 (52, [some (.ref 42), some (.int 1)], [.int r5], (I5, L5, D5, am_rf X)) P
      refine am_wpb (c' := (79, [some (.ref 42), some (.int r5)], [.int r5], (I5, L5, D5, am_rf X))) 3 rfl ?_
      refine am_b1_ne rfl (fun z => ?_) (fun z => ?_)
      · replace h := h.1 z
        refine am_wpb (c' := (20, [some (.ref 42), some (.int r5)], [], (I5, L5, D5, am_rf X))) 1 rfl ?_
        exact am_fgt (l := [some (.ref 42), none]) (am_le_of (am_leS (am_leN (am_leZ)))) h
      · replace h := h.2 z
        refine am_wpb (c' := (83, [some (.ref 42), some (.int r5)], [.int 0], (I5, L5, D5, am_rf X))) 1 rfl ?_
        exact am_ret_z rfl rfl (Or.inl rfl) h
  · replace h := h.2 z
    refine am_wpb (c' := (30, [some (.ref 42), some (.int 1)], [.ref 42], (I, L, D, am_rf X))) 1 rfl ?_
    obtain ⟨r6, I6, L6, D6, hr, h⟩ := h
    refine am_wp_inv (as := [.ref 42]) rfl rfl rfl rfl ⟨_, hr, ?_⟩
    show am_wp ext d mz_141 (33, [some (.ref 42), some (.int 1)], [.int r6], (I6, L6, D6, am_rf X)) P
    refine am_wpb (c' := (79, [some (.ref 42), some (.int r6)], [.int r6], (I6, L6, D6, am_rf X))) 3 rfl ?_
    refine am_b1_ne rfl (fun z => ?_) (fun z => ?_)
    · replace h := h.1 z
      refine am_wpb (c' := (20, [some (.ref 42), some (.int r6)], [], (I6, L6, D6, am_rf X))) 1 rfl ?_
      exact am_fgt (l := [some (.ref 42), none]) (am_le_of (am_leS (am_leN (am_leZ)))) h
    · replace h := h.2 z
      refine am_wpb (c' := (83, [some (.ref 42), some (.int r6)], [.int 0], (I6, L6, D6, am_rf X))) 1 rfl ?_
      exact am_ret_z rfl rfl (Or.inl rfl) h
/-- SureSumsModel.line()Z -/
def mz_142 : am_Y := (fun pc => am_q142.lookup pc, 2, 2)
theorem mh_142 : am_Ys 142 = some mz_142 := rfl
theorem w142_0 {ext : Nat → List Value → am_M → Option am_R} {d : Nat} {P : am_R → Prop} (I : Nat → Nat → Int32) (L : Nat → Nat → Int64) (D : Nat → Nat → UInt64) (X : am_Rf)
    (h : ((¬ (I 42 8) = 1 → (∃ (r1 : Int32) (I1 : Nat → Nat → Int32) (L1 : Nat → Nat → Int64) (D1 : Nat → Nat → UInt64), am_Rn ext d 118 [.ref 42, .int 1] (I, L, D, am_rf X) (some (.int r1), (I1, L1, D1, am_rf X)) ∧ ((r1 = 0 ∨ r1 = 1) ∧ P (some (.int r1), (I1, L1, D1, am_rf X))))) ∧ ((I 42 8) = 1 → ((((I 42 9) ≤ 1 → (((¬ (I 42 9) = 1 → (am_wp ext d mz_142 (36, [some (.ref 42), none], [.int 0, .ref 42], (I, L, D, am_rf X)) P)) ∧ ((I 42 9) = 1 → (am_wp ext d mz_142 (36, [some (.ref 42), none], [.int 1, .ref 42], (I, L, D, am_rf X)) P))))) ∧ (¬ (I 42 9) ≤ 1 → (∃ (r2 : Int32) (I2 : Nat → Nat → Int32) (L2 : Nat → Nat → Int64) (D2 : Nat → Nat → UInt64), am_Rn ext d 118 [.ref 42, .int 1] (I, L, D, am_rf X) (some (.int r2), (I2, L2, D2, am_rf X)) ∧ ((r2 = 0 ∨ r2 = 1) ∧ P (some (.int r2), (I2, L2, D2, am_rf X)))))))))) : am_wp ext d mz_142 (0, [some (.ref 42), none], [], (I, L, D, am_rf X)) P := by
  refine am_wpb (c' := (5, [some (.ref 42), none], [.int 1, .int (I 42 8)], (I, L, D, am_rf X))) 3 rfl ?_
  refine am_b2_ne rfl (fun z => ?_) (fun z => ?_)
  · replace h := h.1 z
    refine am_wpb (c' := (18, [some (.ref 42), none], [.int 1, .ref 42], (I, L, D, am_rf X))) 2 rfl ?_
    obtain ⟨r1, I1, L1, D1, hr, h⟩ := h
    refine am_wp_inv (as := [.ref 42, .int 1]) rfl rfl rfl rfl ⟨_, hr, ?_⟩
    show am_wp ext d mz_142 (21, [some (.ref 42), none], [.int r1], (I1, L1, D1, am_rf X)) P
    exact am_ret_z rfl rfl h.1 h.2
  · replace h := h.2 z
    refine am_wpb (c' := (13, [some (.ref 42), none], [.int 1, .int (I 42 9)], (I, L, D, am_rf X))) 3 rfl ?_
    refine am_b2_le rfl (fun z => ?_) (fun z => ?_)
    · replace h := h.1 z
      refine am_wpb (c' := (28, [some (.ref 42), none], [.int 1, .int (I 42 9), .ref 42], (I, L, D, am_rf X))) 4 rfl ?_
      refine am_b2_ne rfl (fun z => ?_) (fun z => ?_)
      · replace h := h.1 z
        refine am_wpb (c' := (36, [some (.ref 42), none], [.int 0, .ref 42], (I, L, D, am_rf X))) 1 rfl ?_
        exact h
      · replace h := h.2 z
        refine am_wpb (c' := (36, [some (.ref 42), none], [.int 1, .ref 42], (I, L, D, am_rf X))) 2 rfl ?_
        exact h
    · replace h := h.2 z
      refine am_wpb (c' := (18, [some (.ref 42), none], [.int 1, .ref 42], (I, L, D, am_rf X))) 2 rfl ?_
      obtain ⟨r2, I2, L2, D2, hr, h⟩ := h
      refine am_wp_inv (as := [.ref 42, .int 1]) rfl rfl rfl rfl ⟨_, hr, ?_⟩
      show am_wp ext d mz_142 (21, [some (.ref 42), none], [.int r2], (I2, L2, D2, am_rf X)) P
      exact am_ret_z rfl rfl h.1 h.2
theorem w142_36 {ext : Nat → List Value → am_M → Option am_R} {d : Nat} {P : am_R → Prop} (I : Nat → Nat → Int32) (L : Nat → Nat → Int64) (D : Nat → Nat → UInt64) (X : am_Rf) (s0 : Int32)
    (h : (s0 = 0 ∨ s0 = 1) ∧ (((s0 = 0 → (((¬ (I 42 26) = 12 → (am_wp ext d mz_142 (73, [some (.ref 42), none], [], (am_uI I 42 36 s0, L, D, am_rf X)) P)) ∧ ((I 42 26) = 12 → (∃ (r1 : Int32) (I1 : Nat → Nat → Int32) (L1 : Nat → Nat → Int64) (D1 : Nat → Nat → UInt64), am_Rn ext d 118 [.ref 42, .int 2] (am_uI I 42 36 s0, L, D, am_rf X) (some (.int r1), (I1, L1, D1, am_rf X)) ∧ ((r1 = 0 ∨ r1 = 1) ∧ P (some (.int r1), (I1, L1, D1, am_rf X)))))))) ∧ (¬ s0 = 0 → (((¬ (I 42 27) = 6 → (am_wp ext d mz_142 (73, [some (.ref 42), none], [], (am_uI I 42 36 s0, L, D, am_rf X)) P)) ∧ ((I 42 27) = 6 → (∃ (r2 : Int32) (I2 : Nat → Nat → Int32) (L2 : Nat → Nat → Int64) (D2 : Nat → Nat → UInt64), am_Rn ext d 118 [.ref 42, .int 2] (am_uI I 42 36 s0, L, D, am_rf X) (some (.int r2), (I2, L2, D2, am_rf X)) ∧ ((r2 = 0 ∨ r2 = 1) ∧ P (some (.int r2), (I2, L2, D2, am_rf X))))))))))) : am_wp ext d mz_142 (36, [some (.ref 42), none], [.int s0, .ref 42], (I, L, D, am_rf X)) P := by
  obtain ⟨o, h⟩ := h
  refine am_wps (c' := (39, [some (.ref 42), none], [], (am_uI I 42 36 s0, L, D, am_rf X))) rfl rfl (am_s_zput rfl rfl o) ?_
  refine am_wpb (c' := (43, [some (.ref 42), none], [.int s0], (am_uI I 42 36 s0, L, D, am_rf X))) 2 rfl ?_
  refine am_b1_eq rfl (fun z => ?_) (fun z => ?_)
  · replace h := h.1 z
    refine am_wpb (c' := (64, [some (.ref 42), none], [.int 12, .int (I 42 26)], (am_uI I 42 36 s0, L, D, am_rf X))) 3 rfl ?_
    refine am_b2_ne rfl (fun z => ?_) (fun z => ?_)
    · replace h := h.1 z
      exact h
    · replace h := h.2 z
      refine am_wpb (c' := (69, [some (.ref 42), none], [.int 2, .ref 42], (am_uI I 42 36 s0, L, D, am_rf X))) 2 rfl ?_
      obtain ⟨r1, I1, L1, D1, hr, h⟩ := h
      refine am_wp_inv (as := [.ref 42, .int 2]) rfl rfl rfl rfl ⟨_, hr, ?_⟩
      show am_wp ext d mz_142 (72, [some (.ref 42), none], [.int r1], (I1, L1, D1, am_rf X)) P
      exact am_ret_z rfl rfl h.1 h.2
  · replace h := h.2 z
    refine am_wpb (c' := (52, [some (.ref 42), none], [.int 6, .int (I 42 27)], (am_uI I 42 36 s0, L, D, am_rf X))) 3 rfl ?_
    refine am_b2_ne rfl (fun z => ?_) (fun z => ?_)
    · replace h := h.1 z
      exact h
    · replace h := h.2 z
      refine am_wpb (c' := (69, [some (.ref 42), none], [.int 2, .ref 42], (am_uI I 42 36 s0, L, D, am_rf X))) 3 rfl ?_
      obtain ⟨r2, I2, L2, D2, hr, h⟩ := h
      refine am_wp_inv (as := [.ref 42, .int 2]) rfl rfl rfl rfl ⟨_, hr, ?_⟩
      show am_wp ext d mz_142 (72, [some (.ref 42), none], [.int r2], (I2, L2, D2, am_rf X)) P
      exact am_ret_z rfl rfl h.1 h.2
theorem w142_73 {ext : Nat → List Value → am_M → Option am_R} {d : Nat} {P : am_R → Prop} (I : Nat → Nat → Int32) (L : Nat → Nat → Int64) (D : Nat → Nat → UInt64) (X : am_Rf)
    (h : ∃ (I1 : Nat → Nat → Int32) (L1 : Nat → Nat → Int64) (D1 : Nat → Nat → UInt64), am_Rn ext d 123 [.ref 42] (I, L, D, am_rf X) (none, (I1, L1, D1, am_rf X)) ∧ (((¬ (I1 42 8) = 2 → (∃ (r2 : Int32) (I2 : Nat → Nat → Int32) (L2 : Nat → Nat → Int64) (D2 : Nat → Nat → UInt64), am_Rn ext d 118 [.ref 42, .int 1] (I1, L1, D1, am_rf X) (some (.int r2), (I2, L2, D2, am_rf X)) ∧ ((r2 = 0 ∨ r2 = 1) ∧ P (some (.int r2), (I2, L2, D2, am_rf X))))) ∧ ((I1 42 8) = 2 → (((¬ (I1 42 9) = 19 → (am_inb (26 + (I1 42 9)) 52 = true ∧ ((((I1 51 (Int32.toNatClampNeg (26 + (I1 42 9)))) = 0 → (∃ (I3 : Nat → Nat → Int32) (L3 : Nat → Nat → Int64) (D3 : Nat → Nat → UInt64), am_Rn ext d 123 [.ref 42] (I1, L1, D1, am_rf X) (none, (I3, L3, D3, am_rf X)) ∧ (∃ (r4 : Int32) (I4 : Nat → Nat → Int32) (L4 : Nat → Nat → Int64) (D4 : Nat → Nat → UInt64), am_Rn ext d 125 [.ref 42, .int 61] (I3, L3, D3, am_rf X) (some (.int r4), (I4, L4, D4, am_rf X)) ∧ (((r4 = 0 → (P (some (.int 0), (I4, L4, D4, am_rf X)))) ∧ (¬ r4 = 0 → (∃ (r5 : Int32) (I5 : Nat → Nat → Int32) (L5 : Nat → Nat → Int64) (D5 : Nat → Nat → UInt64), am_Rn ext d 141 [.ref 42] (I4, L4, D4, am_rf X) (some (.int r5), (I5, L5, D5, am_rf X)) ∧ (((¬ r5 = 0 → (am_inb (26 + (I1 42 9)) 52 = true ∧ ((((I5 42 36) = 0 → (am_wp ext d mz_142 (180, [some (.ref 42), some (.int (I1 42 9))], [.int 1, .int (26 + (I1 42 9)), .ref 51], (am_uI I5 52 (Int32.toNatClampNeg (26 + (I1 42 9))) (I5 58 0), L5, D5, am_rf X)) P)) ∧ (¬ (I5 42 36) = 0 → (am_wp ext d mz_142 (180, [some (.ref 42), some (.int (I1 42 9))], [.int 2, .int (26 + (I1 42 9)), .ref 51], (am_uI I5 52 (Int32.toNatClampNeg (26 + (I1 42 9))) (I5 58 0), L5, D5, am_rf X)) P)))))) ∧ (r5 = 0 → (P (some (.int 0), (I5, L5, D5, am_rf X))))))))))))) ∧ (¬ (I1 51 (Int32.toNatClampNeg (26 + (I1 42 9)))) = 0 → (∃ (r6 : Int32) (I6 : Nat → Nat → Int32) (L6 : Nat → Nat → Int64) (D6 : Nat → Nat → UInt64), am_Rn ext d 118 [.ref 42, .int 3] (I1, L1, D1, am_rf X) (some (.int r6), (I6, L6, D6, am_rf X)) ∧ ((r6 = 0 ∨ r6 = 1) ∧ P (some (.int r6), (I6, L6, D6, am_rf X))))))))) ∧ ((I1 42 9) = 19 → (∃ (r7 : Int32) (I7 : Nat → Nat → Int32) (L7 : Nat → Nat → Int64) (D7 : Nat → Nat → UInt64), am_Rn ext d 118 [.ref 42, .int 1] (I1, L1, D1, am_rf X) (some (.int r7), (I7, L7, D7, am_rf X)) ∧ ((r7 = 0 ∨ r7 = 1) ∧ P (some (.int r7), (I7, L7, D7, am_rf X))))))))))) : am_wp ext d mz_142 (73, [some (.ref 42), none], [], (I, L, D, am_rf X)) P := by
  refine am_wpb (c' := (74, [some (.ref 42), none], [.ref 42], (I, L, D, am_rf X))) 1 rfl ?_
  obtain ⟨I1, L1, D1, hr, h⟩ := h
  refine am_wp_inv (as := [.ref 42]) rfl rfl rfl rfl ⟨_, hr, ?_⟩
  show am_wp ext d mz_142 (77, [some (.ref 42), none], [], (I1, L1, D1, am_rf X)) P
  refine am_wpb (c' := (82, [some (.ref 42), none], [.int 2, .int (I1 42 8)], (I1, L1, D1, am_rf X))) 3 rfl ?_
  refine am_b2_ne rfl (fun z => ?_) (fun z => ?_)
  · replace h := h.1 z
    refine am_wpb (c' := (96, [some (.ref 42), none], [.int 1, .ref 42], (I1, L1, D1, am_rf X))) 2 rfl ?_
    obtain ⟨r2, I2, L2, D2, hr, h⟩ := h
    refine am_wp_inv (as := [.ref 42, .int 1]) rfl rfl rfl rfl ⟨_, hr, ?_⟩
    show am_wp ext d mz_142 (99, [some (.ref 42), none], [.int r2], (I2, L2, D2, am_rf X)) P
    exact am_ret_z rfl rfl h.1 h.2
  · replace h := h.2 z
    refine am_wpb (c' := (91, [some (.ref 42), none], [.int 19, .int (I1 42 9)], (I1, L1, D1, am_rf X))) 3 rfl ?_
    refine am_b2_ne rfl (fun z => ?_) (fun z => ?_)
    · replace h := h.1 z
      refine am_wpb (c' := (113, [some (.ref 42), some (.int (I1 42 9))], [.int (26 + (I1 42 9)), .ref 51], (I1, L1, D1, am_rf X))) 8 rfl ?_
      obtain ⟨o, h⟩ := h
      refine am_wps (c' := (114, [some (.ref 42), some (.int (I1 42 9))], [.int (I1 51 (Int32.toNatClampNeg (26 + (I1 42 9))))], (I1, L1, D1, am_rf X))) rfl rfl (am_s_iald rfl o) ?_
      refine am_b1_eq rfl (fun z => ?_) (fun z => ?_)
      · replace h := h.1 z
        refine am_wpb (c' := (124, [some (.ref 42), some (.int (I1 42 9))], [.ref 42], (I1, L1, D1, am_rf X))) 1 rfl ?_
        obtain ⟨I3, L3, D3, hr, h⟩ := h
        refine am_wp_inv (as := [.ref 42]) rfl rfl rfl rfl ⟨_, hr, ?_⟩
        show am_wp ext d mz_142 (127, [some (.ref 42), some (.int (I1 42 9))], [], (I3, L3, D3, am_rf X)) P
        refine am_wpb (c' := (130, [some (.ref 42), some (.int (I1 42 9))], [.int 61, .ref 42], (I3, L3, D3, am_rf X))) 2 rfl ?_
        obtain ⟨r4, I4, L4, D4, hr, h⟩ := h
        refine am_wp_inv (as := [.ref 42, .int 61]) rfl rfl rfl rfl ⟨_, hr, ?_⟩
        show am_wp ext d mz_142 (133, [some (.ref 42), some (.int (I1 42 9))], [.int r4], (I4, L4, D4, am_rf X)) P
        refine am_b1_eq rfl (fun z => ?_) (fun z => ?_)
        · replace h := h.1 z
          refine am_wpb (c' := (144, [some (.ref 42), some (.int (I1 42 9))], [.int 0], (I4, L4, D4, am_rf X))) 1 rfl ?_
          exact am_ret_z rfl rfl (Or.inl rfl) h
        · replace h := h.2 z
          refine am_wpb (c' := (137, [some (.ref 42), some (.int (I1 42 9))], [.ref 42], (I4, L4, D4, am_rf X))) 1 rfl ?_
          obtain ⟨r5, I5, L5, D5, hr, h⟩ := h
          refine am_wp_inv (as := [.ref 42]) rfl rfl rfl rfl ⟨_, hr, ?_⟩
          show am_wp ext d mz_142 (140, [some (.ref 42), some (.int (I1 42 9))], [.int r5], (I5, L5, D5, am_rf X)) P
          refine am_b1_ne rfl (fun z => ?_) (fun z => ?_)
          · replace h := h.1 z
            refine am_wpb (c' := (158, [some (.ref 42), some (.int (I1 42 9))], [.int 0, .ref 58, .int (26 + (I1 42 9)), .ref 52], (I5, L5, D5, am_rf X))) 8 rfl ?_
            refine am_wps (c' := (159, [some (.ref 42), some (.int (I1 42 9))], [.int (I5 58 0), .int (26 + (I1 42 9)), .ref 52], (I5, L5, D5, am_rf X))) rfl rfl (am_s_iald rfl (by decide)) ?_
            obtain ⟨o, h⟩ := h
            refine am_wps (c' := (160, [some (.ref 42), some (.int (I1 42 9))], [], (am_uI I5 52 (Int32.toNatClampNeg (26 + (I1 42 9))) (I5 58 0), L5, D5, am_rf X))) rfl rfl (am_s_iast rfl o) ?_
            refine am_wpb (c' := (172, [some (.ref 42), some (.int (I1 42 9))], [.int (I5 42 36), .int (26 + (I1 42 9)), .ref 51], (am_uI I5 52 (Int32.toNatClampNeg (26 + (I1 42 9))) (I5 58 0), L5, D5, am_rf X))) 7 rfl ?_
            refine am_b1_eq rfl (fun z => ?_) (fun z => ?_)
            · replace h := h.1 z
              refine am_wpb (c' := (180, [some (.ref 42), some (.int (I1 42 9))], [.int 1, .int (26 + (I1 42 9)), .ref 51], (am_uI I5 52 (Int32.toNatClampNeg (26 + (I1 42 9))) (I5 58 0), L5, D5, am_rf X))) 1 rfl ?_
              exact h
            · replace h := h.2 z
              refine am_wpb (c' := (180, [some (.ref 42), some (.int (I1 42 9))], [.int 2, .int (26 + (I1 42 9)), .ref 51], (am_uI I5 52 (Int32.toNatClampNeg (26 + (I1 42 9))) (I5 58 0), L5, D5, am_rf X))) 2 rfl ?_
              exact h
          · replace h := h.2 z
            refine am_wpb (c' := (144, [some (.ref 42), some (.int (I1 42 9))], [.int 0], (I5, L5, D5, am_rf X))) 1 rfl ?_
            exact am_ret_z rfl rfl (Or.inl rfl) h
      · replace h := h.2 z
        refine am_wpb (c' := (119, [some (.ref 42), some (.int (I1 42 9))], [.int 3, .ref 42], (I1, L1, D1, am_rf X))) 2 rfl ?_
        obtain ⟨r6, I6, L6, D6, hr, h⟩ := h
        refine am_wp_inv (as := [.ref 42, .int 3]) rfl rfl rfl rfl ⟨_, hr, ?_⟩
        show am_wp ext d mz_142 (122, [some (.ref 42), some (.int (I1 42 9))], [.int r6], (I6, L6, D6, am_rf X)) P
        exact am_ret_z rfl rfl h.1 h.2
    · replace h := h.2 z
      refine am_wpb (c' := (96, [some (.ref 42), none], [.int 1, .ref 42], (I1, L1, D1, am_rf X))) 2 rfl ?_
      obtain ⟨r7, I7, L7, D7, hr, h⟩ := h
      refine am_wp_inv (as := [.ref 42, .int 1]) rfl rfl rfl rfl ⟨_, hr, ?_⟩
      show am_wp ext d mz_142 (99, [some (.ref 42), none], [.int r7], (I7, L7, D7, am_rf X)) P
      exact am_ret_z rfl rfl h.1 h.2
theorem w142_180 {ext : Nat → List Value → am_M → Option am_R} {d : Nat} {P : am_R → Prop} (I : Nat → Nat → Int32) (L : Nat → Nat → Int64) (D : Nat → Nat → UInt64) (X : am_Rf) (v1 : Int32) (s0 : Int32) (s1 : Int32)
    (h : am_inb s1 52 = true ∧ ((((I 42 36) = 0 → (am_inb (I 42 26) 12 = true ∧ (∃ (r1 : Int32) (I1 : Nat → Nat → Int32) (L1 : Nat → Nat → Int64) (D1 : Nat → Nat → UInt64), am_Rn ext d 125 [.ref 42, .int 59] (am_uI (am_uI (am_uI I 51 (Int32.toNatClampNeg s1) s0) 54 (Int32.toNatClampNeg (I 42 26)) v1) 42 26 ((I 42 26) + 1), L, D, am_rf X) (some (.int r1), (I1, L1, D1, am_rf X)) ∧ ((r1 = 0 ∨ r1 = 1) ∧ P (some (.int r1), (I1, L1, D1, am_rf X)))))) ∧ (¬ (I 42 36) = 0 → (∃ (r2 : Int32) (I2 : Nat → Nat → Int32) (L2 : Nat → Nat → Int64) (D2 : Nat → Nat → UInt64), am_Rn ext d 125 [.ref 42, .int 59] (am_uI (am_uI I 51 (Int32.toNatClampNeg s1) s0) 42 27 ((I 42 27) + 1), L, D, am_rf X) (some (.int r2), (I2, L2, D2, am_rf X)) ∧ ((r2 = 0 ∨ r2 = 1) ∧ P (some (.int r2), (I2, L2, D2, am_rf X)))))))) : am_wp ext d mz_142 (180, [some (.ref 42), some (.int v1)], [.int s0, .int s1, .ref 51], (I, L, D, am_rf X)) P := by
  obtain ⟨o, h⟩ := h
  refine am_wps (c' := (181, [some (.ref 42), some (.int v1)], [], (am_uI I 51 (Int32.toNatClampNeg s1) s0, L, D, am_rf X))) rfl rfl (am_s_iast rfl o) ?_
  refine am_wpb (c' := (185, [some (.ref 42), some (.int v1)], [.int (I 42 36)], (am_uI I 51 (Int32.toNatClampNeg s1) s0, L, D, am_rf X))) 2 rfl ?_
  refine am_b1_eq rfl (fun z => ?_) (fun z => ?_)
  · replace h := h.1 z
    refine am_wpb (c' := (210, [some (.ref 42), some (.int v1)], [.int v1, .int (I 42 26), .ref 54], (am_uI I 51 (Int32.toNatClampNeg s1) s0, L, D, am_rf X))) 5 rfl ?_
    obtain ⟨o, h⟩ := h
    refine am_wps (c' := (211, [some (.ref 42), some (.int v1)], [], (am_uI (am_uI I 51 (Int32.toNatClampNeg s1) s0) 54 (Int32.toNatClampNeg (I 42 26)) v1, L, D, am_rf X))) rfl rfl (am_s_iast rfl o) ?_
    refine am_wpb (c' := (224, [some (.ref 42), some (.int v1)], [.int 59, .ref 42], (am_uI (am_uI (am_uI I 51 (Int32.toNatClampNeg s1) s0) 54 (Int32.toNatClampNeg (I 42 26)) v1) 42 26 ((I 42 26) + 1), L, D, am_rf X))) 8 rfl ?_
    obtain ⟨r1, I1, L1, D1, hr, h⟩ := h
    refine am_wp_inv (as := [.ref 42, .int 59]) rfl rfl rfl rfl ⟨_, hr, ?_⟩
    show am_wp ext d mz_142 (227, [some (.ref 42), some (.int v1)], [.int r1], (I1, L1, D1, am_rf X)) P
    exact am_ret_z rfl rfl h.1 h.2
  · replace h := h.2 z
    refine am_wpb (c' := (224, [some (.ref 42), some (.int v1)], [.int 59, .ref 42], (am_uI (am_uI I 51 (Int32.toNatClampNeg s1) s0) 42 27 ((I 42 27) + 1), L, D, am_rf X))) 9 rfl ?_
    obtain ⟨r2, I2, L2, D2, hr, h⟩ := h
    refine am_wp_inv (as := [.ref 42, .int 59]) rfl rfl rfl rfl ⟨_, hr, ?_⟩
    show am_wp ext d mz_142 (227, [some (.ref 42), some (.int v1)], [.int r2], (I2, L2, D2, am_rf X)) P
    exact am_ret_z rfl rfl h.1 h.2
/-- SureSumsModel.keep()V -/
def mz_143 : am_Y := (fun pc => am_q143.lookup pc, 3, 0)
theorem mh_143 : am_Ys 143 = some mz_143 := rfl
theorem w143_0 {ext : Nat → List Value → am_M → Option am_R} {d : Nat} {P : am_R → Prop} (I : Nat → Nat → Int32) (L : Nat → Nat → Int64) (D : Nat → Nat → UInt64) (X : am_Rf)
    (h : am_wp ext d mz_143 (12, [some (.ref 42), some (.int 0), none], [], (am_uI (am_uI I 42 59 0) 42 60 0, L, D, am_rf X)) P) : am_wp ext d mz_143 (0, [some (.ref 42), none, none], [], (I, L, D, am_rf X)) P := by
  refine am_wpb (c' := (12, [some (.ref 42), some (.int 0), none], [], (am_uI (am_uI I 42 59 0) 42 60 0, L, D, am_rf X))) 8 rfl ?_
  exact h
theorem w143_12 {ext : Nat → List Value → am_M → Option am_R} {d : Nat} {P : am_R → Prop} (I : Nat → Nat → Int32) (L : Nat → Nat → Int64) (D : Nat → Nat → UInt64) (X : am_Rf) (v1 : Int32)
    (h : ((26 ≤ v1 → (am_wp ext d mz_143 (59, [some (.ref 42), some (.int 0), none], [], (I, L, D, am_rf X)) P)) ∧ (¬ 26 ≤ v1 → (am_inb (26 + v1) 52 = true ∧ (am_inb v1 52 = true ∧ (am_inb (26 + v1) 52 = true ∧ (am_inb v1 52 = true ∧ (am_wp ext d mz_143 (12, [some (.ref 42), some (.int (v1 + 1)), none], [], (am_uI (am_uI I 51 (Int32.toNatClampNeg v1) (I 51 (Int32.toNatClampNeg (26 + v1)))) 52 (Int32.toNatClampNeg v1) ((I 52 (Int32.toNatClampNeg (26 + v1))) - 96), L, D, am_rf X)) P)))))))) : am_wp ext d mz_143 (12, [some (.ref 42), some (.int v1), none], [], (I, L, D, am_rf X)) P := by
  refine am_wpb (c' := (15, [some (.ref 42), some (.int v1), none], [.int 26, .int v1], (I, L, D, am_rf X))) 2 rfl ?_
  refine am_b2_ge rfl (fun z => ?_) (fun z => ?_)
  · replace h := h.1 z
    refine am_wpb (c' := (59, [some (.ref 42), some (.int 0), none], [], (I, L, D, am_rf X))) 2 rfl ?_
    exact h
  · replace h := h.2 z
    refine am_wpb (c' := (31, [some (.ref 42), some (.int v1), none], [.int (26 + v1), .ref 51, .int v1, .ref 51], (I, L, D, am_rf X))) 8 rfl ?_
    obtain ⟨o, h⟩ := h
    refine am_wps (c' := (32, [some (.ref 42), some (.int v1), none], [.int (I 51 (Int32.toNatClampNeg (26 + v1))), .int v1, .ref 51], (I, L, D, am_rf X))) rfl rfl (am_s_iald rfl o) ?_
    obtain ⟨o, h⟩ := h
    refine am_wps (c' := (33, [some (.ref 42), some (.int v1), none], [], (am_uI I 51 (Int32.toNatClampNeg v1) (I 51 (Int32.toNatClampNeg (26 + v1))), L, D, am_rf X))) rfl rfl (am_s_iast rfl o) ?_
    refine am_wpb (c' := (46, [some (.ref 42), some (.int v1), none], [.int (26 + v1), .ref 52, .int v1, .ref 52], (am_uI I 51 (Int32.toNatClampNeg v1) (I 51 (Int32.toNatClampNeg (26 + v1))), L, D, am_rf X))) 8 rfl ?_
    obtain ⟨o, h⟩ := h
    refine am_wps (c' := (47, [some (.ref 42), some (.int v1), none], [.int (I 52 (Int32.toNatClampNeg (26 + v1))), .int v1, .ref 52], (am_uI I 51 (Int32.toNatClampNeg v1) (I 51 (Int32.toNatClampNeg (26 + v1))), L, D, am_rf X))) rfl rfl (am_s_iald rfl o) ?_
    refine am_wpb (c' := (50, [some (.ref 42), some (.int v1), none], [.int ((I 52 (Int32.toNatClampNeg (26 + v1))) - 96), .int v1, .ref 52], (am_uI I 51 (Int32.toNatClampNeg v1) (I 51 (Int32.toNatClampNeg (26 + v1))), L, D, am_rf X))) 2 rfl ?_
    obtain ⟨o, h⟩ := h
    refine am_wps (c' := (51, [some (.ref 42), some (.int v1), none], [], (am_uI (am_uI I 51 (Int32.toNatClampNeg v1) (I 51 (Int32.toNatClampNeg (26 + v1)))) 52 (Int32.toNatClampNeg v1) ((I 52 (Int32.toNatClampNeg (26 + v1))) - 96), L, D, am_rf X))) rfl rfl (am_s_iast rfl o) ?_
    refine am_wpb (c' := (12, [some (.ref 42), some (.int (v1 + 1)), none], [], (am_uI (am_uI I 51 (Int32.toNatClampNeg v1) (I 51 (Int32.toNatClampNeg (26 + v1)))) 52 (Int32.toNatClampNeg v1) ((I 52 (Int32.toNatClampNeg (26 + v1))) - 96), L, D, am_rf X))) 2 rfl ?_
    exact h
theorem w143_59 {ext : Nat → List Value → am_M → Option am_R} {d : Nat} {P : am_R → Prop} (I : Nat → Nat → Int32) (L : Nat → Nat → Int64) (D : Nat → Nat → UInt64) (X : am_Rf) (v1 : Int32)
    (h : (((I 42 26) ≤ v1 → (am_wp ext d mz_143 (124, [some (.ref 42), some (.int 0), none], [], (am_uI (am_uI (am_uI (am_uI I 42 24 (I 42 26)) 42 25 (I 42 27)) 42 21 ((I 42 26) + (I 42 27))) 42 17 (I 42 18), L, D, am_rf X)) P)) ∧ (¬ (I 42 26) ≤ v1 → (am_inb v1 12 = true ∧ (am_inb v1 12 = true ∧ (am_wp ext d mz_143 (59, [some (.ref 42), some (.int (v1 + 1)), none], [], (am_uI I 53 (Int32.toNatClampNeg v1) (I 54 (Int32.toNatClampNeg v1)), L, D, am_rf X)) P)))))) : am_wp ext d mz_143 (59, [some (.ref 42), some (.int v1), none], [], (I, L, D, am_rf X)) P := by
  refine am_wpb (c' := (64, [some (.ref 42), some (.int v1), none], [.int (I 42 26), .int v1], (I, L, D, am_rf X))) 3 rfl ?_
  refine am_b2_ge rfl (fun z => ?_) (fun z => ?_)
  · replace h := h.1 z
    refine am_wpb (c' := (124, [some (.ref 42), some (.int 0), none], [], (am_uI (am_uI (am_uI (am_uI I 42 24 (I 42 26)) 42 25 (I 42 27)) 42 21 ((I 42 26) + (I 42 27))) 42 17 (I 42 18), L, D, am_rf X))) 21 rfl ?_
    exact h
  · replace h := h.2 z
    refine am_wpb (c' := (77, [some (.ref 42), some (.int v1), none], [.int v1, .ref 54, .int v1, .ref 53], (I, L, D, am_rf X))) 6 rfl ?_
    obtain ⟨o, h⟩ := h
    refine am_wps (c' := (78, [some (.ref 42), some (.int v1), none], [.int (I 54 (Int32.toNatClampNeg v1)), .int v1, .ref 53], (I, L, D, am_rf X))) rfl rfl (am_s_iald rfl o) ?_
    obtain ⟨o, h⟩ := h
    refine am_wps (c' := (79, [some (.ref 42), some (.int v1), none], [], (am_uI I 53 (Int32.toNatClampNeg v1) (I 54 (Int32.toNatClampNeg v1)), L, D, am_rf X))) rfl rfl (am_s_iast rfl o) ?_
    refine am_wpb (c' := (59, [some (.ref 42), some (.int (v1 + 1)), none], [], (am_uI I 53 (Int32.toNatClampNeg v1) (I 54 (Int32.toNatClampNeg v1)), L, D, am_rf X))) 2 rfl ?_
    exact h
theorem w143_124 {ext : Nat → List Value → am_M → Option am_R} {d : Nat} {P : am_R → Prop} (I : Nat → Nat → Int32) (L : Nat → Nat → Int64) (D : Nat → Nat → UInt64) (X : am_Rf) (v1 : Int32)
    (h : (((I 42 17) ≤ v1 → (P (none, (I, L, D, am_rf X)))) ∧ (¬ (I 42 17) ≤ v1 → (am_inb (96 + v1) 192 = true ∧ (((¬ (I 45 (Int32.toNatClampNeg (96 + v1))) = 15 → (am_wp ext d mz_143 (151, [some (.ref 42), some (.int v1), none], [.int 0], (I, L, D, am_rf X)) P)) ∧ ((I 45 (Int32.toNatClampNeg (96 + v1))) = 15 → (am_wp ext d mz_143 (151, [some (.ref 42), some (.int v1), none], [.int 1], (I, L, D, am_rf X)) P)))))))) : am_wp ext d mz_143 (124, [some (.ref 42), some (.int v1), none], [], (I, L, D, am_rf X)) P := by
  refine am_wpb (c' := (129, [some (.ref 42), some (.int v1), none], [.int (I 42 17), .int v1], (I, L, D, am_rf X))) 3 rfl ?_
  refine am_b2_ge rfl (fun z => ?_) (fun z => ?_)
  · replace h := h.1 z
    exact am_ret_v rfl rfl h
  · replace h := h.2 z
    refine am_wpb (c' := (140, [some (.ref 42), some (.int v1), none], [.int (96 + v1), .ref 45], (I, L, D, am_rf X))) 5 rfl ?_
    obtain ⟨o, h⟩ := h
    refine am_wps (c' := (141, [some (.ref 42), some (.int v1), none], [.int (I 45 (Int32.toNatClampNeg (96 + v1)))], (I, L, D, am_rf X))) rfl rfl (am_s_iald rfl o) ?_
    refine am_wpb (c' := (143, [some (.ref 42), some (.int v1), none], [.int 15, .int (I 45 (Int32.toNatClampNeg (96 + v1)))], (I, L, D, am_rf X))) 1 rfl ?_
    refine am_b2_ne rfl (fun z => ?_) (fun z => ?_)
    · replace h := h.1 z
      refine am_wpb (c' := (151, [some (.ref 42), some (.int v1), none], [.int 0], (I, L, D, am_rf X))) 1 rfl ?_
      exact h
    · replace h := h.2 z
      refine am_wpb (c' := (151, [some (.ref 42), some (.int v1), none], [.int 1], (I, L, D, am_rf X))) 2 rfl ?_
      exact h
theorem w143_151 {ext : Nat → List Value → am_M → Option am_R} {d : Nat} {P : am_R → Prop} (I : Nat → Nat → Int32) (L : Nat → Nat → Int64) (D : Nat → Nat → UInt64) (X : am_Rf) (v1 : Int32) (s0 : Int32)
    (h : am_inb (96 + v1) 192 = true ∧ (am_inb v1 192 = true ∧ (am_inb (96 + v1) 192 = true ∧ (am_inb v1 192 = true ∧ (am_inb (96 + v1) 192 = true ∧ (((s0 = 0 → (am_wp ext d mz_143 (206, [some (.ref 42), some (.int v1), some (.int s0)], [.int 96, .int (I 47 (Int32.toNatClampNeg (96 + v1))), .int v1, .ref 47], (am_uI (am_uI I 45 (Int32.toNatClampNeg v1) (I 45 (Int32.toNatClampNeg (96 + v1)))) 46 (Int32.toNatClampNeg v1) (I 46 (Int32.toNatClampNeg (96 + v1))), L, D, am_rf X)) P)) ∧ (¬ s0 = 0 → (am_wp ext d mz_143 (206, [some (.ref 42), some (.int v1), some (.int s0)], [.int 0, .int (I 47 (Int32.toNatClampNeg (96 + v1))), .int v1, .ref 47], (am_uI (am_uI I 45 (Int32.toNatClampNeg v1) (I 45 (Int32.toNatClampNeg (96 + v1)))) 46 (Int32.toNatClampNeg v1) (I 46 (Int32.toNatClampNeg (96 + v1))), L, D, am_rf X)) P))))))))) : am_wp ext d mz_143 (151, [some (.ref 42), some (.int v1), none], [.int s0], (I, L, D, am_rf X)) P := by
  refine am_wpb (c' := (165, [some (.ref 42), some (.int v1), some (.int s0)], [.int (96 + v1), .ref 45, .int v1, .ref 45], (I, L, D, am_rf X))) 9 rfl ?_
  obtain ⟨o, h⟩ := h
  refine am_wps (c' := (166, [some (.ref 42), some (.int v1), some (.int s0)], [.int (I 45 (Int32.toNatClampNeg (96 + v1))), .int v1, .ref 45], (I, L, D, am_rf X))) rfl rfl (am_s_iald rfl o) ?_
  obtain ⟨o, h⟩ := h
  refine am_wps (c' := (167, [some (.ref 42), some (.int v1), some (.int s0)], [], (am_uI I 45 (Int32.toNatClampNeg v1) (I 45 (Int32.toNatClampNeg (96 + v1))), L, D, am_rf X))) rfl rfl (am_s_iast rfl o) ?_
  refine am_wpb (c' := (180, [some (.ref 42), some (.int v1), some (.int s0)], [.int (96 + v1), .ref 46, .int v1, .ref 46], (am_uI I 45 (Int32.toNatClampNeg v1) (I 45 (Int32.toNatClampNeg (96 + v1))), L, D, am_rf X))) 8 rfl ?_
  obtain ⟨o, h⟩ := h
  refine am_wps (c' := (181, [some (.ref 42), some (.int v1), some (.int s0)], [.int (I 46 (Int32.toNatClampNeg (96 + v1))), .int v1, .ref 46], (am_uI I 45 (Int32.toNatClampNeg v1) (I 45 (Int32.toNatClampNeg (96 + v1))), L, D, am_rf X))) rfl rfl (am_s_iald rfl o) ?_
  obtain ⟨o, h⟩ := h
  refine am_wps (c' := (182, [some (.ref 42), some (.int v1), some (.int s0)], [], (am_uI (am_uI I 45 (Int32.toNatClampNeg v1) (I 45 (Int32.toNatClampNeg (96 + v1)))) 46 (Int32.toNatClampNeg v1) (I 46 (Int32.toNatClampNeg (96 + v1))), L, D, am_rf X))) rfl rfl (am_s_iast rfl o) ?_
  refine am_wpb (c' := (195, [some (.ref 42), some (.int v1), some (.int s0)], [.int (96 + v1), .ref 47, .int v1, .ref 47], (am_uI (am_uI I 45 (Int32.toNatClampNeg v1) (I 45 (Int32.toNatClampNeg (96 + v1)))) 46 (Int32.toNatClampNeg v1) (I 46 (Int32.toNatClampNeg (96 + v1))), L, D, am_rf X))) 8 rfl ?_
  obtain ⟨o, h⟩ := h
  refine am_wps (c' := (196, [some (.ref 42), some (.int v1), some (.int s0)], [.int (I 47 (Int32.toNatClampNeg (96 + v1))), .int v1, .ref 47], (am_uI (am_uI I 45 (Int32.toNatClampNeg v1) (I 45 (Int32.toNatClampNeg (96 + v1)))) 46 (Int32.toNatClampNeg v1) (I 46 (Int32.toNatClampNeg (96 + v1))), L, D, am_rf X))) rfl rfl (am_s_iald rfl o) ?_
  refine am_wpb (c' := (197, [some (.ref 42), some (.int v1), some (.int s0)], [.int s0, .int (I 47 (Int32.toNatClampNeg (96 + v1))), .int v1, .ref 47], (am_uI (am_uI I 45 (Int32.toNatClampNeg v1) (I 45 (Int32.toNatClampNeg (96 + v1)))) 46 (Int32.toNatClampNeg v1) (I 46 (Int32.toNatClampNeg (96 + v1))), L, D, am_rf X))) 1 rfl ?_
  refine am_b1_eq rfl (fun z => ?_) (fun z => ?_)
  · replace h := h.1 z
    refine am_wpb (c' := (206, [some (.ref 42), some (.int v1), some (.int s0)], [.int 96, .int (I 47 (Int32.toNatClampNeg (96 + v1))), .int v1, .ref 47], (am_uI (am_uI I 45 (Int32.toNatClampNeg v1) (I 45 (Int32.toNatClampNeg (96 + v1)))) 46 (Int32.toNatClampNeg v1) (I 46 (Int32.toNatClampNeg (96 + v1))), L, D, am_rf X))) 1 rfl ?_
    exact h
  · replace h := h.2 z
    refine am_wpb (c' := (206, [some (.ref 42), some (.int v1), some (.int s0)], [.int 0, .int (I 47 (Int32.toNatClampNeg (96 + v1))), .int v1, .ref 47], (am_uI (am_uI I 45 (Int32.toNatClampNeg v1) (I 45 (Int32.toNatClampNeg (96 + v1)))) 46 (Int32.toNatClampNeg v1) (I 46 (Int32.toNatClampNeg (96 + v1))), L, D, am_rf X))) 2 rfl ?_
    exact h
theorem w143_206 {ext : Nat → List Value → am_M → Option am_R} {d : Nat} {P : am_R → Prop} (I : Nat → Nat → Int32) (L : Nat → Nat → Int64) (D : Nat → Nat → UInt64) (X : am_Rf) (v1 : Int32) (v2 : Int32) (s0 : Int32) (s1 : Int32) (s2 : Int32)
    (h : am_inb s2 192 = true ∧ (am_inb (96 + v1) 192 = true ∧ (((v2 = 0 → (am_wp ext d mz_143 (232, [some (.ref 42), some (.int v1), some (.int v2)], [.int 96, .int (I 48 (Int32.toNatClampNeg (96 + v1))), .int v1, .ref 48], (am_uI I 47 (Int32.toNatClampNeg s2) (s1 - s0), L, D, am_rf X)) P)) ∧ (¬ v2 = 0 → (am_wp ext d mz_143 (232, [some (.ref 42), some (.int v1), some (.int v2)], [.int 0, .int (I 48 (Int32.toNatClampNeg (96 + v1))), .int v1, .ref 48], (am_uI I 47 (Int32.toNatClampNeg s2) (s1 - s0), L, D, am_rf X)) P)))))) : am_wp ext d mz_143 (206, [some (.ref 42), some (.int v1), some (.int v2)], [.int s0, .int s1, .int s2, .ref 47], (I, L, D, am_rf X)) P := by
  refine am_wpb (c' := (207, [some (.ref 42), some (.int v1), some (.int v2)], [.int (s1 - s0), .int s2, .ref 47], (I, L, D, am_rf X))) 1 rfl ?_
  obtain ⟨o, h⟩ := h
  refine am_wps (c' := (208, [some (.ref 42), some (.int v1), some (.int v2)], [], (am_uI I 47 (Int32.toNatClampNeg s2) (s1 - s0), L, D, am_rf X))) rfl rfl (am_s_iast rfl o) ?_
  refine am_wpb (c' := (221, [some (.ref 42), some (.int v1), some (.int v2)], [.int (96 + v1), .ref 48, .int v1, .ref 48], (am_uI I 47 (Int32.toNatClampNeg s2) (s1 - s0), L, D, am_rf X))) 8 rfl ?_
  obtain ⟨o, h⟩ := h
  refine am_wps (c' := (222, [some (.ref 42), some (.int v1), some (.int v2)], [.int (I 48 (Int32.toNatClampNeg (96 + v1))), .int v1, .ref 48], (am_uI I 47 (Int32.toNatClampNeg s2) (s1 - s0), L, D, am_rf X))) rfl rfl (am_s_iald rfl o) ?_
  refine am_wpb (c' := (223, [some (.ref 42), some (.int v1), some (.int v2)], [.int v2, .int (I 48 (Int32.toNatClampNeg (96 + v1))), .int v1, .ref 48], (am_uI I 47 (Int32.toNatClampNeg s2) (s1 - s0), L, D, am_rf X))) 1 rfl ?_
  refine am_b1_eq rfl (fun z => ?_) (fun z => ?_)
  · replace h := h.1 z
    refine am_wpb (c' := (232, [some (.ref 42), some (.int v1), some (.int v2)], [.int 96, .int (I 48 (Int32.toNatClampNeg (96 + v1))), .int v1, .ref 48], (am_uI I 47 (Int32.toNatClampNeg s2) (s1 - s0), L, D, am_rf X))) 1 rfl ?_
    exact h
  · replace h := h.2 z
    refine am_wpb (c' := (232, [some (.ref 42), some (.int v1), some (.int v2)], [.int 0, .int (I 48 (Int32.toNatClampNeg (96 + v1))), .int v1, .ref 48], (am_uI I 47 (Int32.toNatClampNeg s2) (s1 - s0), L, D, am_rf X))) 2 rfl ?_
    exact h
theorem w143_232 {ext : Nat → List Value → am_M → Option am_R} {d : Nat} {P : am_R → Prop} (I : Nat → Nat → Int32) (L : Nat → Nat → Int64) (D : Nat → Nat → UInt64) (X : am_Rf) (v1 : Int32) (v2 : Int32) (s0 : Int32) (s1 : Int32) (s2 : Int32)
    (h : am_inb s2 192 = true ∧ (am_inb (96 + v1) 192 = true ∧ (((v2 = 0 → (am_wp ext d mz_143 (258, [some (.ref 42), some (.int v1), none], [.int 96, .int (I 49 (Int32.toNatClampNeg (96 + v1))), .int v1, .ref 49], (am_uI I 48 (Int32.toNatClampNeg s2) (s1 - s0), L, D, am_rf X)) P)) ∧ (¬ v2 = 0 → (am_wp ext d mz_143 (258, [some (.ref 42), some (.int v1), none], [.int 0, .int (I 49 (Int32.toNatClampNeg (96 + v1))), .int v1, .ref 49], (am_uI I 48 (Int32.toNatClampNeg s2) (s1 - s0), L, D, am_rf X)) P)))))) : am_wp ext d mz_143 (232, [some (.ref 42), some (.int v1), some (.int v2)], [.int s0, .int s1, .int s2, .ref 48], (I, L, D, am_rf X)) P := by
  refine am_wpb (c' := (233, [some (.ref 42), some (.int v1), some (.int v2)], [.int (s1 - s0), .int s2, .ref 48], (I, L, D, am_rf X))) 1 rfl ?_
  obtain ⟨o, h⟩ := h
  refine am_wps (c' := (234, [some (.ref 42), some (.int v1), some (.int v2)], [], (am_uI I 48 (Int32.toNatClampNeg s2) (s1 - s0), L, D, am_rf X))) rfl rfl (am_s_iast rfl o) ?_
  refine am_wpb (c' := (247, [some (.ref 42), some (.int v1), some (.int v2)], [.int (96 + v1), .ref 49, .int v1, .ref 49], (am_uI I 48 (Int32.toNatClampNeg s2) (s1 - s0), L, D, am_rf X))) 8 rfl ?_
  obtain ⟨o, h⟩ := h
  refine am_wps (c' := (248, [some (.ref 42), some (.int v1), some (.int v2)], [.int (I 49 (Int32.toNatClampNeg (96 + v1))), .int v1, .ref 49], (am_uI I 48 (Int32.toNatClampNeg s2) (s1 - s0), L, D, am_rf X))) rfl rfl (am_s_iald rfl o) ?_
  refine am_wpb (c' := (249, [some (.ref 42), some (.int v1), some (.int v2)], [.int v2, .int (I 49 (Int32.toNatClampNeg (96 + v1))), .int v1, .ref 49], (am_uI I 48 (Int32.toNatClampNeg s2) (s1 - s0), L, D, am_rf X))) 1 rfl ?_
  refine am_b1_eq rfl (fun z => ?_) (fun z => ?_)
  · replace h := h.1 z
    refine am_wpb (c' := (258, [some (.ref 42), some (.int v1), some (.int v2)], [.int 96, .int (I 49 (Int32.toNatClampNeg (96 + v1))), .int v1, .ref 49], (am_uI I 48 (Int32.toNatClampNeg s2) (s1 - s0), L, D, am_rf X))) 1 rfl ?_
    exact am_fgt (l := [some (.ref 42), some (.int v1), none]) (am_le_of (am_leS (am_leS (am_leN (am_leZ))))) h
  · replace h := h.2 z
    refine am_wpb (c' := (258, [some (.ref 42), some (.int v1), some (.int v2)], [.int 0, .int (I 49 (Int32.toNatClampNeg (96 + v1))), .int v1, .ref 49], (am_uI I 48 (Int32.toNatClampNeg s2) (s1 - s0), L, D, am_rf X))) 2 rfl ?_
    exact am_fgt (l := [some (.ref 42), some (.int v1), none]) (am_le_of (am_leS (am_leS (am_leN (am_leZ))))) h
theorem w143_258 {ext : Nat → List Value → am_M → Option am_R} {d : Nat} {P : am_R → Prop} (I : Nat → Nat → Int32) (L : Nat → Nat → Int64) (D : Nat → Nat → UInt64) (X : am_Rf) (v1 : Int32) (s0 : Int32) (s1 : Int32) (s2 : Int32)
    (h : am_inb s2 192 = true ∧ (am_inb (96 + v1) 192 = true ∧ (am_inb v1 192 = true ∧ (am_inb v1 192 = true ∧ (((¬ (I 45 (Int32.toNatClampNeg v1)) = 12 → (am_wp ext d mz_143 (124, [some (.ref 42), some (.int (v1 + 1)), none], [], (am_uI (am_uI I 49 (Int32.toNatClampNeg s2) (s1 - s0)) 50 (Int32.toNatClampNeg v1) ((I 50 (Int32.toNatClampNeg (96 + v1))) - 96), L, D, am_rf X)) P)) ∧ ((I 45 (Int32.toNatClampNeg v1)) = 12 → (am_inb v1 192 = true ∧ (((¬ (I 46 (Int32.toNatClampNeg v1)) = 1 → (am_wp ext d mz_143 (124, [some (.ref 42), some (.int (v1 + 1)), none], [], (am_uI (am_uI I 49 (Int32.toNatClampNeg s2) (s1 - s0)) 50 (Int32.toNatClampNeg v1) ((I 50 (Int32.toNatClampNeg (96 + v1))) - 96), L, D, am_rf X)) P)) ∧ ((I 46 (Int32.toNatClampNeg v1)) = 1 → (am_inb v1 192 = true ∧ (am_wp ext d mz_143 (124, [some (.ref 42), some (.int (v1 + 1)), none], [], (am_uI (am_uI (am_uI I 49 (Int32.toNatClampNeg s2) (s1 - s0)) 50 (Int32.toNatClampNeg v1) ((I 50 (Int32.toNatClampNeg (96 + v1))) - 96)) 45 (Int32.toNatClampNeg v1) 13, L, D, am_rf X)) P))))))))))))) : am_wp ext d mz_143 (258, [some (.ref 42), some (.int v1), none], [.int s0, .int s1, .int s2, .ref 49], (I, L, D, am_rf X)) P := by
  refine am_wpb (c' := (259, [some (.ref 42), some (.int v1), none], [.int (s1 - s0), .int s2, .ref 49], (I, L, D, am_rf X))) 1 rfl ?_
  obtain ⟨o, h⟩ := h
  refine am_wps (c' := (260, [some (.ref 42), some (.int v1), none], [], (am_uI I 49 (Int32.toNatClampNeg s2) (s1 - s0), L, D, am_rf X))) rfl rfl (am_s_iast rfl o) ?_
  refine am_wpb (c' := (273, [some (.ref 42), some (.int v1), none], [.int (96 + v1), .ref 50, .int v1, .ref 50], (am_uI I 49 (Int32.toNatClampNeg s2) (s1 - s0), L, D, am_rf X))) 8 rfl ?_
  obtain ⟨o, h⟩ := h
  refine am_wps (c' := (274, [some (.ref 42), some (.int v1), none], [.int (I 50 (Int32.toNatClampNeg (96 + v1))), .int v1, .ref 50], (am_uI I 49 (Int32.toNatClampNeg s2) (s1 - s0), L, D, am_rf X))) rfl rfl (am_s_iald rfl o) ?_
  refine am_wpb (c' := (277, [some (.ref 42), some (.int v1), none], [.int ((I 50 (Int32.toNatClampNeg (96 + v1))) - 96), .int v1, .ref 50], (am_uI I 49 (Int32.toNatClampNeg s2) (s1 - s0), L, D, am_rf X))) 2 rfl ?_
  obtain ⟨o, h⟩ := h
  refine am_wps (c' := (278, [some (.ref 42), some (.int v1), none], [], (am_uI (am_uI I 49 (Int32.toNatClampNeg s2) (s1 - s0)) 50 (Int32.toNatClampNeg v1) ((I 50 (Int32.toNatClampNeg (96 + v1))) - 96), L, D, am_rf X))) rfl rfl (am_s_iast rfl o) ?_
  refine am_wpb (c' := (283, [some (.ref 42), some (.int v1), none], [.int v1, .ref 45], (am_uI (am_uI I 49 (Int32.toNatClampNeg s2) (s1 - s0)) 50 (Int32.toNatClampNeg v1) ((I 50 (Int32.toNatClampNeg (96 + v1))) - 96), L, D, am_rf X))) 3 rfl ?_
  obtain ⟨o, h⟩ := h
  refine am_wps (c' := (284, [some (.ref 42), some (.int v1), none], [.int (I 45 (Int32.toNatClampNeg v1))], (am_uI (am_uI I 49 (Int32.toNatClampNeg s2) (s1 - s0)) 50 (Int32.toNatClampNeg v1) ((I 50 (Int32.toNatClampNeg (96 + v1))) - 96), L, D, am_rf X))) rfl rfl (am_s_iald rfl o) ?_
  refine am_wpb (c' := (286, [some (.ref 42), some (.int v1), none], [.int 12, .int (I 45 (Int32.toNatClampNeg v1))], (am_uI (am_uI I 49 (Int32.toNatClampNeg s2) (s1 - s0)) 50 (Int32.toNatClampNeg v1) ((I 50 (Int32.toNatClampNeg (96 + v1))) - 96), L, D, am_rf X))) 1 rfl ?_
  refine am_b2_ne rfl (fun z => ?_) (fun z => ?_)
  · replace h := h.1 z
    refine am_wpb (c' := (124, [some (.ref 42), some (.int (v1 + 1)), none], [], (am_uI (am_uI I 49 (Int32.toNatClampNeg s2) (s1 - s0)) 50 (Int32.toNatClampNeg v1) ((I 50 (Int32.toNatClampNeg (96 + v1))) - 96), L, D, am_rf X))) 2 rfl ?_
    exact h
  · replace h := h.2 z
    refine am_wpb (c' := (294, [some (.ref 42), some (.int v1), none], [.int v1, .ref 46], (am_uI (am_uI I 49 (Int32.toNatClampNeg s2) (s1 - s0)) 50 (Int32.toNatClampNeg v1) ((I 50 (Int32.toNatClampNeg (96 + v1))) - 96), L, D, am_rf X))) 3 rfl ?_
    obtain ⟨o, h⟩ := h
    refine am_wps (c' := (295, [some (.ref 42), some (.int v1), none], [.int (I 46 (Int32.toNatClampNeg v1))], (am_uI (am_uI I 49 (Int32.toNatClampNeg s2) (s1 - s0)) 50 (Int32.toNatClampNeg v1) ((I 50 (Int32.toNatClampNeg (96 + v1))) - 96), L, D, am_rf X))) rfl rfl (am_s_iald rfl o) ?_
    refine am_wpb (c' := (296, [some (.ref 42), some (.int v1), none], [.int 1, .int (I 46 (Int32.toNatClampNeg v1))], (am_uI (am_uI I 49 (Int32.toNatClampNeg s2) (s1 - s0)) 50 (Int32.toNatClampNeg v1) ((I 50 (Int32.toNatClampNeg (96 + v1))) - 96), L, D, am_rf X))) 1 rfl ?_
    refine am_b2_ne rfl (fun z => ?_) (fun z => ?_)
    · replace h := h.1 z
      refine am_wpb (c' := (124, [some (.ref 42), some (.int (v1 + 1)), none], [], (am_uI (am_uI I 49 (Int32.toNatClampNeg s2) (s1 - s0)) 50 (Int32.toNatClampNeg v1) ((I 50 (Int32.toNatClampNeg (96 + v1))) - 96), L, D, am_rf X))) 2 rfl ?_
      exact h
    · replace h := h.2 z
      refine am_wpb (c' := (306, [some (.ref 42), some (.int v1), none], [.int 13, .int v1, .ref 45], (am_uI (am_uI I 49 (Int32.toNatClampNeg s2) (s1 - s0)) 50 (Int32.toNatClampNeg v1) ((I 50 (Int32.toNatClampNeg (96 + v1))) - 96), L, D, am_rf X))) 4 rfl ?_
      obtain ⟨o, h⟩ := h
      refine am_wps (c' := (307, [some (.ref 42), some (.int v1), none], [], (am_uI (am_uI (am_uI I 49 (Int32.toNatClampNeg s2) (s1 - s0)) 50 (Int32.toNatClampNeg v1) ((I 50 (Int32.toNatClampNeg (96 + v1))) - 96)) 45 (Int32.toNatClampNeg v1) 13, L, D, am_rf X))) rfl rfl (am_s_iast rfl o) ?_
      refine am_wpb (c' := (124, [some (.ref 42), some (.int (v1 + 1)), none], [], (am_uI (am_uI (am_uI I 49 (Int32.toNatClampNeg s2) (s1 - s0)) 50 (Int32.toNatClampNeg v1) ((I 50 (Int32.toNatClampNeg (96 + v1))) - 96)) 45 (Int32.toNatClampNeg v1) 13, L, D, am_rf X))) 2 rfl ?_
      exact h
