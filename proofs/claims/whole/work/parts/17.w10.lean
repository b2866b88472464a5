/-- SureSumsModel.text(I)I -/
def mz_144 : am_Y := (fun pc => am_q144.lookup pc, 3, 1)
theorem mh_144 : am_Ys 144 = some mz_144 := rfl
theorem w144_0 {ext : Nat → List Value → am_M → Option am_R} {d : Nat} {P : am_R → Prop} (I : Nat → Nat → Int32) (L : Nat → Nat → Int64) (D : Nat → Nat → UInt64) (X : am_Rf) (v1 : Int32)
    (h : ((v1 < 0 → (P (some (.int (-2)), (am_uI I 42 2 0, L, D, am_rf X)))) ∧ (¬ v1 < 0 → (((v1 ≤ (I 42 1) → (am_wp ext d mz_144 (63, [some (.ref 42), none, some (.int 26)], [], (am_uI (am_uI (am_uI (am_uI (am_uI (am_uI (am_uI (am_uI (am_uI I 42 2 0) 42 6 v1) 42 1 0) 42 4 0) 42 5 (-1)) 42 7 0) 42 18 0) 42 26 0) 42 27 0, L, D, am_rf X)) P)) ∧ (¬ v1 ≤ (I 42 1) → (P (some (.int (-2)), (am_uI I 42 2 0, L, D, am_rf X))))))))) : am_wp ext d mz_144 (0, [some (.ref 42), some (.int v1), none], [], (I, L, D, am_rf X)) P := by
  refine am_wpb (c' := (6, [some (.ref 42), some (.int v1), none], [.int v1], (am_uI I 42 2 0, L, D, am_rf X))) 4 rfl ?_
  refine am_b1_lt rfl (fun z => ?_) (fun z => ?_)
  · replace h := h.1 z
    refine am_wpb (c' := (19, [some (.ref 42), some (.int v1), none], [.int (-2)], (am_uI I 42 2 0, L, D, am_rf X))) 1 rfl ?_
    exact am_ret_i rfl rfl h
  · replace h := h.2 z
    refine am_wpb (c' := (14, [some (.ref 42), some (.int v1), none], [.int (I 42 1), .int v1], (am_uI I 42 2 0, L, D, am_rf X))) 3 rfl ?_
    refine am_b2_le rfl (fun z => ?_) (fun z => ?_)
    · replace h := h.1 z
      refine am_wpb (c' := (63, [some (.ref 42), some (.int v1), some (.int 26)], [], (am_uI (am_uI (am_uI (am_uI (am_uI (am_uI (am_uI (am_uI (am_uI I 42 2 0) 42 6 v1) 42 1 0) 42 4 0) 42 5 (-1)) 42 7 0) 42 18 0) 42 26 0) 42 27 0, L, D, am_rf X))) 26 rfl ?_
      exact am_fgt (l := [some (.ref 42), none, some (.int 26)]) (am_le_of (am_leS (am_leN (am_leS (am_leZ))))) h
    · replace h := h.2 z
      refine am_wpb (c' := (19, [some (.ref 42), some (.int v1), none], [.int (-2)], (am_uI I 42 2 0, L, D, am_rf X))) 1 rfl ?_
      exact am_ret_i rfl rfl h
theorem w144_63 {ext : Nat → List Value → am_M → Option am_R} {d : Nat} {P : am_R → Prop} (I : Nat → Nat → Int32) (L : Nat → Nat → Int64) (D : Nat → Nat → UInt64) (X : am_Rf) (v2 : Int32)
    (h : ((52 ≤ v2 → (∃ (I1 : Nat → Nat → Int32) (L1 : Nat → Nat → Int64) (D1 : Nat → Nat → UInt64), am_Rn ext d 123 [.ref 42] (I, L, D, am_rf X) (none, (I1, L1, D1, am_rf X)) ∧ (am_wp ext d mz_144 (86, [some (.ref 42), none, none], [], (I1, L1, D1, am_rf X)) P))) ∧ (¬ 52 ≤ v2 → (am_inb v2 52 = true ∧ (am_wp ext d mz_144 (63, [some (.ref 42), none, some (.int (v2 + 1))], [], (am_uI I 51 (Int32.toNatClampNeg v2) 0, L, D, am_rf X)) P))))) : am_wp ext d mz_144 (63, [some (.ref 42), none, some (.int v2)], [], (I, L, D, am_rf X)) P := by
  refine am_wpb (c' := (66, [some (.ref 42), none, some (.int v2)], [.int 52, .int v2], (I, L, D, am_rf X))) 2 rfl ?_
  refine am_b2_ge rfl (fun z => ?_) (fun z => ?_)
  · replace h := h.1 z
    refine am_wpb (c' := (83, [some (.ref 42), none, some (.int v2)], [.ref 42], (I, L, D, am_rf X))) 1 rfl ?_
    obtain ⟨I1, L1, D1, hr, h⟩ := h
    refine am_wp_inv (as := [.ref 42]) rfl rfl rfl rfl ⟨_, hr, ?_⟩
    show am_wp ext d mz_144 (86, [some (.ref 42), none, some (.int v2)], [], (I1, L1, D1, am_rf X)) P
    exact am_fgt (l := [some (.ref 42), none, none]) (am_le_of (am_leS (am_leN (am_leN (am_leZ))))) h
  · replace h := h.2 z
    refine am_wpb (c' := (75, [some (.ref 42), none, some (.int v2)], [.int 0, .int v2, .ref 51], (I, L, D, am_rf X))) 4 rfl ?_
    obtain ⟨o, h⟩ := h
    refine am_wps (c' := (76, [some (.ref 42), none, some (.int v2)], [], (am_uI I 51 (Int32.toNatClampNeg v2) 0, L, D, am_rf X))) rfl rfl (am_s_iast rfl o) ?_
    refine am_wpb (c' := (63, [some (.ref 42), none, some (.int (v2 + 1))], [], (am_uI I 51 (Int32.toNatClampNeg v2) 0, L, D, am_rf X))) 2 rfl ?_
    exact h
theorem w144_86 {ext : Nat → List Value → am_M → Option am_R} {d : Nat} {P : am_R → Prop} (I : Nat → Nat → Int32) (L : Nat → Nat → Int64) (D : Nat → Nat → UInt64) (X : am_Rf)
    (h : (((I 42 8) = 0 → (∃ (I1 : Nat → Nat → Int32) (L1 : Nat → Nat → Int64) (D1 : Nat → Nat → UInt64), am_Rn ext d 143 [.ref 42] (I, L, D, am_rf X) (none, (I1, L1, D1, am_rf X)) ∧ (P (some (.int (I1 42 21)), (I1, L1, D1, am_rf X))))) ∧ (¬ (I 42 8) = 0 → (∃ (r2 : Int32) (I2 : Nat → Nat → Int32) (L2 : Nat → Nat → Int64) (D2 : Nat → Nat → UInt64), am_Rn ext d 142 [.ref 42] (I, L, D, am_rf X) (some (.int r2), (I2, L2, D2, am_rf X)) ∧ (((¬ r2 = 0 → (am_wp ext d mz_144 (86, [some (.ref 42), none, none], [], (I2, L2, D2, am_rf X)) P)) ∧ (r2 = 0 → (P (some (.int (-1)), (I2, L2, D2, am_rf X)))))))))) : am_wp ext d mz_144 (86, [some (.ref 42), none, none], [], (I, L, D, am_rf X)) P := by
  refine am_wpb (c' := (90, [some (.ref 42), none, none], [.int (I 42 8)], (I, L, D, am_rf X))) 2 rfl ?_
  refine am_b1_eq rfl (fun z => ?_) (fun z => ?_)
  · replace h := h.1 z
    refine am_wpb (c' := (103, [some (.ref 42), none, none], [.ref 42], (I, L, D, am_rf X))) 1 rfl ?_
    obtain ⟨I1, L1, D1, hr, h⟩ := h
    refine am_wp_inv (as := [.ref 42]) rfl rfl rfl rfl ⟨_, hr, ?_⟩
    show am_wp ext d mz_144 (106, [some (.ref 42), none, none], [], (I1, L1, D1, am_rf X)) P
    refine am_wpb (c' := (110, [some (.ref 42), none, none], [.int (I1 42 21)], (I1, L1, D1, am_rf X))) 2 rfl ?_
    exact am_ret_i rfl rfl h
  · replace h := h.2 z
    refine am_wpb (c' := (94, [some (.ref 42), none, none], [.ref 42], (I, L, D, am_rf X))) 1 rfl ?_
    obtain ⟨r2, I2, L2, D2, hr, h⟩ := h
    refine am_wp_inv (as := [.ref 42]) rfl rfl rfl rfl ⟨_, hr, ?_⟩
    show am_wp ext d mz_144 (97, [some (.ref 42), none, none], [.int r2], (I2, L2, D2, am_rf X)) P
    refine am_b1_ne rfl (fun z => ?_) (fun z => ?_)
    · replace h := h.1 z
      exact h
    · replace h := h.2 z
      refine am_wpb (c' := (101, [some (.ref 42), none, none], [.int (-1)], (I2, L2, D2, am_rf X))) 1 rfl ?_
      exact am_ret_i rfl rfl h
/-- SureSumsModel.fault(I)I -/
def mz_145 : am_Y := (fun pc => am_q145.lookup pc, 2, 1)
theorem mh_145 : am_Ys 145 = some mz_145 := rfl
theorem w145_0 {ext : Nat → List Value → am_M → Option am_R} {d : Nat} {P : am_R → Prop} (I : Nat → Nat → Int32) (L : Nat → Nat → Int64) (D : Nat → Nat → UInt64) (X : am_Rf) (v1 : Int32)
    (h : ((¬ v1 = 0 → (((¬ v1 = 1 → (P (some (.int (-1)), (am_uI I 42 2 0, L, D, am_rf X)))) ∧ (v1 = 1 → (P (some (.int (I 42 5)), (am_uI I 42 2 0, L, D, am_rf X))))))) ∧ (v1 = 0 → (P (some (.int (I 42 4)), (am_uI I 42 2 0, L, D, am_rf X)))))) : am_wp ext d mz_145 (0, [some (.ref 42), some (.int v1)], [], (I, L, D, am_rf X)) P := by
  refine am_wpb (c' := (6, [some (.ref 42), some (.int v1)], [.int v1], (am_uI I 42 2 0, L, D, am_rf X))) 4 rfl ?_
  refine am_b1_ne rfl (fun z => ?_) (fun z => ?_)
  · replace h := h.1 z
    refine am_wpb (c' := (18, [some (.ref 42), some (.int v1)], [.int 1, .int v1], (am_uI I 42 2 0, L, D, am_rf X))) 2 rfl ?_
    refine am_b2_ne rfl (fun z => ?_) (fun z => ?_)
    · replace h := h.1 z
      refine am_wpb (c' := (29, [some (.ref 42), some (.int v1)], [.int (-1)], (am_uI I 42 2 0, L, D, am_rf X))) 1 rfl ?_
      exact am_ret_i rfl rfl h
    · replace h := h.2 z
      refine am_wpb (c' := (29, [some (.ref 42), some (.int v1)], [.int (I 42 5)], (am_uI I 42 2 0, L, D, am_rf X))) 3 rfl ?_
      exact am_ret_i rfl rfl h
  · replace h := h.2 z
    refine am_wpb (c' := (29, [some (.ref 42), some (.int v1)], [.int (I 42 4)], (am_uI I 42 2 0, L, D, am_rf X))) 3 rfl ?_
    exact am_ret_i rfl rfl h
/-- SureSumsModel.isLetter(I)Z -/
def mz_146 : am_Y := (fun pc => am_q146.lookup pc, 1, 2)
theorem mh_146 : am_Ys 146 = some mz_146 := rfl
theorem w146_0 {ext : Nat → List Value → am_M → Option am_R} {d : Nat} {P : am_R → Prop} (I : Nat → Nat → Int32) (L : Nat → Nat → Int64) (D : Nat → Nat → UInt64) (X : am_Rf) (v0 : Int32)
    (h : ((v0 < 0 → (P (some (.int 0), (I, L, D, am_rf X)))) ∧ (¬ v0 < 0 → (((26 ≤ v0 → (P (some (.int 0), (I, L, D, am_rf X)))) ∧ (¬ 26 ≤ v0 → (P (some (.int 1), (I, L, D, am_rf X))))))))) : am_wp ext d mz_146 (0, [some (.int v0)], [], (I, L, D, am_rf X)) P := by
  refine am_wpb (c' := (1, [some (.int v0)], [.int v0], (I, L, D, am_rf X))) 1 rfl ?_
  refine am_b1_lt rfl (fun z => ?_) (fun z => ?_)
  · replace h := h.1 z
    refine am_wpb (c' := (15, [some (.int v0)], [.int 0], (I, L, D, am_rf X))) 1 rfl ?_
    exact am_ret_z rfl rfl (Or.inl rfl) h
  · replace h := h.2 z
    refine am_wpb (c' := (7, [some (.int v0)], [.int 26, .int v0], (I, L, D, am_rf X))) 2 rfl ?_
    refine am_b2_ge rfl (fun z => ?_) (fun z => ?_)
    · replace h := h.1 z
      refine am_wpb (c' := (15, [some (.int v0)], [.int 0], (I, L, D, am_rf X))) 1 rfl ?_
      exact am_ret_z rfl rfl (Or.inl rfl) h
    · replace h := h.2 z
      refine am_wpb (c' := (15, [some (.int v0)], [.int 1], (I, L, D, am_rf X))) 2 rfl ?_
      exact am_ret_z rfl rfl (Or.inr rfl) h
/-- SureSumsModel.kind(I)I -/
def mz_147 : am_Y := (fun pc => am_q147.lookup pc, 2, 1)
theorem mh_147 : am_Ys 147 = some mz_147 := rfl
theorem w147_0 {ext : Nat → List Value → am_M → Option am_R} {d : Nat} {P : am_R → Prop} (I : Nat → Nat → Int32) (L : Nat → Nat → Int64) (D : Nat → Nat → UInt64) (X : am_Rf) (v1 : Int32)
    (h : ∃ (r1 : Int32) (I1 : Nat → Nat → Int32) (L1 : Nat → Nat → Int64) (D1 : Nat → Nat → UInt64), am_Rn ext d 146 [.int v1] (am_uI I 42 2 0, L, D, am_rf X) (some (.int r1), (I1, L1, D1, am_rf X)) ∧ (((r1 = 0 → (P (some (.int (-1)), (I1, L1, D1, am_rf X)))) ∧ (¬ r1 = 0 → (am_inb v1 52 = true ∧ (P (some (.int (I1 51 (Int32.toNatClampNeg v1))), (I1, L1, D1, am_rf X)))))))) : am_wp ext d mz_147 (0, [some (.ref 42), some (.int v1)], [], (I, L, D, am_rf X)) P := by
  refine am_wpb (c' := (6, [some (.ref 42), some (.int v1)], [.int v1], (am_uI I 42 2 0, L, D, am_rf X))) 4 rfl ?_
  obtain ⟨r1, I1, L1, D1, hr, h⟩ := h
  refine am_wp_inv (as := [.int v1]) rfl rfl rfl rfl ⟨_, hr, ?_⟩
  show am_wp ext d mz_147 (9, [some (.ref 42), some (.int v1)], [.int r1], (I1, L1, D1, am_rf X)) P
  refine am_b1_eq rfl (fun z => ?_) (fun z => ?_)
  · replace h := h.1 z
    refine am_wpb (c' := (22, [some (.ref 42), some (.int v1)], [.int (-1)], (I1, L1, D1, am_rf X))) 1 rfl ?_
    exact am_ret_i rfl rfl h
  · replace h := h.2 z
    refine am_wpb (c' := (17, [some (.ref 42), some (.int v1)], [.int v1, .ref 51], (I1, L1, D1, am_rf X))) 3 rfl ?_
    obtain ⟨o, h⟩ := h
    refine am_wps (c' := (18, [some (.ref 42), some (.int v1)], [.int (I1 51 (Int32.toNatClampNeg v1))], (I1, L1, D1, am_rf X))) rfl rfl (am_s_iald rfl o) ?_
    refine am_wpb (c' := (22, [some (.ref 42), some (.int v1)], [.int (I1 51 (Int32.toNatClampNeg v1))], (I1, L1, D1, am_rf X))) 1 rfl ?_
    exact am_ret_i rfl rfl h
/-- SureSumsModel.isNumber(I)Z -/
def mz_148 : am_Y := (fun pc => am_q148.lookup pc, 2, 2)
theorem mh_148 : am_Ys 148 = some mz_148 := rfl
theorem w148_0 {ext : Nat → List Value → am_M → Option am_R} {d : Nat} {P : am_R → Prop} (I : Nat → Nat → Int32) (L : Nat → Nat → Int64) (D : Nat → Nat → UInt64) (X : am_Rf) (v1 : Int32)
    (h : ∃ (r1 : Int32) (I1 : Nat → Nat → Int32) (L1 : Nat → Nat → Int64) (D1 : Nat → Nat → UInt64), am_Rn ext d 146 [.int v1] (I, L, D, am_rf X) (some (.int r1), (I1, L1, D1, am_rf X)) ∧ (((r1 = 0 → (P (some (.int 0), (I1, L1, D1, am_rf X)))) ∧ (¬ r1 = 0 → (am_inb v1 52 = true ∧ (((¬ (I1 51 (Int32.toNatClampNeg v1)) = 1 → (P (some (.int 0), (I1, L1, D1, am_rf X)))) ∧ ((I1 51 (Int32.toNatClampNeg v1)) = 1 → (P (some (.int 1), (I1, L1, D1, am_rf X))))))))))) : am_wp ext d mz_148 (0, [some (.ref 42), some (.int v1)], [], (I, L, D, am_rf X)) P := by
  refine am_wpb (c' := (1, [some (.ref 42), some (.int v1)], [.int v1], (I, L, D, am_rf X))) 1 rfl ?_
  obtain ⟨r1, I1, L1, D1, hr, h⟩ := h
  refine am_wp_inv (as := [.int v1]) rfl rfl rfl rfl ⟨_, hr, ?_⟩
  show am_wp ext d mz_148 (4, [some (.ref 42), some (.int v1)], [.int r1], (I1, L1, D1, am_rf X)) P
  refine am_b1_eq rfl (fun z => ?_) (fun z => ?_)
  · replace h := h.1 z
    refine am_wpb (c' := (22, [some (.ref 42), some (.int v1)], [.int 0], (I1, L1, D1, am_rf X))) 1 rfl ?_
    exact am_ret_z rfl rfl (Or.inl rfl) h
  · replace h := h.2 z
    refine am_wpb (c' := (12, [some (.ref 42), some (.int v1)], [.int v1, .ref 51], (I1, L1, D1, am_rf X))) 3 rfl ?_
    obtain ⟨o, h⟩ := h
    refine am_wps (c' := (13, [some (.ref 42), some (.int v1)], [.int (I1 51 (Int32.toNatClampNeg v1))], (I1, L1, D1, am_rf X))) rfl rfl (am_s_iald rfl o) ?_
    refine am_wpb (c' := (14, [some (.ref 42), some (.int v1)], [.int 1, .int (I1 51 (Int32.toNatClampNeg v1))], (I1, L1, D1, am_rf X))) 1 rfl ?_
    refine am_b2_ne rfl (fun z => ?_) (fun z => ?_)
    · replace h := h.1 z
      refine am_wpb (c' := (22, [some (.ref 42), some (.int v1)], [.int 0], (I1, L1, D1, am_rf X))) 1 rfl ?_
      exact am_ret_z rfl rfl (Or.inl rfl) h
    · replace h := h.2 z
      refine am_wpb (c' := (22, [some (.ref 42), some (.int v1)], [.int 1], (I1, L1, D1, am_rf X))) 2 rfl ?_
      exact am_ret_z rfl rfl (Or.inr rfl) h
/-- SureSumsModel.isFun(I)Z -/
def mz_149 : am_Y := (fun pc => am_q149.lookup pc, 2, 2)
theorem mh_149 : am_Ys 149 = some mz_149 := rfl
theorem w149_0 {ext : Nat → List Value → am_M → Option am_R} {d : Nat} {P : am_R → Prop} (I : Nat → Nat → Int32) (L : Nat → Nat → Int64) (D : Nat → Nat → UInt64) (X : am_Rf) (v1 : Int32)
    (h : ∃ (r1 : Int32) (I1 : Nat → Nat → Int32) (L1 : Nat → Nat → Int64) (D1 : Nat → Nat → UInt64), am_Rn ext d 146 [.int v1] (I, L, D, am_rf X) (some (.int r1), (I1, L1, D1, am_rf X)) ∧ (((r1 = 0 → (P (some (.int 0), (I1, L1, D1, am_rf X)))) ∧ (¬ r1 = 0 → (am_inb v1 52 = true ∧ (((¬ (I1 51 (Int32.toNatClampNeg v1)) = 2 → (P (some (.int 0), (I1, L1, D1, am_rf X)))) ∧ ((I1 51 (Int32.toNatClampNeg v1)) = 2 → (P (some (.int 1), (I1, L1, D1, am_rf X))))))))))) : am_wp ext d mz_149 (0, [some (.ref 42), some (.int v1)], [], (I, L, D, am_rf X)) P := by
  refine am_wpb (c' := (1, [some (.ref 42), some (.int v1)], [.int v1], (I, L, D, am_rf X))) 1 rfl ?_
  obtain ⟨r1, I1, L1, D1, hr, h⟩ := h
  refine am_wp_inv (as := [.int v1]) rfl rfl rfl rfl ⟨_, hr, ?_⟩
  show am_wp ext d mz_149 (4, [some (.ref 42), some (.int v1)], [.int r1], (I1, L1, D1, am_rf X)) P
  refine am_b1_eq rfl (fun z => ?_) (fun z => ?_)
  · replace h := h.1 z
    refine am_wpb (c' := (22, [some (.ref 42), some (.int v1)], [.int 0], (I1, L1, D1, am_rf X))) 1 rfl ?_
    exact am_ret_z rfl rfl (Or.inl rfl) h
  · replace h := h.2 z
    refine am_wpb (c' := (12, [some (.ref 42), some (.int v1)], [.int v1, .ref 51], (I1, L1, D1, am_rf X))) 3 rfl ?_
    obtain ⟨o, h⟩ := h
    refine am_wps (c' := (13, [some (.ref 42), some (.int v1)], [.int (I1 51 (Int32.toNatClampNeg v1))], (I1, L1, D1, am_rf X))) rfl rfl (am_s_iald rfl o) ?_
    refine am_wpb (c' := (14, [some (.ref 42), some (.int v1)], [.int 2, .int (I1 51 (Int32.toNatClampNeg v1))], (I1, L1, D1, am_rf X))) 1 rfl ?_
    refine am_b2_ne rfl (fun z => ?_) (fun z => ?_)
    · replace h := h.1 z
      refine am_wpb (c' := (22, [some (.ref 42), some (.int v1)], [.int 0], (I1, L1, D1, am_rf X))) 1 rfl ?_
      exact am_ret_z rfl rfl (Or.inl rfl) h
    · replace h := h.2 z
      refine am_wpb (c' := (22, [some (.ref 42), some (.int v1)], [.int 1], (I1, L1, D1, am_rf X))) 2 rfl ?_
      exact am_ret_z rfl rfl (Or.inr rfl) h
/-- SureSumsModel.child(IJJ)V -/
def mz_150 : am_Y := (fun pc => am_q150.lookup pc, 6, 0)
theorem mh_150 : am_Ys 150 = some mz_150 := rfl
theorem w150_0 {ext : Nat → List Value → am_M → Option am_R} {d : Nat} {P : am_R → Prop} (I : Nat → Nat → Int32) (L : Nat → Nat → Int64) (D : Nat → Nat → UInt64) (X : am_Rf) (v1 : Int32) (v2 : Int64) (v4 : Int64)
    (h : am_inb (I 42 47) 128 = true ∧ (am_inb (I 42 47) 128 = true ∧ (am_inb (I 42 47) 128 = true ∧ (am_inb (I 42 47) 128 = true ∧ (P (none, (am_uI (am_uI (am_uI (am_uI I 42 49 ((I 42 49) + 1)) 59 (Int32.toNatClampNeg (I 42 47)) v1) 60 (Int32.toNatClampNeg (I 42 47)) 0) 42 47 ((I 42 47) + 1), am_uL (am_uL L 61 (Int32.toNatClampNeg (I 42 47)) v2) 62 (Int32.toNatClampNeg (I 42 47)) v4, D, am_rf X))))))) : am_wp ext d mz_150 (0, [some (.ref 42), some (.int v1), some (.long v2), none, some (.long v4), none], [], (I, L, D, am_rf X)) P := by
  refine am_wpb (c' := (19, [some (.ref 42), some (.int v1), some (.long v2), none, some (.long v4), none], [.int v1, .int (I 42 47), .ref 59], (am_uI I 42 49 ((I 42 49) + 1), L, D, am_rf X))) 11 rfl ?_
  obtain ⟨o, h⟩ := h
  refine am_wps (c' := (20, [some (.ref 42), some (.int v1), some (.long v2), none, some (.long v4), none], [], (am_uI (am_uI I 42 49 ((I 42 49) + 1)) 59 (Int32.toNatClampNeg (I 42 47)) v1, L, D, am_rf X))) rfl rfl (am_s_iast rfl o) ?_
  refine am_wpb (c' := (29, [some (.ref 42), some (.int v1), some (.long v2), none, some (.long v4), none], [.int 0, .int (I 42 47), .ref 60], (am_uI (am_uI I 42 49 ((I 42 49) + 1)) 59 (Int32.toNatClampNeg (I 42 47)) v1, L, D, am_rf X))) 5 rfl ?_
  obtain ⟨o, h⟩ := h
  refine am_wps (c' := (30, [some (.ref 42), some (.int v1), some (.long v2), none, some (.long v4), none], [], (am_uI (am_uI (am_uI I 42 49 ((I 42 49) + 1)) 59 (Int32.toNatClampNeg (I 42 47)) v1) 60 (Int32.toNatClampNeg (I 42 47)) 0, L, D, am_rf X))) rfl rfl (am_s_iast rfl o) ?_
  refine am_wpb (c' := (39, [some (.ref 42), some (.int v1), some (.long v2), none, some (.long v4), none], [.long v2, .int (I 42 47), .ref 61], (am_uI (am_uI (am_uI I 42 49 ((I 42 49) + 1)) 59 (Int32.toNatClampNeg (I 42 47)) v1) 60 (Int32.toNatClampNeg (I 42 47)) 0, L, D, am_rf X))) 5 rfl ?_
  obtain ⟨o, h⟩ := h
  refine am_wps (c' := (40, [some (.ref 42), some (.int v1), some (.long v2), none, some (.long v4), none], [], (am_uI (am_uI (am_uI I 42 49 ((I 42 49) + 1)) 59 (Int32.toNatClampNeg (I 42 47)) v1) 60 (Int32.toNatClampNeg (I 42 47)) 0, am_uL L 61 (Int32.toNatClampNeg (I 42 47)) v2, D, am_rf X))) rfl rfl (am_s_last rfl o) ?_
  refine am_wpb (c' := (50, [some (.ref 42), some (.int v1), some (.long v2), none, some (.long v4), none], [.long v4, .int (I 42 47), .ref 62], (am_uI (am_uI (am_uI I 42 49 ((I 42 49) + 1)) 59 (Int32.toNatClampNeg (I 42 47)) v1) 60 (Int32.toNatClampNeg (I 42 47)) 0, am_uL L 61 (Int32.toNatClampNeg (I 42 47)) v2, D, am_rf X))) 5 rfl ?_
  obtain ⟨o, h⟩ := h
  refine am_wps (c' := (51, [some (.ref 42), some (.int v1), some (.long v2), none, some (.long v4), none], [], (am_uI (am_uI (am_uI I 42 49 ((I 42 49) + 1)) 59 (Int32.toNatClampNeg (I 42 47)) v1) 60 (Int32.toNatClampNeg (I 42 47)) 0, am_uL (am_uL L 61 (Int32.toNatClampNeg (I 42 47)) v2) 62 (Int32.toNatClampNeg (I 42 47)) v4, D, am_rf X))) rfl rfl (am_s_last rfl o) ?_
  refine am_wpb (c' := (61, [some (.ref 42), some (.int v1), some (.long v2), none, some (.long v4), none], [], (am_uI (am_uI (am_uI (am_uI I 42 49 ((I 42 49) + 1)) 59 (Int32.toNatClampNeg (I 42 47)) v1) 60 (Int32.toNatClampNeg (I 42 47)) 0) 42 47 ((I 42 47) + 1), am_uL (am_uL L 61 (Int32.toNatClampNeg (I 42 47)) v2) 62 (Int32.toNatClampNeg (I 42 47)) v4, D, am_rf X))) 6 rfl ?_
  exact am_ret_v rfl rfl h
/-- SureSumsModel.gives(ZJJ)V -/
def mz_151 : am_Y := (fun pc => am_q151.lookup pc, 8, 0)
theorem mh_151 : am_Ys 151 = some mz_151 := rfl
theorem w151_0 {ext : Nat → List Value → am_M → Option am_R} {d : Nat} {P : am_R → Prop} (I : Nat → Nat → Int32) (L : Nat → Nat → Int64) (D : Nat → Nat → UInt64) (X : am_Rf) (v1 : Int32) (v2 : Int64) (v4 : Int64)
    (h : ((v1 = 0 → (am_wp ext d mz_151 (35, [some (.ref 42), none, some (.long v2), none, some (.long v4), none, none, none], [.ref 42], (I, L, D, am_rf X)) P)) ∧ (¬ v1 = 0 → (((v2 < (-(2048 <<< ((Int32.toInt64 (I 42 48)) &&& 63))) → (am_wp ext d mz_151 (35, [some (.ref 42), none, some (.long v2), none, some (.long v4), none, none, none], [.ref 42], (I, L, D, am_rf X)) P)) ∧ (¬ v2 < (-(2048 <<< ((Int32.toInt64 (I 42 48)) &&& 63))) → ((((2048 <<< ((Int32.toInt64 (I 42 48)) &&& 63)) < v4 → (am_wp ext d mz_151 (35, [some (.ref 42), none, some (.long v2), none, some (.long v4), none, none, none], [.ref 42], (I, L, D, am_rf X)) P)) ∧ (¬ (2048 <<< ((Int32.toInt64 (I 42 48)) &&& 63)) < v4 → (P (none, (am_uI (am_uI I 42 50 1) 42 47 ((I 42 47) - 1), am_uL (am_uL L 42 51 v2) 42 52 v4, D, am_rf X)))))))))))) : am_wp ext d mz_151 (0, [some (.ref 42), some (.int v1), some (.long v2), none, some (.long v4), none, none, none], [], (I, L, D, am_rf X)) P := by
  refine am_wpb (c' := (12, [some (.ref 42), some (.int v1), some (.long v2), none, some (.long v4), none, some (.long (2048 <<< ((Int32.toInt64 (I 42 48)) &&& 63))), none], [.int v1, .ref 42], (I, L, D, am_rf X))) 7 rfl ?_
  refine am_b1_eq rfl (fun z => ?_) (fun z => ?_)
  · replace h := h.1 z
    exact am_fgt (l := [some (.ref 42), none, some (.long v2), none, some (.long v4), none, none, none]) (am_le_of (am_leS (am_leN (am_leS (am_leN (am_leS (am_leN (am_leN (am_leN (am_leZ)))))))))) h
  · replace h := h.2 z
    refine am_wpb (c' := (19, [some (.ref 42), some (.int v1), some (.long v2), none, some (.long v4), none, some (.long (2048 <<< ((Int32.toInt64 (I 42 48)) &&& 63))), none], [.long (-(2048 <<< ((Int32.toInt64 (I 42 48)) &&& 63))), .long v2, .ref 42], (I, L, D, am_rf X))) 3 rfl ?_
    refine am_lc_lt rfl rfl (fun z => ?_) (fun z => ?_)
    · replace h := h.1 z
      exact am_fgt (l := [some (.ref 42), none, some (.long v2), none, some (.long v4), none, none, none]) (am_le_of (am_leS (am_leN (am_leS (am_leN (am_leS (am_leN (am_leN (am_leN (am_leZ)))))))))) h
    · replace h := h.2 z
      refine am_wpb (c' := (27, [some (.ref 42), some (.int v1), some (.long v2), none, some (.long v4), none, some (.long (2048 <<< ((Int32.toInt64 (I 42 48)) &&& 63))), none], [.long (2048 <<< ((Int32.toInt64 (I 42 48)) &&& 63)), .long v4, .ref 42], (I, L, D, am_rf X))) 2 rfl ?_
      refine am_lc_gt rfl rfl (fun z => ?_) (fun z => ?_)
      · replace h := h.1 z
        exact am_fgt (l := [some (.ref 42), none, some (.long v2), none, some (.long v4), none, none, none]) (am_le_of (am_leS (am_leN (am_leS (am_leN (am_leS (am_leN (am_leN (am_leN (am_leZ)))))))))) h
      · replace h := h.2 z
        refine am_wpb (c' := (60, [some (.ref 42), some (.int v1), some (.long v2), none, some (.long v4), none, some (.long (2048 <<< ((Int32.toInt64 (I 42 48)) &&& 63))), none], [], (am_uI (am_uI I 42 50 1) 42 47 ((I 42 47) - 1), am_uL (am_uL L 42 51 v2) 42 52 v4, D, am_rf X))) 15 rfl ?_
        exact am_ret_v rfl rfl h
theorem w151_35 {ext : Nat → List Value → am_M → Option am_R} {d : Nat} {P : am_R → Prop} (I : Nat → Nat → Int32) (L : Nat → Nat → Int64) (D : Nat → Nat → UInt64) (X : am_Rf) (v2 : Int64) (v4 : Int64)
    (h : P (none, (am_uI (am_uI I 42 50 0) 42 47 ((I 42 47) - 1), am_uL (am_uL L 42 51 v2) 42 52 v4, D, am_rf X))) : am_wp ext d mz_151 (35, [some (.ref 42), none, some (.long v2), none, some (.long v4), none, none, none], [.ref 42], (I, L, D, am_rf X)) P := by
  refine am_wpb (c' := (60, [some (.ref 42), none, some (.long v2), none, some (.long v4), none, none, none], [], (am_uI (am_uI I 42 50 0) 42 47 ((I 42 47) - 1), am_uL (am_uL L 42 51 v2) 42 52 v4, D, am_rf X))) 14 rfl ?_
  exact am_ret_v rfl rfl h
/-- SureSumsModel.none()V -/
def mz_152 : am_Y := (fun pc => am_q152.lookup pc, 1, 0)
theorem mh_152 : am_Ys 152 = some mz_152 := rfl
theorem w152_0 {ext : Nat → List Value → am_M → Option am_R} {d : Nat} {P : am_R → Prop} (I : Nat → Nat → Int32) (L : Nat → Nat → Int64) (D : Nat → Nat → UInt64) (X : am_Rf)
    (h : ∃ (I1 : Nat → Nat → Int32) (L1 : Nat → Nat → Int64) (D1 : Nat → Nat → UInt64), am_Rn ext d 151 [.ref 42, .int 0, .long 0, .long 0] (I, L, D, am_rf X) (none, (I1, L1, D1, am_rf X)) ∧ (P (none, (I1, L1, D1, am_rf X)))) : am_wp ext d mz_152 (0, [some (.ref 42)], [], (I, L, D, am_rf X)) P := by
  refine am_wpb (c' := (4, [some (.ref 42)], [.long 0, .long 0, .int 0, .ref 42], (I, L, D, am_rf X))) 4 rfl ?_
  obtain ⟨I1, L1, D1, hr, h⟩ := h
  refine am_wp_inv (as := [.ref 42, .int 0, .long 0, .long 0]) rfl rfl rfl rfl ⟨_, hr, ?_⟩
  show am_wp ext d mz_152 (7, [some (.ref 42)], [], (I1, L1, D1, am_rf X)) P
  exact am_ret_v rfl rfl h
/-- SureSumsModel.askKnot(IJJ)V -/
def mz_153 : am_Y := (fun pc => am_q153.lookup pc, 6, 0)
theorem mh_153 : am_Ys 153 = some mz_153 := rfl
theorem w153_0 {ext : Nat → List Value → am_M → Option am_R} {d : Nat} {P : am_R → Prop} (I : Nat → Nat → Int32) (L : Nat → Nat → Int64) (D : Nat → Nat → UInt64) (X : am_Rf) (v1 : Int32) (v2 : Int64) (v4 : Int64)
    (h : ∃ (I1 : Nat → Nat → Int32) (L1 : Nat → Nat → Int64) (D1 : Nat → Nat → UInt64), am_Rn ext d 150 [.ref 42, .int v1, .long v2, .long v4] (am_uI (am_uI I 42 47 0) 42 49 0, L, D, am_rf X) (none, (I1, L1, D1, am_rf X)) ∧ (am_wp ext d mz_153 (18, [some (.ref 42), none, none, none, none, none], [], (I1, L1, D1, am_rf X)) P)) : am_wp ext d mz_153 (0, [some (.ref 42), some (.int v1), some (.long v2), none, some (.long v4), none], [], (I, L, D, am_rf X)) P := by
  refine am_wpb (c' := (15, [some (.ref 42), some (.int v1), some (.long v2), none, some (.long v4), none], [.long v4, .long v2, .int v1, .ref 42], (am_uI (am_uI I 42 47 0) 42 49 0, L, D, am_rf X))) 10 rfl ?_
  obtain ⟨I1, L1, D1, hr, h⟩ := h
  refine am_wp_inv (as := [.ref 42, .int v1, .long v2, .long v4]) rfl rfl rfl rfl ⟨_, hr, ?_⟩
  show am_wp ext d mz_153 (18, [some (.ref 42), some (.int v1), some (.long v2), none, some (.long v4), none], [], (I1, L1, D1, am_rf X)) P
  exact am_fgt (l := [some (.ref 42), none, none, none, none, none]) (am_le_of (am_leS (am_leN (am_leN (am_leN (am_leN (am_leN (am_leZ)))))))) h
theorem w153_18 {ext : Nat → List Value → am_M → Option am_R} {d : Nat} {P : am_R → Prop} (I : Nat → Nat → Int32) (L : Nat → Nat → Int64) (D : Nat → Nat → UInt64) (X : am_Rf)
    (h : (((I 42 47) ≤ 0 → ((((I 42 49) ≤ 20000 → (P (none, (I, L, D, am_rf X)))) ∧ (¬ (I 42 49) ≤ 20000 → (P (none, (am_uI (am_uI I 42 49 20001) 42 50 0, L, D, am_rf X))))))) ∧ (¬ (I 42 47) ≤ 0 → (((20000 < (I 42 49) → ((((I 42 49) ≤ 20000 → (P (none, (I, L, D, am_rf X)))) ∧ (¬ (I 42 49) ≤ 20000 → (P (none, (am_uI (am_uI I 42 49 20001) 42 50 0, L, D, am_rf X))))))) ∧ (¬ 20000 < (I 42 49) → (∃ (I1 : Nat → Nat → Int32) (L1 : Nat → Nat → Int64) (D1 : Nat → Nat → UInt64), am_Rn ext d 161 [.ref 42, .int ((I 42 47) - 1)] (I, L, D, am_rf X) (none, (I1, L1, D1, am_rf X)) ∧ (am_wp ext d mz_153 (18, [some (.ref 42), none, none, none, none, none], [], (I1, L1, D1, am_rf X)) P)))))))) : am_wp ext d mz_153 (18, [some (.ref 42), none, none, none, none, none], [], (I, L, D, am_rf X)) P := by
  refine am_wpb (c' := (22, [some (.ref 42), none, none, none, none, none], [.int (I 42 47)], (I, L, D, am_rf X))) 2 rfl ?_
  refine am_b1_le rfl (fun z => ?_) (fun z => ?_)
  · replace h := h.1 z
    refine am_wpb (c' := (55, [some (.ref 42), none, none, none, none, none], [.int 20000, .int (I 42 49)], (I, L, D, am_rf X))) 3 rfl ?_
    refine am_b2_le rfl (fun z => ?_) (fun z => ?_)
    · replace h := h.1 z
      exact am_ret_v rfl rfl h
    · replace h := h.2 z
      refine am_wpb (c' := (70, [some (.ref 42), none, none, none, none, none], [], (am_uI (am_uI I 42 49 20001) 42 50 0, L, D, am_rf X))) 6 rfl ?_
      exact am_ret_v rfl rfl h
  · replace h := h.2 z
    refine am_wpb (c' := (32, [some (.ref 42), none, none, none, none, none], [.int 20000, .int (I 42 49)], (I, L, D, am_rf X))) 3 rfl ?_
    refine am_b2_gt rfl (fun z => ?_) (fun z => ?_)
    · replace h := h.1 z
      refine am_wpb (c' := (55, [some (.ref 42), none, none, none, none, none], [.int 20000, .int (I 42 49)], (I, L, D, am_rf X))) 3 rfl ?_
      refine am_b2_le rfl (fun z => ?_) (fun z => ?_)
      · replace h := h.1 z
        exact am_ret_v rfl rfl h
      · replace h := h.2 z
        refine am_wpb (c' := (70, [some (.ref 42), none, none, none, none, none], [], (am_uI (am_uI I 42 49 20001) 42 50 0, L, D, am_rf X))) 6 rfl ?_
        exact am_ret_v rfl rfl h
    · replace h := h.2 z
      refine am_wpb (c' := (42, [some (.ref 42), none, none, none, none, none], [.int ((I 42 47) - 1), .ref 42], (I, L, D, am_rf X))) 5 rfl ?_
      obtain ⟨I1, L1, D1, hr, h⟩ := h
      refine am_wp_inv (as := [.ref 42, .int ((I 42 47) - 1)]) rfl rfl rfl rfl ⟨_, hr, ?_⟩
      show am_wp ext d mz_153 (45, [some (.ref 42), none, none, none, none, none], [], (I1, L1, D1, am_rf X)) P
      refine am_wpb (c' := (18, [some (.ref 42), none, none, none, none, none], [], (I1, L1, D1, am_rf X))) 1 rfl ?_
      exact h
/-- SureSumsModel.up(J)J -/
def mz_154 : am_Y := (fun pc => am_q154.lookup pc, 3, 3)
theorem mh_154 : am_Ys 154 = some mz_154 := rfl
theorem w154_0 {ext : Nat → List Value → am_M → Option am_R} {d : Nat} {P : am_R → Prop} (I : Nat → Nat → Int32) (L : Nat → Nat → Int64) (D : Nat → Nat → UInt64) (X : am_Rf) (v1 : Int64)
    (h : P (some (.long (-((-v1) >>> ((Int32.toInt64 (I 42 48)) &&& 63)))), (I, L, D, am_rf X))) : am_wp ext d mz_154 (0, [some (.ref 42), some (.long v1), none], [], (I, L, D, am_rf X)) P := by
  refine am_wpb (c' := (8, [some (.ref 42), some (.long v1), none], [.long (-((-v1) >>> ((Int32.toInt64 (I 42 48)) &&& 63)))], (I, L, D, am_rf X))) 6 rfl ?_
  exact am_ret_l rfl rfl h
/-- SureSumsModel.down(JJ)J -/
def mz_155 : am_Y := (fun pc => am_q155.lookup pc, 6, 3)
theorem mh_155 : am_Ys 155 = some mz_155 := rfl
theorem w155_0 {ext : Nat → List Value → am_M → Option am_R} {d : Nat} {P : am_R → Prop} (I : Nat → Nat → Int32) (L : Nat → Nat → Int64) (D : Nat → Nat → UInt64) (X : am_Rf) (v0 : Int64) (v2 : Int64)
    (h : ¬ v2 = 0 ∧ (¬ v2 = 0 ∧ ((((v0 - v0 / v2 * v2) = 0 → (P (some (.long (v0 / v2)), (I, L, D, am_rf X)))) ∧ (¬ (v0 - v0 / v2 * v2) = 0 → (((0 ≤ v0 → (((0 ≤ v2 → ((((0 : Int32) = 0 → (P (some (.long (v0 / v2)), (I, L, D, am_rf X)))) ∧ (¬ (0 : Int32) = 0 → (P (some (.long ((v0 / v2) - 1)), (I, L, D, am_rf X))))))) ∧ (¬ 0 ≤ v2 → ((((0 : Int32) = 1 → (P (some (.long (v0 / v2)), (I, L, D, am_rf X)))) ∧ (¬ (0 : Int32) = 1 → (P (some (.long ((v0 / v2) - 1)), (I, L, D, am_rf X)))))))))) ∧ (¬ 0 ≤ v0 → (((0 ≤ v2 → ((((1 : Int32) = 0 → (P (some (.long (v0 / v2)), (I, L, D, am_rf X)))) ∧ (¬ (1 : Int32) = 0 → (P (some (.long ((v0 / v2) - 1)), (I, L, D, am_rf X))))))) ∧ (¬ 0 ≤ v2 → ((((1 : Int32) = 1 → (P (some (.long (v0 / v2)), (I, L, D, am_rf X)))) ∧ (¬ (1 : Int32) = 1 → (P (some (.long ((v0 / v2) - 1)), (I, L, D, am_rf X))))))))))))))))) : am_wp ext d mz_155 (0, [some (.long v0), none, some (.long v2), none, none, none], [], (I, L, D, am_rf X)) P := by
  refine am_wpb (c' := (2, [some (.long v0), none, some (.long v2), none, none, none], [.long v2, .long v0], (I, L, D, am_rf X))) 2 rfl ?_
  obtain ⟨o, h⟩ := h
  refine am_wps (c' := (3, [some (.long v0), none, some (.long v2), none, none, none], [.long (v0 / v2)], (I, L, D, am_rf X))) rfl rfl (am_s_ldiv o) ?_
  refine am_wpb (c' := (7, [some (.long v0), none, some (.long v2), none, some (.long (v0 / v2)), none], [.long v2, .long v0], (I, L, D, am_rf X))) 3 rfl ?_
  obtain ⟨o, h⟩ := h
  refine am_wps (c' := (8, [some (.long v0), none, some (.long v2), none, some (.long (v0 / v2)), none], [.long (v0 - v0 / v2 * v2)], (I, L, D, am_rf X))) rfl rfl (am_s_lrem o) ?_
  refine am_wpb (c' := (9, [some (.long v0), none, some (.long v2), none, some (.long (v0 / v2)), none], [.long 0, .long (v0 - v0 / v2 * v2)], (I, L, D, am_rf X))) 1 rfl ?_
  refine am_lc_eq rfl rfl (fun z => ?_) (fun z => ?_)
  · replace h := h.1 z
    refine am_wpb (c' := (47, [some (.long v0), none, some (.long v2), none, some (.long (v0 / v2)), none], [.long (v0 / v2)], (I, L, D, am_rf X))) 1 rfl ?_
    exact am_ret_l rfl rfl h
  · replace h := h.2 z
    refine am_wpb (c' := (15, [some (.long v0), none, some (.long v2), none, some (.long (v0 / v2)), none], [.long 0, .long v0], (I, L, D, am_rf X))) 2 rfl ?_
    refine am_lc_ge rfl rfl (fun z => ?_) (fun z => ?_)
    · replace h := h.1 z
      refine am_wpb (c' := (26, [some (.long v0), none, some (.long v2), none, some (.long (v0 / v2)), none], [.long 0, .long v2, .int 0], (I, L, D, am_rf X))) 3 rfl ?_
      refine am_lc_ge rfl rfl (fun z => ?_) (fun z => ?_)
      · replace h := h.1 z
        refine am_wpb (c' := (35, [some (.long v0), none, some (.long v2), none, some (.long (v0 / v2)), none], [.int 0, .int 0], (I, L, D, am_rf X))) 1 rfl ?_
        refine am_b2_eq rfl (fun z => ?_) (fun z => ?_)
        · replace h := h.1 z
          refine am_wpb (c' := (47, [some (.long v0), none, some (.long v2), none, some (.long (v0 / v2)), none], [.long (v0 / v2)], (I, L, D, am_rf X))) 1 rfl ?_
          exact am_ret_l rfl rfl h
        · replace h := h.2 z
          refine am_wpb (c' := (47, [some (.long v0), none, some (.long v2), none, some (.long (v0 / v2)), none], [.long ((v0 / v2) - 1)], (I, L, D, am_rf X))) 4 rfl ?_
          exact am_ret_l rfl rfl h
      · replace h := h.2 z
        refine am_wpb (c' := (35, [some (.long v0), none, some (.long v2), none, some (.long (v0 / v2)), none], [.int 1, .int 0], (I, L, D, am_rf X))) 2 rfl ?_
        refine am_b2_eq rfl (fun z => ?_) (fun z => ?_)
        · replace h := h.1 z
          refine am_wpb (c' := (47, [some (.long v0), none, some (.long v2), none, some (.long (v0 / v2)), none], [.long (v0 / v2)], (I, L, D, am_rf X))) 1 rfl ?_
          exact am_ret_l rfl rfl h
        · replace h := h.2 z
          refine am_wpb (c' := (47, [some (.long v0), none, some (.long v2), none, some (.long (v0 / v2)), none], [.long ((v0 / v2) - 1)], (I, L, D, am_rf X))) 4 rfl ?_
          exact am_ret_l rfl rfl h
    · replace h := h.2 z
      refine am_wpb (c' := (26, [some (.long v0), none, some (.long v2), none, some (.long (v0 / v2)), none], [.long 0, .long v2, .int 1], (I, L, D, am_rf X))) 4 rfl ?_
      refine am_lc_ge rfl rfl (fun z => ?_) (fun z => ?_)
      · replace h := h.1 z
        refine am_wpb (c' := (35, [some (.long v0), none, some (.long v2), none, some (.long (v0 / v2)), none], [.int 0, .int 1], (I, L, D, am_rf X))) 1 rfl ?_
        refine am_b2_eq rfl (fun z => ?_) (fun z => ?_)
        · replace h := h.1 z
          refine am_wpb (c' := (47, [some (.long v0), none, some (.long v2), none, some (.long (v0 / v2)), none], [.long (v0 / v2)], (I, L, D, am_rf X))) 1 rfl ?_
          exact am_ret_l rfl rfl h
        · replace h := h.2 z
          refine am_wpb (c' := (47, [some (.long v0), none, some (.long v2), none, some (.long (v0 / v2)), none], [.long ((v0 / v2) - 1)], (I, L, D, am_rf X))) 4 rfl ?_
          exact am_ret_l rfl rfl h
      · replace h := h.2 z
        refine am_wpb (c' := (35, [some (.long v0), none, some (.long v2), none, some (.long (v0 / v2)), none], [.int 1, .int 1], (I, L, D, am_rf X))) 2 rfl ?_
        refine am_b2_eq rfl (fun z => ?_) (fun z => ?_)
        · replace h := h.1 z
          refine am_wpb (c' := (47, [some (.long v0), none, some (.long v2), none, some (.long (v0 / v2)), none], [.long (v0 / v2)], (I, L, D, am_rf X))) 1 rfl ?_
          exact am_ret_l rfl rfl h
        · replace h := h.2 z
          refine am_wpb (c' := (47, [some (.long v0), none, some (.long v2), none, some (.long (v0 / v2)), none], [.long ((v0 / v2) - 1)], (I, L, D, am_rf X))) 4 rfl ?_
          exact am_ret_l rfl rfl h
/-- SureSumsModel.upper(JJ)J -/
def mz_156 : am_Y := (fun pc => am_q156.lookup pc, 6, 3)
theorem mh_156 : am_Ys 156 = some mz_156 := rfl
theorem w156_0 {ext : Nat → List Value → am_M → Option am_R} {d : Nat} {P : am_R → Prop} (I : Nat → Nat → Int32) (L : Nat → Nat → Int64) (D : Nat → Nat → UInt64) (X : am_Rf) (v0 : Int64) (v2 : Int64)
    (h : ∃ (r1 : Int64) (I1 : Nat → Nat → Int32) (L1 : Nat → Nat → Int64) (D1 : Nat → Nat → UInt64), am_Rn ext d 155 [.long (-v0), .long v2] (I, L, D, am_rf X) (some (.long r1), (I1, L1, D1, am_rf X)) ∧ (P (some (.long (-r1)), (I1, L1, D1, am_rf X)))) : am_wp ext d mz_156 (0, [some (.long v0), none, some (.long v2), none, none, none], [], (I, L, D, am_rf X)) P := by
  refine am_wpb (c' := (3, [some (.long v0), none, some (.long v2), none, none, none], [.long v2, .long (-v0)], (I, L, D, am_rf X))) 3 rfl ?_
  obtain ⟨r1, I1, L1, D1, hr, h⟩ := h
  refine am_wp_inv (as := [.long (-v0), .long v2]) rfl rfl rfl rfl ⟨_, hr, ?_⟩
  show am_wp ext d mz_156 (6, [some (.long v0), none, some (.long v2), none, none, none], [.long r1], (I1, L1, D1, am_rf X)) P
  refine am_wpb (c' := (11, [some (.long v0), none, some (.long v2), none, some (.long r1), none], [.long (-r1)], (I1, L1, D1, am_rf X))) 3 rfl ?_
  exact am_ret_l rfl rfl h
/-- SureSumsModel.lesser(JJ)J -/
def mz_157 : am_Y := (fun pc => am_q157.lookup pc, 4, 3)
theorem mh_157 : am_Ys 157 = some mz_157 := rfl
theorem w157_0 {ext : Nat → List Value → am_M → Option am_R} {d : Nat} {P : am_R → Prop} (I : Nat → Nat → Int32) (L : Nat → Nat → Int64) (D : Nat → Nat → UInt64) (X : am_Rf) (v0 : Int64) (v2 : Int64)
    (h : ((v2 ≤ v0 → (P (some (.long v2), (I, L, D, am_rf X)))) ∧ (¬ v2 ≤ v0 → (P (some (.long v0), (I, L, D, am_rf X)))))) : am_wp ext d mz_157 (0, [some (.long v0), none, some (.long v2), none], [], (I, L, D, am_rf X)) P := by
  refine am_wpb (c' := (2, [some (.long v0), none, some (.long v2), none], [.long v2, .long v0], (I, L, D, am_rf X))) 2 rfl ?_
  refine am_lc_ge rfl rfl (fun z => ?_) (fun z => ?_)
  · replace h := h.1 z
    refine am_wpb (c' := (11, [some (.long v0), none, some (.long v2), none], [.long v2], (I, L, D, am_rf X))) 1 rfl ?_
    exact am_ret_l rfl rfl h
  · replace h := h.2 z
    refine am_wpb (c' := (11, [some (.long v0), none, some (.long v2), none], [.long v0], (I, L, D, am_rf X))) 2 rfl ?_
    exact am_ret_l rfl rfl h
/-- SureSumsModel.greater(JJ)J -/
def mz_158 : am_Y := (fun pc => am_q158.lookup pc, 4, 3)
theorem mh_158 : am_Ys 158 = some mz_158 := rfl
theorem w158_0 {ext : Nat → List Value → am_M → Option am_R} {d : Nat} {P : am_R → Prop} (I : Nat → Nat → Int32) (L : Nat → Nat → Int64) (D : Nat → Nat → UInt64) (X : am_Rf) (v0 : Int64) (v2 : Int64)
    (h : ((v0 ≤ v2 → (P (some (.long v2), (I, L, D, am_rf X)))) ∧ (¬ v0 ≤ v2 → (P (some (.long v0), (I, L, D, am_rf X)))))) : am_wp ext d mz_158 (0, [some (.long v0), none, some (.long v2), none], [], (I, L, D, am_rf X)) P := by
  refine am_wpb (c' := (2, [some (.long v0), none, some (.long v2), none], [.long v2, .long v0], (I, L, D, am_rf X))) 2 rfl ?_
  refine am_lc_le rfl rfl (fun z => ?_) (fun z => ?_)
  · replace h := h.1 z
    refine am_wpb (c' := (11, [some (.long v0), none, some (.long v2), none], [.long v2], (I, L, D, am_rf X))) 1 rfl ?_
    exact am_ret_l rfl rfl h
  · replace h := h.2 z
    refine am_wpb (c' := (11, [some (.long v0), none, some (.long v2), none], [.long v0], (I, L, D, am_rf X))) 2 rfl ?_
    exact am_ret_l rfl rfl h
/-- SureSumsModel.root(J)J -/
def mz_159 : am_Y := (fun pc => am_q159.lookup pc, 6, 3)
theorem mh_159 : am_Ys 159 = some mz_159 := rfl
theorem w159_0 {ext : Nat → List Value → am_M → Option am_R} {d : Nat} {P : am_R → Prop} (I : Nat → Nat → Int32) (L : Nat → Nat → Int64) (D : Nat → Nat → UInt64) (X : am_Rf) (v0 : Int64)
    (h : am_wp ext d mz_159 (7, [some (.long v0), none, some (.long 0), none, some (.long 67108864), none], [], (I, L, D, am_rf X)) P) : am_wp ext d mz_159 (0, [some (.long v0), none, none, none, none, none], [], (I, L, D, am_rf X)) P := by
  refine am_wpb (c' := (7, [some (.long v0), none, some (.long 0), none, some (.long 67108864), none], [], (I, L, D, am_rf X))) 4 rfl ?_
  exact h
theorem w159_7 {ext : Nat → List Value → am_M → Option am_R} {d : Nat} {P : am_R → Prop} (I : Nat → Nat → Int32) (L : Nat → Nat → Int64) (D : Nat → Nat → UInt64) (X : am_Rf) (v0 : Int64) (v2 : Int64) (v4 : Int64)
    (h : ((v4 ≤ 0 → (P (some (.long v2), (I, L, D, am_rf X)))) ∧ (¬ v4 ≤ 0 → (((v0 < ((v2 + v4) * (v2 + v4)) → (am_wp ext d mz_159 (7, [some (.long v0), none, some (.long v2), none, some (.long (v4 >>> ((Int32.toInt64 1) &&& 63))), none], [], (I, L, D, am_rf X)) P)) ∧ (¬ v0 < ((v2 + v4) * (v2 + v4)) → (am_wp ext d mz_159 (7, [some (.long v0), none, some (.long (v2 + v4)), none, some (.long (v4 >>> ((Int32.toInt64 1) &&& 63))), none], [], (I, L, D, am_rf X)) P))))))) : am_wp ext d mz_159 (7, [some (.long v0), none, some (.long v2), none, some (.long v4), none], [], (I, L, D, am_rf X)) P := by
  refine am_wpb (c' := (10, [some (.long v0), none, some (.long v2), none, some (.long v4), none], [.long 0, .long v4], (I, L, D, am_rf X))) 2 rfl ?_
  refine am_lc_le rfl rfl (fun z => ?_) (fun z => ?_)
  · replace h := h.1 z
    refine am_wpb (c' := (43, [some (.long v0), none, some (.long v2), none, some (.long v4), none], [.long v2], (I, L, D, am_rf X))) 1 rfl ?_
    exact am_ret_l rfl rfl h
  · replace h := h.2 z
    refine am_wpb (c' := (24, [some (.long v0), none, some (.long v2), none, some (.long v4), none], [.long v0, .long ((v2 + v4) * (v2 + v4))], (I, L, D, am_rf X))) 8 rfl ?_
    refine am_lc_gt rfl rfl (fun z => ?_) (fun z => ?_)
    · replace h := h.1 z
      refine am_wpb (c' := (7, [some (.long v0), none, some (.long v2), none, some (.long (v4 >>> ((Int32.toInt64 1) &&& 63))), none], [], (I, L, D, am_rf X))) 5 rfl ?_
      exact h
    · replace h := h.2 z
      refine am_wpb (c' := (7, [some (.long v0), none, some (.long (v2 + v4)), none, some (.long (v4 >>> ((Int32.toInt64 1) &&& 63))), none], [], (I, L, D, am_rf X))) 9 rfl ?_
      exact h
/-- SureSumsModel.keepOne(I)V -/
def mz_160 : am_Y := (fun pc => am_q160.lookup pc, 2, 0)
theorem mh_160 : am_Ys 160 = some mz_160 := rfl
theorem w160_0 {ext : Nat → List Value → am_M → Option am_R} {d : Nat} {P : am_R → Prop} (I : Nat → Nat → Int32) (L : Nat → Nat → Int64) (D : Nat → Nat → UInt64) (X : am_Rf) (v1 : Int32)
    (h : am_inb v1 128 = true ∧ (((I 42 50) = 0 ∨ (I 42 50) = 1) ∧ (am_inb v1 128 = true ∧ (am_inb v1 128 = true ∧ (P (none, (am_uI I 65 (Int32.toNatClampNeg v1) (I 42 50), am_uL (am_uL L 63 (Int32.toNatClampNeg v1) (L 42 51)) 64 (Int32.toNatClampNeg v1) (L 42 52), D, am_rf X))))))) : am_wp ext d mz_160 (0, [some (.ref 42), some (.int v1)], [], (I, L, D, am_rf X)) P := by
  refine am_wpb (c' := (9, [some (.ref 42), some (.int v1)], [.int (I 42 50), .int v1, .ref 65], (I, L, D, am_rf X))) 5 rfl ?_
  obtain ⟨o, h⟩ := h
  obtain ⟨o2, h⟩ := h
  refine am_wps (c' := (10, [some (.ref 42), some (.int v1)], [], (am_uI I 65 (Int32.toNatClampNeg v1) (I 42 50), L, D, am_rf X))) rfl rfl (am_s_zast rfl o o2) ?_
  refine am_wpb (c' := (19, [some (.ref 42), some (.int v1)], [.long (L 42 51), .int v1, .ref 63], (am_uI I 65 (Int32.toNatClampNeg v1) (I 42 50), L, D, am_rf X))) 5 rfl ?_
  obtain ⟨o, h⟩ := h
  refine am_wps (c' := (20, [some (.ref 42), some (.int v1)], [], (am_uI I 65 (Int32.toNatClampNeg v1) (I 42 50), am_uL L 63 (Int32.toNatClampNeg v1) (L 42 51), D, am_rf X))) rfl rfl (am_s_last rfl o) ?_
  refine am_wpb (c' := (29, [some (.ref 42), some (.int v1)], [.long (L 42 52), .int v1, .ref 64], (am_uI I 65 (Int32.toNatClampNeg v1) (I 42 50), am_uL L 63 (Int32.toNatClampNeg v1) (L 42 51), D, am_rf X))) 5 rfl ?_
  obtain ⟨o, h⟩ := h
  refine am_wps (c' := (30, [some (.ref 42), some (.int v1)], [], (am_uI I 65 (Int32.toNatClampNeg v1) (I 42 50), am_uL (am_uL L 63 (Int32.toNatClampNeg v1) (L 42 51)) 64 (Int32.toNatClampNeg v1) (L 42 52), D, am_rf X))) rfl rfl (am_s_last rfl o) ?_
  exact am_ret_v rfl rfl h
/-- SureSumsModel.goesOn(I)V -/
def mz_161 : am_Y := (fun pc => am_q161.lookup pc, 7, 0)
theorem mh_161 : am_Ys 161 = some mz_161 := rfl
theorem w161_0 {ext : Nat → List Value → am_M → Option am_R} {d : Nat} {P : am_R → Prop} (I : Nat → Nat → Int32) (L : Nat → Nat → Int64) (D : Nat → Nat → UInt64) (X : am_Rf) (v1 : Int32)
    (h : am_inb v1 128 = true ∧ (am_inb v1 128 = true ∧ (am_inb v1 128 = true ∧ (am_inb v1 128 = true ∧ (am_inb (I 59 (Int32.toNatClampNeg v1)) 192 = true ∧ (((¬ (I 45 (Int32.toNatClampNeg (I 59 (Int32.toNatClampNeg v1)))) = 0 → (((¬ (I 45 (Int32.toNatClampNeg (I 59 (Int32.toNatClampNeg v1)))) = 1 → (((¬ (I 45 (Int32.toNatClampNeg (I 59 (Int32.toNatClampNeg v1)))) = 2 → (((5 < (I 45 (Int32.toNatClampNeg (I 59 (Int32.toNatClampNeg v1)))) → (((11 < (I 45 (Int32.toNatClampNeg (I 59 (Int32.toNatClampNeg v1)))) → (((13 < (I 45 (Int32.toNatClampNeg (I 59 (Int32.toNatClampNeg v1)))) → (((¬ (I 45 (Int32.toNatClampNeg (I 59 (Int32.toNatClampNeg v1)))) = 14 → (am_inb (I 59 (Int32.toNatClampNeg v1)) 192 = true ∧ (((¬ (I 46 (Int32.toNatClampNeg (I 59 (Int32.toNatClampNeg v1)))) = 0 → (∃ (I1 : Nat → Nat → Int32) (L1 : Nat → Nat → Int64) (D1 : Nat → Nat → UInt64), am_Rn ext d 169 [.ref 42, .int v1, .int (I 59 (Int32.toNatClampNeg v1)), .int (I 60 (Int32.toNatClampNeg v1))] (am_uI I 60 (Int32.toNatClampNeg v1) ((I 60 (Int32.toNatClampNeg v1)) + 1), L, D, am_rf X) (none, (I1, L1, D1, am_rf X)) ∧ (P (none, (I1, L1, D1, am_rf X))))) ∧ ((I 46 (Int32.toNatClampNeg (I 59 (Int32.toNatClampNeg v1)))) = 0 → (∃ (I2 : Nat → Nat → Int32) (L2 : Nat → Nat → Int64) (D2 : Nat → Nat → UInt64), am_Rn ext d 167 [.ref 42, .int v1, .int (I 59 (Int32.toNatClampNeg v1)), .int (I 60 (Int32.toNatClampNeg v1))] (am_uI I 60 (Int32.toNatClampNeg v1) ((I 60 (Int32.toNatClampNeg v1)) + 1), L, D, am_rf X) (none, (I2, L2, D2, am_rf X)) ∧ (P (none, (I2, L2, D2, am_rf X))))))))) ∧ ((I 45 (Int32.toNatClampNeg (I 59 (Int32.toNatClampNeg v1)))) = 14 → (∃ (I3 : Nat → Nat → Int32) (L3 : Nat → Nat → Int64) (D3 : Nat → Nat → UInt64), am_Rn ext d 166 [.ref 42, .int v1, .int (I 59 (Int32.toNatClampNeg v1)), .int (I 60 (Int32.toNatClampNeg v1))] (am_uI I 60 (Int32.toNatClampNeg v1) ((I 60 (Int32.toNatClampNeg v1)) + 1), L, D, am_rf X) (none, (I3, L3, D3, am_rf X)) ∧ (P (none, (I3, L3, D3, am_rf X)))))))) ∧ (¬ 13 < (I 45 (Int32.toNatClampNeg (I 59 (Int32.toNatClampNeg v1)))) → (∃ (I4 : Nat → Nat → Int32) (L4 : Nat → Nat → Int64) (D4 : Nat → Nat → UInt64), am_Rn ext d 165 [.ref 42, .int v1, .int (I 59 (Int32.toNatClampNeg v1)), .int (I 60 (Int32.toNatClampNeg v1))] (am_uI I 60 (Int32.toNatClampNeg v1) ((I 60 (Int32.toNatClampNeg v1)) + 1), L, D, am_rf X) (none, (I4, L4, D4, am_rf X)) ∧ (P (none, (I4, L4, D4, am_rf X)))))))) ∧ (¬ 11 < (I 45 (Int32.toNatClampNeg (I 59 (Int32.toNatClampNeg v1)))) → (((¬ (I 60 (Int32.toNatClampNeg v1)) = 1 → (am_wp ext d mz_161 (199, [some (.ref 42), some (.int v1), some (.int (I 59 (Int32.toNatClampNeg v1))), some (.int (I 60 (Int32.toNatClampNeg v1))), some (.int (I 45 (Int32.toNatClampNeg (I 59 (Int32.toNatClampNeg v1))))), none, none], [], (am_uI I 60 (Int32.toNatClampNeg v1) ((I 60 (Int32.toNatClampNeg v1)) + 1), L, D, am_rf X)) P)) ∧ ((I 60 (Int32.toNatClampNeg v1)) = 1 → (∃ (I5 : Nat → Nat → Int32) (L5 : Nat → Nat → Int64) (D5 : Nat → Nat → UInt64), am_Rn ext d 160 [.ref 42, .int v1] (am_uI I 60 (Int32.toNatClampNeg v1) ((I 60 (Int32.toNatClampNeg v1)) + 1), L, D, am_rf X) (none, (I5, L5, D5, am_rf X)) ∧ (am_wp ext d mz_161 (199, [some (.ref 42), some (.int v1), some (.int (I 59 (Int32.toNatClampNeg v1))), some (.int (I 60 (Int32.toNatClampNeg v1))), some (.int (I 45 (Int32.toNatClampNeg (I 59 (Int32.toNatClampNeg v1))))), none, none], [], (I5, L5, D5, am_rf X)) P))))))))) ∧ (¬ 5 < (I 45 (Int32.toNatClampNeg (I 59 (Int32.toNatClampNeg v1)))) → (((¬ (I 60 (Int32.toNatClampNeg v1)) = 0 → (∃ (I6 : Nat → Nat → Int32) (L6 : Nat → Nat → Int64) (D6 : Nat → Nat → UInt64), am_Rn ext d 162 [.ref 42, .int (I 45 (Int32.toNatClampNeg (I 59 (Int32.toNatClampNeg v1))))] (am_uI I 60 (Int32.toNatClampNeg v1) ((I 60 (Int32.toNatClampNeg v1)) + 1), L, D, am_rf X) (none, (I6, L6, D6, am_rf X)) ∧ (P (none, (I6, L6, D6, am_rf X))))) ∧ ((I 60 (Int32.toNatClampNeg v1)) = 0 → (am_inb (I 59 (Int32.toNatClampNeg v1)) 192 = true ∧ (am_inb v1 128 = true ∧ (am_inb v1 128 = true ∧ (∃ (I7 : Nat → Nat → Int32) (L7 : Nat → Nat → Int64) (D7 : Nat → Nat → UInt64), am_Rn ext d 150 [.ref 42, .int (I 47 (Int32.toNatClampNeg (I 59 (Int32.toNatClampNeg v1)))), .long (L 61 (Int32.toNatClampNeg v1)), .long (L 62 (Int32.toNatClampNeg v1))] (am_uI I 60 (Int32.toNatClampNeg v1) ((I 60 (Int32.toNatClampNeg v1)) + 1), L, D, am_rf X) (none, (I7, L7, D7, am_rf X)) ∧ (P (none, (I7, L7, D7, am_rf X)))))))))))))) ∧ ((I 45 (Int32.toNatClampNeg (I 59 (Int32.toNatClampNeg v1)))) = 2 → (((¬ (I 60 (Int32.toNatClampNeg v1)) = 0 → (∃ (I8 : Nat → Nat → Int32) (L8 : Nat → Nat → Int64) (D8 : Nat → Nat → UInt64), am_Rn ext d 151 [.ref 42, .int (I 42 50), .long (L 42 51), .long (L 42 52)] (am_uI I 60 (Int32.toNatClampNeg v1) ((I 60 (Int32.toNatClampNeg v1)) + 1), L, D, am_rf X) (none, (I8, L8, D8, am_rf X)) ∧ (P (none, (I8, L8, D8, am_rf X))))) ∧ ((I 60 (Int32.toNatClampNeg v1)) = 0 → (am_inb (I 59 (Int32.toNatClampNeg v1)) 192 = true ∧ (am_inb (I 46 (Int32.toNatClampNeg (I 59 (Int32.toNatClampNeg v1)))) 52 = true ∧ (∃ (I9 : Nat → Nat → Int32) (L9 : Nat → Nat → Int64) (D9 : Nat → Nat → UInt64), am_Rn ext d 150 [.ref 42, .int (I 52 (Int32.toNatClampNeg (I 46 (Int32.toNatClampNeg (I 59 (Int32.toNatClampNeg v1)))))), .long 0, .long 0] (am_uI I 60 (Int32.toNatClampNeg v1) ((I 60 (Int32.toNatClampNeg v1)) + 1), L, D, am_rf X) (none, (I9, L9, D9, am_rf X)) ∧ (P (none, (I9, L9, D9, am_rf X))))))))))))) ∧ ((I 45 (Int32.toNatClampNeg (I 59 (Int32.toNatClampNeg v1)))) = 1 → (am_inb v1 128 = true ∧ (am_inb v1 128 = true ∧ (∃ (I10 : Nat → Nat → Int32) (L10 : Nat → Nat → Int64) (D10 : Nat → Nat → UInt64), am_Rn ext d 151 [.ref 42, .int 1, .long (L 61 (Int32.toNatClampNeg v1)), .long (L 62 (Int32.toNatClampNeg v1))] (am_uI I 60 (Int32.toNatClampNeg v1) ((I 60 (Int32.toNatClampNeg v1)) + 1), L, D, am_rf X) (none, (I10, L10, D10, am_rf X)) ∧ (P (none, (I10, L10, D10, am_rf X)))))))))) ∧ ((I 45 (Int32.toNatClampNeg (I 59 (Int32.toNatClampNeg v1)))) = 0 → (am_inb (I 59 (Int32.toNatClampNeg v1)) 192 = true ∧ (∃ (I11 : Nat → Nat → Int32) (L11 : Nat → Nat → Int64) (D11 : Nat → Nat → UInt64), am_Rn ext d 151 [.ref 42, .int 1, .long ((Int32.toInt64 (I 46 (Int32.toNatClampNeg (I 59 (Int32.toNatClampNeg v1))))) <<< ((Int32.toInt64 (I 42 48)) &&& 63)), .long ((Int32.toInt64 (I 46 (Int32.toNatClampNeg (I 59 (Int32.toNatClampNeg v1))))) <<< ((Int32.toInt64 (I 42 48)) &&& 63))] (am_uI I 60 (Int32.toNatClampNeg v1) ((I 60 (Int32.toNatClampNeg v1)) + 1), L, D, am_rf X) (none, (I11, L11, D11, am_rf X)) ∧ (P (none, (I11, L11, D11, am_rf X))))))))))))) : am_wp ext d mz_161 (0, [some (.ref 42), some (.int v1), none, none, none, none, none], [], (I, L, D, am_rf X)) P := by
  refine am_wpb (c' := (5, [some (.ref 42), some (.int v1), none, none, none, none, none], [.int v1, .ref 59], (I, L, D, am_rf X))) 3 rfl ?_
  obtain ⟨o, h⟩ := h
  refine am_wps (c' := (6, [some (.ref 42), some (.int v1), none, none, none, none, none], [.int (I 59 (Int32.toNatClampNeg v1))], (I, L, D, am_rf X))) rfl rfl (am_s_iald rfl o) ?_
  refine am_wpb (c' := (12, [some (.ref 42), some (.int v1), some (.int (I 59 (Int32.toNatClampNeg v1))), none, none, none, none], [.int v1, .ref 60], (I, L, D, am_rf X))) 4 rfl ?_
  obtain ⟨o, h⟩ := h
  refine am_wps (c' := (13, [some (.ref 42), some (.int v1), some (.int (I 59 (Int32.toNatClampNeg v1))), none, none, none, none], [.int (I 60 (Int32.toNatClampNeg v1))], (I, L, D, am_rf X))) rfl rfl (am_s_iald rfl o) ?_
  refine am_wpb (c' := (20, [some (.ref 42), some (.int v1), some (.int (I 59 (Int32.toNatClampNeg v1))), some (.int (I 60 (Int32.toNatClampNeg v1))), none, none, none], [.int v1, .ref 60, .int v1, .ref 60], (I, L, D, am_rf X))) 5 rfl ?_
  obtain ⟨o, h⟩ := h
  refine am_wps (c' := (21, [some (.ref 42), some (.int v1), some (.int (I 59 (Int32.toNatClampNeg v1))), some (.int (I 60 (Int32.toNatClampNeg v1))), none, none, none], [.int (I 60 (Int32.toNatClampNeg v1)), .int v1, .ref 60], (I, L, D, am_rf X))) rfl rfl (am_s_iald rfl o) ?_
  refine am_wpb (c' := (23, [some (.ref 42), some (.int v1), some (.int (I 59 (Int32.toNatClampNeg v1))), some (.int (I 60 (Int32.toNatClampNeg v1))), none, none, none], [.int ((I 60 (Int32.toNatClampNeg v1)) + 1), .int v1, .ref 60], (I, L, D, am_rf X))) 2 rfl ?_
  obtain ⟨o, h⟩ := h
  refine am_wps (c' := (24, [some (.ref 42), some (.int v1), some (.int (I 59 (Int32.toNatClampNeg v1))), some (.int (I 60 (Int32.toNatClampNeg v1))), none, none, none], [], (am_uI I 60 (Int32.toNatClampNeg v1) ((I 60 (Int32.toNatClampNeg v1)) + 1), L, D, am_rf X))) rfl rfl (am_s_iast rfl o) ?_
  refine am_wpb (c' := (29, [some (.ref 42), some (.int v1), some (.int (I 59 (Int32.toNatClampNeg v1))), some (.int (I 60 (Int32.toNatClampNeg v1))), none, none, none], [.int (I 59 (Int32.toNatClampNeg v1)), .ref 45], (am_uI I 60 (Int32.toNatClampNeg v1) ((I 60 (Int32.toNatClampNeg v1)) + 1), L, D, am_rf X))) 3 rfl ?_
  obtain ⟨o, h⟩ := h
  refine am_wps (c' := (30, [some (.ref 42), some (.int v1), some (.int (I 59 (Int32.toNatClampNeg v1))), some (.int (I 60 (Int32.toNatClampNeg v1))), none, none, none], [.int (I 45 (Int32.toNatClampNeg (I 59 (Int32.toNatClampNeg v1))))], (am_uI I 60 (Int32.toNatClampNeg v1) ((I 60 (Int32.toNatClampNeg v1)) + 1), L, D, am_rf X))) rfl rfl (am_s_iald rfl o) ?_
  refine am_wpb (c' := (34, [some (.ref 42), some (.int v1), some (.int (I 59 (Int32.toNatClampNeg v1))), some (.int (I 60 (Int32.toNatClampNeg v1))), some (.int (I 45 (Int32.toNatClampNeg (I 59 (Int32.toNatClampNeg v1))))), none, none], [.int (I 45 (Int32.toNatClampNeg (I 59 (Int32.toNatClampNeg v1))))], (am_uI I 60 (Int32.toNatClampNeg v1) ((I 60 (Int32.toNatClampNeg v1)) + 1), L, D, am_rf X))) 2 rfl ?_
  refine am_b1_ne rfl (fun z => ?_) (fun z => ?_)
  · replace h := h.1 z
    refine am_wpb (c' := (66, [some (.ref 42), some (.int v1), some (.int (I 59 (Int32.toNatClampNeg v1))), some (.int (I 60 (Int32.toNatClampNeg v1))), some (.int (I 45 (Int32.toNatClampNeg (I 59 (Int32.toNatClampNeg v1))))), none, none], [.int 1, .int (I 45 (Int32.toNatClampNeg (I 59 (Int32.toNatClampNeg v1))))], (am_uI I 60 (Int32.toNatClampNeg v1) ((I 60 (Int32.toNatClampNeg v1)) + 1), L, D, am_rf X))) 2 rfl ?_
    refine am_b2_ne rfl (fun z => ?_) (fun z => ?_)
    · replace h := h.1 z
      refine am_wpb (c' := (92, [some (.ref 42), some (.int v1), some (.int (I 59 (Int32.toNatClampNeg v1))), some (.int (I 60 (Int32.toNatClampNeg v1))), some (.int (I 45 (Int32.toNatClampNeg (I 59 (Int32.toNatClampNeg v1))))), none, none], [.int 2, .int (I 45 (Int32.toNatClampNeg (I 59 (Int32.toNatClampNeg v1))))], (am_uI I 60 (Int32.toNatClampNeg v1) ((I 60 (Int32.toNatClampNeg v1)) + 1), L, D, am_rf X))) 2 rfl ?_
      refine am_b2_ne rfl (fun z => ?_) (fun z => ?_)
      · replace h := h.1 z
        refine am_wpb (c' := (141, [some (.ref 42), some (.int v1), some (.int (I 59 (Int32.toNatClampNeg v1))), some (.int (I 60 (Int32.toNatClampNeg v1))), some (.int (I 45 (Int32.toNatClampNeg (I 59 (Int32.toNatClampNeg v1))))), none, none], [.int 5, .int (I 45 (Int32.toNatClampNeg (I 59 (Int32.toNatClampNeg v1))))], (am_uI I 60 (Int32.toNatClampNeg v1) ((I 60 (Int32.toNatClampNeg v1)) + 1), L, D, am_rf X))) 2 rfl ?_
        refine am_b2_gt rfl (fun z => ?_) (fun z => ?_)
        · replace h := h.1 z
          refine am_wpb (c' := (186, [some (.ref 42), some (.int v1), some (.int (I 59 (Int32.toNatClampNeg v1))), some (.int (I 60 (Int32.toNatClampNeg v1))), some (.int (I 45 (Int32.toNatClampNeg (I 59 (Int32.toNatClampNeg v1))))), none, none], [.int 11, .int (I 45 (Int32.toNatClampNeg (I 59 (Int32.toNatClampNeg v1))))], (am_uI I 60 (Int32.toNatClampNeg v1) ((I 60 (Int32.toNatClampNeg v1)) + 1), L, D, am_rf X))) 2 rfl ?_
          refine am_b2_gt rfl (fun z => ?_) (fun z => ?_)
          · replace h := h.1 z
            refine am_wpb (c' := (256, [some (.ref 42), some (.int v1), some (.int (I 59 (Int32.toNatClampNeg v1))), some (.int (I 60 (Int32.toNatClampNeg v1))), some (.int (I 45 (Int32.toNatClampNeg (I 59 (Int32.toNatClampNeg v1))))), none, none], [.int 13, .int (I 45 (Int32.toNatClampNeg (I 59 (Int32.toNatClampNeg v1))))], (am_uI I 60 (Int32.toNatClampNeg v1) ((I 60 (Int32.toNatClampNeg v1)) + 1), L, D, am_rf X))) 2 rfl ?_
            refine am_b2_gt rfl (fun z => ?_) (fun z => ?_)
            · replace h := h.1 z
              refine am_wpb (c' := (273, [some (.ref 42), some (.int v1), some (.int (I 59 (Int32.toNatClampNeg v1))), some (.int (I 60 (Int32.toNatClampNeg v1))), some (.int (I 45 (Int32.toNatClampNeg (I 59 (Int32.toNatClampNeg v1))))), none, none], [.int 14, .int (I 45 (Int32.toNatClampNeg (I 59 (Int32.toNatClampNeg v1))))], (am_uI I 60 (Int32.toNatClampNeg v1) ((I 60 (Int32.toNatClampNeg v1)) + 1), L, D, am_rf X))) 2 rfl ?_
              refine am_b2_ne rfl (fun z => ?_) (fun z => ?_)
              · replace h := h.1 z
                refine am_wpb (c' := (291, [some (.ref 42), some (.int v1), some (.int (I 59 (Int32.toNatClampNeg v1))), some (.int (I 60 (Int32.toNatClampNeg v1))), some (.int (I 45 (Int32.toNatClampNeg (I 59 (Int32.toNatClampNeg v1))))), none, none], [.int (I 59 (Int32.toNatClampNeg v1)), .ref 46], (am_uI I 60 (Int32.toNatClampNeg v1) ((I 60 (Int32.toNatClampNeg v1)) + 1), L, D, am_rf X))) 3 rfl ?_
                obtain ⟨o, h⟩ := h
                refine am_wps (c' := (292, [some (.ref 42), some (.int v1), some (.int (I 59 (Int32.toNatClampNeg v1))), some (.int (I 60 (Int32.toNatClampNeg v1))), some (.int (I 45 (Int32.toNatClampNeg (I 59 (Int32.toNatClampNeg v1))))), none, none], [.int (I 46 (Int32.toNatClampNeg (I 59 (Int32.toNatClampNeg v1))))], (am_uI I 60 (Int32.toNatClampNeg v1) ((I 60 (Int32.toNatClampNeg v1)) + 1), L, D, am_rf X))) rfl rfl (am_s_iald rfl o) ?_
                refine am_b1_ne rfl (fun z => ?_) (fun z => ?_)
                · replace h := h.1 z
                  refine am_wpb (c' := (309, [some (.ref 42), some (.int v1), some (.int (I 59 (Int32.toNatClampNeg v1))), some (.int (I 60 (Int32.toNatClampNeg v1))), some (.int (I 45 (Int32.toNatClampNeg (I 59 (Int32.toNatClampNeg v1))))), none, none], [.int (I 60 (Int32.toNatClampNeg v1)), .int (I 59 (Int32.toNatClampNeg v1)), .int v1, .ref 42], (am_uI I 60 (Int32.toNatClampNeg v1) ((I 60 (Int32.toNatClampNeg v1)) + 1), L, D, am_rf X))) 4 rfl ?_
                  obtain ⟨I1, L1, D1, hr, h⟩ := h
                  refine am_wp_inv (as := [.ref 42, .int v1, .int (I 59 (Int32.toNatClampNeg v1)), .int (I 60 (Int32.toNatClampNeg v1))]) rfl rfl rfl rfl ⟨_, hr, ?_⟩
                  show am_wp ext d mz_161 (312, [some (.ref 42), some (.int v1), some (.int (I 59 (Int32.toNatClampNeg v1))), some (.int (I 60 (Int32.toNatClampNeg v1))), some (.int (I 45 (Int32.toNatClampNeg (I 59 (Int32.toNatClampNeg v1))))), none, none], [], (I1, L1, D1, am_rf X)) P
                  exact am_ret_v rfl rfl h
                · replace h := h.2 z
                  refine am_wpb (c' := (299, [some (.ref 42), some (.int v1), some (.int (I 59 (Int32.toNatClampNeg v1))), some (.int (I 60 (Int32.toNatClampNeg v1))), some (.int (I 45 (Int32.toNatClampNeg (I 59 (Int32.toNatClampNeg v1))))), none, none], [.int (I 60 (Int32.toNatClampNeg v1)), .int (I 59 (Int32.toNatClampNeg v1)), .int v1, .ref 42], (am_uI I 60 (Int32.toNatClampNeg v1) ((I 60 (Int32.toNatClampNeg v1)) + 1), L, D, am_rf X))) 4 rfl ?_
                  obtain ⟨I2, L2, D2, hr, h⟩ := h
                  refine am_wp_inv (as := [.ref 42, .int v1, .int (I 59 (Int32.toNatClampNeg v1)), .int (I 60 (Int32.toNatClampNeg v1))]) rfl rfl rfl rfl ⟨_, hr, ?_⟩
                  show am_wp ext d mz_161 (302, [some (.ref 42), some (.int v1), some (.int (I 59 (Int32.toNatClampNeg v1))), some (.int (I 60 (Int32.toNatClampNeg v1))), some (.int (I 45 (Int32.toNatClampNeg (I 59 (Int32.toNatClampNeg v1))))), none, none], [], (I2, L2, D2, am_rf X)) P
                  refine am_wpb (c' := (312, [some (.ref 42), some (.int v1), some (.int (I 59 (Int32.toNatClampNeg v1))), some (.int (I 60 (Int32.toNatClampNeg v1))), some (.int (I 45 (Int32.toNatClampNeg (I 59 (Int32.toNatClampNeg v1))))), none, none], [], (I2, L2, D2, am_rf X))) 1 rfl ?_
                  exact am_ret_v rfl rfl h
              · replace h := h.2 z
                refine am_wpb (c' := (280, [some (.ref 42), some (.int v1), some (.int (I 59 (Int32.toNatClampNeg v1))), some (.int (I 60 (Int32.toNatClampNeg v1))), some (.int (I 45 (Int32.toNatClampNeg (I 59 (Int32.toNatClampNeg v1))))), none, none], [.int (I 60 (Int32.toNatClampNeg v1)), .int (I 59 (Int32.toNatClampNeg v1)), .int v1, .ref 42], (am_uI I 60 (Int32.toNatClampNeg v1) ((I 60 (Int32.toNatClampNeg v1)) + 1), L, D, am_rf X))) 4 rfl ?_
                obtain ⟨I3, L3, D3, hr, h⟩ := h
                refine am_wp_inv (as := [.ref 42, .int v1, .int (I 59 (Int32.toNatClampNeg v1)), .int (I 60 (Int32.toNatClampNeg v1))]) rfl rfl rfl rfl ⟨_, hr, ?_⟩
                show am_wp ext d mz_161 (283, [some (.ref 42), some (.int v1), some (.int (I 59 (Int32.toNatClampNeg v1))), some (.int (I 60 (Int32.toNatClampNeg v1))), some (.int (I 45 (Int32.toNatClampNeg (I 59 (Int32.toNatClampNeg v1))))), none, none], [], (I3, L3, D3, am_rf X)) P
                refine am_wpb (c' := (312, [some (.ref 42), some (.int v1), some (.int (I 59 (Int32.toNatClampNeg v1))), some (.int (I 60 (Int32.toNatClampNeg v1))), some (.int (I 45 (Int32.toNatClampNeg (I 59 (Int32.toNatClampNeg v1))))), none, none], [], (I3, L3, D3, am_rf X))) 1 rfl ?_
                exact am_ret_v rfl rfl h
            · replace h := h.2 z
              refine am_wpb (c' := (263, [some (.ref 42), some (.int v1), some (.int (I 59 (Int32.toNatClampNeg v1))), some (.int (I 60 (Int32.toNatClampNeg v1))), some (.int (I 45 (Int32.toNatClampNeg (I 59 (Int32.toNatClampNeg v1))))), none, none], [.int (I 60 (Int32.toNatClampNeg v1)), .int (I 59 (Int32.toNatClampNeg v1)), .int v1, .ref 42], (am_uI I 60 (Int32.toNatClampNeg v1) ((I 60 (Int32.toNatClampNeg v1)) + 1), L, D, am_rf X))) 4 rfl ?_
              obtain ⟨I4, L4, D4, hr, h⟩ := h
              refine am_wp_inv (as := [.ref 42, .int v1, .int (I 59 (Int32.toNatClampNeg v1)), .int (I 60 (Int32.toNatClampNeg v1))]) rfl rfl rfl rfl ⟨_, hr, ?_⟩
              show am_wp ext d mz_161 (266, [some (.ref 42), some (.int v1), some (.int (I 59 (Int32.toNatClampNeg v1))), some (.int (I 60 (Int32.toNatClampNeg v1))), some (.int (I 45 (Int32.toNatClampNeg (I 59 (Int32.toNatClampNeg v1))))), none, none], [], (I4, L4, D4, am_rf X)) P
              refine am_wpb (c' := (312, [some (.ref 42), some (.int v1), some (.int (I 59 (Int32.toNatClampNeg v1))), some (.int (I 60 (Int32.toNatClampNeg v1))), some (.int (I 45 (Int32.toNatClampNeg (I 59 (Int32.toNatClampNeg v1))))), none, none], [], (I4, L4, D4, am_rf X))) 1 rfl ?_
              exact am_ret_v rfl rfl h
          · replace h := h.2 z
            refine am_wpb (c' := (191, [some (.ref 42), some (.int v1), some (.int (I 59 (Int32.toNatClampNeg v1))), some (.int (I 60 (Int32.toNatClampNeg v1))), some (.int (I 45 (Int32.toNatClampNeg (I 59 (Int32.toNatClampNeg v1))))), none, none], [.int 1, .int (I 60 (Int32.toNatClampNeg v1))], (am_uI I 60 (Int32.toNatClampNeg v1) ((I 60 (Int32.toNatClampNeg v1)) + 1), L, D, am_rf X))) 2 rfl ?_
            refine am_b2_ne rfl (fun z => ?_) (fun z => ?_)
            · replace h := h.1 z
              exact h
            · replace h := h.2 z
              refine am_wpb (c' := (196, [some (.ref 42), some (.int v1), some (.int (I 59 (Int32.toNatClampNeg v1))), some (.int (I 60 (Int32.toNatClampNeg v1))), some (.int (I 45 (Int32.toNatClampNeg (I 59 (Int32.toNatClampNeg v1))))), none, none], [.int v1, .ref 42], (am_uI I 60 (Int32.toNatClampNeg v1) ((I 60 (Int32.toNatClampNeg v1)) + 1), L, D, am_rf X))) 2 rfl ?_
              obtain ⟨I5, L5, D5, hr, h⟩ := h
              refine am_wp_inv (as := [.ref 42, .int v1]) rfl rfl rfl rfl ⟨_, hr, ?_⟩
              show am_wp ext d mz_161 (199, [some (.ref 42), some (.int v1), some (.int (I 59 (Int32.toNatClampNeg v1))), some (.int (I 60 (Int32.toNatClampNeg v1))), some (.int (I 45 (Int32.toNatClampNeg (I 59 (Int32.toNatClampNeg v1))))), none, none], [], (I5, L5, D5, am_rf X)) P
              exact h
        · replace h := h.2 z
          refine am_wpb (c' := (145, [some (.ref 42), some (.int v1), some (.int (I 59 (Int32.toNatClampNeg v1))), some (.int (I 60 (Int32.toNatClampNeg v1))), some (.int (I 45 (Int32.toNatClampNeg (I 59 (Int32.toNatClampNeg v1))))), none, none], [.int (I 60 (Int32.toNatClampNeg v1))], (am_uI I 60 (Int32.toNatClampNeg v1) ((I 60 (Int32.toNatClampNeg v1)) + 1), L, D, am_rf X))) 1 rfl ?_
          refine am_b1_ne rfl (fun z => ?_) (fun z => ?_)
          · replace h := h.1 z
            refine am_wpb (c' := (176, [some (.ref 42), some (.int v1), some (.int (I 59 (Int32.toNatClampNeg v1))), some (.int (I 60 (Int32.toNatClampNeg v1))), some (.int (I 45 (Int32.toNatClampNeg (I 59 (Int32.toNatClampNeg v1))))), none, none], [.int (I 45 (Int32.toNatClampNeg (I 59 (Int32.toNatClampNeg v1)))), .ref 42], (am_uI I 60 (Int32.toNatClampNeg v1) ((I 60 (Int32.toNatClampNeg v1)) + 1), L, D, am_rf X))) 2 rfl ?_
            obtain ⟨I6, L6, D6, hr, h⟩ := h
            refine am_wp_inv (as := [.ref 42, .int (I 45 (Int32.toNatClampNeg (I 59 (Int32.toNatClampNeg v1))))]) rfl rfl rfl rfl ⟨_, hr, ?_⟩
            show am_wp ext d mz_161 (179, [some (.ref 42), some (.int v1), some (.int (I 59 (Int32.toNatClampNeg v1))), some (.int (I 60 (Int32.toNatClampNeg v1))), some (.int (I 45 (Int32.toNatClampNeg (I 59 (Int32.toNatClampNeg v1))))), none, none], [], (I6, L6, D6, am_rf X)) P
            refine am_wpb (c' := (312, [some (.ref 42), some (.int v1), some (.int (I 59 (Int32.toNatClampNeg v1))), some (.int (I 60 (Int32.toNatClampNeg v1))), some (.int (I 45 (Int32.toNatClampNeg (I 59 (Int32.toNatClampNeg v1))))), none, none], [], (I6, L6, D6, am_rf X))) 1 rfl ?_
            exact am_ret_v rfl rfl h
          · replace h := h.2 z
            refine am_wpb (c' := (154, [some (.ref 42), some (.int v1), some (.int (I 59 (Int32.toNatClampNeg v1))), some (.int (I 60 (Int32.toNatClampNeg v1))), some (.int (I 45 (Int32.toNatClampNeg (I 59 (Int32.toNatClampNeg v1))))), none, none], [.int (I 59 (Int32.toNatClampNeg v1)), .ref 47, .ref 42], (am_uI I 60 (Int32.toNatClampNeg v1) ((I 60 (Int32.toNatClampNeg v1)) + 1), L, D, am_rf X))) 4 rfl ?_
            obtain ⟨o, h⟩ := h
            refine am_wps (c' := (155, [some (.ref 42), some (.int v1), some (.int (I 59 (Int32.toNatClampNeg v1))), some (.int (I 60 (Int32.toNatClampNeg v1))), some (.int (I 45 (Int32.toNatClampNeg (I 59 (Int32.toNatClampNeg v1))))), none, none], [.int (I 47 (Int32.toNatClampNeg (I 59 (Int32.toNatClampNeg v1)))), .ref 42], (am_uI I 60 (Int32.toNatClampNeg v1) ((I 60 (Int32.toNatClampNeg v1)) + 1), L, D, am_rf X))) rfl rfl (am_s_iald rfl o) ?_
            refine am_wpb (c' := (160, [some (.ref 42), some (.int v1), some (.int (I 59 (Int32.toNatClampNeg v1))), some (.int (I 60 (Int32.toNatClampNeg v1))), some (.int (I 45 (Int32.toNatClampNeg (I 59 (Int32.toNatClampNeg v1))))), none, none], [.int v1, .ref 61, .int (I 47 (Int32.toNatClampNeg (I 59 (Int32.toNatClampNeg v1)))), .ref 42], (am_uI I 60 (Int32.toNatClampNeg v1) ((I 60 (Int32.toNatClampNeg v1)) + 1), L, D, am_rf X))) 3 rfl ?_
            obtain ⟨o, h⟩ := h
            refine am_wps (c' := (161, [some (.ref 42), some (.int v1), some (.int (I 59 (Int32.toNatClampNeg v1))), some (.int (I 60 (Int32.toNatClampNeg v1))), some (.int (I 45 (Int32.toNatClampNeg (I 59 (Int32.toNatClampNeg v1))))), none, none], [.long (L 61 (Int32.toNatClampNeg v1)), .int (I 47 (Int32.toNatClampNeg (I 59 (Int32.toNatClampNeg v1)))), .ref 42], (am_uI I 60 (Int32.toNatClampNeg v1) ((I 60 (Int32.toNatClampNeg v1)) + 1), L, D, am_rf X))) rfl rfl (am_s_lald rfl o) ?_
            refine am_wpb (c' := (166, [some (.ref 42), some (.int v1), some (.int (I 59 (Int32.toNatClampNeg v1))), some (.int (I 60 (Int32.toNatClampNeg v1))), some (.int (I 45 (Int32.toNatClampNeg (I 59 (Int32.toNatClampNeg v1))))), none, none], [.int v1, .ref 62, .long (L 61 (Int32.toNatClampNeg v1)), .int (I 47 (Int32.toNatClampNeg (I 59 (Int32.toNatClampNeg v1)))), .ref 42], (am_uI I 60 (Int32.toNatClampNeg v1) ((I 60 (Int32.toNatClampNeg v1)) + 1), L, D, am_rf X))) 3 rfl ?_
            obtain ⟨o, h⟩ := h
            refine am_wps (c' := (167, [some (.ref 42), some (.int v1), some (.int (I 59 (Int32.toNatClampNeg v1))), some (.int (I 60 (Int32.toNatClampNeg v1))), some (.int (I 45 (Int32.toNatClampNeg (I 59 (Int32.toNatClampNeg v1))))), none, none], [.long (L 62 (Int32.toNatClampNeg v1)), .long (L 61 (Int32.toNatClampNeg v1)), .int (I 47 (Int32.toNatClampNeg (I 59 (Int32.toNatClampNeg v1)))), .ref 42], (am_uI I 60 (Int32.toNatClampNeg v1) ((I 60 (Int32.toNatClampNeg v1)) + 1), L, D, am_rf X))) rfl rfl (am_s_lald rfl o) ?_
            obtain ⟨I7, L7, D7, hr, h⟩ := h
            refine am_wp_inv (as := [.ref 42, .int (I 47 (Int32.toNatClampNeg (I 59 (Int32.toNatClampNeg v1)))), .long (L 61 (Int32.toNatClampNeg v1)), .long (L 62 (Int32.toNatClampNeg v1))]) rfl rfl rfl rfl ⟨_, hr, ?_⟩
            show am_wp ext d mz_161 (170, [some (.ref 42), some (.int v1), some (.int (I 59 (Int32.toNatClampNeg v1))), some (.int (I 60 (Int32.toNatClampNeg v1))), some (.int (I 45 (Int32.toNatClampNeg (I 59 (Int32.toNatClampNeg v1))))), none, none], [], (I7, L7, D7, am_rf X)) P
            refine am_wpb (c' := (312, [some (.ref 42), some (.int v1), some (.int (I 59 (Int32.toNatClampNeg v1))), some (.int (I 60 (Int32.toNatClampNeg v1))), some (.int (I 45 (Int32.toNatClampNeg (I 59 (Int32.toNatClampNeg v1))))), none, none], [], (I7, L7, D7, am_rf X))) 1 rfl ?_
            exact am_ret_v rfl rfl h
      · replace h := h.2 z
        refine am_wpb (c' := (96, [some (.ref 42), some (.int v1), some (.int (I 59 (Int32.toNatClampNeg v1))), some (.int (I 60 (Int32.toNatClampNeg v1))), some (.int (I 45 (Int32.toNatClampNeg (I 59 (Int32.toNatClampNeg v1))))), none, none], [.int (I 60 (Int32.toNatClampNeg v1))], (am_uI I 60 (Int32.toNatClampNeg v1) ((I 60 (Int32.toNatClampNeg v1)) + 1), L, D, am_rf X))) 1 rfl ?_
        refine am_b1_ne rfl (fun z => ?_) (fun z => ?_)
        · replace h := h.1 z
          refine am_wpb (c' := (132, [some (.ref 42), some (.int v1), some (.int (I 59 (Int32.toNatClampNeg v1))), some (.int (I 60 (Int32.toNatClampNeg v1))), some (.int (I 45 (Int32.toNatClampNeg (I 59 (Int32.toNatClampNeg v1))))), none, none], [.long (L 42 52), .long (L 42 51), .int (I 42 50), .ref 42], (am_uI I 60 (Int32.toNatClampNeg v1) ((I 60 (Int32.toNatClampNeg v1)) + 1), L, D, am_rf X))) 7 rfl ?_
          obtain ⟨I8, L8, D8, hr, h⟩ := h
          refine am_wp_inv (as := [.ref 42, .int (I 42 50), .long (L 42 51), .long (L 42 52)]) rfl rfl rfl rfl ⟨_, hr, ?_⟩
          show am_wp ext d mz_161 (135, [some (.ref 42), some (.int v1), some (.int (I 59 (Int32.toNatClampNeg v1))), some (.int (I 60 (Int32.toNatClampNeg v1))), some (.int (I 45 (Int32.toNatClampNeg (I 59 (Int32.toNatClampNeg v1))))), none, none], [], (I8, L8, D8, am_rf X)) P
          refine am_wpb (c' := (312, [some (.ref 42), some (.int v1), some (.int (I 59 (Int32.toNatClampNeg v1))), some (.int (I 60 (Int32.toNatClampNeg v1))), some (.int (I 45 (Int32.toNatClampNeg (I 59 (Int32.toNatClampNeg v1))))), none, none], [], (I8, L8, D8, am_rf X))) 1 rfl ?_
          exact am_ret_v rfl rfl h
        · replace h := h.2 z
          refine am_wpb (c' := (109, [some (.ref 42), some (.int v1), some (.int (I 59 (Int32.toNatClampNeg v1))), some (.int (I 60 (Int32.toNatClampNeg v1))), some (.int (I 45 (Int32.toNatClampNeg (I 59 (Int32.toNatClampNeg v1))))), none, none], [.int (I 59 (Int32.toNatClampNeg v1)), .ref 46, .ref 52, .ref 42], (am_uI I 60 (Int32.toNatClampNeg v1) ((I 60 (Int32.toNatClampNeg v1)) + 1), L, D, am_rf X))) 6 rfl ?_
          obtain ⟨o, h⟩ := h
          refine am_wps (c' := (110, [some (.ref 42), some (.int v1), some (.int (I 59 (Int32.toNatClampNeg v1))), some (.int (I 60 (Int32.toNatClampNeg v1))), some (.int (I 45 (Int32.toNatClampNeg (I 59 (Int32.toNatClampNeg v1))))), none, none], [.int (I 46 (Int32.toNatClampNeg (I 59 (Int32.toNatClampNeg v1)))), .ref 52, .ref 42], (am_uI I 60 (Int32.toNatClampNeg v1) ((I 60 (Int32.toNatClampNeg v1)) + 1), L, D, am_rf X))) rfl rfl (am_s_iald rfl o) ?_
          obtain ⟨o, h⟩ := h
          refine am_wps (c' := (111, [some (.ref 42), some (.int v1), some (.int (I 59 (Int32.toNatClampNeg v1))), some (.int (I 60 (Int32.toNatClampNeg v1))), some (.int (I 45 (Int32.toNatClampNeg (I 59 (Int32.toNatClampNeg v1))))), none, none], [.int (I 52 (Int32.toNatClampNeg (I 46 (Int32.toNatClampNeg (I 59 (Int32.toNatClampNeg v1)))))), .ref 42], (am_uI I 60 (Int32.toNatClampNeg v1) ((I 60 (Int32.toNatClampNeg v1)) + 1), L, D, am_rf X))) rfl rfl (am_s_iald rfl o) ?_
          refine am_wpb (c' := (113, [some (.ref 42), some (.int v1), some (.int (I 59 (Int32.toNatClampNeg v1))), some (.int (I 60 (Int32.toNatClampNeg v1))), some (.int (I 45 (Int32.toNatClampNeg (I 59 (Int32.toNatClampNeg v1))))), none, none], [.long 0, .long 0, .int (I 52 (Int32.toNatClampNeg (I 46 (Int32.toNatClampNeg (I 59 (Int32.toNatClampNeg v1)))))), .ref 42], (am_uI I 60 (Int32.toNatClampNeg v1) ((I 60 (Int32.toNatClampNeg v1)) + 1), L, D, am_rf X))) 2 rfl ?_
          obtain ⟨I9, L9, D9, hr, h⟩ := h
          refine am_wp_inv (as := [.ref 42, .int (I 52 (Int32.toNatClampNeg (I 46 (Int32.toNatClampNeg (I 59 (Int32.toNatClampNeg v1)))))), .long 0, .long 0]) rfl rfl rfl rfl ⟨_, hr, ?_⟩
          show am_wp ext d mz_161 (116, [some (.ref 42), some (.int v1), some (.int (I 59 (Int32.toNatClampNeg v1))), some (.int (I 60 (Int32.toNatClampNeg v1))), some (.int (I 45 (Int32.toNatClampNeg (I 59 (Int32.toNatClampNeg v1))))), none, none], [], (I9, L9, D9, am_rf X)) P
          refine am_wpb (c' := (312, [some (.ref 42), some (.int v1), some (.int (I 59 (Int32.toNatClampNeg v1))), some (.int (I 60 (Int32.toNatClampNeg v1))), some (.int (I 45 (Int32.toNatClampNeg (I 59 (Int32.toNatClampNeg v1))))), none, none], [], (I9, L9, D9, am_rf X))) 1 rfl ?_
          exact am_ret_v rfl rfl h
    · replace h := h.2 z
      refine am_wpb (c' := (76, [some (.ref 42), some (.int v1), some (.int (I 59 (Int32.toNatClampNeg v1))), some (.int (I 60 (Int32.toNatClampNeg v1))), some (.int (I 45 (Int32.toNatClampNeg (I 59 (Int32.toNatClampNeg v1))))), none, none], [.int v1, .ref 61, .int 1, .ref 42], (am_uI I 60 (Int32.toNatClampNeg v1) ((I 60 (Int32.toNatClampNeg v1)) + 1), L, D, am_rf X))) 5 rfl ?_
      obtain ⟨o, h⟩ := h
      refine am_wps (c' := (77, [some (.ref 42), some (.int v1), some (.int (I 59 (Int32.toNatClampNeg v1))), some (.int (I 60 (Int32.toNatClampNeg v1))), some (.int (I 45 (Int32.toNatClampNeg (I 59 (Int32.toNatClampNeg v1))))), none, none], [.long (L 61 (Int32.toNatClampNeg v1)), .int 1, .ref 42], (am_uI I 60 (Int32.toNatClampNeg v1) ((I 60 (Int32.toNatClampNeg v1)) + 1), L, D, am_rf X))) rfl rfl (am_s_lald rfl o) ?_
      refine am_wpb (c' := (82, [some (.ref 42), some (.int v1), some (.int (I 59 (Int32.toNatClampNeg v1))), some (.int (I 60 (Int32.toNatClampNeg v1))), some (.int (I 45 (Int32.toNatClampNeg (I 59 (Int32.toNatClampNeg v1))))), none, none], [.int v1, .ref 62, .long (L 61 (Int32.toNatClampNeg v1)), .int 1, .ref 42], (am_uI I 60 (Int32.toNatClampNeg v1) ((I 60 (Int32.toNatClampNeg v1)) + 1), L, D, am_rf X))) 3 rfl ?_
      obtain ⟨o, h⟩ := h
      refine am_wps (c' := (83, [some (.ref 42), some (.int v1), some (.int (I 59 (Int32.toNatClampNeg v1))), some (.int (I 60 (Int32.toNatClampNeg v1))), some (.int (I 45 (Int32.toNatClampNeg (I 59 (Int32.toNatClampNeg v1))))), none, none], [.long (L 62 (Int32.toNatClampNeg v1)), .long (L 61 (Int32.toNatClampNeg v1)), .int 1, .ref 42], (am_uI I 60 (Int32.toNatClampNeg v1) ((I 60 (Int32.toNatClampNeg v1)) + 1), L, D, am_rf X))) rfl rfl (am_s_lald rfl o) ?_
      obtain ⟨I10, L10, D10, hr, h⟩ := h
      refine am_wp_inv (as := [.ref 42, .int 1, .long (L 61 (Int32.toNatClampNeg v1)), .long (L 62 (Int32.toNatClampNeg v1))]) rfl rfl rfl rfl ⟨_, hr, ?_⟩
      show am_wp ext d mz_161 (86, [some (.ref 42), some (.int v1), some (.int (I 59 (Int32.toNatClampNeg v1))), some (.int (I 60 (Int32.toNatClampNeg v1))), some (.int (I 45 (Int32.toNatClampNeg (I 59 (Int32.toNatClampNeg v1))))), none, none], [], (I10, L10, D10, am_rf X)) P
      refine am_wpb (c' := (312, [some (.ref 42), some (.int v1), some (.int (I 59 (Int32.toNatClampNeg v1))), some (.int (I 60 (Int32.toNatClampNeg v1))), some (.int (I 45 (Int32.toNatClampNeg (I 59 (Int32.toNatClampNeg v1))))), none, none], [], (I10, L10, D10, am_rf X))) 1 rfl ?_
      exact am_ret_v rfl rfl h
  · replace h := h.2 z
    refine am_wpb (c' := (42, [some (.ref 42), some (.int v1), some (.int (I 59 (Int32.toNatClampNeg v1))), some (.int (I 60 (Int32.toNatClampNeg v1))), some (.int (I 45 (Int32.toNatClampNeg (I 59 (Int32.toNatClampNeg v1))))), none, none], [.int (I 59 (Int32.toNatClampNeg v1)), .ref 46], (am_uI I 60 (Int32.toNatClampNeg v1) ((I 60 (Int32.toNatClampNeg v1)) + 1), L, D, am_rf X))) 3 rfl ?_
    obtain ⟨o, h⟩ := h
    refine am_wps (c' := (43, [some (.ref 42), some (.int v1), some (.int (I 59 (Int32.toNatClampNeg v1))), some (.int (I 60 (Int32.toNatClampNeg v1))), some (.int (I 45 (Int32.toNatClampNeg (I 59 (Int32.toNatClampNeg v1))))), none, none], [.int (I 46 (Int32.toNatClampNeg (I 59 (Int32.toNatClampNeg v1))))], (am_uI I 60 (Int32.toNatClampNeg v1) ((I 60 (Int32.toNatClampNeg v1)) + 1), L, D, am_rf X))) rfl rfl (am_s_iald rfl o) ?_
    refine am_wpb (c' := (57, [some (.ref 42), some (.int v1), some (.int (I 59 (Int32.toNatClampNeg v1))), some (.int (I 60 (Int32.toNatClampNeg v1))), some (.int (I 45 (Int32.toNatClampNeg (I 59 (Int32.toNatClampNeg v1))))), some (.long ((Int32.toInt64 (I 46 (Int32.toNatClampNeg (I 59 (Int32.toNatClampNeg v1))))) <<< ((Int32.toInt64 (I 42 48)) &&& 63))), none], [.long ((Int32.toInt64 (I 46 (Int32.toNatClampNeg (I 59 (Int32.toNatClampNeg v1))))) <<< ((Int32.toInt64 (I 42 48)) &&& 63)), .long ((Int32.toInt64 (I 46 (Int32.toNatClampNeg (I 59 (Int32.toNatClampNeg v1))))) <<< ((Int32.toInt64 (I 42 48)) &&& 63)), .int 1, .ref 42], (am_uI I 60 (Int32.toNatClampNeg v1) ((I 60 (Int32.toNatClampNeg v1)) + 1), L, D, am_rf X))) 9 rfl ?_
    obtain ⟨I11, L11, D11, hr, h⟩ := h
    refine am_wp_inv (as := [.ref 42, .int 1, .long ((Int32.toInt64 (I 46 (Int32.toNatClampNeg (I 59 (Int32.toNatClampNeg v1))))) <<< ((Int32.toInt64 (I 42 48)) &&& 63)), .long ((Int32.toInt64 (I 46 (Int32.toNatClampNeg (I 59 (Int32.toNatClampNeg v1))))) <<< ((Int32.toInt64 (I 42 48)) &&& 63))]) rfl rfl rfl rfl ⟨_, hr, ?_⟩
    show am_wp ext d mz_161 (60, [some (.ref 42), some (.int v1), some (.int (I 59 (Int32.toNatClampNeg v1))), some (.int (I 60 (Int32.toNatClampNeg v1))), some (.int (I 45 (Int32.toNatClampNeg (I 59 (Int32.toNatClampNeg v1))))), some (.long ((Int32.toInt64 (I 46 (Int32.toNatClampNeg (I 59 (Int32.toNatClampNeg v1))))) <<< ((Int32.toInt64 (I 42 48)) &&& 63))), none], [], (I11, L11, D11, am_rf X)) P
    refine am_wpb (c' := (312, [some (.ref 42), some (.int v1), some (.int (I 59 (Int32.toNatClampNeg v1))), some (.int (I 60 (Int32.toNatClampNeg v1))), some (.int (I 45 (Int32.toNatClampNeg (I 59 (Int32.toNatClampNeg v1))))), some (.long ((Int32.toInt64 (I 46 (Int32.toNatClampNeg (I 59 (Int32.toNatClampNeg v1))))) <<< ((Int32.toInt64 (I 42 48)) &&& 63))), none], [], (I11, L11, D11, am_rf X))) 1 rfl ?_
    exact am_ret_v rfl rfl h
theorem w161_199 {ext : Nat → List Value → am_M → Option am_R} {d : Nat} {P : am_R → Prop} (I : Nat → Nat → Int32) (L : Nat → Nat → Int64) (D : Nat → Nat → UInt64) (X : am_Rf) (v1 : Int32) (v2 : Int32) (v3 : Int32) (v4 : Int32)
    (h : ((2 ≤ v3 → (∃ (I1 : Nat → Nat → Int32) (L1 : Nat → Nat → Int64) (D1 : Nat → Nat → UInt64), am_Rn ext d 163 [.ref 42, .int v1, .int v4] (I, L, D, am_rf X) (none, (I1, L1, D1, am_rf X)) ∧ (P (none, (I1, L1, D1, am_rf X))))) ∧ (¬ 2 ≤ v3 → (((¬ v3 = 0 → (am_inb v2 192 = true ∧ (am_inb v1 128 = true ∧ (am_inb v1 128 = true ∧ (∃ (I2 : Nat → Nat → Int32) (L2 : Nat → Nat → Int64) (D2 : Nat → Nat → UInt64), am_Rn ext d 150 [.ref 42, .int (I 48 (Int32.toNatClampNeg v2)), .long (L 61 (Int32.toNatClampNeg v1)), .long (L 62 (Int32.toNatClampNeg v1))] (I, L, D, am_rf X) (none, (I2, L2, D2, am_rf X)) ∧ (P (none, (I2, L2, D2, am_rf X)))))))) ∧ (v3 = 0 → (am_inb v2 192 = true ∧ (am_inb v1 128 = true ∧ (am_inb v1 128 = true ∧ (∃ (I3 : Nat → Nat → Int32) (L3 : Nat → Nat → Int64) (D3 : Nat → Nat → UInt64), am_Rn ext d 150 [.ref 42, .int (I 47 (Int32.toNatClampNeg v2)), .long (L 61 (Int32.toNatClampNeg v1)), .long (L 62 (Int32.toNatClampNeg v1))] (I, L, D, am_rf X) (none, (I3, L3, D3, am_rf X)) ∧ (P (none, (I3, L3, D3, am_rf X))))))))))))) : am_wp ext d mz_161 (199, [some (.ref 42), some (.int v1), some (.int v2), some (.int v3), some (.int v4), none, none], [], (I, L, D, am_rf X)) P := by
  refine am_wpb (c' := (201, [some (.ref 42), some (.int v1), some (.int v2), some (.int v3), some (.int v4), none, none], [.int 2, .int v3], (I, L, D, am_rf X))) 2 rfl ?_
  refine am_b2_ge rfl (fun z => ?_) (fun z => ?_)
  · replace h := h.1 z
    refine am_wpb (c' := (246, [some (.ref 42), some (.int v1), some (.int v2), some (.int v3), some (.int v4), none, none], [.int v4, .int v1, .ref 42], (I, L, D, am_rf X))) 3 rfl ?_
    obtain ⟨I1, L1, D1, hr, h⟩ := h
    refine am_wp_inv (as := [.ref 42, .int v1, .int v4]) rfl rfl rfl rfl ⟨_, hr, ?_⟩
    show am_wp ext d mz_161 (249, [some (.ref 42), some (.int v1), some (.int v2), some (.int v3), some (.int v4), none, none], [], (I1, L1, D1, am_rf X)) P
    refine am_wpb (c' := (312, [some (.ref 42), some (.int v1), some (.int v2), some (.int v3), some (.int v4), none, none], [], (I1, L1, D1, am_rf X))) 1 rfl ?_
    exact am_ret_v rfl rfl h
  · replace h := h.2 z
    refine am_wpb (c' := (206, [some (.ref 42), some (.int v1), some (.int v2), some (.int v3), some (.int v4), none, none], [.int v3, .ref 42], (I, L, D, am_rf X))) 2 rfl ?_
    refine am_b1_ne rfl (fun z => ?_) (fun z => ?_)
    · replace h := h.1 z
      refine am_wpb (c' := (223, [some (.ref 42), some (.int v1), some (.int v2), some (.int v3), some (.int v4), none, none], [.int v2, .ref 48, .ref 42], (I, L, D, am_rf X))) 3 rfl ?_
      obtain ⟨o, h⟩ := h
      refine am_wps (c' := (224, [some (.ref 42), some (.int v1), some (.int v2), some (.int v3), some (.int v4), none, none], [.int (I 48 (Int32.toNatClampNeg v2)), .ref 42], (I, L, D, am_rf X))) rfl rfl (am_s_iald rfl o) ?_
      refine am_wpb (c' := (229, [some (.ref 42), some (.int v1), some (.int v2), some (.int v3), some (.int v4), none, none], [.int v1, .ref 61, .int (I 48 (Int32.toNatClampNeg v2)), .ref 42], (I, L, D, am_rf X))) 3 rfl ?_
      obtain ⟨o, h⟩ := h
      refine am_wps (c' := (230, [some (.ref 42), some (.int v1), some (.int v2), some (.int v3), some (.int v4), none, none], [.long (L 61 (Int32.toNatClampNeg v1)), .int (I 48 (Int32.toNatClampNeg v2)), .ref 42], (I, L, D, am_rf X))) rfl rfl (am_s_lald rfl o) ?_
      refine am_wpb (c' := (235, [some (.ref 42), some (.int v1), some (.int v2), some (.int v3), some (.int v4), none, none], [.int v1, .ref 62, .long (L 61 (Int32.toNatClampNeg v1)), .int (I 48 (Int32.toNatClampNeg v2)), .ref 42], (I, L, D, am_rf X))) 3 rfl ?_
      obtain ⟨o, h⟩ := h
      refine am_wps (c' := (236, [some (.ref 42), some (.int v1), some (.int v2), some (.int v3), some (.int v4), none, none], [.long (L 62 (Int32.toNatClampNeg v1)), .long (L 61 (Int32.toNatClampNeg v1)), .int (I 48 (Int32.toNatClampNeg v2)), .ref 42], (I, L, D, am_rf X))) rfl rfl (am_s_lald rfl o) ?_
      obtain ⟨I2, L2, D2, hr, h⟩ := h
      refine am_wp_inv (as := [.ref 42, .int (I 48 (Int32.toNatClampNeg v2)), .long (L 61 (Int32.toNatClampNeg v1)), .long (L 62 (Int32.toNatClampNeg v1))]) rfl rfl rfl rfl ⟨_, hr, ?_⟩
      show am_wp ext d mz_161 (239, [some (.ref 42), some (.int v1), some (.int v2), some (.int v3), some (.int v4), none, none], [], (I2, L2, D2, am_rf X)) P
      refine am_wpb (c' := (312, [some (.ref 42), some (.int v1), some (.int v2), some (.int v3), some (.int v4), none, none], [], (I2, L2, D2, am_rf X))) 1 rfl ?_
      exact am_ret_v rfl rfl h
    · replace h := h.2 z
      refine am_wpb (c' := (214, [some (.ref 42), some (.int v1), some (.int v2), some (.int v3), some (.int v4), none, none], [.int v2, .ref 47, .ref 42], (I, L, D, am_rf X))) 3 rfl ?_
      obtain ⟨o, h⟩ := h
      refine am_wps (c' := (215, [some (.ref 42), some (.int v1), some (.int v2), some (.int v3), some (.int v4), none, none], [.int (I 47 (Int32.toNatClampNeg v2)), .ref 42], (I, L, D, am_rf X))) rfl rfl (am_s_iald rfl o) ?_
      refine am_wpb (c' := (229, [some (.ref 42), some (.int v1), some (.int v2), some (.int v3), some (.int v4), none, none], [.int v1, .ref 61, .int (I 47 (Int32.toNatClampNeg v2)), .ref 42], (I, L, D, am_rf X))) 4 rfl ?_
      obtain ⟨o, h⟩ := h
      refine am_wps (c' := (230, [some (.ref 42), some (.int v1), some (.int v2), some (.int v3), some (.int v4), none, none], [.long (L 61 (Int32.toNatClampNeg v1)), .int (I 47 (Int32.toNatClampNeg v2)), .ref 42], (I, L, D, am_rf X))) rfl rfl (am_s_lald rfl o) ?_
      refine am_wpb (c' := (235, [some (.ref 42), some (.int v1), some (.int v2), some (.int v3), some (.int v4), none, none], [.int v1, .ref 62, .long (L 61 (Int32.toNatClampNeg v1)), .int (I 47 (Int32.toNatClampNeg v2)), .ref 42], (I, L, D, am_rf X))) 3 rfl ?_
      obtain ⟨o, h⟩ := h
      refine am_wps (c' := (236, [some (.ref 42), some (.int v1), some (.int v2), some (.int v3), some (.int v4), none, none], [.long (L 62 (Int32.toNatClampNeg v1)), .long (L 61 (Int32.toNatClampNeg v1)), .int (I 47 (Int32.toNatClampNeg v2)), .ref 42], (I, L, D, am_rf X))) rfl rfl (am_s_lald rfl o) ?_
      obtain ⟨I3, L3, D3, hr, h⟩ := h
      refine am_wp_inv (as := [.ref 42, .int (I 47 (Int32.toNatClampNeg v2)), .long (L 61 (Int32.toNatClampNeg v1)), .long (L 62 (Int32.toNatClampNeg v1))]) rfl rfl rfl rfl ⟨_, hr, ?_⟩
      show am_wp ext d mz_161 (239, [some (.ref 42), some (.int v1), some (.int v2), some (.int v3), some (.int v4), none, none], [], (I3, L3, D3, am_rf X)) P
      refine am_wpb (c' := (312, [some (.ref 42), some (.int v1), some (.int v2), some (.int v3), some (.int v4), none, none], [], (I3, L3, D3, am_rf X))) 1 rfl ?_
      exact am_ret_v rfl rfl h
/-- SureSumsModel.alone(I)V -/
def mz_162 : am_Y := (fun pc => am_q162.lookup pc, 8, 0)
theorem mh_162 : am_Ys 162 = some mz_162 := rfl
theorem w162_0 {ext : Nat → List Value → am_M → Option am_R} {d : Nat} {P : am_R → Prop} (I : Nat → Nat → Int32) (L : Nat → Nat → Int64) (D : Nat → Nat → UInt64) (X : am_Rf) (v1 : Int32)
    (h : ((¬ (I 42 50) = 0 → (((¬ v1 = 3 → (((¬ v1 = 4 → (((0 < (L 42 51) → (am_wp ext d mz_162 (155, [some (.ref 42), none, none, none, none, none, none, none], [], (I, L, D, am_rf X)) P)) ∧ (¬ 0 < (L 42 51) → ((((L 42 52) < 0 → (am_wp ext d mz_162 (155, [some (.ref 42), none, none, none, none, none, none, none], [], (I, L, D, am_rf X)) P)) ∧ (¬ (L 42 52) < 0 → (∃ (r1 : Int64) (I1 : Nat → Nat → Int32) (L1 : Nat → Nat → Int64) (D1 : Nat → Nat → UInt64), am_Rn ext d 158 [.long (-(L 42 51)), .long (L 42 52)] (I, L, D, am_rf X) (some (.long r1), (I1, L1, D1, am_rf X)) ∧ (∃ (I2 : Nat → Nat → Int32) (L2 : Nat → Nat → Int64) (D2 : Nat → Nat → UInt64), am_Rn ext d 151 [.ref 42, .int 1, .long 0, .long r1] (I1, L1, D1, am_rf X) (none, (I2, L2, D2, am_rf X)) ∧ (P (none, (I2, L2, D2, am_rf X)))))))))))) ∧ (v1 = 4 → (((0 ≤ (L 42 51) → (∃ (r3 : Int64) (I3 : Nat → Nat → Int32) (L3 : Nat → Nat → Int64) (D3 : Nat → Nat → UInt64), am_Rn ext d 159 [.long ((L 42 51) <<< ((Int32.toInt64 (I 42 48)) &&& 63))] (I, L, D, am_rf X) (some (.long r3), (I3, L3, D3, am_rf X)) ∧ (∃ (r4 : Int64) (I4 : Nat → Nat → Int32) (L4 : Nat → Nat → Int64) (D4 : Nat → Nat → UInt64), am_Rn ext d 159 [.long ((L3 42 52) <<< ((Int32.toInt64 (I3 42 48)) &&& 63))] (I3, L3, D3, am_rf X) (some (.long r4), (I4, L4, D4, am_rf X)) ∧ (((((L3 42 52) <<< ((Int32.toInt64 (I3 42 48)) &&& 63)) ≤ (r4 * r4) → (∃ (I5 : Nat → Nat → Int32) (L5 : Nat → Nat → Int64) (D5 : Nat → Nat → UInt64), am_Rn ext d 151 [.ref 42, .int 1, .long r3, .long r4] (I4, L4, D4, am_rf X) (none, (I5, L5, D5, am_rf X)) ∧ (P (none, (I5, L5, D5, am_rf X))))) ∧ (¬ ((L3 42 52) <<< ((Int32.toInt64 (I3 42 48)) &&& 63)) ≤ (r4 * r4) → (∃ (I6 : Nat → Nat → Int32) (L6 : Nat → Nat → Int64) (D6 : Nat → Nat → UInt64), am_Rn ext d 151 [.ref 42, .int 1, .long r3, .long (r4 + 1)] (I4, L4, D4, am_rf X) (none, (I6, L6, D6, am_rf X)) ∧ (P (none, (I6, L6, D6, am_rf X)))))))))) ∧ (¬ 0 ≤ (L 42 51) → (∃ (I7 : Nat → Nat → Int32) (L7 : Nat → Nat → Int64) (D7 : Nat → Nat → UInt64), am_Rn ext d 152 [.ref 42] (I, L, D, am_rf X) (none, (I7, L7, D7, am_rf X)) ∧ (P (none, (I7, L7, D7, am_rf X))))))))))) ∧ (v1 = 3 → (∃ (I8 : Nat → Nat → Int32) (L8 : Nat → Nat → Int64) (D8 : Nat → Nat → UInt64), am_Rn ext d 151 [.ref 42, .int 1, .long (-(L 42 52)), .long (-(L 42 51))] (I, L, D, am_rf X) (none, (I8, L8, D8, am_rf X)) ∧ (P (none, (I8, L8, D8, am_rf X)))))))) ∧ ((I 42 50) = 0 → (∃ (I9 : Nat → Nat → Int32) (L9 : Nat → Nat → Int64) (D9 : Nat → Nat → UInt64), am_Rn ext d 152 [.ref 42] (I, L, D, am_rf X) (none, (I9, L9, D9, am_rf X)) ∧ (P (none, (I9, L9, D9, am_rf X))))))) : am_wp ext d mz_162 (0, [some (.ref 42), some (.int v1), none, none, none, none, none, none], [], (I, L, D, am_rf X)) P := by
  refine am_wpb (c' := (4, [some (.ref 42), some (.int v1), none, none, none, none, none, none], [.int (I 42 50)], (I, L, D, am_rf X))) 2 rfl ?_
  refine am_b1_ne rfl (fun z => ?_) (fun z => ?_)
  · replace h := h.1 z
    refine am_wpb (c' := (16, [some (.ref 42), some (.int v1), none, none, none, none, none, none], [.int 3, .int v1], (I, L, D, am_rf X))) 2 rfl ?_
    refine am_b2_ne rfl (fun z => ?_) (fun z => ?_)
    · replace h := h.1 z
      refine am_wpb (c' := (39, [some (.ref 42), some (.int v1), none, none, none, none, none, none], [.int 4, .int v1], (I, L, D, am_rf X))) 2 rfl ?_
      refine am_b2_ne rfl (fun z => ?_) (fun z => ?_)
      · replace h := h.1 z
        refine am_wpb (c' := (121, [some (.ref 42), some (.int v1), none, none, none, none, none, none], [.long 0, .long (L 42 51)], (I, L, D, am_rf X))) 3 rfl ?_
        refine am_lc_gt rfl rfl (fun z => ?_) (fun z => ?_)
        · replace h := h.1 z
          exact am_fgt (l := [some (.ref 42), none, none, none, none, none, none, none]) (am_le_of (am_leS (am_leN (am_leN (am_leN (am_leN (am_leN (am_leN (am_leN (am_leZ)))))))))) h
        · replace h := h.2 z
          refine am_wpb (c' := (130, [some (.ref 42), some (.int v1), none, none, none, none, none, none], [.long 0, .long (L 42 52)], (I, L, D, am_rf X))) 3 rfl ?_
          refine am_lc_lt rfl rfl (fun z => ?_) (fun z => ?_)
          · replace h := h.1 z
            exact am_fgt (l := [some (.ref 42), none, none, none, none, none, none, none]) (am_le_of (am_leS (am_leN (am_leN (am_leN (am_leN (am_leN (am_leN (am_leN (am_leZ)))))))))) h
          · replace h := h.2 z
            refine am_wpb (c' := (146, [some (.ref 42), some (.int v1), none, none, none, none, none, none], [.long (L 42 52), .long (-(L 42 51)), .long 0, .int 1, .ref 42], (I, L, D, am_rf X))) 8 rfl ?_
            obtain ⟨r1, I1, L1, D1, hr, h⟩ := h
            refine am_wp_inv (as := [.long (-(L 42 51)), .long (L 42 52)]) rfl rfl rfl rfl ⟨_, hr, ?_⟩
            show am_wp ext d mz_162 (149, [some (.ref 42), some (.int v1), none, none, none, none, none, none], [.long r1, .long 0, .int 1, .ref 42], (I1, L1, D1, am_rf X)) P
            obtain ⟨I2, L2, D2, hr, h⟩ := h
            refine am_wp_inv (as := [.ref 42, .int 1, .long 0, .long r1]) rfl rfl rfl rfl ⟨_, hr, ?_⟩
            show am_wp ext d mz_162 (152, [some (.ref 42), some (.int v1), none, none, none, none, none, none], [], (I2, L2, D2, am_rf X)) P
            refine am_wpb (c' := (195, [some (.ref 42), some (.int v1), none, none, none, none, none, none], [], (I2, L2, D2, am_rf X))) 1 rfl ?_
            exact am_ret_v rfl rfl h
      · replace h := h.2 z
        refine am_wpb (c' := (47, [some (.ref 42), some (.int v1), none, none, none, none, none, none], [.long 0, .long (L 42 51)], (I, L, D, am_rf X))) 3 rfl ?_
        refine am_lc_ge rfl rfl (fun z => ?_) (fun z => ?_)
        · replace h := h.1 z
          refine am_wpb (c' := (65, [some (.ref 42), some (.int v1), none, none, none, none, none, none], [.long ((L 42 51) <<< ((Int32.toInt64 (I 42 48)) &&& 63))], (I, L, D, am_rf X))) 5 rfl ?_
          obtain ⟨r3, I3, L3, D3, hr, h⟩ := h
          refine am_wp_inv (as := [.long ((L 42 51) <<< ((Int32.toInt64 (I 42 48)) &&& 63))]) rfl rfl rfl rfl ⟨_, hr, ?_⟩
          show am_wp ext d mz_162 (68, [some (.ref 42), some (.int v1), none, none, none, none, none, none], [.long r3], (I3, L3, D3, am_rf X)) P
          refine am_wpb (c' := (82, [some (.ref 42), some (.int v1), some (.long r3), none, some (.long ((L3 42 52) <<< ((Int32.toInt64 (I3 42 48)) &&& 63))), none, none, none], [.long ((L3 42 52) <<< ((Int32.toInt64 (I3 42 48)) &&& 63))], (I3, L3, D3, am_rf X))) 8 rfl ?_
          obtain ⟨r4, I4, L4, D4, hr, h⟩ := h
          refine am_wp_inv (as := [.long ((L3 42 52) <<< ((Int32.toInt64 (I3 42 48)) &&& 63))]) rfl rfl rfl rfl ⟨_, hr, ?_⟩
          show am_wp ext d mz_162 (85, [some (.ref 42), some (.int v1), some (.long r3), none, some (.long ((L3 42 52) <<< ((Int32.toInt64 (I3 42 48)) &&& 63))), none, none, none], [.long r4], (I4, L4, D4, am_rf X)) P
          refine am_wpb (c' := (97, [some (.ref 42), some (.int v1), some (.long r3), none, some (.long ((L3 42 52) <<< ((Int32.toInt64 (I3 42 48)) &&& 63))), none, some (.long r4), none], [.long ((L3 42 52) <<< ((Int32.toInt64 (I3 42 48)) &&& 63)), .long (r4 * r4), .long r3, .int 1, .ref 42], (I4, L4, D4, am_rf X))) 8 rfl ?_
          refine am_lc_ge rfl rfl (fun z => ?_) (fun z => ?_)
          · replace h := h.1 z
            refine am_wpb (c' := (110, [some (.ref 42), some (.int v1), some (.long r3), none, some (.long ((L3 42 52) <<< ((Int32.toInt64 (I3 42 48)) &&& 63))), none, some (.long r4), none], [.long r4, .long r3, .int 1, .ref 42], (I4, L4, D4, am_rf X))) 1 rfl ?_
            obtain ⟨I5, L5, D5, hr, h⟩ := h
            refine am_wp_inv (as := [.ref 42, .int 1, .long r3, .long r4]) rfl rfl rfl rfl ⟨_, hr, ?_⟩
            show am_wp ext d mz_162 (113, [some (.ref 42), some (.int v1), some (.long r3), none, some (.long ((L3 42 52) <<< ((Int32.toInt64 (I3 42 48)) &&& 63))), none, some (.long r4), none], [], (I5, L5, D5, am_rf X)) P
            refine am_wpb (c' := (195, [some (.ref 42), some (.int v1), some (.long r3), none, some (.long ((L3 42 52) <<< ((Int32.toInt64 (I3 42 48)) &&& 63))), none, some (.long r4), none], [], (I5, L5, D5, am_rf X))) 1 rfl ?_
            exact am_ret_v rfl rfl h
          · replace h := h.2 z
            refine am_wpb (c' := (110, [some (.ref 42), some (.int v1), some (.long r3), none, some (.long ((L3 42 52) <<< ((Int32.toInt64 (I3 42 48)) &&& 63))), none, some (.long r4), none], [.long (r4 + 1), .long r3, .int 1, .ref 42], (I4, L4, D4, am_rf X))) 4 rfl ?_
            obtain ⟨I6, L6, D6, hr, h⟩ := h
            refine am_wp_inv (as := [.ref 42, .int 1, .long r3, .long (r4 + 1)]) rfl rfl rfl rfl ⟨_, hr, ?_⟩
            show am_wp ext d mz_162 (113, [some (.ref 42), some (.int v1), some (.long r3), none, some (.long ((L3 42 52) <<< ((Int32.toInt64 (I3 42 48)) &&& 63))), none, some (.long r4), none], [], (I6, L6, D6, am_rf X)) P
            refine am_wpb (c' := (195, [some (.ref 42), some (.int v1), some (.long r3), none, some (.long ((L3 42 52) <<< ((Int32.toInt64 (I3 42 48)) &&& 63))), none, some (.long r4), none], [], (I6, L6, D6, am_rf X))) 1 rfl ?_
            exact am_ret_v rfl rfl h
        · replace h := h.2 z
          refine am_wpb (c' := (52, [some (.ref 42), some (.int v1), none, none, none, none, none, none], [.ref 42], (I, L, D, am_rf X))) 1 rfl ?_
          obtain ⟨I7, L7, D7, hr, h⟩ := h
          refine am_wp_inv (as := [.ref 42]) rfl rfl rfl rfl ⟨_, hr, ?_⟩
          show am_wp ext d mz_162 (55, [some (.ref 42), some (.int v1), none, none, none, none, none, none], [], (I7, L7, D7, am_rf X)) P
          exact am_ret_v rfl rfl h
    · replace h := h.2 z
      refine am_wpb (c' := (31, [some (.ref 42), some (.int v1), none, none, none, none, none, none], [.long (-(L 42 51)), .long (-(L 42 52)), .int 1, .ref 42], (I, L, D, am_rf X))) 8 rfl ?_
      obtain ⟨I8, L8, D8, hr, h⟩ := h
      refine am_wp_inv (as := [.ref 42, .int 1, .long (-(L 42 52)), .long (-(L 42 51))]) rfl rfl rfl rfl ⟨_, hr, ?_⟩
      show am_wp ext d mz_162 (34, [some (.ref 42), some (.int v1), none, none, none, none, none, none], [], (I8, L8, D8, am_rf X)) P
      refine am_wpb (c' := (195, [some (.ref 42), some (.int v1), none, none, none, none, none, none], [], (I8, L8, D8, am_rf X))) 1 rfl ?_
      exact am_ret_v rfl rfl h
  · replace h := h.2 z
    refine am_wpb (c' := (8, [some (.ref 42), some (.int v1), none, none, none, none, none, none], [.ref 42], (I, L, D, am_rf X))) 1 rfl ?_
    obtain ⟨I9, L9, D9, hr, h⟩ := h
    refine am_wp_inv (as := [.ref 42]) rfl rfl rfl rfl ⟨_, hr, ?_⟩
    show am_wp ext d mz_162 (11, [some (.ref 42), some (.int v1), none, none, none, none, none, none], [], (I9, L9, D9, am_rf X)) P
    refine am_wpb (c' := (195, [some (.ref 42), some (.int v1), none, none, none, none, none, none], [], (I9, L9, D9, am_rf X))) 1 rfl ?_
    exact am_ret_v rfl rfl h
theorem w162_155 {ext : Nat → List Value → am_M → Option am_R} {d : Nat} {P : am_R → Prop} (I : Nat → Nat → Int32) (L : Nat → Nat → Int64) (D : Nat → Nat → UInt64) (X : am_Rf)
    (h : (((L 42 51) ≤ 0 → (∃ (I1 : Nat → Nat → Int32) (L1 : Nat → Nat → Int64) (D1 : Nat → Nat → UInt64), am_Rn ext d 151 [.ref 42, .int 1, .long (-(L 42 52)), .long (-(L 42 51))] (I, L, D, am_rf X) (none, (I1, L1, D1, am_rf X)) ∧ (P (none, (I1, L1, D1, am_rf X))))) ∧ (¬ (L 42 51) ≤ 0 → (∃ (I2 : Nat → Nat → Int32) (L2 : Nat → Nat → Int64) (D2 : Nat → Nat → UInt64), am_Rn ext d 151 [.ref 42, .int 1, .long (L 42 51), .long (L 42 52)] (I, L, D, am_rf X) (none, (I2, L2, D2, am_rf X)) ∧ (P (none, (I2, L2, D2, am_rf X))))))) : am_wp ext d mz_162 (155, [some (.ref 42), none, none, none, none, none, none, none], [], (I, L, D, am_rf X)) P := by
  refine am_wpb (c' := (160, [some (.ref 42), none, none, none, none, none, none, none], [.long 0, .long (L 42 51)], (I, L, D, am_rf X))) 3 rfl ?_
  refine am_lc_le rfl rfl (fun z => ?_) (fun z => ?_)
  · replace h := h.1 z
    refine am_wpb (c' := (192, [some (.ref 42), none, none, none, none, none, none, none], [.long (-(L 42 51)), .long (-(L 42 52)), .int 1, .ref 42], (I, L, D, am_rf X))) 8 rfl ?_
    obtain ⟨I1, L1, D1, hr, h⟩ := h
    refine am_wp_inv (as := [.ref 42, .int 1, .long (-(L 42 52)), .long (-(L 42 51))]) rfl rfl rfl rfl ⟨_, hr, ?_⟩
    show am_wp ext d mz_162 (195, [some (.ref 42), none, none, none, none, none, none, none], [], (I1, L1, D1, am_rf X)) P
    exact am_ret_v rfl rfl h
  · replace h := h.2 z
    refine am_wpb (c' := (174, [some (.ref 42), none, none, none, none, none, none, none], [.long (L 42 52), .long (L 42 51), .int 1, .ref 42], (I, L, D, am_rf X))) 6 rfl ?_
    obtain ⟨I2, L2, D2, hr, h⟩ := h
    refine am_wp_inv (as := [.ref 42, .int 1, .long (L 42 51), .long (L 42 52)]) rfl rfl rfl rfl ⟨_, hr, ?_⟩
    show am_wp ext d mz_162 (177, [some (.ref 42), none, none, none, none, none, none, none], [], (I2, L2, D2, am_rf X)) P
    refine am_wpb (c' := (195, [some (.ref 42), none, none, none, none, none, none, none], [], (I2, L2, D2, am_rf X))) 1 rfl ?_
    exact am_ret_v rfl rfl h
/-- SureSumsModel.together(II)V -/
def mz_163 : am_Y := (fun pc => am_q163.lookup pc, 11, 0)
theorem mh_163 : am_Ys 163 = some mz_163 := rfl
theorem w163_0 {ext : Nat → List Value → am_M → Option am_R} {d : Nat} {P : am_R → Prop} (I : Nat → Nat → Int32) (L : Nat → Nat → Int64) (D : Nat → Nat → UInt64) (X : am_Rf) (v1 : Int32) (v2 : Int32)
    (h : am_inb v1 128 = true ∧ ((((I 65 (Int32.toNatClampNeg v1)) = 0 → (∃ (I1 : Nat → Nat → Int32) (L1 : Nat → Nat → Int64) (D1 : Nat → Nat → UInt64), am_Rn ext d 152 [.ref 42] (I, L, D, am_rf X) (none, (I1, L1, D1, am_rf X)) ∧ (P (none, (I1, L1, D1, am_rf X))))) ∧ (¬ (I 65 (Int32.toNatClampNeg v1)) = 0 → (((¬ (I 42 50) = 0 → (am_inb v1 128 = true ∧ (am_inb v1 128 = true ∧ (((v2 = 6 → (∃ (I2 : Nat → Nat → Int32) (L2 : Nat → Nat → Int64) (D2 : Nat → Nat → UInt64), am_Rn ext d 151 [.ref 42, .int 1, .long ((L 63 (Int32.toNatClampNeg v1)) + (L 42 51)), .long ((L 64 (Int32.toNatClampNeg v1)) + (L 42 52))] (I, L, D, am_rf X) (none, (I2, L2, D2, am_rf X)) ∧ (P (none, (I2, L2, D2, am_rf X))))) ∧ (v2 = 7 → (∃ (I3 : Nat → Nat → Int32) (L3 : Nat → Nat → Int64) (D3 : Nat → Nat → UInt64), am_Rn ext d 151 [.ref 42, .int 1, .long ((L 63 (Int32.toNatClampNeg v1)) - (L 42 52)), .long ((L 64 (Int32.toNatClampNeg v1)) - (L 42 51))] (I, L, D, am_rf X) (none, (I3, L3, D3, am_rf X)) ∧ (P (none, (I3, L3, D3, am_rf X))))) ∧ (v2 = 8 → (∃ (r4 : Int64) (I4 : Nat → Nat → Int32) (L4 : Nat → Nat → Int64) (D4 : Nat → Nat → UInt64), am_Rn ext d 157 [.long ((L 63 (Int32.toNatClampNeg v1)) * (L 42 51)), .long ((L 63 (Int32.toNatClampNeg v1)) * (L 42 52))] (I, L, D, am_rf X) (some (.long r4), (I4, L4, D4, am_rf X)) ∧ (∃ (r5 : Int64) (I5 : Nat → Nat → Int32) (L5 : Nat → Nat → Int64) (D5 : Nat → Nat → UInt64), am_Rn ext d 157 [.long ((L 64 (Int32.toNatClampNeg v1)) * (L4 42 51)), .long ((L 64 (Int32.toNatClampNeg v1)) * (L4 42 52))] (I4, L4, D4, am_rf X) (some (.long r5), (I5, L5, D5, am_rf X)) ∧ (∃ (r6 : Int64) (I6 : Nat → Nat → Int32) (L6 : Nat → Nat → Int64) (D6 : Nat → Nat → UInt64), am_Rn ext d 157 [.long r4, .long r5] (I5, L5, D5, am_rf X) (some (.long r6), (I6, L6, D6, am_rf X)) ∧ (∃ (r7 : Int64) (I7 : Nat → Nat → Int32) (L7 : Nat → Nat → Int64) (D7 : Nat → Nat → UInt64), am_Rn ext d 158 [.long ((L 63 (Int32.toNatClampNeg v1)) * (L6 42 51)), .long ((L 63 (Int32.toNatClampNeg v1)) * (L6 42 52))] (I6, L6, D6, am_rf X) (some (.long r7), (I7, L7, D7, am_rf X)) ∧ (∃ (r8 : Int64) (I8 : Nat → Nat → Int32) (L8 : Nat → Nat → Int64) (D8 : Nat → Nat → UInt64), am_Rn ext d 158 [.long ((L 64 (Int32.toNatClampNeg v1)) * (L7 42 51)), .long ((L 64 (Int32.toNatClampNeg v1)) * (L7 42 52))] (I7, L7, D7, am_rf X) (some (.long r8), (I8, L8, D8, am_rf X)) ∧ (∃ (r9 : Int64) (I9 : Nat → Nat → Int32) (L9 : Nat → Nat → Int64) (D9 : Nat → Nat → UInt64), am_Rn ext d 158 [.long r7, .long r8] (I8, L8, D8, am_rf X) (some (.long r9), (I9, L9, D9, am_rf X)) ∧ (∃ (r10 : Int64) (I10 : Nat → Nat → Int32) (L10 : Nat → Nat → Int64) (D10 : Nat → Nat → UInt64), am_Rn ext d 154 [.ref 42, .long r9] (I9, L9, D9, am_rf X) (some (.long r10), (I10, L10, D10, am_rf X)) ∧ (∃ (I11 : Nat → Nat → Int32) (L11 : Nat → Nat → Int64) (D11 : Nat → Nat → UInt64), am_Rn ext d 151 [.ref 42, .int 1, .long (r6 >>> ((Int32.toInt64 (I9 42 48)) &&& 63)), .long r10] (I10, L10, D10, am_rf X) (none, (I11, L11, D11, am_rf X)) ∧ (P (none, (I11, L11, D11, am_rf X)))))))))))) ∧ (v2 = 10 → (∃ (r12 : Int64) (I12 : Nat → Nat → Int32) (L12 : Nat → Nat → Int64) (D12 : Nat → Nat → UInt64), am_Rn ext d 158 [.long (L 63 (Int32.toNatClampNeg v1)), .long (L 42 51)] (I, L, D, am_rf X) (some (.long r12), (I12, L12, D12, am_rf X)) ∧ (∃ (r13 : Int64) (I13 : Nat → Nat → Int32) (L13 : Nat → Nat → Int64) (D13 : Nat → Nat → UInt64), am_Rn ext d 158 [.long (L 64 (Int32.toNatClampNeg v1)), .long (L12 42 52)] (I12, L12, D12, am_rf X) (some (.long r13), (I13, L13, D13, am_rf X)) ∧ (∃ (I14 : Nat → Nat → Int32) (L14 : Nat → Nat → Int64) (D14 : Nat → Nat → UInt64), am_Rn ext d 151 [.ref 42, .int 1, .long r12, .long r13] (I13, L13, D13, am_rf X) (none, (I14, L14, D14, am_rf X)) ∧ (P (none, (I14, L14, D14, am_rf X))))))) ∧ (v2 = 11 → (∃ (r15 : Int64) (I15 : Nat → Nat → Int32) (L15 : Nat → Nat → Int64) (D15 : Nat → Nat → UInt64), am_Rn ext d 157 [.long (L 63 (Int32.toNatClampNeg v1)), .long (L 42 51)] (I, L, D, am_rf X) (some (.long r15), (I15, L15, D15, am_rf X)) ∧ (∃ (r16 : Int64) (I16 : Nat → Nat → Int32) (L16 : Nat → Nat → Int64) (D16 : Nat → Nat → UInt64), am_Rn ext d 157 [.long (L 64 (Int32.toNatClampNeg v1)), .long (L15 42 52)] (I15, L15, D15, am_rf X) (some (.long r16), (I16, L16, D16, am_rf X)) ∧ (∃ (I17 : Nat → Nat → Int32) (L17 : Nat → Nat → Int64) (D17 : Nat → Nat → UInt64), am_Rn ext d 151 [.ref 42, .int 1, .long r15, .long r16] (I16, L16, D16, am_rf X) (none, (I17, L17, D17, am_rf X)) ∧ (P (none, (I17, L17, D17, am_rf X))))))) ∧ (¬ v2 = 6 ∧ ¬ v2 = 7 ∧ ¬ v2 = 8 ∧ ¬ v2 = 10 ∧ ¬ v2 = 11 → (∃ (I18 : Nat → Nat → Int32) (L18 : Nat → Nat → Int64) (D18 : Nat → Nat → UInt64), am_Rn ext d 164 [.ref 42, .long ((L 63 (Int32.toNatClampNeg v1)) <<< ((Int32.toInt64 (I 42 48)) &&& 63)), .long ((L 64 (Int32.toNatClampNeg v1)) <<< ((Int32.toInt64 (I 42 48)) &&& 63))] (I, L, D, am_rf X) (none, (I18, L18, D18, am_rf X)) ∧ (P (none, (I18, L18, D18, am_rf X)))))))))) ∧ ((I 42 50) = 0 → (∃ (I19 : Nat → Nat → Int32) (L19 : Nat → Nat → Int64) (D19 : Nat → Nat → UInt64), am_Rn ext d 152 [.ref 42] (I, L, D, am_rf X) (none, (I19, L19, D19, am_rf X)) ∧ (P (none, (I19, L19, D19, am_rf X))))))))))) : am_wp ext d mz_163 (0, [some (.ref 42), some (.int v1), some (.int v2), none, none, none, none, none, none, none, none], [], (I, L, D, am_rf X)) P := by
  refine am_wpb (c' := (5, [some (.ref 42), some (.int v1), some (.int v2), none, none, none, none, none, none, none, none], [.int v1, .ref 65], (I, L, D, am_rf X))) 3 rfl ?_
  obtain ⟨o, h⟩ := h
  refine am_wps (c' := (6, [some (.ref 42), some (.int v1), some (.int v2), none, none, none, none, none, none, none, none], [.int (I 65 (Int32.toNatClampNeg v1))], (I, L, D, am_rf X))) rfl rfl (am_s_zald rfl o) ?_
  refine am_b1_eq rfl (fun z => ?_) (fun z => ?_)
  · replace h := h.1 z
    refine am_wpb (c' := (17, [some (.ref 42), some (.int v1), some (.int v2), none, none, none, none, none, none, none, none], [.ref 42], (I, L, D, am_rf X))) 1 rfl ?_
    obtain ⟨I1, L1, D1, hr, h⟩ := h
    refine am_wp_inv (as := [.ref 42]) rfl rfl rfl rfl ⟨_, hr, ?_⟩
    show am_wp ext d mz_163 (20, [some (.ref 42), some (.int v1), some (.int v2), none, none, none, none, none, none, none, none], [], (I1, L1, D1, am_rf X)) P
    exact am_ret_v rfl rfl h
  · replace h := h.2 z
    refine am_wpb (c' := (13, [some (.ref 42), some (.int v1), some (.int v2), none, none, none, none, none, none, none, none], [.int (I 42 50)], (I, L, D, am_rf X))) 2 rfl ?_
    refine am_b1_ne rfl (fun z => ?_) (fun z => ?_)
    · replace h := h.1 z
      refine am_wpb (c' := (26, [some (.ref 42), some (.int v1), some (.int v2), none, none, none, none, none, none, none, none], [.int v1, .ref 63], (I, L, D, am_rf X))) 3 rfl ?_
      obtain ⟨o, h⟩ := h
      refine am_wps (c' := (27, [some (.ref 42), some (.int v1), some (.int v2), none, none, none, none, none, none, none, none], [.long (L 63 (Int32.toNatClampNeg v1))], (I, L, D, am_rf X))) rfl rfl (am_s_lald rfl o) ?_
      refine am_wpb (c' := (33, [some (.ref 42), some (.int v1), some (.int v2), some (.long (L 63 (Int32.toNatClampNeg v1))), none, none, none, none, none, none, none], [.int v1, .ref 64], (I, L, D, am_rf X))) 4 rfl ?_
      obtain ⟨o, h⟩ := h
      refine am_wps (c' := (34, [some (.ref 42), some (.int v1), some (.int v2), some (.long (L 63 (Int32.toNatClampNeg v1))), none, none, none, none, none, none, none], [.long (L 64 (Int32.toNatClampNeg v1))], (I, L, D, am_rf X))) rfl rfl (am_s_lald rfl o) ?_
      refine am_wpb (c' := (37, [some (.ref 42), some (.int v1), some (.int v2), some (.long (L 63 (Int32.toNatClampNeg v1))), none, some (.long (L 64 (Int32.toNatClampNeg v1))), none, none, none, none, none], [.int v2], (I, L, D, am_rf X))) 2 rfl ?_
      have hsw := am_swc v2 6 5
      by_cases c0 : v2 = 6
      · replace h := h.1 c0
        have e := c0
        refine am_ts_in 0 rfl (by rw [e]; rfl) (by decide) rfl ?_
        refine am_wpb (c' := (91, [some (.ref 42), some (.int v1), some (.int v2), some (.long (L 63 (Int32.toNatClampNeg v1))), none, some (.long (L 64 (Int32.toNatClampNeg v1))), none, none, none, none, none], [.long ((L 64 (Int32.toNatClampNeg v1)) + (L 42 52)), .long ((L 63 (Int32.toNatClampNeg v1)) + (L 42 51)), .int 1, .ref 42], (I, L, D, am_rf X))) 10 rfl ?_
        obtain ⟨I2, L2, D2, hr, h⟩ := h
        refine am_wp_inv (as := [.ref 42, .int 1, .long ((L 63 (Int32.toNatClampNeg v1)) + (L 42 51)), .long ((L 64 (Int32.toNatClampNeg v1)) + (L 42 52))]) rfl rfl rfl rfl ⟨_, hr, ?_⟩
        show am_wp ext d mz_163 (94, [some (.ref 42), some (.int v1), some (.int v2), some (.long (L 63 (Int32.toNatClampNeg v1))), none, some (.long (L 64 (Int32.toNatClampNeg v1))), none, none, none, none, none], [], (I2, L2, D2, am_rf X)) P
        refine am_wpb (c' := (280, [some (.ref 42), some (.int v1), some (.int v2), some (.long (L 63 (Int32.toNatClampNeg v1))), none, some (.long (L 64 (Int32.toNatClampNeg v1))), none, none, none, none, none], [], (I2, L2, D2, am_rf X))) 1 rfl ?_
        exact am_ret_v rfl rfl h
      by_cases c1 : v2 = 7
      · replace h := h.2.1 c1
        have e := c1
        refine am_ts_in 1 rfl (by rw [e]; rfl) (by decide) rfl ?_
        refine am_wpb (c' := (112, [some (.ref 42), some (.int v1), some (.int v2), some (.long (L 63 (Int32.toNatClampNeg v1))), none, some (.long (L 64 (Int32.toNatClampNeg v1))), none, none, none, none, none], [.long ((L 64 (Int32.toNatClampNeg v1)) - (L 42 51)), .long ((L 63 (Int32.toNatClampNeg v1)) - (L 42 52)), .int 1, .ref 42], (I, L, D, am_rf X))) 10 rfl ?_
        obtain ⟨I3, L3, D3, hr, h⟩ := h
        refine am_wp_inv (as := [.ref 42, .int 1, .long ((L 63 (Int32.toNatClampNeg v1)) - (L 42 52)), .long ((L 64 (Int32.toNatClampNeg v1)) - (L 42 51))]) rfl rfl rfl rfl ⟨_, hr, ?_⟩
        show am_wp ext d mz_163 (115, [some (.ref 42), some (.int v1), some (.int v2), some (.long (L 63 (Int32.toNatClampNeg v1))), none, some (.long (L 64 (Int32.toNatClampNeg v1))), none, none, none, none, none], [], (I3, L3, D3, am_rf X)) P
        refine am_wpb (c' := (280, [some (.ref 42), some (.int v1), some (.int v2), some (.long (L 63 (Int32.toNatClampNeg v1))), none, some (.long (L 64 (Int32.toNatClampNeg v1))), none, none, none, none, none], [], (I3, L3, D3, am_rf X))) 1 rfl ?_
        exact am_ret_v rfl rfl h
      by_cases c2 : v2 = 8
      · replace h := h.2.2.1 c2
        have e := c2
        refine am_ts_in 2 rfl (by rw [e]; rfl) (by decide) rfl ?_
        refine am_wpb (c' := (180, [some (.ref 42), some (.int v1), some (.int v2), some (.long (L 63 (Int32.toNatClampNeg v1))), none, some (.long (L 64 (Int32.toNatClampNeg v1))), none, none, none, none, none], [.long ((L 63 (Int32.toNatClampNeg v1)) * (L 42 52)), .long ((L 63 (Int32.toNatClampNeg v1)) * (L 42 51))], (I, L, D, am_rf X))) 8 rfl ?_
        obtain ⟨r4, I4, L4, D4, hr, h⟩ := h
        refine am_wp_inv (as := [.long ((L 63 (Int32.toNatClampNeg v1)) * (L 42 51)), .long ((L 63 (Int32.toNatClampNeg v1)) * (L 42 52))]) rfl rfl rfl rfl ⟨_, hr, ?_⟩
        show am_wp ext d mz_163 (183, [some (.ref 42), some (.int v1), some (.int v2), some (.long (L 63 (Int32.toNatClampNeg v1))), none, some (.long (L 64 (Int32.toNatClampNeg v1))), none, none, none, none, none], [.long r4], (I4, L4, D4, am_rf X)) P
        refine am_wpb (c' := (197, [some (.ref 42), some (.int v1), some (.int v2), some (.long (L 63 (Int32.toNatClampNeg v1))), none, some (.long (L 64 (Int32.toNatClampNeg v1))), none, none, none, none, none], [.long ((L 64 (Int32.toNatClampNeg v1)) * (L4 42 52)), .long ((L 64 (Int32.toNatClampNeg v1)) * (L4 42 51)), .long r4], (I4, L4, D4, am_rf X))) 8 rfl ?_
        obtain ⟨r5, I5, L5, D5, hr, h⟩ := h
        refine am_wp_inv (as := [.long ((L 64 (Int32.toNatClampNeg v1)) * (L4 42 51)), .long ((L 64 (Int32.toNatClampNeg v1)) * (L4 42 52))]) rfl rfl rfl rfl ⟨_, hr, ?_⟩
        show am_wp ext d mz_163 (200, [some (.ref 42), some (.int v1), some (.int v2), some (.long (L 63 (Int32.toNatClampNeg v1))), none, some (.long (L 64 (Int32.toNatClampNeg v1))), none, none, none, none, none], [.long r5, .long r4], (I5, L5, D5, am_rf X)) P
        obtain ⟨r6, I6, L6, D6, hr, h⟩ := h
        refine am_wp_inv (as := [.long r4, .long r5]) rfl rfl rfl rfl ⟨_, hr, ?_⟩
        show am_wp ext d mz_163 (203, [some (.ref 42), some (.int v1), some (.int v2), some (.long (L 63 (Int32.toNatClampNeg v1))), none, some (.long (L 64 (Int32.toNatClampNeg v1))), none, none, none, none, none], [.long r6], (I6, L6, D6, am_rf X)) P
        refine am_wpb (c' := (217, [some (.ref 42), some (.int v1), some (.int v2), some (.long (L 63 (Int32.toNatClampNeg v1))), none, some (.long (L 64 (Int32.toNatClampNeg v1))), none, some (.long r6), none, none, none], [.long ((L 63 (Int32.toNatClampNeg v1)) * (L6 42 52)), .long ((L 63 (Int32.toNatClampNeg v1)) * (L6 42 51))], (I6, L6, D6, am_rf X))) 9 rfl ?_
        obtain ⟨r7, I7, L7, D7, hr, h⟩ := h
        refine am_wp_inv (as := [.long ((L 63 (Int32.toNatClampNeg v1)) * (L6 42 51)), .long ((L 63 (Int32.toNatClampNeg v1)) * (L6 42 52))]) rfl rfl rfl rfl ⟨_, hr, ?_⟩
        show am_wp ext d mz_163 (220, [some (.ref 42), some (.int v1), some (.int v2), some (.long (L 63 (Int32.toNatClampNeg v1))), none, some (.long (L 64 (Int32.toNatClampNeg v1))), none, some (.long r6), none, none, none], [.long r7], (I7, L7, D7, am_rf X)) P
        refine am_wpb (c' := (234, [some (.ref 42), some (.int v1), some (.int v2), some (.long (L 63 (Int32.toNatClampNeg v1))), none, some (.long (L 64 (Int32.toNatClampNeg v1))), none, some (.long r6), none, none, none], [.long ((L 64 (Int32.toNatClampNeg v1)) * (L7 42 52)), .long ((L 64 (Int32.toNatClampNeg v1)) * (L7 42 51)), .long r7], (I7, L7, D7, am_rf X))) 8 rfl ?_
        obtain ⟨r8, I8, L8, D8, hr, h⟩ := h
        refine am_wp_inv (as := [.long ((L 64 (Int32.toNatClampNeg v1)) * (L7 42 51)), .long ((L 64 (Int32.toNatClampNeg v1)) * (L7 42 52))]) rfl rfl rfl rfl ⟨_, hr, ?_⟩
        show am_wp ext d mz_163 (237, [some (.ref 42), some (.int v1), some (.int v2), some (.long (L 63 (Int32.toNatClampNeg v1))), none, some (.long (L 64 (Int32.toNatClampNeg v1))), none, some (.long r6), none, none, none], [.long r8, .long r7], (I8, L8, D8, am_rf X)) P
        obtain ⟨r9, I9, L9, D9, hr, h⟩ := h
        refine am_wp_inv (as := [.long r7, .long r8]) rfl rfl rfl rfl ⟨_, hr, ?_⟩
        show am_wp ext d mz_163 (240, [some (.ref 42), some (.int v1), some (.int v2), some (.long (L 63 (Int32.toNatClampNeg v1))), none, some (.long (L 64 (Int32.toNatClampNeg v1))), none, some (.long r6), none, none, none], [.long r9], (I9, L9, D9, am_rf X)) P
        refine am_wpb (c' := (254, [some (.ref 42), some (.int v1), some (.int v2), some (.long (L 63 (Int32.toNatClampNeg v1))), none, some (.long (L 64 (Int32.toNatClampNeg v1))), none, some (.long r6), none, some (.long r9), none], [.long r9, .ref 42, .long (r6 >>> ((Int32.toInt64 (I9 42 48)) &&& 63)), .int 1, .ref 42], (I9, L9, D9, am_rf X))) 9 rfl ?_
        obtain ⟨r10, I10, L10, D10, hr, h⟩ := h
        refine am_wp_inv (as := [.ref 42, .long r9]) rfl rfl rfl rfl ⟨_, hr, ?_⟩
        show am_wp ext d mz_163 (257, [some (.ref 42), some (.int v1), some (.int v2), some (.long (L 63 (Int32.toNatClampNeg v1))), none, some (.long (L 64 (Int32.toNatClampNeg v1))), none, some (.long r6), none, some (.long r9), none], [.long r10, .long (r6 >>> ((Int32.toInt64 (I9 42 48)) &&& 63)), .int 1, .ref 42], (I10, L10, D10, am_rf X)) P
        obtain ⟨I11, L11, D11, hr, h⟩ := h
        refine am_wp_inv (as := [.ref 42, .int 1, .long (r6 >>> ((Int32.toInt64 (I9 42 48)) &&& 63)), .long r10]) rfl rfl rfl rfl ⟨_, hr, ?_⟩
        show am_wp ext d mz_163 (260, [some (.ref 42), some (.int v1), some (.int v2), some (.long (L 63 (Int32.toNatClampNeg v1))), none, some (.long (L 64 (Int32.toNatClampNeg v1))), none, some (.long r6), none, some (.long r9), none], [], (I11, L11, D11, am_rf X)) P
        refine am_wpb (c' := (280, [some (.ref 42), some (.int v1), some (.int v2), some (.long (L 63 (Int32.toNatClampNeg v1))), none, some (.long (L 64 (Int32.toNatClampNeg v1))), none, some (.long r6), none, some (.long r9), none], [], (I11, L11, D11, am_rf X))) 1 rfl ?_
        exact am_ret_v rfl rfl h
      by_cases c3 : v2 = 10
      · replace h := h.2.2.2.1 c3
        have e := c3
        refine am_ts_in 4 rfl (by rw [e]; rfl) (by decide) rfl ?_
        refine am_wpb (c' := (125, [some (.ref 42), some (.int v1), some (.int v2), some (.long (L 63 (Int32.toNatClampNeg v1))), none, some (.long (L 64 (Int32.toNatClampNeg v1))), none, none, none, none, none], [.long (L 42 51), .long (L 63 (Int32.toNatClampNeg v1)), .int 1, .ref 42], (I, L, D, am_rf X))) 5 rfl ?_
        obtain ⟨r12, I12, L12, D12, hr, h⟩ := h
        refine am_wp_inv (as := [.long (L 63 (Int32.toNatClampNeg v1)), .long (L 42 51)]) rfl rfl rfl rfl ⟨_, hr, ?_⟩
        show am_wp ext d mz_163 (128, [some (.ref 42), some (.int v1), some (.int v2), some (.long (L 63 (Int32.toNatClampNeg v1))), none, some (.long (L 64 (Int32.toNatClampNeg v1))), none, none, none, none, none], [.long r12, .int 1, .ref 42], (I12, L12, D12, am_rf X)) P
        refine am_wpb (c' := (134, [some (.ref 42), some (.int v1), some (.int v2), some (.long (L 63 (Int32.toNatClampNeg v1))), none, some (.long (L 64 (Int32.toNatClampNeg v1))), none, none, none, none, none], [.long (L12 42 52), .long (L 64 (Int32.toNatClampNeg v1)), .long r12, .int 1, .ref 42], (I12, L12, D12, am_rf X))) 3 rfl ?_
        obtain ⟨r13, I13, L13, D13, hr, h⟩ := h
        refine am_wp_inv (as := [.long (L 64 (Int32.toNatClampNeg v1)), .long (L12 42 52)]) rfl rfl rfl rfl ⟨_, hr, ?_⟩
        show am_wp ext d mz_163 (137, [some (.ref 42), some (.int v1), some (.int v2), some (.long (L 63 (Int32.toNatClampNeg v1))), none, some (.long (L 64 (Int32.toNatClampNeg v1))), none, none, none, none, none], [.long r13, .long r12, .int 1, .ref 42], (I13, L13, D13, am_rf X)) P
        obtain ⟨I14, L14, D14, hr, h⟩ := h
        refine am_wp_inv (as := [.ref 42, .int 1, .long r12, .long r13]) rfl rfl rfl rfl ⟨_, hr, ?_⟩
        show am_wp ext d mz_163 (140, [some (.ref 42), some (.int v1), some (.int v2), some (.long (L 63 (Int32.toNatClampNeg v1))), none, some (.long (L 64 (Int32.toNatClampNeg v1))), none, none, none, none, none], [], (I14, L14, D14, am_rf X)) P
        refine am_wpb (c' := (280, [some (.ref 42), some (.int v1), some (.int v2), some (.long (L 63 (Int32.toNatClampNeg v1))), none, some (.long (L 64 (Int32.toNatClampNeg v1))), none, none, none, none, none], [], (I14, L14, D14, am_rf X))) 1 rfl ?_
        exact am_ret_v rfl rfl h
      by_cases c4 : v2 = 11
      · replace h := h.2.2.2.2.1 c4
        have e := c4
        refine am_ts_in 5 rfl (by rw [e]; rfl) (by decide) rfl ?_
        refine am_wpb (c' := (150, [some (.ref 42), some (.int v1), some (.int v2), some (.long (L 63 (Int32.toNatClampNeg v1))), none, some (.long (L 64 (Int32.toNatClampNeg v1))), none, none, none, none, none], [.long (L 42 51), .long (L 63 (Int32.toNatClampNeg v1)), .int 1, .ref 42], (I, L, D, am_rf X))) 5 rfl ?_
        obtain ⟨r15, I15, L15, D15, hr, h⟩ := h
        refine am_wp_inv (as := [.long (L 63 (Int32.toNatClampNeg v1)), .long (L 42 51)]) rfl rfl rfl rfl ⟨_, hr, ?_⟩
        show am_wp ext d mz_163 (153, [some (.ref 42), some (.int v1), some (.int v2), some (.long (L 63 (Int32.toNatClampNeg v1))), none, some (.long (L 64 (Int32.toNatClampNeg v1))), none, none, none, none, none], [.long r15, .int 1, .ref 42], (I15, L15, D15, am_rf X)) P
        refine am_wpb (c' := (159, [some (.ref 42), some (.int v1), some (.int v2), some (.long (L 63 (Int32.toNatClampNeg v1))), none, some (.long (L 64 (Int32.toNatClampNeg v1))), none, none, none, none, none], [.long (L15 42 52), .long (L 64 (Int32.toNatClampNeg v1)), .long r15, .int 1, .ref 42], (I15, L15, D15, am_rf X))) 3 rfl ?_
        obtain ⟨r16, I16, L16, D16, hr, h⟩ := h
        refine am_wp_inv (as := [.long (L 64 (Int32.toNatClampNeg v1)), .long (L15 42 52)]) rfl rfl rfl rfl ⟨_, hr, ?_⟩
        show am_wp ext d mz_163 (162, [some (.ref 42), some (.int v1), some (.int v2), some (.long (L 63 (Int32.toNatClampNeg v1))), none, some (.long (L 64 (Int32.toNatClampNeg v1))), none, none, none, none, none], [.long r16, .long r15, .int 1, .ref 42], (I16, L16, D16, am_rf X)) P
        obtain ⟨I17, L17, D17, hr, h⟩ := h
        refine am_wp_inv (as := [.ref 42, .int 1, .long r15, .long r16]) rfl rfl rfl rfl ⟨_, hr, ?_⟩
        show am_wp ext d mz_163 (165, [some (.ref 42), some (.int v1), some (.int v2), some (.long (L 63 (Int32.toNatClampNeg v1))), none, some (.long (L 64 (Int32.toNatClampNeg v1))), none, none, none, none, none], [], (I17, L17, D17, am_rf X)) P
        refine am_wpb (c' := (280, [some (.ref 42), some (.int v1), some (.int v2), some (.long (L 63 (Int32.toNatClampNeg v1))), none, some (.long (L 64 (Int32.toNatClampNeg v1))), none, none, none, none, none], [], (I17, L17, D17, am_rf X))) 1 rfl ?_
        exact am_ret_v rfl rfl h
      replace h := h.2.2.2.2.2 ⟨fun e => c0 (e), fun e => c1 (e), fun e => c2 (e), fun e => c3 (e), fun e => c4 (e)⟩
      rcases hsw with hsw | ⟨k, hk, hsw⟩
      · refine am_ts_out rfl hsw ?_
        refine am_wpb (c' := (277, [some (.ref 42), some (.int v1), some (.int v2), some (.long (L 63 (Int32.toNatClampNeg v1))), none, some (.long (L 64 (Int32.toNatClampNeg v1))), none, none, none, none, none], [.long ((L 64 (Int32.toNatClampNeg v1)) <<< ((Int32.toInt64 (I 42 48)) &&& 63)), .long ((L 63 (Int32.toNatClampNeg v1)) <<< ((Int32.toInt64 (I 42 48)) &&& 63)), .ref 42], (I, L, D, am_rf X))) 9 rfl ?_
        obtain ⟨I18, L18, D18, hr, h⟩ := h
        refine am_wp_inv (as := [.ref 42, .long ((L 63 (Int32.toNatClampNeg v1)) <<< ((Int32.toInt64 (I 42 48)) &&& 63)), .long ((L 64 (Int32.toNatClampNeg v1)) <<< ((Int32.toInt64 (I 42 48)) &&& 63))]) rfl rfl rfl rfl ⟨_, hr, ?_⟩
        show am_wp ext d mz_163 (280, [some (.ref 42), some (.int v1), some (.int v2), some (.long (L 63 (Int32.toNatClampNeg v1))), none, some (.long (L 64 (Int32.toNatClampNeg v1))), none, none, none, none, none], [], (I18, L18, D18, am_rf X)) P
        exact am_ret_v rfl rfl h
      · refine am_ts_in (t := 263) k rfl hsw (by omega) ?_ ?_
        · refine am_sw_d (bad := [0, 1, 2, 4, 5]) hk (by decide) (fun hm => ?_)
          simp only [List.mem_cons, List.not_mem_nil, or_false] at hm
          rcases hm with e | e | e | e | e
          · exact c0 (am_i32 (v := 6) (by rw [hsw, e]; rfl))
          · exact c1 (am_i32 (v := 7) (by rw [hsw, e]; rfl))
          · exact c2 (am_i32 (v := 8) (by rw [hsw, e]; rfl))
          · exact c3 (am_i32 (v := 10) (by rw [hsw, e]; rfl))
          · exact c4 (am_i32 (v := 11) (by rw [hsw, e]; rfl))
        · skip
          refine am_wpb (c' := (277, [some (.ref 42), some (.int v1), some (.int v2), some (.long (L 63 (Int32.toNatClampNeg v1))), none, some (.long (L 64 (Int32.toNatClampNeg v1))), none, none, none, none, none], [.long ((L 64 (Int32.toNatClampNeg v1)) <<< ((Int32.toInt64 (I 42 48)) &&& 63)), .long ((L 63 (Int32.toNatClampNeg v1)) <<< ((Int32.toInt64 (I 42 48)) &&& 63)), .ref 42], (I, L, D, am_rf X))) 9 rfl ?_
          obtain ⟨I18, L18, D18, hr, h⟩ := h
          refine am_wp_inv (as := [.ref 42, .long ((L 63 (Int32.toNatClampNeg v1)) <<< ((Int32.toInt64 (I 42 48)) &&& 63)), .long ((L 64 (Int32.toNatClampNeg v1)) <<< ((Int32.toInt64 (I 42 48)) &&& 63))]) rfl rfl rfl rfl ⟨_, hr, ?_⟩
          show am_wp ext d mz_163 (280, [some (.ref 42), some (.int v1), some (.int v2), some (.long (L 63 (Int32.toNatClampNeg v1))), none, some (.long (L 64 (Int32.toNatClampNeg v1))), none, none, none, none, none], [], (I18, L18, D18, am_rf X)) P
          exact am_ret_v rfl rfl h
    · replace h := h.2 z
      refine am_wpb (c' := (17, [some (.ref 42), some (.int v1), some (.int v2), none, none, none, none, none, none, none, none], [.ref 42], (I, L, D, am_rf X))) 1 rfl ?_
      obtain ⟨I19, L19, D19, hr, h⟩ := h
      refine am_wp_inv (as := [.ref 42]) rfl rfl rfl rfl ⟨_, hr, ?_⟩
      show am_wp ext d mz_163 (20, [some (.ref 42), some (.int v1), some (.int v2), none, none, none, none, none, none, none, none], [], (I19, L19, D19, am_rf X)) P
      exact am_ret_v rfl rfl h
