/-- SureSumsModel.isEndless(D)Z -/
def mz_193 : am_Y := (fun pc => am_q193.lookup pc, 2, 2)
theorem mh_193 : am_Ys 193 = some mz_193 := rfl
theorem w193_0 {ext : Nat → List Value → am_M → Option am_R} {d : Nat} {P : am_R → Prop} (I : Nat → Nat → Int32) (L : Nat → Nat → Int64) (D : Nat → Nat → UInt64) (X : am_Rf) (v0 : UInt64)
    (h : ((0 < (Op.cmpValue (FP.dcmp v0 9218868437227405311) .l) → (P (some (.int 1), (I, L, D, am_rf X)))) ∧ (¬ 0 < (Op.cmpValue (FP.dcmp v0 9218868437227405311) .l) → (((0 ≤ (Op.cmpValue (FP.dcmp v0 18442240474082181119) .g) → (P (some (.int 0), (I, L, D, am_rf X)))) ∧ (¬ 0 ≤ (Op.cmpValue (FP.dcmp v0 18442240474082181119) .g) → (P (some (.int 1), (I, L, D, am_rf X))))))))) : am_wp ext d mz_193 (0, [some (.double v0), none], [], (I, L, D, am_rf X)) P := by
  refine am_wpb (c' := (5, [some (.double v0), none], [.int (Op.cmpValue (FP.dcmp v0 9218868437227405311) .l)], (I, L, D, am_rf X))) 3 rfl ?_
  refine am_b1_gt rfl (fun z => ?_) (fun z => ?_)
  · replace h := h.1 z
    refine am_wpb (c' := (21, [some (.double v0), none], [.int 1], (I, L, D, am_rf X))) 2 rfl ?_
    exact am_ret_z rfl rfl (Or.inr rfl) h
  · replace h := h.2 z
    refine am_wpb (c' := (13, [some (.double v0), none], [.int (Op.cmpValue (FP.dcmp v0 18442240474082181119) .g)], (I, L, D, am_rf X))) 3 rfl ?_
    refine am_b1_ge rfl (fun z => ?_) (fun z => ?_)
    · replace h := h.1 z
      refine am_wpb (c' := (21, [some (.double v0), none], [.int 0], (I, L, D, am_rf X))) 1 rfl ?_
      exact am_ret_z rfl rfl (Or.inl rfl) h
    · replace h := h.2 z
      refine am_wpb (c' := (21, [some (.double v0), none], [.int 1], (I, L, D, am_rf X))) 2 rfl ?_
      exact am_ret_z rfl rfl (Or.inr rfl) h
/-- SureSumsModel.isNone(IDD)Z -/
def mz_194 : am_Y := (fun pc => am_q194.lookup pc, 6, 2)
theorem mh_194 : am_Ys 194 = some mz_194 := rfl
theorem w194_0 {ext : Nat → List Value → am_M → Option am_R} {d : Nat} {P : am_R → Prop} (I : Nat → Nat → Int32) (L : Nat → Nat → Int64) (D : Nat → Nat → UInt64) (X : am_Rf) (v0 : Int32) (v1 : UInt64) (v3 : UInt64)
    (h : ∃ (r1 : Int32) (I1 : Nat → Nat → Int32) (L1 : Nat → Nat → Int64) (D1 : Nat → Nat → UInt64), am_Rn ext d 193 [.double v1] (I, L, D, am_rf X) (some (.int r1), (I1, L1, D1, am_rf X)) ∧ (((r1 = 0 → (am_wp ext d mz_194 (18, [some (.int v0), some (.double v1), none, some (.double v3), none, none], [], (I1, L1, D1, am_rf X)) P)) ∧ (¬ r1 = 0 → (∃ (r2 : Int32) (I2 : Nat → Nat → Int32) (L2 : Nat → Nat → Int64) (D2 : Nat → Nat → UInt64), am_Rn ext d 193 [.double v3] (I1, L1, D1, am_rf X) (some (.int r2), (I2, L2, D2, am_rf X)) ∧ (((r2 = 0 → (am_wp ext d mz_194 (18, [some (.int v0), some (.double v1), none, some (.double v3), none, none], [], (I2, L2, D2, am_rf X)) P)) ∧ (¬ r2 = 0 → (am_wp ext d mz_194 (19, [some (.int v0), some (.double v1), none, some (.double v3), none, none], [.int 1], (I2, L2, D2, am_rf X)) P))))))))) : am_wp ext d mz_194 (0, [some (.int v0), some (.double v1), none, some (.double v3), none, none], [], (I, L, D, am_rf X)) P := by
  refine am_wpb (c' := (1, [some (.int v0), some (.double v1), none, some (.double v3), none, none], [.double v1], (I, L, D, am_rf X))) 1 rfl ?_
  obtain ⟨r1, I1, L1, D1, hr, h⟩ := h
  refine am_wp_inv (as := [.double v1]) rfl rfl rfl rfl ⟨_, hr, ?_⟩
  show am_wp ext d mz_194 (4, [some (.int v0), some (.double v1), none, some (.double v3), none, none], [.int r1], (I1, L1, D1, am_rf X)) P
  refine am_b1_eq rfl (fun z => ?_) (fun z => ?_)
  · replace h := h.1 z
    exact h
  · replace h := h.2 z
    refine am_wpb (c' := (8, [some (.int v0), some (.double v1), none, some (.double v3), none, none], [.double v3], (I1, L1, D1, am_rf X))) 1 rfl ?_
    obtain ⟨r2, I2, L2, D2, hr, h⟩ := h
    refine am_wp_inv (as := [.double v3]) rfl rfl rfl rfl ⟨_, hr, ?_⟩
    show am_wp ext d mz_194 (11, [some (.int v0), some (.double v1), none, some (.double v3), none, none], [.int r2], (I2, L2, D2, am_rf X)) P
    refine am_b1_eq rfl (fun z => ?_) (fun z => ?_)
    · replace h := h.1 z
      exact h
    · replace h := h.2 z
      refine am_wpb (c' := (19, [some (.int v0), some (.double v1), none, some (.double v3), none, none], [.int 1], (I2, L2, D2, am_rf X))) 2 rfl ?_
      exact h
theorem w194_18 {ext : Nat → List Value → am_M → Option am_R} {d : Nat} {P : am_R → Prop} (I : Nat → Nat → Int32) (L : Nat → Nat → Int64) (D : Nat → Nat → UInt64) (X : am_Rf) (v0 : Int32) (v1 : UInt64) (v3 : UInt64)
    (h : am_wp ext d mz_194 (19, [some (.int v0), some (.double v1), none, some (.double v3), none, none], [.int 0], (I, L, D, am_rf X)) P) : am_wp ext d mz_194 (18, [some (.int v0), some (.double v1), none, some (.double v3), none, none], [], (I, L, D, am_rf X)) P := by
  refine am_wpb (c' := (19, [some (.int v0), some (.double v1), none, some (.double v3), none, none], [.int 0], (I, L, D, am_rf X))) 1 rfl ?_
  exact h
theorem w194_19 {ext : Nat → List Value → am_M → Option am_R} {d : Nat} {P : am_R → Prop} (I : Nat → Nat → Int32) (L : Nat → Nat → Int64) (D : Nat → Nat → UInt64) (X : am_Rf) (v0 : Int32) (v1 : UInt64) (v3 : UInt64) (s0 : Int32)
    (h : ((v0 = 6 → (((s0 = 0 → (P (some (.int 0), (I, L, D, am_rf X)))) ∧ (¬ s0 = 0 → ((((Op.cmpValue (FP.dcmp v1 FP.dconst0) .l) ≤ 0 → ((((Op.cmpValue (FP.dcmp v3 FP.dconst0) .l) ≤ 0 → ((((0 : Int32) = 0 → (P (some (.int 0), (I, L, D, am_rf X)))) ∧ (¬ (0 : Int32) = 0 → (P (some (.int 1), (I, L, D, am_rf X))))))) ∧ (¬ (Op.cmpValue (FP.dcmp v3 FP.dconst0) .l) ≤ 0 → ((((0 : Int32) = 1 → (P (some (.int 0), (I, L, D, am_rf X)))) ∧ (¬ (0 : Int32) = 1 → (P (some (.int 1), (I, L, D, am_rf X)))))))))) ∧ (¬ (Op.cmpValue (FP.dcmp v1 FP.dconst0) .l) ≤ 0 → ((((Op.cmpValue (FP.dcmp v3 FP.dconst0) .l) ≤ 0 → ((((1 : Int32) = 0 → (P (some (.int 0), (I, L, D, am_rf X)))) ∧ (¬ (1 : Int32) = 0 → (P (some (.int 1), (I, L, D, am_rf X))))))) ∧ (¬ (Op.cmpValue (FP.dcmp v3 FP.dconst0) .l) ≤ 0 → ((((1 : Int32) = 1 → (P (some (.int 0), (I, L, D, am_rf X)))) ∧ (¬ (1 : Int32) = 1 → (P (some (.int 1), (I, L, D, am_rf X)))))))))))))))) ∧ (v0 = 7 → (((s0 = 0 → (P (some (.int 0), (I, L, D, am_rf X)))) ∧ (¬ s0 = 0 → ((((Op.cmpValue (FP.dcmp v1 FP.dconst0) .l) ≤ 0 → ((((Op.cmpValue (FP.dcmp v3 FP.dconst0) .l) ≤ 0 → (((¬ (0 : Int32) = 0 → (P (some (.int 0), (I, L, D, am_rf X)))) ∧ ((0 : Int32) = 0 → (P (some (.int 1), (I, L, D, am_rf X))))))) ∧ (¬ (Op.cmpValue (FP.dcmp v3 FP.dconst0) .l) ≤ 0 → (((¬ (0 : Int32) = 1 → (P (some (.int 0), (I, L, D, am_rf X)))) ∧ ((0 : Int32) = 1 → (P (some (.int 1), (I, L, D, am_rf X)))))))))) ∧ (¬ (Op.cmpValue (FP.dcmp v1 FP.dconst0) .l) ≤ 0 → ((((Op.cmpValue (FP.dcmp v3 FP.dconst0) .l) ≤ 0 → (((¬ (1 : Int32) = 0 → (P (some (.int 0), (I, L, D, am_rf X)))) ∧ ((1 : Int32) = 0 → (P (some (.int 1), (I, L, D, am_rf X))))))) ∧ (¬ (Op.cmpValue (FP.dcmp v3 FP.dconst0) .l) ≤ 0 → (((¬ (1 : Int32) = 1 → (P (some (.int 0), (I, L, D, am_rf X)))) ∧ ((1 : Int32) = 1 → (P (some (.int 1), (I, L, D, am_rf X)))))))))))))))) ∧ (v0 = 8 → (((¬ (Op.cmpValue (FP.dcmp v1 FP.dconst0) .l) = 0 → (((¬ (Op.cmpValue (FP.dcmp v3 FP.dconst0) .l) = 0 → (P (some (.int 0), (I, L, D, am_rf X)))) ∧ ((Op.cmpValue (FP.dcmp v3 FP.dconst0) .l) = 0 → (∃ (r1 : Int32) (I1 : Nat → Nat → Int32) (L1 : Nat → Nat → Int64) (D1 : Nat → Nat → UInt64), am_Rn ext d 193 [.double v1] (I, L, D, am_rf X) (some (.int r1), (I1, L1, D1, am_rf X)) ∧ (((r1 = 0 → (P (some (.int 0), (I1, L1, D1, am_rf X)))) ∧ (¬ r1 = 0 → (P (some (.int 1), (I1, L1, D1, am_rf X))))))))))) ∧ ((Op.cmpValue (FP.dcmp v1 FP.dconst0) .l) = 0 → (∃ (r2 : Int32) (I2 : Nat → Nat → Int32) (L2 : Nat → Nat → Int64) (D2 : Nat → Nat → UInt64), am_Rn ext d 193 [.double v3] (I, L, D, am_rf X) (some (.int r2), (I2, L2, D2, am_rf X)) ∧ (((¬ r2 = 0 → (P (some (.int 1), (I2, L2, D2, am_rf X)))) ∧ (r2 = 0 → (((¬ (Op.cmpValue (FP.dcmp v3 FP.dconst0) .l) = 0 → (P (some (.int 0), (I2, L2, D2, am_rf X)))) ∧ ((Op.cmpValue (FP.dcmp v3 FP.dconst0) .l) = 0 → (∃ (r3 : Int32) (I3 : Nat → Nat → Int32) (L3 : Nat → Nat → Int64) (D3 : Nat → Nat → UInt64), am_Rn ext d 193 [.double v1] (I2, L2, D2, am_rf X) (some (.int r3), (I3, L3, D3, am_rf X)) ∧ (((r3 = 0 → (P (some (.int 0), (I3, L3, D3, am_rf X)))) ∧ (¬ r3 = 0 → (P (some (.int 1), (I3, L3, D3, am_rf X)))))))))))))))))) ∧ (v0 = 9 → (((¬ s0 = 0 → (P (some (.int 1), (I, L, D, am_rf X)))) ∧ (s0 = 0 → (((¬ (Op.cmpValue (FP.dcmp v1 FP.dconst0) .l) = 0 → (P (some (.int 0), (I, L, D, am_rf X)))) ∧ ((Op.cmpValue (FP.dcmp v1 FP.dconst0) .l) = 0 → (((¬ (Op.cmpValue (FP.dcmp v3 FP.dconst0) .l) = 0 → (P (some (.int 0), (I, L, D, am_rf X)))) ∧ ((Op.cmpValue (FP.dcmp v3 FP.dconst0) .l) = 0 → (P (some (.int 1), (I, L, D, am_rf X))))))))))))) ∧ (¬ v0 = 6 ∧ ¬ v0 = 7 ∧ ¬ v0 = 8 ∧ ¬ v0 = 9 → (P (some (.int 0), (I, L, D, am_rf X)))))) : am_wp ext d mz_194 (19, [some (.int v0), some (.double v1), none, some (.double v3), none, none], [.int s0], (I, L, D, am_rf X)) P := by
  refine am_wpb (c' := (22, [some (.int v0), some (.double v1), none, some (.double v3), none, some (.int s0)], [.int v0], (I, L, D, am_rf X))) 2 rfl ?_
  have hsw := am_swc v0 6 3
  by_cases c0 : v0 = 6
  · replace h := h.1 c0
    have e := c0
    refine am_ts_in 0 rfl (by rw [e]; rfl) (by decide) rfl ?_
    refine am_wpb (c' := (54, [some (.int v0), some (.double v1), none, some (.double v3), none, some (.int s0)], [.int s0], (I, L, D, am_rf X))) 1 rfl ?_
    refine am_b1_eq rfl (fun z => ?_) (fun z => ?_)
    · replace h := h.1 z
      refine am_wpb (c' := (87, [some (.int v0), some (.double v1), none, some (.double v3), none, some (.int s0)], [.int 0], (I, L, D, am_rf X))) 1 rfl ?_
      exact am_ret_z rfl rfl (Or.inl rfl) h
    · replace h := h.2 z
      refine am_wpb (c' := (60, [some (.int v0), some (.double v1), none, some (.double v3), none, some (.int s0)], [.int (Op.cmpValue (FP.dcmp v1 FP.dconst0) .l)], (I, L, D, am_rf X))) 3 rfl ?_
      refine am_b1_le rfl (fun z => ?_) (fun z => ?_)
      · replace h := h.1 z
        refine am_wpb (c' := (71, [some (.int v0), some (.double v1), none, some (.double v3), none, some (.int s0)], [.int (Op.cmpValue (FP.dcmp v3 FP.dconst0) .l), .int 0], (I, L, D, am_rf X))) 4 rfl ?_
        refine am_b1_le rfl (fun z => ?_) (fun z => ?_)
        · replace h := h.1 z
          refine am_wpb (c' := (79, [some (.int v0), some (.double v1), none, some (.double v3), none, some (.int s0)], [.int 0, .int 0], (I, L, D, am_rf X))) 1 rfl ?_
          refine am_b2_eq rfl (fun z => ?_) (fun z => ?_)
          · replace h := h.1 z
            refine am_wpb (c' := (87, [some (.int v0), some (.double v1), none, some (.double v3), none, some (.int s0)], [.int 0], (I, L, D, am_rf X))) 1 rfl ?_
            exact am_ret_z rfl rfl (Or.inl rfl) h
          · replace h := h.2 z
            refine am_wpb (c' := (87, [some (.int v0), some (.double v1), none, some (.double v3), none, some (.int s0)], [.int 1], (I, L, D, am_rf X))) 2 rfl ?_
            exact am_ret_z rfl rfl (Or.inr rfl) h
        · replace h := h.2 z
          refine am_wpb (c' := (79, [some (.int v0), some (.double v1), none, some (.double v3), none, some (.int s0)], [.int 1, .int 0], (I, L, D, am_rf X))) 2 rfl ?_
          refine am_b2_eq rfl (fun z => ?_) (fun z => ?_)
          · replace h := h.1 z
            refine am_wpb (c' := (87, [some (.int v0), some (.double v1), none, some (.double v3), none, some (.int s0)], [.int 0], (I, L, D, am_rf X))) 1 rfl ?_
            exact am_ret_z rfl rfl (Or.inl rfl) h
          · replace h := h.2 z
            refine am_wpb (c' := (87, [some (.int v0), some (.double v1), none, some (.double v3), none, some (.int s0)], [.int 1], (I, L, D, am_rf X))) 2 rfl ?_
            exact am_ret_z rfl rfl (Or.inr rfl) h
      · replace h := h.2 z
        refine am_wpb (c' := (71, [some (.int v0), some (.double v1), none, some (.double v3), none, some (.int s0)], [.int (Op.cmpValue (FP.dcmp v3 FP.dconst0) .l), .int 1], (I, L, D, am_rf X))) 5 rfl ?_
        refine am_b1_le rfl (fun z => ?_) (fun z => ?_)
        · replace h := h.1 z
          refine am_wpb (c' := (79, [some (.int v0), some (.double v1), none, some (.double v3), none, some (.int s0)], [.int 0, .int 1], (I, L, D, am_rf X))) 1 rfl ?_
          refine am_b2_eq rfl (fun z => ?_) (fun z => ?_)
          · replace h := h.1 z
            refine am_wpb (c' := (87, [some (.int v0), some (.double v1), none, some (.double v3), none, some (.int s0)], [.int 0], (I, L, D, am_rf X))) 1 rfl ?_
            exact am_ret_z rfl rfl (Or.inl rfl) h
          · replace h := h.2 z
            refine am_wpb (c' := (87, [some (.int v0), some (.double v1), none, some (.double v3), none, some (.int s0)], [.int 1], (I, L, D, am_rf X))) 2 rfl ?_
            exact am_ret_z rfl rfl (Or.inr rfl) h
        · replace h := h.2 z
          refine am_wpb (c' := (79, [some (.int v0), some (.double v1), none, some (.double v3), none, some (.int s0)], [.int 1, .int 1], (I, L, D, am_rf X))) 2 rfl ?_
          refine am_b2_eq rfl (fun z => ?_) (fun z => ?_)
          · replace h := h.1 z
            refine am_wpb (c' := (87, [some (.int v0), some (.double v1), none, some (.double v3), none, some (.int s0)], [.int 0], (I, L, D, am_rf X))) 1 rfl ?_
            exact am_ret_z rfl rfl (Or.inl rfl) h
          · replace h := h.2 z
            refine am_wpb (c' := (87, [some (.int v0), some (.double v1), none, some (.double v3), none, some (.int s0)], [.int 1], (I, L, D, am_rf X))) 2 rfl ?_
            exact am_ret_z rfl rfl (Or.inr rfl) h
  by_cases c1 : v0 = 7
  · replace h := h.2.1 c1
    have e := c1
    refine am_ts_in 1 rfl (by rw [e]; rfl) (by decide) rfl ?_
    refine am_wpb (c' := (90, [some (.int v0), some (.double v1), none, some (.double v3), none, some (.int s0)], [.int s0], (I, L, D, am_rf X))) 1 rfl ?_
    refine am_b1_eq rfl (fun z => ?_) (fun z => ?_)
    · replace h := h.1 z
      refine am_wpb (c' := (123, [some (.int v0), some (.double v1), none, some (.double v3), none, some (.int s0)], [.int 0], (I, L, D, am_rf X))) 1 rfl ?_
      exact am_ret_z rfl rfl (Or.inl rfl) h
    · replace h := h.2 z
      refine am_wpb (c' := (96, [some (.int v0), some (.double v1), none, some (.double v3), none, some (.int s0)], [.int (Op.cmpValue (FP.dcmp v1 FP.dconst0) .l)], (I, L, D, am_rf X))) 3 rfl ?_
      refine am_b1_le rfl (fun z => ?_) (fun z => ?_)
      · replace h := h.1 z
        refine am_wpb (c' := (107, [some (.int v0), some (.double v1), none, some (.double v3), none, some (.int s0)], [.int (Op.cmpValue (FP.dcmp v3 FP.dconst0) .l), .int 0], (I, L, D, am_rf X))) 4 rfl ?_
        refine am_b1_le rfl (fun z => ?_) (fun z => ?_)
        · replace h := h.1 z
          refine am_wpb (c' := (115, [some (.int v0), some (.double v1), none, some (.double v3), none, some (.int s0)], [.int 0, .int 0], (I, L, D, am_rf X))) 1 rfl ?_
          refine am_b2_ne rfl (fun z => ?_) (fun z => ?_)
          · replace h := h.1 z
            refine am_wpb (c' := (123, [some (.int v0), some (.double v1), none, some (.double v3), none, some (.int s0)], [.int 0], (I, L, D, am_rf X))) 1 rfl ?_
            exact am_ret_z rfl rfl (Or.inl rfl) h
          · replace h := h.2 z
            refine am_wpb (c' := (123, [some (.int v0), some (.double v1), none, some (.double v3), none, some (.int s0)], [.int 1], (I, L, D, am_rf X))) 2 rfl ?_
            exact am_ret_z rfl rfl (Or.inr rfl) h
        · replace h := h.2 z
          refine am_wpb (c' := (115, [some (.int v0), some (.double v1), none, some (.double v3), none, some (.int s0)], [.int 1, .int 0], (I, L, D, am_rf X))) 2 rfl ?_
          refine am_b2_ne rfl (fun z => ?_) (fun z => ?_)
          · replace h := h.1 z
            refine am_wpb (c' := (123, [some (.int v0), some (.double v1), none, some (.double v3), none, some (.int s0)], [.int 0], (I, L, D, am_rf X))) 1 rfl ?_
            exact am_ret_z rfl rfl (Or.inl rfl) h
          · replace h := h.2 z
            refine am_wpb (c' := (123, [some (.int v0), some (.double v1), none, some (.double v3), none, some (.int s0)], [.int 1], (I, L, D, am_rf X))) 2 rfl ?_
            exact am_ret_z rfl rfl (Or.inr rfl) h
      · replace h := h.2 z
        refine am_wpb (c' := (107, [some (.int v0), some (.double v1), none, some (.double v3), none, some (.int s0)], [.int (Op.cmpValue (FP.dcmp v3 FP.dconst0) .l), .int 1], (I, L, D, am_rf X))) 5 rfl ?_
        refine am_b1_le rfl (fun z => ?_) (fun z => ?_)
        · replace h := h.1 z
          refine am_wpb (c' := (115, [some (.int v0), some (.double v1), none, some (.double v3), none, some (.int s0)], [.int 0, .int 1], (I, L, D, am_rf X))) 1 rfl ?_
          refine am_b2_ne rfl (fun z => ?_) (fun z => ?_)
          · replace h := h.1 z
            refine am_wpb (c' := (123, [some (.int v0), some (.double v1), none, some (.double v3), none, some (.int s0)], [.int 0], (I, L, D, am_rf X))) 1 rfl ?_
            exact am_ret_z rfl rfl (Or.inl rfl) h
          · replace h := h.2 z
            refine am_wpb (c' := (123, [some (.int v0), some (.double v1), none, some (.double v3), none, some (.int s0)], [.int 1], (I, L, D, am_rf X))) 2 rfl ?_
            exact am_ret_z rfl rfl (Or.inr rfl) h
        · replace h := h.2 z
          refine am_wpb (c' := (115, [some (.int v0), some (.double v1), none, some (.double v3), none, some (.int s0)], [.int 1, .int 1], (I, L, D, am_rf X))) 2 rfl ?_
          refine am_b2_ne rfl (fun z => ?_) (fun z => ?_)
          · replace h := h.1 z
            refine am_wpb (c' := (123, [some (.int v0), some (.double v1), none, some (.double v3), none, some (.int s0)], [.int 0], (I, L, D, am_rf X))) 1 rfl ?_
            exact am_ret_z rfl rfl (Or.inl rfl) h
          · replace h := h.2 z
            refine am_wpb (c' := (123, [some (.int v0), some (.double v1), none, some (.double v3), none, some (.int s0)], [.int 1], (I, L, D, am_rf X))) 2 rfl ?_
            exact am_ret_z rfl rfl (Or.inr rfl) h
  by_cases c2 : v0 = 8
  · replace h := h.2.2.1 c2
    have e := c2
    refine am_ts_in 2 rfl (by rw [e]; rfl) (by decide) rfl ?_
    refine am_wpb (c' := (127, [some (.int v0), some (.double v1), none, some (.double v3), none, some (.int s0)], [.int (Op.cmpValue (FP.dcmp v1 FP.dconst0) .l)], (I, L, D, am_rf X))) 3 rfl ?_
    refine am_b1_ne rfl (fun z => ?_) (fun z => ?_)
    · replace h := h.1 z
      refine am_wpb (c' := (140, [some (.int v0), some (.double v1), none, some (.double v3), none, some (.int s0)], [.int (Op.cmpValue (FP.dcmp v3 FP.dconst0) .l)], (I, L, D, am_rf X))) 3 rfl ?_
      refine am_b1_ne rfl (fun z => ?_) (fun z => ?_)
      · replace h := h.1 z
        refine am_wpb (c' := (155, [some (.int v0), some (.double v1), none, some (.double v3), none, some (.int s0)], [.int 0], (I, L, D, am_rf X))) 1 rfl ?_
        exact am_ret_z rfl rfl (Or.inl rfl) h
      · replace h := h.2 z
        refine am_wpb (c' := (144, [some (.int v0), some (.double v1), none, some (.double v3), none, some (.int s0)], [.double v1], (I, L, D, am_rf X))) 1 rfl ?_
        obtain ⟨r1, I1, L1, D1, hr, h⟩ := h
        refine am_wp_inv (as := [.double v1]) rfl rfl rfl rfl ⟨_, hr, ?_⟩
        show am_wp ext d mz_194 (147, [some (.int v0), some (.double v1), none, some (.double v3), none, some (.int s0)], [.int r1], (I1, L1, D1, am_rf X)) P
        refine am_b1_eq rfl (fun z => ?_) (fun z => ?_)
        · replace h := h.1 z
          refine am_wpb (c' := (155, [some (.int v0), some (.double v1), none, some (.double v3), none, some (.int s0)], [.int 0], (I1, L1, D1, am_rf X))) 1 rfl ?_
          exact am_ret_z rfl rfl (Or.inl rfl) h
        · replace h := h.2 z
          refine am_wpb (c' := (155, [some (.int v0), some (.double v1), none, some (.double v3), none, some (.int s0)], [.int 1], (I1, L1, D1, am_rf X))) 2 rfl ?_
          exact am_ret_z rfl rfl (Or.inr rfl) h
    · replace h := h.2 z
      refine am_wpb (c' := (131, [some (.int v0), some (.double v1), none, some (.double v3), none, some (.int s0)], [.double v3], (I, L, D, am_rf X))) 1 rfl ?_
      obtain ⟨r2, I2, L2, D2, hr, h⟩ := h
      refine am_wp_inv (as := [.double v3]) rfl rfl rfl rfl ⟨_, hr, ?_⟩
      show am_wp ext d mz_194 (134, [some (.int v0), some (.double v1), none, some (.double v3), none, some (.int s0)], [.int r2], (I2, L2, D2, am_rf X)) P
      refine am_b1_ne rfl (fun z => ?_) (fun z => ?_)
      · replace h := h.1 z
        refine am_wpb (c' := (155, [some (.int v0), some (.double v1), none, some (.double v3), none, some (.int s0)], [.int 1], (I2, L2, D2, am_rf X))) 2 rfl ?_
        exact am_ret_z rfl rfl (Or.inr rfl) h
      · replace h := h.2 z
        refine am_wpb (c' := (140, [some (.int v0), some (.double v1), none, some (.double v3), none, some (.int s0)], [.int (Op.cmpValue (FP.dcmp v3 FP.dconst0) .l)], (I2, L2, D2, am_rf X))) 3 rfl ?_
        refine am_b1_ne rfl (fun z => ?_) (fun z => ?_)
        · replace h := h.1 z
          refine am_wpb (c' := (155, [some (.int v0), some (.double v1), none, some (.double v3), none, some (.int s0)], [.int 0], (I2, L2, D2, am_rf X))) 1 rfl ?_
          exact am_ret_z rfl rfl (Or.inl rfl) h
        · replace h := h.2 z
          refine am_wpb (c' := (144, [some (.int v0), some (.double v1), none, some (.double v3), none, some (.int s0)], [.double v1], (I2, L2, D2, am_rf X))) 1 rfl ?_
          obtain ⟨r3, I3, L3, D3, hr, h⟩ := h
          refine am_wp_inv (as := [.double v1]) rfl rfl rfl rfl ⟨_, hr, ?_⟩
          show am_wp ext d mz_194 (147, [some (.int v0), some (.double v1), none, some (.double v3), none, some (.int s0)], [.int r3], (I3, L3, D3, am_rf X)) P
          refine am_b1_eq rfl (fun z => ?_) (fun z => ?_)
          · replace h := h.1 z
            refine am_wpb (c' := (155, [some (.int v0), some (.double v1), none, some (.double v3), none, some (.int s0)], [.int 0], (I3, L3, D3, am_rf X))) 1 rfl ?_
            exact am_ret_z rfl rfl (Or.inl rfl) h
          · replace h := h.2 z
            refine am_wpb (c' := (155, [some (.int v0), some (.double v1), none, some (.double v3), none, some (.int s0)], [.int 1], (I3, L3, D3, am_rf X))) 2 rfl ?_
            exact am_ret_z rfl rfl (Or.inr rfl) h
  by_cases c3 : v0 = 9
  · replace h := h.2.2.2.1 c3
    have e := c3
    refine am_ts_in 3 rfl (by rw [e]; rfl) (by decide) rfl ?_
    refine am_wpb (c' := (158, [some (.int v0), some (.double v1), none, some (.double v3), none, some (.int s0)], [.int s0], (I, L, D, am_rf X))) 1 rfl ?_
    refine am_b1_ne rfl (fun z => ?_) (fun z => ?_)
    · replace h := h.1 z
      refine am_wpb (c' := (178, [some (.int v0), some (.double v1), none, some (.double v3), none, some (.int s0)], [.int 1], (I, L, D, am_rf X))) 2 rfl ?_
      exact am_ret_z rfl rfl (Or.inr rfl) h
    · replace h := h.2 z
      refine am_wpb (c' := (164, [some (.int v0), some (.double v1), none, some (.double v3), none, some (.int s0)], [.int (Op.cmpValue (FP.dcmp v1 FP.dconst0) .l)], (I, L, D, am_rf X))) 3 rfl ?_
      refine am_b1_ne rfl (fun z => ?_) (fun z => ?_)
      · replace h := h.1 z
        refine am_wpb (c' := (178, [some (.int v0), some (.double v1), none, some (.double v3), none, some (.int s0)], [.int 0], (I, L, D, am_rf X))) 1 rfl ?_
        exact am_ret_z rfl rfl (Or.inl rfl) h
      · replace h := h.2 z
        refine am_wpb (c' := (170, [some (.int v0), some (.double v1), none, some (.double v3), none, some (.int s0)], [.int (Op.cmpValue (FP.dcmp v3 FP.dconst0) .l)], (I, L, D, am_rf X))) 3 rfl ?_
        refine am_b1_ne rfl (fun z => ?_) (fun z => ?_)
        · replace h := h.1 z
          refine am_wpb (c' := (178, [some (.int v0), some (.double v1), none, some (.double v3), none, some (.int s0)], [.int 0], (I, L, D, am_rf X))) 1 rfl ?_
          exact am_ret_z rfl rfl (Or.inl rfl) h
        · replace h := h.2 z
          refine am_wpb (c' := (178, [some (.int v0), some (.double v1), none, some (.double v3), none, some (.int s0)], [.int 1], (I, L, D, am_rf X))) 2 rfl ?_
          exact am_ret_z rfl rfl (Or.inr rfl) h
  replace h := h.2.2.2.2 ⟨fun e => c0 (e), fun e => c1 (e), fun e => c2 (e), fun e => c3 (e)⟩
  rcases hsw with hsw | ⟨k, hk, hsw⟩
  · refine am_ts_out rfl hsw ?_
    refine am_wpb (c' := (180, [some (.int v0), some (.double v1), none, some (.double v3), none, some (.int s0)], [.int 0], (I, L, D, am_rf X))) 1 rfl ?_
    exact am_ret_z rfl rfl (Or.inl rfl) h
  · refine am_ts_in (t := 179) k rfl hsw (by omega) ?_ ?_
    · refine am_sw_d (bad := [0, 1, 2, 3]) hk (by decide) (fun hm => ?_)
      simp only [List.mem_cons, List.not_mem_nil, or_false] at hm
      rcases hm with e | e | e | e
      · exact c0 (am_i32 (v := 6) (by rw [hsw, e]; rfl))
      · exact c1 (am_i32 (v := 7) (by rw [hsw, e]; rfl))
      · exact c2 (am_i32 (v := 8) (by rw [hsw, e]; rfl))
      · exact c3 (am_i32 (v := 9) (by rw [hsw, e]; rfl))
    · skip
      refine am_wpb (c' := (180, [some (.int v0), some (.double v1), none, some (.double v3), none, some (.int s0)], [.int 0], (I, L, D, am_rf X))) 1 rfl ?_
      exact am_ret_z rfl rfl (Or.inl rfl) h
/-- SureSumsModel.ofTwo(IDD)D -/
def mz_195 : am_Y := (fun pc => am_q195.lookup pc, 5, 4)
theorem mh_195 : am_Ys 195 = some mz_195 := rfl
theorem w195_0 {ext : Nat → List Value → am_M → Option am_R} {d : Nat} {P : am_R → Prop} (I : Nat → Nat → Int32) (L : Nat → Nat → Int64) (D : Nat → Nat → UInt64) (X : am_Rf) (v0 : Int32) (v1 : UInt64) (v3 : UInt64)
    (h : ((v0 = 6 → (am_nn (FP.dadd v1 v3) = true ∧ (P (some (.double (FP.dadd v1 v3)), (I, L, D, am_rf X))))) ∧ (v0 = 7 → (am_nn (FP.dsub v1 v3) = true ∧ (P (some (.double (FP.dsub v1 v3)), (I, L, D, am_rf X))))) ∧ (v0 = 8 → (am_nn (FP.dmul v1 v3) = true ∧ (P (some (.double (FP.dmul v1 v3)), (I, L, D, am_rf X))))) ∧ (v0 = 9 → (am_nn (FP.ddiv v1 v3) = true ∧ (P (some (.double (FP.ddiv v1 v3)), (I, L, D, am_rf X))))) ∧ (v0 = 10 → (((¬ (Op.cmpValue (FP.dcmp v1 FP.dconst0) .l) = 0 → ((((Op.cmpValue (FP.dcmp v1 v3) .l) ≤ 0 → (P (some (.double v3), (I, L, D, am_rf X)))) ∧ (¬ (Op.cmpValue (FP.dcmp v1 v3) .l) ≤ 0 → (P (some (.double v1), (I, L, D, am_rf X))))))) ∧ ((Op.cmpValue (FP.dcmp v1 FP.dconst0) .l) = 0 → (((¬ (Op.cmpValue (FP.dcmp v3 FP.dconst0) .l) = 0 → ((((Op.cmpValue (FP.dcmp v1 v3) .l) ≤ 0 → (P (some (.double v3), (I, L, D, am_rf X)))) ∧ (¬ (Op.cmpValue (FP.dcmp v1 v3) .l) ≤ 0 → (P (some (.double v1), (I, L, D, am_rf X))))))) ∧ ((Op.cmpValue (FP.dcmp v3 FP.dconst0) .l) = 0 → (am_nn (FP.dadd v1 v3) = true ∧ (P (some (.double (FP.dadd v1 v3)), (I, L, D, am_rf X))))))))))) ∧ (¬ v0 = 6 ∧ ¬ v0 = 7 ∧ ¬ v0 = 8 ∧ ¬ v0 = 9 ∧ ¬ v0 = 10 → (((¬ (Op.cmpValue (FP.dcmp v1 FP.dconst0) .l) = 0 → (((0 ≤ (Op.cmpValue (FP.dcmp v1 v3) .g) → (P (some (.double v3), (I, L, D, am_rf X)))) ∧ (¬ 0 ≤ (Op.cmpValue (FP.dcmp v1 v3) .g) → (P (some (.double v1), (I, L, D, am_rf X))))))) ∧ ((Op.cmpValue (FP.dcmp v1 FP.dconst0) .l) = 0 → (((¬ (Op.cmpValue (FP.dcmp v3 FP.dconst0) .l) = 0 → (((0 ≤ (Op.cmpValue (FP.dcmp v1 v3) .g) → (P (some (.double v3), (I, L, D, am_rf X)))) ∧ (¬ 0 ≤ (Op.cmpValue (FP.dcmp v1 v3) .g) → (P (some (.double v1), (I, L, D, am_rf X))))))) ∧ ((Op.cmpValue (FP.dcmp v3 FP.dconst0) .l) = 0 → (am_nn (FP.dsub (FP.dneg v1) v3) = true ∧ (P (some (.double (FP.dneg (FP.dsub (FP.dneg v1) v3))), (I, L, D, am_rf X))))))))))))) : am_wp ext d mz_195 (0, [some (.int v0), some (.double v1), none, some (.double v3), none], [], (I, L, D, am_rf X)) P := by
  refine am_wpb (c' := (1, [some (.int v0), some (.double v1), none, some (.double v3), none], [.int v0], (I, L, D, am_rf X))) 1 rfl ?_
  have hsw := am_swc v0 6 4
  by_cases c0 : v0 = 6
  · replace h := h.1 c0
    have e := c0
    refine am_ts_in 0 rfl (by rw [e]; rfl) (by decide) rfl ?_
    refine am_wpb (c' := (38, [some (.int v0), some (.double v1), none, some (.double v3), none], [.double v3, .double v1], (I, L, D, am_rf X))) 2 rfl ?_
    obtain ⟨o, h⟩ := h
    refine am_wps (c' := (39, [some (.int v0), some (.double v1), none, some (.double v3), none], [.double (FP.dadd v1 v3)], (I, L, D, am_rf X))) rfl rfl (am_s_dadd o) ?_
    exact am_ret_d rfl rfl h
  by_cases c1 : v0 = 7
  · replace h := h.2.1 c1
    have e := c1
    refine am_ts_in 1 rfl (by rw [e]; rfl) (by decide) rfl ?_
    refine am_wpb (c' := (42, [some (.int v0), some (.double v1), none, some (.double v3), none], [.double v3, .double v1], (I, L, D, am_rf X))) 2 rfl ?_
    obtain ⟨o, h⟩ := h
    refine am_wps (c' := (43, [some (.int v0), some (.double v1), none, some (.double v3), none], [.double (FP.dsub v1 v3)], (I, L, D, am_rf X))) rfl rfl (am_s_dsub o) ?_
    exact am_ret_d rfl rfl h
  by_cases c2 : v0 = 8
  · replace h := h.2.2.1 c2
    have e := c2
    refine am_ts_in 2 rfl (by rw [e]; rfl) (by decide) rfl ?_
    refine am_wpb (c' := (46, [some (.int v0), some (.double v1), none, some (.double v3), none], [.double v3, .double v1], (I, L, D, am_rf X))) 2 rfl ?_
    obtain ⟨o, h⟩ := h
    refine am_wps (c' := (47, [some (.int v0), some (.double v1), none, some (.double v3), none], [.double (FP.dmul v1 v3)], (I, L, D, am_rf X))) rfl rfl (am_s_dmul o) ?_
    exact am_ret_d rfl rfl h
  by_cases c3 : v0 = 9
  · replace h := h.2.2.2.1 c3
    have e := c3
    refine am_ts_in 3 rfl (by rw [e]; rfl) (by decide) rfl ?_
    refine am_wpb (c' := (50, [some (.int v0), some (.double v1), none, some (.double v3), none], [.double v3, .double v1], (I, L, D, am_rf X))) 2 rfl ?_
    obtain ⟨o, h⟩ := h
    refine am_wps (c' := (51, [some (.int v0), some (.double v1), none, some (.double v3), none], [.double (FP.ddiv v1 v3)], (I, L, D, am_rf X))) rfl rfl (am_s_ddiv o) ?_
    exact am_ret_d rfl rfl h
  by_cases c4 : v0 = 10
  · replace h := h.2.2.2.2.1 c4
    have e := c4
    refine am_ts_in 4 rfl (by rw [e]; rfl) (by decide) rfl ?_
    refine am_wpb (c' := (55, [some (.int v0), some (.double v1), none, some (.double v3), none], [.int (Op.cmpValue (FP.dcmp v1 FP.dconst0) .l)], (I, L, D, am_rf X))) 3 rfl ?_
    refine am_b1_ne rfl (fun z => ?_) (fun z => ?_)
    · replace h := h.1 z
      refine am_wpb (c' := (73, [some (.int v0), some (.double v1), none, some (.double v3), none], [.int (Op.cmpValue (FP.dcmp v1 v3) .l)], (I, L, D, am_rf X))) 3 rfl ?_
      refine am_b1_le rfl (fun z => ?_) (fun z => ?_)
      · replace h := h.1 z
        refine am_wpb (c' := (81, [some (.int v0), some (.double v1), none, some (.double v3), none], [.double v3], (I, L, D, am_rf X))) 1 rfl ?_
        exact am_ret_d rfl rfl h
      · replace h := h.2 z
        refine am_wpb (c' := (81, [some (.int v0), some (.double v1), none, some (.double v3), none], [.double v1], (I, L, D, am_rf X))) 2 rfl ?_
        exact am_ret_d rfl rfl h
    · replace h := h.2 z
      refine am_wpb (c' := (61, [some (.int v0), some (.double v1), none, some (.double v3), none], [.int (Op.cmpValue (FP.dcmp v3 FP.dconst0) .l)], (I, L, D, am_rf X))) 3 rfl ?_
      refine am_b1_ne rfl (fun z => ?_) (fun z => ?_)
      · replace h := h.1 z
        refine am_wpb (c' := (73, [some (.int v0), some (.double v1), none, some (.double v3), none], [.int (Op.cmpValue (FP.dcmp v1 v3) .l)], (I, L, D, am_rf X))) 3 rfl ?_
        refine am_b1_le rfl (fun z => ?_) (fun z => ?_)
        · replace h := h.1 z
          refine am_wpb (c' := (81, [some (.int v0), some (.double v1), none, some (.double v3), none], [.double v3], (I, L, D, am_rf X))) 1 rfl ?_
          exact am_ret_d rfl rfl h
        · replace h := h.2 z
          refine am_wpb (c' := (81, [some (.int v0), some (.double v1), none, some (.double v3), none], [.double v1], (I, L, D, am_rf X))) 2 rfl ?_
          exact am_ret_d rfl rfl h
      · replace h := h.2 z
        refine am_wpb (c' := (66, [some (.int v0), some (.double v1), none, some (.double v3), none], [.double v3, .double v1], (I, L, D, am_rf X))) 2 rfl ?_
        obtain ⟨o, h⟩ := h
        refine am_wps (c' := (67, [some (.int v0), some (.double v1), none, some (.double v3), none], [.double (FP.dadd v1 v3)], (I, L, D, am_rf X))) rfl rfl (am_s_dadd o) ?_
        refine am_wpb (c' := (81, [some (.int v0), some (.double v1), none, some (.double v3), none], [.double (FP.dadd v1 v3)], (I, L, D, am_rf X))) 1 rfl ?_
        exact am_ret_d rfl rfl h
  replace h := h.2.2.2.2.2 ⟨fun e => c0 (e), fun e => c1 (e), fun e => c2 (e), fun e => c3 (e), fun e => c4 (e)⟩
  rcases hsw with hsw | ⟨k, hk, hsw⟩
  · refine am_ts_out rfl hsw ?_
    refine am_wpb (c' := (85, [some (.int v0), some (.double v1), none, some (.double v3), none], [.int (Op.cmpValue (FP.dcmp v1 FP.dconst0) .l)], (I, L, D, am_rf X))) 3 rfl ?_
    refine am_b1_ne rfl (fun z => ?_) (fun z => ?_)
    · replace h := h.1 z
      refine am_wpb (c' := (105, [some (.int v0), some (.double v1), none, some (.double v3), none], [.int (Op.cmpValue (FP.dcmp v1 v3) .g)], (I, L, D, am_rf X))) 3 rfl ?_
      refine am_b1_ge rfl (fun z => ?_) (fun z => ?_)
      · replace h := h.1 z
        refine am_wpb (c' := (113, [some (.int v0), some (.double v1), none, some (.double v3), none], [.double v3], (I, L, D, am_rf X))) 1 rfl ?_
        exact am_ret_d rfl rfl h
      · replace h := h.2 z
        refine am_wpb (c' := (113, [some (.int v0), some (.double v1), none, some (.double v3), none], [.double v1], (I, L, D, am_rf X))) 2 rfl ?_
        exact am_ret_d rfl rfl h
    · replace h := h.2 z
      refine am_wpb (c' := (91, [some (.int v0), some (.double v1), none, some (.double v3), none], [.int (Op.cmpValue (FP.dcmp v3 FP.dconst0) .l)], (I, L, D, am_rf X))) 3 rfl ?_
      refine am_b1_ne rfl (fun z => ?_) (fun z => ?_)
      · replace h := h.1 z
        refine am_wpb (c' := (105, [some (.int v0), some (.double v1), none, some (.double v3), none], [.int (Op.cmpValue (FP.dcmp v1 v3) .g)], (I, L, D, am_rf X))) 3 rfl ?_
        refine am_b1_ge rfl (fun z => ?_) (fun z => ?_)
        · replace h := h.1 z
          refine am_wpb (c' := (113, [some (.int v0), some (.double v1), none, some (.double v3), none], [.double v3], (I, L, D, am_rf X))) 1 rfl ?_
          exact am_ret_d rfl rfl h
        · replace h := h.2 z
          refine am_wpb (c' := (113, [some (.int v0), some (.double v1), none, some (.double v3), none], [.double v1], (I, L, D, am_rf X))) 2 rfl ?_
          exact am_ret_d rfl rfl h
      · replace h := h.2 z
        refine am_wpb (c' := (97, [some (.int v0), some (.double v1), none, some (.double v3), none], [.double v3, .double (FP.dneg v1)], (I, L, D, am_rf X))) 3 rfl ?_
        obtain ⟨o, h⟩ := h
        refine am_wps (c' := (98, [some (.int v0), some (.double v1), none, some (.double v3), none], [.double (FP.dsub (FP.dneg v1) v3)], (I, L, D, am_rf X))) rfl rfl (am_s_dsub o) ?_
        refine am_wpb (c' := (113, [some (.int v0), some (.double v1), none, some (.double v3), none], [.double (FP.dneg (FP.dsub (FP.dneg v1) v3))], (I, L, D, am_rf X))) 2 rfl ?_
        exact am_ret_d rfl rfl h
  · refine am_ts_in (t := 82) k rfl hsw (by omega) ?_ ?_
    · refine am_sw_d (bad := [0, 1, 2, 3, 4]) hk (by decide) (fun hm => ?_)
      simp only [List.mem_cons, List.not_mem_nil, or_false] at hm
      rcases hm with e | e | e | e | e
      · exact c0 (am_i32 (v := 6) (by rw [hsw, e]; rfl))
      · exact c1 (am_i32 (v := 7) (by rw [hsw, e]; rfl))
      · exact c2 (am_i32 (v := 8) (by rw [hsw, e]; rfl))
      · exact c3 (am_i32 (v := 9) (by rw [hsw, e]; rfl))
      · exact c4 (am_i32 (v := 10) (by rw [hsw, e]; rfl))
    · skip
      refine am_wpb (c' := (85, [some (.int v0), some (.double v1), none, some (.double v3), none], [.int (Op.cmpValue (FP.dcmp v1 FP.dconst0) .l)], (I, L, D, am_rf X))) 3 rfl ?_
      refine am_b1_ne rfl (fun z => ?_) (fun z => ?_)
      · replace h := h.1 z
        refine am_wpb (c' := (105, [some (.int v0), some (.double v1), none, some (.double v3), none], [.int (Op.cmpValue (FP.dcmp v1 v3) .g)], (I, L, D, am_rf X))) 3 rfl ?_
        refine am_b1_ge rfl (fun z => ?_) (fun z => ?_)
        · replace h := h.1 z
          refine am_wpb (c' := (113, [some (.int v0), some (.double v1), none, some (.double v3), none], [.double v3], (I, L, D, am_rf X))) 1 rfl ?_
          exact am_ret_d rfl rfl h
        · replace h := h.2 z
          refine am_wpb (c' := (113, [some (.int v0), some (.double v1), none, some (.double v3), none], [.double v1], (I, L, D, am_rf X))) 2 rfl ?_
          exact am_ret_d rfl rfl h
      · replace h := h.2 z
        refine am_wpb (c' := (91, [some (.int v0), some (.double v1), none, some (.double v3), none], [.int (Op.cmpValue (FP.dcmp v3 FP.dconst0) .l)], (I, L, D, am_rf X))) 3 rfl ?_
        refine am_b1_ne rfl (fun z => ?_) (fun z => ?_)
        · replace h := h.1 z
          refine am_wpb (c' := (105, [some (.int v0), some (.double v1), none, some (.double v3), none], [.int (Op.cmpValue (FP.dcmp v1 v3) .g)], (I, L, D, am_rf X))) 3 rfl ?_
          refine am_b1_ge rfl (fun z => ?_) (fun z => ?_)
          · replace h := h.1 z
            refine am_wpb (c' := (113, [some (.int v0), some (.double v1), none, some (.double v3), none], [.double v3], (I, L, D, am_rf X))) 1 rfl ?_
            exact am_ret_d rfl rfl h
          · replace h := h.2 z
            refine am_wpb (c' := (113, [some (.int v0), some (.double v1), none, some (.double v3), none], [.double v1], (I, L, D, am_rf X))) 2 rfl ?_
            exact am_ret_d rfl rfl h
        · replace h := h.2 z
          refine am_wpb (c' := (97, [some (.int v0), some (.double v1), none, some (.double v3), none], [.double v3, .double (FP.dneg v1)], (I, L, D, am_rf X))) 3 rfl ?_
          obtain ⟨o, h⟩ := h
          refine am_wps (c' := (98, [some (.int v0), some (.double v1), none, some (.double v3), none], [.double (FP.dsub (FP.dneg v1) v3)], (I, L, D, am_rf X))) rfl rfl (am_s_dsub o) ?_
          refine am_wpb (c' := (113, [some (.int v0), some (.double v1), none, some (.double v3), none], [.double (FP.dneg (FP.dsub (FP.dneg v1) v3))], (I, L, D, am_rf X))) 2 rfl ?_
          exact am_ret_d rfl rfl h
/-- SureSumsModel.rootOfDouble(D)D -/
def mz_196 : am_Y := (fun pc => am_q196.lookup pc, 17, 4)
theorem mh_196 : am_Ys 196 = some mz_196 := rfl
theorem w196_0 {ext : Nat → List Value → am_M → Option am_R} {d : Nat} {P : am_R → Prop} (I : Nat → Nat → Int32) (L : Nat → Nat → Int64) (D : Nat → Nat → UInt64) (X : am_Rf) (v0 : UInt64)
    (h : (((Op.cmpValue (FP.dcmp v0 FP.dconst0) .l) = 0 → (P (some (.double v0), (I, L, D, am_rf X)))) ∧ (¬ (Op.cmpValue (FP.dcmp v0 FP.dconst0) .l) = 0 → (∃ (r1 : Int32) (I1 : Nat → Nat → Int32) (L1 : Nat → Nat → Int64) (D1 : Nat → Nat → UInt64), am_Rn ext d 193 [.double v0] (I, L, D, am_rf X) (some (.int r1), (I1, L1, D1, am_rf X)) ∧ (((r1 = 0 → (am_wp ext d mz_196 (20, [none, none, some (.double v0), none, some (.int 0), none, none, none, none, none, none, none, none, none, none, none, none], [], (I1, L1, D1, am_rf X)) P)) ∧ (¬ r1 = 0 → (P (some (.double v0), (I1, L1, D1, am_rf X)))))))))) : am_wp ext d mz_196 (0, [some (.double v0), none, none, none, none, none, none, none, none, none, none, none, none, none, none, none, none], [], (I, L, D, am_rf X)) P := by
  refine am_wpb (c' := (3, [some (.double v0), none, none, none, none, none, none, none, none, none, none, none, none, none, none, none, none], [.int (Op.cmpValue (FP.dcmp v0 FP.dconst0) .l)], (I, L, D, am_rf X))) 3 rfl ?_
  refine am_b1_eq rfl (fun z => ?_) (fun z => ?_)
  · replace h := h.1 z
    refine am_wpb (c' := (14, [some (.double v0), none, none, none, none, none, none, none, none, none, none, none, none, none, none, none, none], [.double v0], (I, L, D, am_rf X))) 1 rfl ?_
    exact am_ret_d rfl rfl h
  · replace h := h.2 z
    refine am_wpb (c' := (7, [some (.double v0), none, none, none, none, none, none, none, none, none, none, none, none, none, none, none, none], [.double v0], (I, L, D, am_rf X))) 1 rfl ?_
    obtain ⟨r1, I1, L1, D1, hr, h⟩ := h
    refine am_wp_inv (as := [.double v0]) rfl rfl rfl rfl ⟨_, hr, ?_⟩
    show am_wp ext d mz_196 (10, [some (.double v0), none, none, none, none, none, none, none, none, none, none, none, none, none, none, none, none], [.int r1], (I1, L1, D1, am_rf X)) P
    refine am_b1_eq rfl (fun z => ?_) (fun z => ?_)
    · replace h := h.1 z
      refine am_wpb (c' := (20, [some (.double v0), none, some (.double v0), none, some (.int 0), none, none, none, none, none, none, none, none, none, none, none, none], [], (I1, L1, D1, am_rf X))) 4 rfl ?_
      exact am_fgt (l := [none, none, some (.double v0), none, some (.int 0), none, none, none, none, none, none, none, none, none, none, none, none]) (am_le_of (am_leN (am_leN (am_leS (am_leN (am_leS (am_leN (am_leN (am_leN (am_leN (am_leN (am_leN (am_leN (am_leN (am_leN (am_leN (am_leN (am_leN (am_leZ))))))))))))))))))) h
    · replace h := h.2 z
      refine am_wpb (c' := (14, [some (.double v0), none, none, none, none, none, none, none, none, none, none, none, none, none, none, none, none], [.double v0], (I1, L1, D1, am_rf X))) 1 rfl ?_
      exact am_ret_d rfl rfl h
theorem w196_20 {ext : Nat → List Value → am_M → Option am_R} {d : Nat} {P : am_R → Prop} (I : Nat → Nat → Int32) (L : Nat → Nat → Int64) (D : Nat → Nat → UInt64) (X : am_Rf) (v2 : UInt64) (v4 : Int32)
    (h : (((Op.cmpValue (FP.dcmp v2 4616189618054758400) .l) < 0 → (am_wp ext d mz_196 (40, [none, none, some (.double v2), none, some (.int v4), none, none, none, none, none, none, none, none, none, none, none, none], [], (I, L, D, am_rf X)) P)) ∧ (¬ (Op.cmpValue (FP.dcmp v2 4616189618054758400) .l) < 0 → (am_nn (FP.dmul v2 4598175219545276416) = true ∧ (am_wp ext d mz_196 (20, [none, none, some (.double (FP.dmul v2 4598175219545276416)), none, some (.int (v4 + 1)), none, none, none, none, none, none, none, none, none, none, none, none], [], (I, L, D, am_rf X)) P))))) : am_wp ext d mz_196 (20, [none, none, some (.double v2), none, some (.int v4), none, none, none, none, none, none, none, none, none, none, none, none], [], (I, L, D, am_rf X)) P := by
  refine am_wpb (c' := (25, [none, none, some (.double v2), none, some (.int v4), none, none, none, none, none, none, none, none, none, none, none, none], [.int (Op.cmpValue (FP.dcmp v2 4616189618054758400) .l)], (I, L, D, am_rf X))) 3 rfl ?_
  refine am_b1_lt rfl (fun z => ?_) (fun z => ?_)
  · replace h := h.1 z
    exact h
  · replace h := h.2 z
    refine am_wpb (c' := (32, [none, none, some (.double v2), none, some (.int v4), none, none, none, none, none, none, none, none, none, none, none, none], [.double 4598175219545276416, .double v2], (I, L, D, am_rf X))) 2 rfl ?_
    obtain ⟨o, h⟩ := h
    refine am_wps (c' := (33, [none, none, some (.double v2), none, some (.int v4), none, none, none, none, none, none, none, none, none, none, none, none], [.double (FP.dmul v2 4598175219545276416)], (I, L, D, am_rf X))) rfl rfl (am_s_dmul o) ?_
    refine am_wpb (c' := (20, [none, none, some (.double (FP.dmul v2 4598175219545276416)), none, some (.int (v4 + 1)), none, none, none, none, none, none, none, none, none, none, none, none], [], (I, L, D, am_rf X))) 3 rfl ?_
    exact h
theorem w196_40 {ext : Nat → List Value → am_M → Option am_R} {d : Nat} {P : am_R → Prop} (I : Nat → Nat → Int32) (L : Nat → Nat → Int64) (D : Nat → Nat → UInt64) (X : am_Rf) (v2 : UInt64) (v4 : Int32)
    (h : ((0 ≤ (Op.cmpValue (FP.dcmp v2 FP.dconst1) .g) → (am_nn (FP.dmul v2 4841369599423283200) = true ∧ (am_wp ext d mz_196 (76, [none, none, none, none, some (.int v4), some (.long (FP.d2l (FP.dmul v2 4841369599423283200))), none, some (.long 0), none, some (.long 0), none, some (.int 53), none, none, none, none, none], [], (I, L, D, am_rf X)) P))) ∧ (¬ 0 ≤ (Op.cmpValue (FP.dcmp v2 FP.dconst1) .g) → (am_nn (FP.dmul v2 4616189618054758400) = true ∧ (am_wp ext d mz_196 (40, [none, none, some (.double (FP.dmul v2 4616189618054758400)), none, some (.int (v4 + (-1))), none, none, none, none, none, none, none, none, none, none, none, none], [], (I, L, D, am_rf X)) P))))) : am_wp ext d mz_196 (40, [none, none, some (.double v2), none, some (.int v4), none, none, none, none, none, none, none, none, none, none, none, none], [], (I, L, D, am_rf X)) P := by
  refine am_wpb (c' := (43, [none, none, some (.double v2), none, some (.int v4), none, none, none, none, none, none, none, none, none, none, none, none], [.int (Op.cmpValue (FP.dcmp v2 FP.dconst1) .g)], (I, L, D, am_rf X))) 3 rfl ?_
  refine am_b1_ge rfl (fun z => ?_) (fun z => ?_)
  · replace h := h.1 z
    refine am_wpb (c' := (62, [none, none, some (.double v2), none, some (.int v4), none, none, none, none, none, none, none, none, none, none, none, none], [.double 4841369599423283200, .double v2], (I, L, D, am_rf X))) 2 rfl ?_
    obtain ⟨o, h⟩ := h
    refine am_wps (c' := (63, [none, none, some (.double v2), none, some (.int v4), none, none, none, none, none, none, none, none, none, none, none, none], [.double (FP.dmul v2 4841369599423283200)], (I, L, D, am_rf X))) rfl rfl (am_s_dmul o) ?_
    refine am_wpb (c' := (76, [none, none, some (.double v2), none, some (.int v4), some (.long (FP.d2l (FP.dmul v2 4841369599423283200))), none, some (.long 0), none, some (.long 0), none, some (.int 53), none, none, none, none, none], [], (I, L, D, am_rf X))) 8 rfl ?_
    exact am_fgt (l := [none, none, none, none, some (.int v4), some (.long (FP.d2l (FP.dmul v2 4841369599423283200))), none, some (.long 0), none, some (.long 0), none, some (.int 53), none, none, none, none, none]) (am_le_of (am_leN (am_leN (am_leN (am_leN (am_leS (am_leS (am_leN (am_leS (am_leN (am_leS (am_leN (am_leS (am_leN (am_leN (am_leN (am_leN (am_leN (am_leZ))))))))))))))))))) h
  · replace h := h.2 z
    refine am_wpb (c' := (50, [none, none, some (.double v2), none, some (.int v4), none, none, none, none, none, none, none, none, none, none, none, none], [.double 4616189618054758400, .double v2], (I, L, D, am_rf X))) 2 rfl ?_
    obtain ⟨o, h⟩ := h
    refine am_wps (c' := (51, [none, none, some (.double v2), none, some (.int v4), none, none, none, none, none, none, none, none, none, none, none, none], [.double (FP.dmul v2 4616189618054758400)], (I, L, D, am_rf X))) rfl rfl (am_s_dmul o) ?_
    refine am_wpb (c' := (40, [none, none, some (.double (FP.dmul v2 4616189618054758400)), none, some (.int (v4 + (-1))), none, none, none, none, none, none, none, none, none, none, none, none], [], (I, L, D, am_rf X))) 3 rfl ?_
    exact h
theorem w196_76 {ext : Nat → List Value → am_M → Option am_R} {d : Nat} {P : am_R → Prop} (I : Nat → Nat → Int32) (L : Nat → Nat → Int64) (D : Nat → Nat → UInt64) (X : am_Rf) (v4 : Int32) (v5 : Int64) (v7 : Int64) (v9 : Int64) (v11 : Int32)
    (h : ((v11 < 0 → (am_nn (FP.dmul (FP.l2d ((v7 >>> ((Int32.toInt64 1) &&& 63)) + (v7 &&& 1))) 4372995238176751616) = true ∧ (am_wp ext d mz_196 (183, [none, none, none, none, some (.int v4), none, none, none, none, none, none, none, none, some (.double (FP.dmul (FP.l2d ((v7 >>> ((Int32.toInt64 1) &&& 63)) + (v7 &&& 1))) 4372995238176751616)), none, some (.int 0), none], [], (I, L, D, am_rf X)) P))) ∧ (¬ v11 < 0 → (((0 ≤ ((2 * v11) - 54) → (am_wp ext d mz_196 (108, [none, none, none, none, some (.int v4), some (.long v5), none, some (.long v7), none, some (.long v9), none, some (.int v11), none, none, none, none, none], [.long ((v5 >>> ((Int32.toInt64 ((2 * v11) - 54)) &&& 63)) &&& 3)], (I, L, D, am_rf X)) P)) ∧ (¬ 0 ≤ ((2 * v11) - 54) → (am_wp ext d mz_196 (108, [none, none, none, none, some (.int v4), some (.long v5), none, some (.long v7), none, some (.long v9), none, some (.int v11), none, none, none, none, none], [.long 0], (I, L, D, am_rf X)) P))))))) : am_wp ext d mz_196 (76, [none, none, none, none, some (.int v4), some (.long v5), none, some (.long v7), none, some (.long v9), none, some (.int v11), none, none, none, none, none], [], (I, L, D, am_rf X)) P := by
  refine am_wpb (c' := (78, [none, none, none, none, some (.int v4), some (.long v5), none, some (.long v7), none, some (.long v9), none, some (.int v11), none, none, none, none, none], [.int v11], (I, L, D, am_rf X))) 1 rfl ?_
  refine am_b1_lt rfl (fun z => ?_) (fun z => ?_)
  · replace h := h.1 z
    refine am_wpb (c' := (177, [none, none, none, none, some (.int v4), some (.long v5), none, some (.long v7), none, some (.long v9), none, some (.long ((v7 >>> ((Int32.toInt64 1) &&& 63)) + (v7 &&& 1))), none, none, none, none, none], [.double 4372995238176751616, .double (FP.l2d ((v7 >>> ((Int32.toInt64 1) &&& 63)) + (v7 &&& 1)))], (I, L, D, am_rf X))) 11 rfl ?_
    obtain ⟨o, h⟩ := h
    refine am_wps (c' := (178, [none, none, none, none, some (.int v4), some (.long v5), none, some (.long v7), none, some (.long v9), none, some (.long ((v7 >>> ((Int32.toInt64 1) &&& 63)) + (v7 &&& 1))), none, none, none, none, none], [.double (FP.dmul (FP.l2d ((v7 >>> ((Int32.toInt64 1) &&& 63)) + (v7 &&& 1))) 4372995238176751616)], (I, L, D, am_rf X))) rfl rfl (am_s_dmul o) ?_
    refine am_wpb (c' := (183, [none, none, none, none, some (.int v4), some (.long v5), none, some (.long v7), none, some (.long v9), none, some (.long ((v7 >>> ((Int32.toInt64 1) &&& 63)) + (v7 &&& 1))), none, some (.double (FP.dmul (FP.l2d ((v7 >>> ((Int32.toInt64 1) &&& 63)) + (v7 &&& 1))) 4372995238176751616)), none, some (.int 0), none], [], (I, L, D, am_rf X))) 3 rfl ?_
    exact am_fgt (l := [none, none, none, none, some (.int v4), none, none, none, none, none, none, none, none, some (.double (FP.dmul (FP.l2d ((v7 >>> ((Int32.toInt64 1) &&& 63)) + (v7 &&& 1))) 4372995238176751616)), none, some (.int 0), none]) (am_le_of (am_leN (am_leN (am_leN (am_leN (am_leS (am_leN (am_leN (am_leN (am_leN (am_leN (am_leN (am_leN (am_leN (am_leS (am_leN (am_leS (am_leN (am_leZ))))))))))))))))))) h
  · replace h := h.2 z
    refine am_wpb (c' := (92, [none, none, none, none, some (.int v4), some (.long v5), none, some (.long v7), none, some (.long v9), none, some (.int v11), some (.int ((2 * v11) - 54)), none, none, none, none], [.int ((2 * v11) - 54)], (I, L, D, am_rf X))) 7 rfl ?_
    refine am_b1_ge rfl (fun z => ?_) (fun z => ?_)
    · replace h := h.1 z
      refine am_wpb (c' := (108, [none, none, none, none, some (.int v4), some (.long v5), none, some (.long v7), none, some (.long v9), none, some (.int v11), some (.int ((2 * v11) - 54)), none, none, none, none], [.long ((v5 >>> ((Int32.toInt64 ((2 * v11) - 54)) &&& 63)) &&& 3)], (I, L, D, am_rf X))) 5 rfl ?_
      exact am_fgt (l := [none, none, none, none, some (.int v4), some (.long v5), none, some (.long v7), none, some (.long v9), none, some (.int v11), none, none, none, none, none]) (am_le_of (am_leN (am_leN (am_leN (am_leN (am_leS (am_leS (am_leN (am_leS (am_leN (am_leS (am_leN (am_leS (am_leN (am_leN (am_leN (am_leN (am_leN (am_leZ))))))))))))))))))) h
    · replace h := h.2 z
      refine am_wpb (c' := (108, [none, none, none, none, some (.int v4), some (.long v5), none, some (.long v7), none, some (.long v9), none, some (.int v11), some (.int ((2 * v11) - 54)), none, none, none, none], [.long 0], (I, L, D, am_rf X))) 2 rfl ?_
      exact am_fgt (l := [none, none, none, none, some (.int v4), some (.long v5), none, some (.long v7), none, some (.long v9), none, some (.int v11), none, none, none, none, none]) (am_le_of (am_leN (am_leN (am_leN (am_leN (am_leS (am_leS (am_leN (am_leS (am_leN (am_leS (am_leN (am_leS (am_leN (am_leN (am_leN (am_leN (am_leN (am_leZ))))))))))))))))))) h
theorem w196_108 {ext : Nat → List Value → am_M → Option am_R} {d : Nat} {P : am_R → Prop} (I : Nat → Nat → Int32) (L : Nat → Nat → Int64) (D : Nat → Nat → UInt64) (X : am_Rf) (v4 : Int32) (v5 : Int64) (v7 : Int64) (v9 : Int64) (v11 : Int32) (s0 : Int64)
    (h : ((((v9 <<< ((Int32.toInt64 2) &&& 63)) ||| s0) < ((v7 <<< ((Int32.toInt64 2) &&& 63)) ||| 1) → (am_wp ext d mz_196 (76, [none, none, none, none, some (.int v4), some (.long v5), none, some (.long (v7 <<< ((Int32.toInt64 1) &&& 63))), none, some (.long ((v9 <<< ((Int32.toInt64 2) &&& 63)) ||| s0)), none, some (.int (v11 + (-1))), none, none, none, none, none], [], (I, L, D, am_rf X)) P)) ∧ (¬ ((v9 <<< ((Int32.toInt64 2) &&& 63)) ||| s0) < ((v7 <<< ((Int32.toInt64 2) &&& 63)) ||| 1) → (am_wp ext d mz_196 (76, [none, none, none, none, some (.int v4), some (.long v5), none, some (.long ((v7 <<< ((Int32.toInt64 1) &&& 63)) + 1)), none, some (.long (((v9 <<< ((Int32.toInt64 2) &&& 63)) ||| s0) - ((v7 <<< ((Int32.toInt64 2) &&& 63)) ||| 1))), none, some (.int (v11 + (-1))), none, none, none, none, none], [], (I, L, D, am_rf X)) P)))) : am_wp ext d mz_196 (108, [none, none, none, none, some (.int v4), some (.long v5), none, some (.long v7), none, some (.long v9), none, some (.int v11), none, none, none, none, none], [.long s0], (I, L, D, am_rf X)) P := by
  refine am_wpb (c' := (137, [none, none, none, none, some (.int v4), some (.long v5), none, some (.long (v7 <<< ((Int32.toInt64 1) &&& 63))), none, some (.long ((v9 <<< ((Int32.toInt64 2) &&& 63)) ||| s0)), none, some (.int v11), none, some (.long s0), none, some (.long ((v7 <<< ((Int32.toInt64 2) &&& 63)) ||| 1)), none], [.long ((v7 <<< ((Int32.toInt64 2) &&& 63)) ||| 1), .long ((v9 <<< ((Int32.toInt64 2) &&& 63)) ||| s0)], (I, L, D, am_rf X))) 19 rfl ?_
  refine am_lc_lt rfl rfl (fun z => ?_) (fun z => ?_)
  · replace h := h.1 z
    refine am_wpb (c' := (76, [none, none, none, none, some (.int v4), some (.long v5), none, some (.long (v7 <<< ((Int32.toInt64 1) &&& 63))), none, some (.long ((v9 <<< ((Int32.toInt64 2) &&& 63)) ||| s0)), none, some (.int (v11 + (-1))), none, some (.long s0), none, some (.long ((v7 <<< ((Int32.toInt64 2) &&& 63)) ||| 1)), none], [], (I, L, D, am_rf X))) 2 rfl ?_
    exact am_fgt (l := [none, none, none, none, some (.int v4), some (.long v5), none, some (.long (v7 <<< ((Int32.toInt64 1) &&& 63))), none, some (.long ((v9 <<< ((Int32.toInt64 2) &&& 63)) ||| s0)), none, some (.int (v11 + (-1))), none, none, none, none, none]) (am_le_of (am_leN (am_leN (am_leN (am_leN (am_leS (am_leS (am_leN (am_leS (am_leN (am_leS (am_leN (am_leS (am_leN (am_leN (am_leN (am_leN (am_leN (am_leZ))))))))))))))))))) h
  · replace h := h.2 z
    refine am_wpb (c' := (76, [none, none, none, none, some (.int v4), some (.long v5), none, some (.long ((v7 <<< ((Int32.toInt64 1) &&& 63)) + 1)), none, some (.long (((v9 <<< ((Int32.toInt64 2) &&& 63)) ||| s0) - ((v7 <<< ((Int32.toInt64 2) &&& 63)) ||| 1))), none, some (.int (v11 + (-1))), none, some (.long s0), none, some (.long ((v7 <<< ((Int32.toInt64 2) &&& 63)) ||| 1)), none], [], (I, L, D, am_rf X))) 10 rfl ?_
    exact am_fgt (l := [none, none, none, none, some (.int v4), some (.long v5), none, some (.long ((v7 <<< ((Int32.toInt64 1) &&& 63)) + 1)), none, some (.long (((v9 <<< ((Int32.toInt64 2) &&& 63)) ||| s0) - ((v7 <<< ((Int32.toInt64 2) &&& 63)) ||| 1))), none, some (.int (v11 + (-1))), none, none, none, none, none]) (am_le_of (am_leN (am_leN (am_leN (am_leN (am_leS (am_leS (am_leN (am_leS (am_leN (am_leS (am_leN (am_leS (am_leN (am_leN (am_leN (am_leN (am_leN (am_leZ))))))))))))))))))) h
theorem w196_183 {ext : Nat → List Value → am_M → Option am_R} {d : Nat} {P : am_R → Prop} (I : Nat → Nat → Int32) (L : Nat → Nat → Int64) (D : Nat → Nat → UInt64) (X : am_Rf) (v4 : Int32) (v13 : UInt64) (v15 : Int32)
    (h : ((v4 ≤ v15 → (am_wp ext d mz_196 (207, [none, none, none, none, some (.int v4), none, none, none, none, none, none, none, none, some (.double v13), none, some (.int 0), none], [], (I, L, D, am_rf X)) P)) ∧ (¬ v4 ≤ v15 → (am_nn (FP.dmul v13 4611686018427387904) = true ∧ (am_wp ext d mz_196 (183, [none, none, none, none, some (.int v4), none, none, none, none, none, none, none, none, some (.double (FP.dmul v13 4611686018427387904)), none, some (.int (v15 + 1)), none], [], (I, L, D, am_rf X)) P))))) : am_wp ext d mz_196 (183, [none, none, none, none, some (.int v4), none, none, none, none, none, none, none, none, some (.double v13), none, some (.int v15), none], [], (I, L, D, am_rf X)) P := by
  refine am_wpb (c' := (187, [none, none, none, none, some (.int v4), none, none, none, none, none, none, none, none, some (.double v13), none, some (.int v15), none], [.int v4, .int v15], (I, L, D, am_rf X))) 2 rfl ?_
  refine am_b2_ge rfl (fun z => ?_) (fun z => ?_)
  · replace h := h.1 z
    refine am_wpb (c' := (207, [none, none, none, none, some (.int v4), none, none, none, none, none, none, none, none, some (.double v13), none, some (.int 0), none], [], (I, L, D, am_rf X))) 2 rfl ?_
    exact h
  · replace h := h.2 z
    refine am_wpb (c' := (195, [none, none, none, none, some (.int v4), none, none, none, none, none, none, none, none, some (.double v13), none, some (.int v15), none], [.double 4611686018427387904, .double v13], (I, L, D, am_rf X))) 2 rfl ?_
    obtain ⟨o, h⟩ := h
    refine am_wps (c' := (196, [none, none, none, none, some (.int v4), none, none, none, none, none, none, none, none, some (.double v13), none, some (.int v15), none], [.double (FP.dmul v13 4611686018427387904)], (I, L, D, am_rf X))) rfl rfl (am_s_dmul o) ?_
    refine am_wpb (c' := (183, [none, none, none, none, some (.int v4), none, none, none, none, none, none, none, none, some (.double (FP.dmul v13 4611686018427387904)), none, some (.int (v15 + 1)), none], [], (I, L, D, am_rf X))) 3 rfl ?_
    exact h
theorem w196_207 {ext : Nat → List Value → am_M → Option am_R} {d : Nat} {P : am_R → Prop} (I : Nat → Nat → Int32) (L : Nat → Nat → Int64) (D : Nat → Nat → UInt64) (X : am_Rf) (v4 : Int32) (v13 : UInt64) (v15 : Int32)
    (h : ((v15 ≤ v4 → (P (some (.double v13), (I, L, D, am_rf X)))) ∧ (¬ v15 ≤ v4 → (am_nn (FP.dmul v13 4602678819172646912) = true ∧ (am_wp ext d mz_196 (207, [none, none, none, none, some (.int v4), none, none, none, none, none, none, none, none, some (.double (FP.dmul v13 4602678819172646912)), none, some (.int (v15 + (-1))), none], [], (I, L, D, am_rf X)) P))))) : am_wp ext d mz_196 (207, [none, none, none, none, some (.int v4), none, none, none, none, none, none, none, none, some (.double v13), none, some (.int v15), none], [], (I, L, D, am_rf X)) P := by
  refine am_wpb (c' := (211, [none, none, none, none, some (.int v4), none, none, none, none, none, none, none, none, some (.double v13), none, some (.int v15), none], [.int v4, .int v15], (I, L, D, am_rf X))) 2 rfl ?_
  refine am_b2_le rfl (fun z => ?_) (fun z => ?_)
  · replace h := h.1 z
    refine am_wpb (c' := (230, [none, none, none, none, some (.int v4), none, none, none, none, none, none, none, none, some (.double v13), none, some (.int v15), none], [.double v13], (I, L, D, am_rf X))) 1 rfl ?_
    exact am_ret_d rfl rfl h
  · replace h := h.2 z
    refine am_wpb (c' := (219, [none, none, none, none, some (.int v4), none, none, none, none, none, none, none, none, some (.double v13), none, some (.int v15), none], [.double 4602678819172646912, .double v13], (I, L, D, am_rf X))) 2 rfl ?_
    obtain ⟨o, h⟩ := h
    refine am_wps (c' := (220, [none, none, none, none, some (.int v4), none, none, none, none, none, none, none, none, some (.double v13), none, some (.int v15), none], [.double (FP.dmul v13 4602678819172646912)], (I, L, D, am_rf X))) rfl rfl (am_s_dmul o) ?_
    refine am_wpb (c' := (207, [none, none, none, none, some (.int v4), none, none, none, none, none, none, none, none, some (.double (FP.dmul v13 4602678819172646912)), none, some (.int (v15 + (-1))), none], [], (I, L, D, am_rf X))) 3 rfl ?_
    exact h
/-- SureSumsModel.fails(I)D -/
def mz_197 : am_Y := (fun pc => am_q197.lookup pc, 2, 4)
theorem mh_197 : am_Ys 197 = some mz_197 := rfl
theorem w197_0 {ext : Nat → List Value → am_M → Option am_R} {d : Nat} {P : am_R → Prop} (I : Nat → Nat → Int32) (L : Nat → Nat → Int64) (D : Nat → Nat → UInt64) (X : am_Rf) (v1 : Int32)
    (h : P (some (.double FP.dconst0), (am_uI I 42 2 v1, L, D, am_rf X))) : am_wp ext d mz_197 (0, [some (.ref 42), some (.int v1)], [], (I, L, D, am_rf X)) P := by
  refine am_wpb (c' := (6, [some (.ref 42), some (.int v1)], [.double FP.dconst0], (am_uI I 42 2 v1, L, D, am_rf X))) 4 rfl ?_
  exact am_ret_d rfl rfl h
/-- SureSumsModel.machine(I)D -/
def mz_198 : am_Y := (fun pc => am_q198.lookup pc, 2, 4)
theorem mh_198 : am_Ys 198 = some mz_198 := rfl
theorem w198_0 {ext : Nat → List Value → am_M → Option am_R} {d : Nat} {P : am_R → Prop} (I : Nat → Nat → Int32) (L : Nat → Nat → Int64) (D : Nat → Nat → UInt64) (X : am_Rf) (v1 : Int32)
    (h : ∃ (r1 : Int32) (I1 : Nat → Nat → Int32) (L1 : Nat → Nat → Int64) (D1 : Nat → Nat → UInt64), am_Rn ext d 146 [.int v1] (am_uI I 42 2 0, L, D, am_rf X) (some (.int r1), (I1, L1, D1, am_rf X)) ∧ (((¬ r1 = 0 → (∃ (r2 : Int32) (I2 : Nat → Nat → Int32) (L2 : Nat → Nat → Int64) (D2 : Nat → Nat → UInt64), am_Rn ext d 148 [.ref 42, .int v1] (I1, L1, D1, am_rf X) (some (.int r2), (I2, L2, D2, am_rf X)) ∧ (((¬ r2 = 0 → (∃ (I3 : Nat → Nat → Int32) (L3 : Nat → Nat → Int64) (D3 : Nat → Nat → UInt64), am_Rn ext d 191 [.ref 42] (I2, L2, D2, am_rf X) (none, (I3, L3, D3, am_rf X)) ∧ (am_inb v1 26 = true ∧ ((((I3 76 (Int32.toNatClampNeg v1)) = 0 → (am_inb v1 26 = true ∧ (P (some (.double (D3 75 (Int32.toNatClampNeg v1))), (I3, L3, D3, am_rf X))))) ∧ (¬ (I3 76 (Int32.toNatClampNeg v1)) = 0 → (P (some (.double FP.dconst0), (I3, L3, D3, am_rf X))))))))) ∧ (r2 = 0 → (∃ (r4 : UInt64) (I4 : Nat → Nat → Int32) (L4 : Nat → Nat → Int64) (D4 : Nat → Nat → UInt64), am_Rn ext d 197 [.ref 42, .int 2] (I2, L2, D2, am_rf X) (some (.double r4), (I4, L4, D4, am_rf X)) ∧ (P (some (.double r4), (I4, L4, D4, am_rf X))))))))) ∧ (r1 = 0 → (∃ (r5 : UInt64) (I5 : Nat → Nat → Int32) (L5 : Nat → Nat → Int64) (D5 : Nat → Nat → UInt64), am_Rn ext d 197 [.ref 42, .int 1] (I1, L1, D1, am_rf X) (some (.double r5), (I5, L5, D5, am_rf X)) ∧ (P (some (.double r5), (I5, L5, D5, am_rf X)))))))) : am_wp ext d mz_198 (0, [some (.ref 42), some (.int v1)], [], (I, L, D, am_rf X)) P := by
  refine am_wpb (c' := (6, [some (.ref 42), some (.int v1)], [.int v1], (am_uI I 42 2 0, L, D, am_rf X))) 4 rfl ?_
  obtain ⟨r1, I1, L1, D1, hr, h⟩ := h
  refine am_wp_inv (as := [.int v1]) rfl rfl rfl rfl ⟨_, hr, ?_⟩
  show am_wp ext d mz_198 (9, [some (.ref 42), some (.int v1)], [.int r1], (I1, L1, D1, am_rf X)) P
  refine am_b1_ne rfl (fun z => ?_) (fun z => ?_)
  · replace h := h.1 z
    refine am_wpb (c' := (20, [some (.ref 42), some (.int v1)], [.int v1, .ref 42], (I1, L1, D1, am_rf X))) 2 rfl ?_
    obtain ⟨r2, I2, L2, D2, hr, h⟩ := h
    refine am_wp_inv (as := [.ref 42, .int v1]) rfl rfl rfl rfl ⟨_, hr, ?_⟩
    show am_wp ext d mz_198 (23, [some (.ref 42), some (.int v1)], [.int r2], (I2, L2, D2, am_rf X)) P
    refine am_b1_ne rfl (fun z => ?_) (fun z => ?_)
    · replace h := h.1 z
      refine am_wpb (c' := (33, [some (.ref 42), some (.int v1)], [.ref 42], (I2, L2, D2, am_rf X))) 1 rfl ?_
      obtain ⟨I3, L3, D3, hr, h⟩ := h
      refine am_wp_inv (as := [.ref 42]) rfl rfl rfl rfl ⟨_, hr, ?_⟩
      show am_wp ext d mz_198 (36, [some (.ref 42), some (.int v1)], [], (I3, L3, D3, am_rf X)) P
      refine am_wpb (c' := (41, [some (.ref 42), some (.int v1)], [.int v1, .ref 76], (I3, L3, D3, am_rf X))) 3 rfl ?_
      obtain ⟨o, h⟩ := h
      refine am_wps (c' := (42, [some (.ref 42), some (.int v1)], [.int (I3 76 (Int32.toNatClampNeg v1))], (I3, L3, D3, am_rf X))) rfl rfl (am_s_zald rfl o) ?_
      refine am_b1_eq rfl (fun z => ?_) (fun z => ?_)
      · replace h := h.1 z
        refine am_wpb (c' := (54, [some (.ref 42), some (.int v1)], [.int v1, .ref 75], (I3, L3, D3, am_rf X))) 3 rfl ?_
        obtain ⟨o, h⟩ := h
        refine am_wps (c' := (55, [some (.ref 42), some (.int v1)], [.double (D3 75 (Int32.toNatClampNeg v1))], (I3, L3, D3, am_rf X))) rfl rfl (am_s_dald rfl o) ?_
        exact am_ret_d rfl rfl h
      · replace h := h.2 z
        refine am_wpb (c' := (55, [some (.ref 42), some (.int v1)], [.double FP.dconst0], (I3, L3, D3, am_rf X))) 2 rfl ?_
        exact am_ret_d rfl rfl h
    · replace h := h.2 z
      refine am_wpb (c' := (28, [some (.ref 42), some (.int v1)], [.int 2, .ref 42], (I2, L2, D2, am_rf X))) 2 rfl ?_
      obtain ⟨r4, I4, L4, D4, hr, h⟩ := h
      refine am_wp_inv (as := [.ref 42, .int 2]) rfl rfl rfl rfl ⟨_, hr, ?_⟩
      show am_wp ext d mz_198 (31, [some (.ref 42), some (.int v1)], [.double r4], (I4, L4, D4, am_rf X)) P
      exact am_ret_d rfl rfl h
  · replace h := h.2 z
    refine am_wpb (c' := (14, [some (.ref 42), some (.int v1)], [.int 1, .ref 42], (I1, L1, D1, am_rf X))) 2 rfl ?_
    obtain ⟨r5, I5, L5, D5, hr, h⟩ := h
    refine am_wp_inv (as := [.ref 42, .int 1]) rfl rfl rfl rfl ⟨_, hr, ?_⟩
    show am_wp ext d mz_198 (17, [some (.ref 42), some (.int v1)], [.double r5], (I5, L5, D5, am_rf X)) P
    exact am_ret_d rfl rfl h
/-- SureSumsModel.off(I)I -/
def mz_199 : am_Y := (fun pc => am_q199.lookup pc, 4, 1)
theorem mh_199 : am_Ys 199 = some mz_199 := rfl
theorem w199_0 {ext : Nat → List Value → am_M → Option am_R} {d : Nat} {P : am_R → Prop} (I : Nat → Nat → Int32) (L : Nat → Nat → Int64) (D : Nat → Nat → UInt64) (X : am_Rf) (v1 : Int32)
    (h : ∃ (r1 : Int32) (I1 : Nat → Nat → Int32) (L1 : Nat → Nat → Int64) (D1 : Nat → Nat → UInt64), am_Rn ext d 148 [.ref 42, .int v1] (am_uI I 42 2 0, L, D, am_rf X) (some (.int r1), (I1, L1, D1, am_rf X)) ∧ (((¬ r1 = 0 → (∃ (I2 : Nat → Nat → Int32) (L2 : Nat → Nat → Int64) (D2 : Nat → Nat → UInt64), am_Rn ext d 191 [.ref 42] (I1, L1, D1, am_rf X) (none, (I2, L2, D2, am_rf X)) ∧ (∃ (I3 : Nat → Nat → Int32) (L3 : Nat → Nat → Int64) (D3 : Nat → Nat → UInt64), am_Rn ext d 170 [.ref 42, .int v1, .int 20] (I2, L2, D2, am_rf X) (none, (I3, L3, D3, am_rf X)) ∧ (am_inb v1 26 = true ∧ (((¬ (I3 76 (Int32.toNatClampNeg v1)) = 0 → (P (some (.int 2), (I3, L3, D3, am_rf X)))) ∧ ((I3 76 (Int32.toNatClampNeg v1)) = 0 → (((¬ (I3 42 50) = 0 → (am_inb v1 26 = true ∧ (am_nn (FP.dmul (D3 75 (Int32.toNatClampNeg v1)) 4697254411347427328) = true ∧ (((0 ≤ (Op.cmpValue (FP.dcmp (FP.dmul (D3 75 (Int32.toNatClampNeg v1)) 4697254411347427328) (FP.l2d (L3 42 51))) .g) → ((((Op.cmpValue (FP.dcmp (FP.dmul (D3 75 (Int32.toNatClampNeg v1)) 4697254411347427328) (FP.l2d (L3 42 52))) .l) ≤ 0 → (P (some (.int 0), (I3, L3, D3, am_rf X)))) ∧ (¬ (Op.cmpValue (FP.dcmp (FP.dmul (D3 75 (Int32.toNatClampNeg v1)) 4697254411347427328) (FP.l2d (L3 42 52))) .l) ≤ 0 → (P (some (.int 1), (I3, L3, D3, am_rf X))))))) ∧ (¬ 0 ≤ (Op.cmpValue (FP.dcmp (FP.dmul (D3 75 (Int32.toNatClampNeg v1)) 4697254411347427328) (FP.l2d (L3 42 51))) .g) → (P (some (.int (-1)), (I3, L3, D3, am_rf X))))))))) ∧ ((I3 42 50) = 0 → (P (some (.int 2), (I3, L3, D3, am_rf X))))))))))))) ∧ (r1 = 0 → (P (some (.int (-1)), (I1, L1, D1, am_rf X))))))) : am_wp ext d mz_199 (0, [some (.ref 42), some (.int v1), none, none], [], (I, L, D, am_rf X)) P := by
  refine am_wpb (c' := (7, [some (.ref 42), some (.int v1), none, none], [.int v1, .ref 42], (am_uI I 42 2 0, L, D, am_rf X))) 5 rfl ?_
  obtain ⟨r1, I1, L1, D1, hr, h⟩ := h
  refine am_wp_inv (as := [.ref 42, .int v1]) rfl rfl rfl rfl ⟨_, hr, ?_⟩
  show am_wp ext d mz_199 (10, [some (.ref 42), some (.int v1), none, none], [.int r1], (I1, L1, D1, am_rf X)) P
  refine am_b1_ne rfl (fun z => ?_) (fun z => ?_)
  · replace h := h.1 z
    refine am_wpb (c' := (16, [some (.ref 42), some (.int v1), none, none], [.ref 42], (I1, L1, D1, am_rf X))) 1 rfl ?_
    obtain ⟨I2, L2, D2, hr, h⟩ := h
    refine am_wp_inv (as := [.ref 42]) rfl rfl rfl rfl ⟨_, hr, ?_⟩
    show am_wp ext d mz_199 (19, [some (.ref 42), some (.int v1), none, none], [], (I2, L2, D2, am_rf X)) P
    refine am_wpb (c' := (23, [some (.ref 42), some (.int v1), none, none], [.int 20, .int v1, .ref 42], (I2, L2, D2, am_rf X))) 3 rfl ?_
    obtain ⟨I3, L3, D3, hr, h⟩ := h
    refine am_wp_inv (as := [.ref 42, .int v1, .int 20]) rfl rfl rfl rfl ⟨_, hr, ?_⟩
    show am_wp ext d mz_199 (26, [some (.ref 42), some (.int v1), none, none], [], (I3, L3, D3, am_rf X)) P
    refine am_wpb (c' := (31, [some (.ref 42), some (.int v1), none, none], [.int v1, .ref 76], (I3, L3, D3, am_rf X))) 3 rfl ?_
    obtain ⟨o, h⟩ := h
    refine am_wps (c' := (32, [some (.ref 42), some (.int v1), none, none], [.int (I3 76 (Int32.toNatClampNeg v1))], (I3, L3, D3, am_rf X))) rfl rfl (am_s_zald rfl o) ?_
    refine am_b1_ne rfl (fun z => ?_) (fun z => ?_)
    · replace h := h.1 z
      refine am_wpb (c' := (43, [some (.ref 42), some (.int v1), none, none], [.int 2], (I3, L3, D3, am_rf X))) 1 rfl ?_
      exact am_ret_i rfl rfl h
    · replace h := h.2 z
      refine am_wpb (c' := (39, [some (.ref 42), some (.int v1), none, none], [.int (I3 42 50)], (I3, L3, D3, am_rf X))) 2 rfl ?_
      refine am_b1_ne rfl (fun z => ?_) (fun z => ?_)
      · replace h := h.1 z
        refine am_wpb (c' := (49, [some (.ref 42), some (.int v1), none, none], [.int v1, .ref 75], (I3, L3, D3, am_rf X))) 3 rfl ?_
        obtain ⟨o, h⟩ := h
        refine am_wps (c' := (50, [some (.ref 42), some (.int v1), none, none], [.double (D3 75 (Int32.toNatClampNeg v1))], (I3, L3, D3, am_rf X))) rfl rfl (am_s_dald rfl o) ?_
        refine am_wpb (c' := (53, [some (.ref 42), some (.int v1), none, none], [.double 4697254411347427328, .double (D3 75 (Int32.toNatClampNeg v1))], (I3, L3, D3, am_rf X))) 1 rfl ?_
        obtain ⟨o, h⟩ := h
        refine am_wps (c' := (54, [some (.ref 42), some (.int v1), none, none], [.double (FP.dmul (D3 75 (Int32.toNatClampNeg v1)) 4697254411347427328)], (I3, L3, D3, am_rf X))) rfl rfl (am_s_dmul o) ?_
        refine am_wpb (c' := (62, [some (.ref 42), some (.int v1), some (.double (FP.dmul (D3 75 (Int32.toNatClampNeg v1)) 4697254411347427328)), none], [.int (Op.cmpValue (FP.dcmp (FP.dmul (D3 75 (Int32.toNatClampNeg v1)) 4697254411347427328) (FP.l2d (L3 42 51))) .g)], (I3, L3, D3, am_rf X))) 6 rfl ?_
        refine am_b1_ge rfl (fun z => ?_) (fun z => ?_)
        · replace h := h.1 z
          refine am_wpb (c' := (76, [some (.ref 42), some (.int v1), some (.double (FP.dmul (D3 75 (Int32.toNatClampNeg v1)) 4697254411347427328)), none], [.int (Op.cmpValue (FP.dcmp (FP.dmul (D3 75 (Int32.toNatClampNeg v1)) 4697254411347427328) (FP.l2d (L3 42 52))) .l)], (I3, L3, D3, am_rf X))) 5 rfl ?_
          refine am_b1_le rfl (fun z => ?_) (fun z => ?_)
          · replace h := h.1 z
            refine am_wpb (c' := (84, [some (.ref 42), some (.int v1), some (.double (FP.dmul (D3 75 (Int32.toNatClampNeg v1)) 4697254411347427328)), none], [.int 0], (I3, L3, D3, am_rf X))) 1 rfl ?_
            exact am_ret_i rfl rfl h
          · replace h := h.2 z
            refine am_wpb (c' := (84, [some (.ref 42), some (.int v1), some (.double (FP.dmul (D3 75 (Int32.toNatClampNeg v1)) 4697254411347427328)), none], [.int 1], (I3, L3, D3, am_rf X))) 2 rfl ?_
            exact am_ret_i rfl rfl h
        · replace h := h.2 z
          refine am_wpb (c' := (84, [some (.ref 42), some (.int v1), some (.double (FP.dmul (D3 75 (Int32.toNatClampNeg v1)) 4697254411347427328)), none], [.int (-1)], (I3, L3, D3, am_rf X))) 2 rfl ?_
          exact am_ret_i rfl rfl h
      · replace h := h.2 z
        refine am_wpb (c' := (43, [some (.ref 42), some (.int v1), none, none], [.int 2], (I3, L3, D3, am_rf X))) 1 rfl ?_
        exact am_ret_i rfl rfl h
  · replace h := h.2 z
    refine am_wpb (c' := (14, [some (.ref 42), some (.int v1), none, none], [.int (-1)], (I1, L1, D1, am_rf X))) 1 rfl ?_
    exact am_ret_i rfl rfl h
/-- SureSumsModel.count(I)I -/
def mz_200 : am_Y := (fun pc => am_q200.lookup pc, 2, 1)
theorem mh_200 : am_Ys 200 = some mz_200 := rfl
theorem w200_0 {ext : Nat → List Value → am_M → Option am_R} {d : Nat} {P : am_R → Prop} (I : Nat → Nat → Int32) (L : Nat → Nat → Int64) (D : Nat → Nat → UInt64) (X : am_Rf) (v1 : Int32)
    (h : ((v1 = 0 → (P (some (.int (I 42 24)), (am_uI I 42 2 0, L, D, am_rf X)))) ∧ (v1 = 1 → (P (some (.int (I 42 25)), (am_uI I 42 2 0, L, D, am_rf X)))) ∧ (v1 = 2 → (P (some (.int (I 42 17)), (am_uI I 42 2 0, L, D, am_rf X)))) ∧ (v1 = 3 → (P (some (.int (I 42 21)), (am_uI I 42 2 0, L, D, am_rf X)))) ∧ (¬ v1 = 0 ∧ ¬ v1 = 1 ∧ ¬ v1 = 2 ∧ ¬ v1 = 3 → (P (some (.int (-1)), (am_uI I 42 2 0, L, D, am_rf X)))))) : am_wp ext d mz_200 (0, [some (.ref 42), some (.int v1)], [], (I, L, D, am_rf X)) P := by
  refine am_wpb (c' := (6, [some (.ref 42), some (.int v1)], [.int v1], (am_uI I 42 2 0, L, D, am_rf X))) 4 rfl ?_
  have hsw := am_swc v1 0 3
  by_cases c0 : v1 = 0
  · replace h := h.1 c0
    have e := c0
    refine am_ts_in 0 rfl (by rw [e]; rfl) (by decide) rfl ?_
    refine am_wpb (c' := (40, [some (.ref 42), some (.int v1)], [.int (I 42 24)], (am_uI I 42 2 0, L, D, am_rf X))) 2 rfl ?_
    exact am_ret_i rfl rfl h
  by_cases c1 : v1 = 1
  · replace h := h.2.1 c1
    have e := c1
    refine am_ts_in 1 rfl (by rw [e]; rfl) (by decide) rfl ?_
    refine am_wpb (c' := (45, [some (.ref 42), some (.int v1)], [.int (I 42 25)], (am_uI I 42 2 0, L, D, am_rf X))) 2 rfl ?_
    exact am_ret_i rfl rfl h
  by_cases c2 : v1 = 2
  · replace h := h.2.2.1 c2
    have e := c2
    refine am_ts_in 2 rfl (by rw [e]; rfl) (by decide) rfl ?_
    refine am_wpb (c' := (50, [some (.ref 42), some (.int v1)], [.int (I 42 17)], (am_uI I 42 2 0, L, D, am_rf X))) 2 rfl ?_
    exact am_ret_i rfl rfl h
  by_cases c3 : v1 = 3
  · replace h := h.2.2.2.1 c3
    have e := c3
    refine am_ts_in 3 rfl (by rw [e]; rfl) (by decide) rfl ?_
    refine am_wpb (c' := (55, [some (.ref 42), some (.int v1)], [.int (I 42 21)], (am_uI I 42 2 0, L, D, am_rf X))) 2 rfl ?_
    exact am_ret_i rfl rfl h
  replace h := h.2.2.2.2 ⟨fun e => c0 (e), fun e => c1 (e), fun e => c2 (e), fun e => c3 (e)⟩
  rcases hsw with hsw | ⟨k, hk, hsw⟩
  · refine am_ts_out rfl hsw ?_
    refine am_wpb (c' := (57, [some (.ref 42), some (.int v1)], [.int (-1)], (am_uI I 42 2 0, L, D, am_rf X))) 1 rfl ?_
    exact am_ret_i rfl rfl h
  · refine am_ts_in (t := 56) k rfl hsw (by omega) ?_ ?_
    · refine am_sw_d (bad := [0, 1, 2, 3]) hk (by decide) (fun hm => ?_)
      simp only [List.mem_cons, List.not_mem_nil, or_false] at hm
      rcases hm with e | e | e | e
      · exact c0 (am_i32 (v := 0) (by rw [hsw, e]; rfl))
      · exact c1 (am_i32 (v := 1) (by rw [hsw, e]; rfl))
      · exact c2 (am_i32 (v := 2) (by rw [hsw, e]; rfl))
      · exact c3 (am_i32 (v := 3) (by rw [hsw, e]; rfl))
    · skip
      refine am_wpb (c' := (57, [some (.ref 42), some (.int v1)], [.int (-1)], (am_uI I 42 2 0, L, D, am_rf X))) 1 rfl ?_
      exact am_ret_i rfl rfl h
/-- java/lang/Math.max(II)I -/
def mz_201 : am_Y := (fun pc => am_q201.lookup pc, 2, 1)
theorem mh_201 : am_Ys 201 = some mz_201 := rfl
theorem w201_0 {ext : Nat → List Value → am_M → Option am_R} {d : Nat} {P : am_R → Prop} (I : Nat → Nat → Int32) (L : Nat → Nat → Int64) (D : Nat → Nat → UInt64) (X : am_Rf) (v0 : Int32) (v1 : Int32)
    (h : ((v0 < v1 → (P (some (.int v1), (I, L, D, am_rf X)))) ∧ (¬ v0 < v1 → (P (some (.int v0), (I, L, D, am_rf X)))))) : am_wp ext d mz_201 (0, [some (.int v0), some (.int v1)], [], (I, L, D, am_rf X)) P := by
  refine am_wpb (c' := (2, [some (.int v0), some (.int v1)], [.int v1, .int v0], (I, L, D, am_rf X))) 2 rfl ?_
  refine am_b2_lt rfl (fun z => ?_) (fun z => ?_)
  · replace h := h.1 z
    refine am_wpb (c' := (10, [some (.int v0), some (.int v1)], [.int v1], (I, L, D, am_rf X))) 1 rfl ?_
    exact am_ret_i rfl rfl h
  · replace h := h.2 z
    refine am_wpb (c' := (10, [some (.int v0), some (.int v1)], [.int v0], (I, L, D, am_rf X))) 2 rfl ?_
    exact am_ret_i rfl rfl h
/-- java/lang/Math.min(II)I -/
def mz_202 : am_Y := (fun pc => am_q202.lookup pc, 2, 1)
theorem mh_202 : am_Ys 202 = some mz_202 := rfl
theorem w202_0 {ext : Nat → List Value → am_M → Option am_R} {d : Nat} {P : am_R → Prop} (I : Nat → Nat → Int32) (L : Nat → Nat → Int64) (D : Nat → Nat → UInt64) (X : am_Rf) (v0 : Int32) (v1 : Int32)
    (h : ((v1 < v0 → (P (some (.int v1), (I, L, D, am_rf X)))) ∧ (¬ v1 < v0 → (P (some (.int v0), (I, L, D, am_rf X)))))) : am_wp ext d mz_202 (0, [some (.int v0), some (.int v1)], [], (I, L, D, am_rf X)) P := by
  refine am_wpb (c' := (2, [some (.int v0), some (.int v1)], [.int v1, .int v0], (I, L, D, am_rf X))) 2 rfl ?_
  refine am_b2_gt rfl (fun z => ?_) (fun z => ?_)
  · replace h := h.1 z
    refine am_wpb (c' := (10, [some (.int v0), some (.int v1)], [.int v1], (I, L, D, am_rf X))) 1 rfl ?_
    exact am_ret_i rfl rfl h
  · replace h := h.2 z
    refine am_wpb (c' := (10, [some (.int v0), some (.int v1)], [.int v0], (I, L, D, am_rf X))) 2 rfl ?_
    exact am_ret_i rfl rfl h
/-- java/lang/Math.max(JJ)J -/
def mz_203 : am_Y := (fun pc => am_q203.lookup pc, 4, 3)
theorem mh_203 : am_Ys 203 = some mz_203 := rfl
theorem w203_0 {ext : Nat → List Value → am_M → Option am_R} {d : Nat} {P : am_R → Prop} (I : Nat → Nat → Int32) (L : Nat → Nat → Int64) (D : Nat → Nat → UInt64) (X : am_Rf) (v0 : Int64) (v2 : Int64)
    (h : ((v0 < v2 → (P (some (.long v2), (I, L, D, am_rf X)))) ∧ (¬ v0 < v2 → (P (some (.long v0), (I, L, D, am_rf X)))))) : am_wp ext d mz_203 (0, [some (.long v0), none, some (.long v2), none], [], (I, L, D, am_rf X)) P := by
  refine am_wpb (c' := (2, [some (.long v0), none, some (.long v2), none], [.long v2, .long v0], (I, L, D, am_rf X))) 2 rfl ?_
  refine am_lc_lt rfl rfl (fun z => ?_) (fun z => ?_)
  · replace h := h.1 z
    refine am_wpb (c' := (11, [some (.long v0), none, some (.long v2), none], [.long v2], (I, L, D, am_rf X))) 1 rfl ?_
    exact am_ret_l rfl rfl h
  · replace h := h.2 z
    refine am_wpb (c' := (11, [some (.long v0), none, some (.long v2), none], [.long v0], (I, L, D, am_rf X))) 2 rfl ?_
    exact am_ret_l rfl rfl h
/-- java/lang/Math.min(JJ)J -/
def mz_204 : am_Y := (fun pc => am_q204.lookup pc, 4, 3)
theorem mh_204 : am_Ys 204 = some mz_204 := rfl
theorem w204_0 {ext : Nat → List Value → am_M → Option am_R} {d : Nat} {P : am_R → Prop} (I : Nat → Nat → Int32) (L : Nat → Nat → Int64) (D : Nat → Nat → UInt64) (X : am_Rf) (v0 : Int64) (v2 : Int64)
    (h : ((v2 < v0 → (P (some (.long v2), (I, L, D, am_rf X)))) ∧ (¬ v2 < v0 → (P (some (.long v0), (I, L, D, am_rf X)))))) : am_wp ext d mz_204 (0, [some (.long v0), none, some (.long v2), none], [], (I, L, D, am_rf X)) P := by
  refine am_wpb (c' := (2, [some (.long v0), none, some (.long v2), none], [.long v2, .long v0], (I, L, D, am_rf X))) 2 rfl ?_
  refine am_lc_gt rfl rfl (fun z => ?_) (fun z => ?_)
  · replace h := h.1 z
    refine am_wpb (c' := (11, [some (.long v0), none, some (.long v2), none], [.long v2], (I, L, D, am_rf X))) 1 rfl ?_
    exact am_ret_l rfl rfl h
  · replace h := h.2 z
    refine am_wpb (c' := (11, [some (.long v0), none, some (.long v2), none], [.long v0], (I, L, D, am_rf X))) 2 rfl ?_
    exact am_ret_l rfl rfl h
/-- java/lang/Math.abs(J)J -/
def mz_205 : am_Y := (fun pc => am_q205.lookup pc, 2, 3)
theorem mh_205 : am_Ys 205 = some mz_205 := rfl
theorem w205_0 {ext : Nat → List Value → am_M → Option am_R} {d : Nat} {P : am_R → Prop} (I : Nat → Nat → Int32) (L : Nat → Nat → Int64) (D : Nat → Nat → UInt64) (X : am_Rf) (v0 : Int64)
    (h : ((0 ≤ v0 → (P (some (.long v0), (I, L, D, am_rf X)))) ∧ (¬ 0 ≤ v0 → (P (some (.long (-v0)), (I, L, D, am_rf X)))))) : am_wp ext d mz_205 (0, [some (.long v0), none], [], (I, L, D, am_rf X)) P := by
  refine am_wpb (c' := (2, [some (.long v0), none], [.long 0, .long v0], (I, L, D, am_rf X))) 2 rfl ?_
  refine am_lc_ge rfl rfl (fun z => ?_) (fun z => ?_)
  · replace h := h.1 z
    refine am_wpb (c' := (12, [some (.long v0), none], [.long v0], (I, L, D, am_rf X))) 1 rfl ?_
    exact am_ret_l rfl rfl h
  · replace h := h.2 z
    refine am_wpb (c' := (12, [some (.long v0), none], [.long (-v0)], (I, L, D, am_rf X))) 3 rfl ?_
    exact am_ret_l rfl rfl h
/-- java/lang/Math.floorDiv(JJ)J -/
def mz_206 : am_Y := (fun pc => am_q206.lookup pc, 6, 3)
theorem mh_206 : am_Ys 206 = some mz_206 := rfl
theorem w206_0 {ext : Nat → List Value → am_M → Option am_R} {d : Nat} {P : am_R → Prop} (I : Nat → Nat → Int32) (L : Nat → Nat → Int64) (D : Nat → Nat → UInt64) (X : am_Rf) (v0 : Int64) (v2 : Int64)
    (h : ¬ v2 = 0 ∧ (((0 ≤ (v0 ^^^ v2) → (P (some (.long (v0 / v2)), (I, L, D, am_rf X)))) ∧ (¬ 0 ≤ (v0 ^^^ v2) → (((((v0 / v2) * v2) = v0 → (P (some (.long (v0 / v2)), (I, L, D, am_rf X)))) ∧ (¬ ((v0 / v2) * v2) = v0 → (P (some (.long ((v0 / v2) - 1)), (I, L, D, am_rf X)))))))))) : am_wp ext d mz_206 (0, [some (.long v0), none, some (.long v2), none, none, none], [], (I, L, D, am_rf X)) P := by
  refine am_wpb (c' := (2, [some (.long v0), none, some (.long v2), none, none, none], [.long v2, .long v0], (I, L, D, am_rf X))) 2 rfl ?_
  obtain ⟨o, h⟩ := h
  refine am_wps (c' := (3, [some (.long v0), none, some (.long v2), none, none, none], [.long (v0 / v2)], (I, L, D, am_rf X))) rfl rfl (am_s_ldiv o) ?_
  refine am_wpb (c' := (9, [some (.long v0), none, some (.long v2), none, some (.long (v0 / v2)), none], [.long 0, .long (v0 ^^^ v2)], (I, L, D, am_rf X))) 5 rfl ?_
  refine am_lc_ge rfl rfl (fun z => ?_) (fun z => ?_)
  · replace h := h.1 z
    refine am_wpb (c' := (29, [some (.long v0), none, some (.long v2), none, some (.long (v0 / v2)), none], [.long (v0 / v2)], (I, L, D, am_rf X))) 1 rfl ?_
    exact am_ret_l rfl rfl h
  · replace h := h.2 z
    refine am_wpb (c' := (18, [some (.long v0), none, some (.long v2), none, some (.long (v0 / v2)), none], [.long v0, .long ((v0 / v2) * v2)], (I, L, D, am_rf X))) 4 rfl ?_
    refine am_lc_eq rfl rfl (fun z => ?_) (fun z => ?_)
    · replace h := h.1 z
      refine am_wpb (c' := (29, [some (.long v0), none, some (.long v2), none, some (.long (v0 / v2)), none], [.long (v0 / v2)], (I, L, D, am_rf X))) 1 rfl ?_
      exact am_ret_l rfl rfl h
    · replace h := h.2 z
      refine am_wpb (c' := (26, [some (.long v0), none, some (.long v2), none, some (.long (v0 / v2)), none], [.long ((v0 / v2) - 1)], (I, L, D, am_rf X))) 3 rfl ?_
      exact am_ret_l rfl rfl h
/-- java/util/Arrays.fill([II)V -/
def mz_207 : am_Y := (fun pc => am_q207.lookup pc, 4, 0)
theorem mh_207 : am_Ys 207 = some mz_207 := rfl
theorem w207_0_12 {ext : Nat → List Value → am_M → Option am_R} {d : Nat} {P : am_R → Prop} (I : Nat → Nat → Int32) (L : Nat → Nat → Int64) (D : Nat → Nat → UInt64) (X : am_Rf) (v1 : Int32)
    (h : am_wp ext d mz_207 (5, [some (.ref 12), some (.int v1), some (.int 0), some (.int 26)], [], (I, L, D, am_rf X)) P) : am_wp ext d mz_207 (0, [some (.ref 12), some (.int v1), none, none], [], (I, L, D, am_rf X)) P := by
  refine am_wpb (c' := (5, [some (.ref 12), some (.int v1), some (.int 0), some (.int 26)], [], (I, L, D, am_rf X))) 5 rfl ?_
  exact h
theorem w207_5_12 {ext : Nat → List Value → am_M → Option am_R} {d : Nat} {P : am_R → Prop} (I : Nat → Nat → Int32) (L : Nat → Nat → Int64) (D : Nat → Nat → UInt64) (X : am_Rf) (v1 : Int32) (v2 : Int32) (v3 : Int32)
    (h : ((v3 ≤ v2 → (P (none, (I, L, D, am_rf X)))) ∧ (¬ v3 ≤ v2 → (am_inb v2 26 = true ∧ (am_wp ext d mz_207 (5, [some (.ref 12), some (.int v1), some (.int (v2 + 1)), some (.int v3)], [], (am_uI I 12 (Int32.toNatClampNeg v2) v1, L, D, am_rf X)) P))))) : am_wp ext d mz_207 (5, [some (.ref 12), some (.int v1), some (.int v2), some (.int v3)], [], (I, L, D, am_rf X)) P := by
  refine am_wpb (c' := (7, [some (.ref 12), some (.int v1), some (.int v2), some (.int v3)], [.int v3, .int v2], (I, L, D, am_rf X))) 2 rfl ?_
  refine am_b2_ge rfl (fun z => ?_) (fun z => ?_)
  · replace h := h.1 z
    exact am_ret_v rfl rfl h
  · replace h := h.2 z
    refine am_wpb (c' := (13, [some (.ref 12), some (.int v1), some (.int v2), some (.int v3)], [.int v1, .int v2, .ref 12], (I, L, D, am_rf X))) 3 rfl ?_
    obtain ⟨o, h⟩ := h
    refine am_wps (c' := (14, [some (.ref 12), some (.int v1), some (.int v2), some (.int v3)], [], (am_uI I 12 (Int32.toNatClampNeg v2) v1, L, D, am_rf X))) rfl rfl (am_s_iast rfl o) ?_
    refine am_wpb (c' := (5, [some (.ref 12), some (.int v1), some (.int (v2 + 1)), some (.int v3)], [], (am_uI I 12 (Int32.toNatClampNeg v2) v1, L, D, am_rf X))) 2 rfl ?_
    exact h
theorem w207_0_36 {ext : Nat → List Value → am_M → Option am_R} {d : Nat} {P : am_R → Prop} (I : Nat → Nat → Int32) (L : Nat → Nat → Int64) (D : Nat → Nat → UInt64) (X : am_Rf) (v1 : Int32)
    (h : am_wp ext d mz_207 (5, [some (.ref 36), some (.int v1), some (.int 0), some (.int 18)], [], (I, L, D, am_rf X)) P) : am_wp ext d mz_207 (0, [some (.ref 36), some (.int v1), none, none], [], (I, L, D, am_rf X)) P := by
  refine am_wpb (c' := (5, [some (.ref 36), some (.int v1), some (.int 0), some (.int 18)], [], (I, L, D, am_rf X))) 5 rfl ?_
  exact h
theorem w207_5_36 {ext : Nat → List Value → am_M → Option am_R} {d : Nat} {P : am_R → Prop} (I : Nat → Nat → Int32) (L : Nat → Nat → Int64) (D : Nat → Nat → UInt64) (X : am_Rf) (v1 : Int32) (v2 : Int32) (v3 : Int32)
    (h : ((v3 ≤ v2 → (P (none, (I, L, D, am_rf X)))) ∧ (¬ v3 ≤ v2 → (am_inb v2 18 = true ∧ (am_wp ext d mz_207 (5, [some (.ref 36), some (.int v1), some (.int (v2 + 1)), some (.int v3)], [], (am_uI I 36 (Int32.toNatClampNeg v2) v1, L, D, am_rf X)) P))))) : am_wp ext d mz_207 (5, [some (.ref 36), some (.int v1), some (.int v2), some (.int v3)], [], (I, L, D, am_rf X)) P := by
  refine am_wpb (c' := (7, [some (.ref 36), some (.int v1), some (.int v2), some (.int v3)], [.int v3, .int v2], (I, L, D, am_rf X))) 2 rfl ?_
  refine am_b2_ge rfl (fun z => ?_) (fun z => ?_)
  · replace h := h.1 z
    exact am_ret_v rfl rfl h
  · replace h := h.2 z
    refine am_wpb (c' := (13, [some (.ref 36), some (.int v1), some (.int v2), some (.int v3)], [.int v1, .int v2, .ref 36], (I, L, D, am_rf X))) 3 rfl ?_
    obtain ⟨o, h⟩ := h
    refine am_wps (c' := (14, [some (.ref 36), some (.int v1), some (.int v2), some (.int v3)], [], (am_uI I 36 (Int32.toNatClampNeg v2) v1, L, D, am_rf X))) rfl rfl (am_s_iast rfl o) ?_
    refine am_wpb (c' := (5, [some (.ref 36), some (.int v1), some (.int (v2 + 1)), some (.int v3)], [], (am_uI I 36 (Int32.toNatClampNeg v2) v1, L, D, am_rf X))) 2 rfl ?_
    exact h
/-- java/util/Arrays.fill([JJ)V -/
def mz_208 : am_Y := (fun pc => am_q208.lookup pc, 5, 0)
theorem mh_208 : am_Ys 208 = some mz_208 := rfl
theorem w208_0 {ext : Nat → List Value → am_M → Option am_R} {d : Nat} {P : am_R → Prop} (I : Nat → Nat → Int32) (L : Nat → Nat → Int64) (D : Nat → Nat → UInt64) (X : am_Rf) (v1 : Int64)
    (h : am_wp ext d mz_208 (6, [some (.ref 31), some (.long v1), none, some (.int 0), some (.int 18)], [], (I, L, D, am_rf X)) P) : am_wp ext d mz_208 (0, [some (.ref 31), some (.long v1), none, none, none], [], (I, L, D, am_rf X)) P := by
  refine am_wpb (c' := (6, [some (.ref 31), some (.long v1), none, some (.int 0), some (.int 18)], [], (I, L, D, am_rf X))) 5 rfl ?_
  exact h
theorem w208_6 {ext : Nat → List Value → am_M → Option am_R} {d : Nat} {P : am_R → Prop} (I : Nat → Nat → Int32) (L : Nat → Nat → Int64) (D : Nat → Nat → UInt64) (X : am_Rf) (v1 : Int64) (v3 : Int32) (v4 : Int32)
    (h : ((v4 ≤ v3 → (P (none, (I, L, D, am_rf X)))) ∧ (¬ v4 ≤ v3 → (am_inb v3 18 = true ∧ (am_wp ext d mz_208 (6, [some (.ref 31), some (.long v1), none, some (.int (v3 + 1)), some (.int v4)], [], (I, am_uL L 31 (Int32.toNatClampNeg v3) v1, D, am_rf X)) P))))) : am_wp ext d mz_208 (6, [some (.ref 31), some (.long v1), none, some (.int v3), some (.int v4)], [], (I, L, D, am_rf X)) P := by
  refine am_wpb (c' := (9, [some (.ref 31), some (.long v1), none, some (.int v3), some (.int v4)], [.int v4, .int v3], (I, L, D, am_rf X))) 2 rfl ?_
  refine am_b2_ge rfl (fun z => ?_) (fun z => ?_)
  · replace h := h.1 z
    exact am_ret_v rfl rfl h
  · replace h := h.2 z
    refine am_wpb (c' := (15, [some (.ref 31), some (.long v1), none, some (.int v3), some (.int v4)], [.long v1, .int v3, .ref 31], (I, L, D, am_rf X))) 3 rfl ?_
    obtain ⟨o, h⟩ := h
    refine am_wps (c' := (16, [some (.ref 31), some (.long v1), none, some (.int v3), some (.int v4)], [], (I, am_uL L 31 (Int32.toNatClampNeg v3) v1, D, am_rf X))) rfl rfl (am_s_last rfl o) ?_
    refine am_wpb (c' := (6, [some (.ref 31), some (.long v1), none, some (.int (v3 + 1)), some (.int v4)], [], (I, am_uL L 31 (Int32.toNatClampNeg v3) v1, D, am_rf X))) 2 rfl ?_
    exact h
