/-- SureSums$Reader.opOver(I)I -/
def mz_47 : am_Y := (fun pc => am_q47.lookup pc, 1, 1)
theorem mh_47 : am_Ys 47 = some mz_47 := rfl
theorem w47_0 {ext : Nat → List Value → am_M → Option am_R} {d : Nat} {P : am_R → Prop} (I : Nat → Nat → Int32) (L : Nat → Nat → Int64) (D : Nat → Nat → UInt64) (X : am_Rf) (v0 : Int32)
    (h : ((v0 = 11 → (P (some (.int 4), (I, L, D, am_rf X)))) ∧ (v0 = 12 → (P (some (.int 5), (I, L, D, am_rf X)))) ∧ (v0 = 13 → (P (some (.int 6), (I, L, D, am_rf X)))) ∧ (v0 = 14 → (P (some (.int 7), (I, L, D, am_rf X)))) ∧ (¬ v0 = 11 ∧ ¬ v0 = 12 ∧ ¬ v0 = 13 ∧ ¬ v0 = 14 → (P (some (.int (-1)), (I, L, D, am_rf X)))))) : am_wp ext d mz_47 (0, [some (.int v0)], [], (I, L, D, am_rf X)) P := by
  refine am_wpb (c' := (1, [some (.int v0)], [.int v0], (I, L, D, am_rf X))) 1 rfl ?_
  have hsw := am_swc v0 11 3
  by_cases c0 : v0 = 11
  · replace h := h.1 c0
    have e := c0
    refine am_ts_in 0 rfl (by rw [e]; rfl) (by decide) rfl ?_
    refine am_wpb (c' := (33, [some (.int v0)], [.int 4], (I, L, D, am_rf X))) 1 rfl ?_
    exact am_ret_i rfl rfl h
  by_cases c1 : v0 = 12
  · replace h := h.2.1 c1
    have e := c1
    refine am_ts_in 1 rfl (by rw [e]; rfl) (by decide) rfl ?_
    refine am_wpb (c' := (35, [some (.int v0)], [.int 5], (I, L, D, am_rf X))) 1 rfl ?_
    exact am_ret_i rfl rfl h
  by_cases c2 : v0 = 13
  · replace h := h.2.2.1 c2
    have e := c2
    refine am_ts_in 2 rfl (by rw [e]; rfl) (by decide) rfl ?_
    refine am_wpb (c' := (38, [some (.int v0)], [.int 6], (I, L, D, am_rf X))) 1 rfl ?_
    exact am_ret_i rfl rfl h
  by_cases c3 : v0 = 14
  · replace h := h.2.2.2.1 c3
    have e := c3
    refine am_ts_in 3 rfl (by rw [e]; rfl) (by decide) rfl ?_
    refine am_wpb (c' := (41, [some (.int v0)], [.int 7], (I, L, D, am_rf X))) 1 rfl ?_
    exact am_ret_i rfl rfl h
  replace h := h.2.2.2.2 ⟨fun e => c0 (e), fun e => c1 (e), fun e => c2 (e), fun e => c3 (e)⟩
  rcases hsw with hsw | ⟨k, hk, hsw⟩
  · refine am_ts_out rfl hsw ?_
    refine am_wpb (c' := (43, [some (.int v0)], [.int (-1)], (I, L, D, am_rf X))) 1 rfl ?_
    exact am_ret_i rfl rfl h
  · refine am_ts_in (t := 42) k rfl hsw (by omega) ?_ ?_
    · refine am_sw_d (bad := [0, 1, 2, 3]) hk (by decide) (fun hm => ?_)
      simp only [List.mem_cons, List.not_mem_nil, or_false] at hm
      rcases hm with e | e | e | e
      · exact c0 (am_i32 (v := 11) (by rw [hsw, e]; rfl))
      · exact c1 (am_i32 (v := 12) (by rw [hsw, e]; rfl))
      · exact c2 (am_i32 (v := 13) (by rw [hsw, e]; rfl))
      · exact c3 (am_i32 (v := 14) (by rw [hsw, e]; rfl))
    · skip
      refine am_wpb (c' := (43, [some (.int v0)], [.int (-1)], (I, L, D, am_rf X))) 1 rfl ?_
      exact am_ret_i rfl rfl h
/-- SureSums$Reader.knot()Z -/
def mz_48 : am_Y := (fun pc => am_q48.lookup pc, 1, 2)
theorem mh_48 : am_Ys 48 = some mz_48 := rfl
theorem w48_0 {ext : Nat → List Value → am_M → Option am_R} {d : Nat} {P : am_R → Prop} (I : Nat → Nat → Int32) (L : Nat → Nat → Int64) (D : Nat → Nat → UInt64) (xc : Nat) (xp : Nat) (xs : Nat) (xt : Nat) (xu : Nat)
    (h : (((I 11 12) < 96 → (∃ (I1 : Nat → Nat → Int32) (L1 : Nat → Nat → Int64) (D1 : Nat → Nat → UInt64), am_Rn ext d 41 [.ref 20] (am_uI I 11 12 ((I 11 12) + 1), L, D, am_rf (xt, xs, 11, xp, xu, xc)) (none, (I1, L1, D1, am_rf (xt, xs, 11, xp, xu, xc))) ∧ (P (some (.int 1), (I1, L1, D1, am_rf (xt, xs, 11, xp, xu, xc)))))) ∧ (¬ (I 11 12) < 96 → (∃ (r2 : Int32) (I2 : Nat → Nat → Int32) (L2 : Nat → Nat → Int64) (D2 : Nat → Nat → UInt64), am_Rn ext d 42 [.ref 20, .int 2] (I, L, D, am_rf (xt, xs, 11, xp, xu, xc)) (some (.int r2), (I2, L2, D2, am_rf (xt, xs, 11, xp, xu, xc))) ∧ ((r2 = 0 ∨ r2 = 1) ∧ P (some (.int r2), (I2, L2, D2, am_rf (xt, xs, 11, xp, xu, xc)))))))) : am_wp ext d mz_48 (0, [some (.ref 20)], [], (I, L, D, am_rf (xt, xs, 11, xp, xu, xc))) P := by
  refine am_wpb (c' := (9, [some (.ref 20)], [.int 96, .int (I 11 12)], (I, L, D, am_rf (xt, xs, 11, xp, xu, xc)))) 4 rfl ?_
  refine am_b2_lt rfl (fun z => ?_) (fun z => ?_)
  · replace h := h.1 z
    refine am_wpb (c' := (32, [some (.ref 20)], [.ref 20], (am_uI I 11 12 ((I 11 12) + 1), L, D, am_rf (xt, xs, 11, xp, xu, xc)))) 8 rfl ?_
    obtain ⟨I1, L1, D1, hr, h⟩ := h
    refine am_wp_inv (as := [.ref 20]) rfl rfl rfl rfl ⟨_, hr, ?_⟩
    show am_wp ext d mz_48 (35, [some (.ref 20)], [], (I1, L1, D1, am_rf (xt, xs, 11, xp, xu, xc))) P
    refine am_wpb (c' := (36, [some (.ref 20)], [.int 1], (I1, L1, D1, am_rf (xt, xs, 11, xp, xu, xc)))) 1 rfl ?_
    exact am_ret_z rfl rfl (Or.inr rfl) h
  · replace h := h.2 z
    refine am_wpb (c' := (14, [some (.ref 20)], [.int 2, .ref 20], (I, L, D, am_rf (xt, xs, 11, xp, xu, xc)))) 2 rfl ?_
    obtain ⟨r2, I2, L2, D2, hr, h⟩ := h
    refine am_wp_inv (as := [.ref 20, .int 2]) rfl rfl rfl rfl ⟨_, hr, ?_⟩
    show am_wp ext d mz_48 (17, [some (.ref 20)], [.int r2], (I2, L2, D2, am_rf (xt, xs, 11, xp, xu, xc))) P
    exact am_ret_z rfl rfl h.1 h.2
/-- SureSums$Reader.constant()Z -/
def mz_49 : am_Y := (fun pc => am_q49.lookup pc, 2, 2)
theorem mh_49 : am_Ys 49 = some mz_49 := rfl
theorem w49_0 {ext : Nat → List Value → am_M → Option am_R} {d : Nat} {P : am_R → Prop} (I : Nat → Nat → Int32) (L : Nat → Nat → Int64) (D : Nat → Nat → UInt64) (xc : Nat) (xp : Nat) (xs : Nat) (xt : Nat) (xu : Nat)
    (h : (((I 20 4) ≤ 999 → (∃ (r1 : Int32) (I1 : Nat → Nat → Int32) (L1 : Nat → Nat → Int64) (D1 : Nat → Nat → UInt64), am_Rn ext d 36 [.ref 11, .int 0, .int (I 20 4)] (I, L, D, am_rf (xt, xs, 11, xp, xu, xc)) (some (.int r1), (I1, L1, D1, am_rf (xt, xs, 11, xp, xu, xc))) ∧ (∃ (r2 : Int32) (I2 : Nat → Nat → Int32) (L2 : Nat → Nat → Int64) (D2 : Nat → Nat → UInt64), am_Rn ext d 48 [.ref 20] (I1, L1, D1, am_rf (xt, xs, 11, xp, xu, xc)) (some (.int r2), (I2, L2, D2, am_rf (xt, xs, 11, xp, xu, xc))) ∧ ((r2 = 0 ∨ r2 = 1) ∧ P (some (.int r2), (I2, L2, D2, am_rf (xt, xs, 11, xp, xu, xc))))))) ∧ (¬ (I 20 4) ≤ 999 → (∃ (r3 : Int32) (I3 : Nat → Nat → Int32) (L3 : Nat → Nat → Int64) (D3 : Nat → Nat → UInt64), am_Rn ext d 42 [.ref 20, .int 2] (I, L, D, am_rf (xt, xs, 11, xp, xu, xc)) (some (.int r3), (I3, L3, D3, am_rf (xt, xs, 11, xp, xu, xc))) ∧ ((r3 = 0 ∨ r3 = 1) ∧ P (some (.int r3), (I3, L3, D3, am_rf (xt, xs, 11, xp, xu, xc)))))))) : am_wp ext d mz_49 (0, [some (.ref 20), none], [], (I, L, D, am_rf (xt, xs, 11, xp, xu, xc))) P := by
  refine am_wpb (c' := (9, [some (.ref 20), some (.int (I 20 4))], [.int 999, .int (I 20 4)], (I, L, D, am_rf (xt, xs, 11, xp, xu, xc)))) 5 rfl ?_
  refine am_b2_le rfl (fun z => ?_) (fun z => ?_)
  · replace h := h.1 z
    refine am_wpb (c' := (24, [some (.ref 20), some (.int (I 20 4))], [.int (I 20 4), .int 0, .ref 11], (I, L, D, am_rf (xt, xs, 11, xp, xu, xc)))) 4 rfl ?_
    obtain ⟨r1, I1, L1, D1, hr, h⟩ := h
    refine am_wp_inv (as := [.ref 11, .int 0, .int (I 20 4)]) rfl rfl rfl rfl ⟨_, hr, ?_⟩
    show am_wp ext d mz_49 (27, [some (.ref 20), some (.int (I 20 4))], [.int r1], (I1, L1, D1, am_rf (xt, xs, 11, xp, xu, xc))) P
    refine am_wpb (c' := (29, [some (.ref 20), some (.int (I 20 4))], [.ref 20], (I1, L1, D1, am_rf (xt, xs, 11, xp, xu, xc)))) 2 rfl ?_
    obtain ⟨r2, I2, L2, D2, hr, h⟩ := h
    refine am_wp_inv (as := [.ref 20]) rfl rfl rfl rfl ⟨_, hr, ?_⟩
    show am_wp ext d mz_49 (32, [some (.ref 20), some (.int (I 20 4))], [.int r2], (I2, L2, D2, am_rf (xt, xs, 11, xp, xu, xc))) P
    exact am_ret_z rfl rfl h.1 h.2
  · replace h := h.2 z
    refine am_wpb (c' := (14, [some (.ref 20), some (.int (I 20 4))], [.int 2, .ref 20], (I, L, D, am_rf (xt, xs, 11, xp, xu, xc)))) 2 rfl ?_
    obtain ⟨r3, I3, L3, D3, hr, h⟩ := h
    refine am_wp_inv (as := [.ref 20, .int 2]) rfl rfl rfl rfl ⟨_, hr, ?_⟩
    show am_wp ext d mz_49 (17, [some (.ref 20), some (.int (I 20 4))], [.int r3], (I3, L3, D3, am_rf (xt, xs, 11, xp, xu, xc))) P
    exact am_ret_z rfl rfl h.1 h.2
/-- SureSums$Reader.variable()Z -/
def mz_50 : am_Y := (fun pc => am_q50.lookup pc, 1, 2)
theorem mh_50 : am_Ys 50 = some mz_50 := rfl
theorem w50_0 {ext : Nat → List Value → am_M → Option am_R} {d : Nat} {P : am_R → Prop} (I : Nat → Nat → Int32) (L : Nat → Nat → Int64) (D : Nat → Nat → UInt64) (xc : Nat) (xp : Nat) (xs : Nat) (xt : Nat) (xu : Nat)
    (h : ((96 ≤ (I 11 12) → (∃ (r1 : Int32) (I1 : Nat → Nat → Int32) (L1 : Nat → Nat → Int64) (D1 : Nat → Nat → UInt64), am_Rn ext d 36 [.ref 11, .int 1, .int 0] (I, L, D, am_rf (xt, xs, 11, xp, xu, xc)) (some (.int r1), (I1, L1, D1, am_rf (xt, xs, 11, xp, xu, xc))) ∧ (∃ (r2 : Int32) (I2 : Nat → Nat → Int32) (L2 : Nat → Nat → Int64) (D2 : Nat → Nat → UInt64), am_Rn ext d 48 [.ref 20] (I1, L1, D1, am_rf (xt, xs, 11, xp, xu, xc)) (some (.int r2), (I2, L2, D2, am_rf (xt, xs, 11, xp, xu, xc))) ∧ ((r2 = 0 ∨ r2 = 1) ∧ P (some (.int r2), (I2, L2, D2, am_rf (xt, xs, 11, xp, xu, xc))))))) ∧ (¬ 96 ≤ (I 11 12) → (((¬ (I 20 6) = 0 → (∃ (r3 : Int32) (I3 : Nat → Nat → Int32) (L3 : Nat → Nat → Int64) (D3 : Nat → Nat → UInt64), am_Rn ext d 36 [.ref 11, .int 1, .int 0] (I, L, D, am_rf (xt, xs, 11, xp, xu, xc)) (some (.int r3), (I3, L3, D3, am_rf (xt, xs, 11, xp, xu, xc))) ∧ (∃ (r4 : Int32) (I4 : Nat → Nat → Int32) (L4 : Nat → Nat → Int64) (D4 : Nat → Nat → UInt64), am_Rn ext d 48 [.ref 20] (I3, L3, D3, am_rf (xt, xs, 11, xp, xu, xc)) (some (.int r4), (I4, L4, D4, am_rf (xt, xs, 11, xp, xu, xc))) ∧ ((r4 = 0 ∨ r4 = 1) ∧ P (some (.int r4), (I4, L4, D4, am_rf (xt, xs, 11, xp, xu, xc))))))) ∧ ((I 20 6) = 0 → (∃ (r5 : Int32) (I5 : Nat → Nat → Int32) (L5 : Nat → Nat → Int64) (D5 : Nat → Nat → UInt64), am_Rn ext d 42 [.ref 20, .int 3] (I, L, D, am_rf (xt, xs, 11, xp, xu, xc)) (some (.int r5), (I5, L5, D5, am_rf (xt, xs, 11, xp, xu, xc))) ∧ ((r5 = 0 ∨ r5 = 1) ∧ P (some (.int r5), (I5, L5, D5, am_rf (xt, xs, 11, xp, xu, xc))))))))))) : am_wp ext d mz_50 (0, [some (.ref 20)], [], (I, L, D, am_rf (xt, xs, 11, xp, xu, xc))) P := by
  refine am_wpb (c' := (9, [some (.ref 20)], [.int 96, .int (I 11 12)], (I, L, D, am_rf (xt, xs, 11, xp, xu, xc)))) 4 rfl ?_
  refine am_b2_ge rfl (fun z => ?_) (fun z => ?_)
  · replace h := h.1 z
    refine am_wpb (c' := (31, [some (.ref 20)], [.int 0, .int 1, .ref 11], (I, L, D, am_rf (xt, xs, 11, xp, xu, xc)))) 4 rfl ?_
    obtain ⟨r1, I1, L1, D1, hr, h⟩ := h
    refine am_wp_inv (as := [.ref 11, .int 1, .int 0]) rfl rfl rfl rfl ⟨_, hr, ?_⟩
    show am_wp ext d mz_50 (34, [some (.ref 20)], [.int r1], (I1, L1, D1, am_rf (xt, xs, 11, xp, xu, xc))) P
    refine am_wpb (c' := (36, [some (.ref 20)], [.ref 20], (I1, L1, D1, am_rf (xt, xs, 11, xp, xu, xc)))) 2 rfl ?_
    obtain ⟨r2, I2, L2, D2, hr, h⟩ := h
    refine am_wp_inv (as := [.ref 20]) rfl rfl rfl rfl ⟨_, hr, ?_⟩
    show am_wp ext d mz_50 (39, [some (.ref 20)], [.int r2], (I2, L2, D2, am_rf (xt, xs, 11, xp, xu, xc))) P
    exact am_ret_z rfl rfl h.1 h.2
  · replace h := h.2 z
    refine am_wpb (c' := (16, [some (.ref 20)], [.int (I 20 6)], (I, L, D, am_rf (xt, xs, 11, xp, xu, xc)))) 2 rfl ?_
    refine am_b1_ne rfl (fun z => ?_) (fun z => ?_)
    · replace h := h.1 z
      refine am_wpb (c' := (31, [some (.ref 20)], [.int 0, .int 1, .ref 11], (I, L, D, am_rf (xt, xs, 11, xp, xu, xc)))) 4 rfl ?_
      obtain ⟨r3, I3, L3, D3, hr, h⟩ := h
      refine am_wp_inv (as := [.ref 11, .int 1, .int 0]) rfl rfl rfl rfl ⟨_, hr, ?_⟩
      show am_wp ext d mz_50 (34, [some (.ref 20)], [.int r3], (I3, L3, D3, am_rf (xt, xs, 11, xp, xu, xc))) P
      refine am_wpb (c' := (36, [some (.ref 20)], [.ref 20], (I3, L3, D3, am_rf (xt, xs, 11, xp, xu, xc)))) 2 rfl ?_
      obtain ⟨r4, I4, L4, D4, hr, h⟩ := h
      refine am_wp_inv (as := [.ref 20]) rfl rfl rfl rfl ⟨_, hr, ?_⟩
      show am_wp ext d mz_50 (39, [some (.ref 20)], [.int r4], (I4, L4, D4, am_rf (xt, xs, 11, xp, xu, xc))) P
      exact am_ret_z rfl rfl h.1 h.2
    · replace h := h.2 z
      refine am_wpb (c' := (21, [some (.ref 20)], [.int 3, .ref 20], (I, L, D, am_rf (xt, xs, 11, xp, xu, xc)))) 2 rfl ?_
      obtain ⟨r5, I5, L5, D5, hr, h⟩ := h
      refine am_wp_inv (as := [.ref 20, .int 3]) rfl rfl rfl rfl ⟨_, hr, ?_⟩
      show am_wp ext d mz_50 (24, [some (.ref 20)], [.int r5], (I5, L5, D5, am_rf (xt, xs, 11, xp, xu, xc))) P
      exact am_ret_z rfl rfl h.1 h.2
/-- SureSums$Reader.letter()Z -/
def mz_51 : am_Y := (fun pc => am_q51.lookup pc, 3, 2)
theorem mh_51 : am_Ys 51 = some mz_51 := rfl
theorem w51_0 {ext : Nat → List Value → am_M → Option am_R} {d : Nat} {P : am_R → Prop} (I : Nat → Nat → Int32) (L : Nat → Nat → Int64) (D : Nat → Nat → UInt64) (xc : Nat) (xp : Nat) (xs : Nat) (xt : Nat) (xu : Nat)
    (h : ∃ (r1 : Int32) (I1 : Nat → Nat → Int32) (L1 : Nat → Nat → Int64) (D1 : Nat → Nat → UInt64), am_Rn ext d 32 [.ref 11, .int (I 20 4)] (I, L, D, am_rf (xt, xs, 11, xp, xu, xc)) (some (.int r1), (I1, L1, D1, am_rf (xt, xs, 11, xp, xu, xc))) ∧ (((96 ≤ (I1 11 12) → (am_wp ext d mz_51 (34, [some (.ref 20), some (.int r1), none], [], (I1, L1, D1, am_rf (xt, xs, 11, xp, xu, xc))) P)) ∧ (¬ 96 ≤ (I1 11 12) → (((0 ≤ r1 → (am_wp ext d mz_51 (34, [some (.ref 20), some (.int r1), none], [], (I1, L1, D1, am_rf (xt, xs, 11, xp, xu, xc))) P)) ∧ (¬ 0 ≤ r1 → (∃ (r2 : Int32) (I2 : Nat → Nat → Int32) (L2 : Nat → Nat → Int64) (D2 : Nat → Nat → UInt64), am_Rn ext d 42 [.ref 20, .int 3] (I1, L1, D1, am_rf (xt, xs, 11, xp, xu, xc)) (some (.int r2), (I2, L2, D2, am_rf (xt, xs, 11, xp, xu, xc))) ∧ ((r2 = 0 ∨ r2 = 1) ∧ P (some (.int r2), (I2, L2, D2, am_rf (xt, xs, 11, xp, xu, xc)))))))))))) : am_wp ext d mz_51 (0, [some (.ref 20), none, none], [], (I, L, D, am_rf (xt, xs, 11, xp, xu, xc))) P := by
  refine am_wpb (c' := (8, [some (.ref 20), none, none], [.int (I 20 4), .ref 11], (I, L, D, am_rf (xt, xs, 11, xp, xu, xc)))) 4 rfl ?_
  obtain ⟨r1, I1, L1, D1, hr, h⟩ := h
  refine am_wp_inv (as := [.ref 11, .int (I 20 4)]) rfl rfl rfl rfl ⟨_, hr, ?_⟩
  show am_wp ext d mz_51 (11, [some (.ref 20), none, none], [.int r1], (I1, L1, D1, am_rf (xt, xs, 11, xp, xu, xc))) P
  refine am_wpb (c' := (21, [some (.ref 20), some (.int r1), none], [.int 96, .int (I1 11 12)], (I1, L1, D1, am_rf (xt, xs, 11, xp, xu, xc)))) 5 rfl ?_
  refine am_b2_ge rfl (fun z => ?_) (fun z => ?_)
  · replace h := h.1 z
    exact h
  · replace h := h.2 z
    refine am_wpb (c' := (25, [some (.ref 20), some (.int r1), none], [.int r1], (I1, L1, D1, am_rf (xt, xs, 11, xp, xu, xc)))) 1 rfl ?_
    refine am_b1_ge rfl (fun z => ?_) (fun z => ?_)
    · replace h := h.1 z
      exact h
    · replace h := h.2 z
      refine am_wpb (c' := (30, [some (.ref 20), some (.int r1), none], [.int 3, .ref 20], (I1, L1, D1, am_rf (xt, xs, 11, xp, xu, xc)))) 2 rfl ?_
      obtain ⟨r2, I2, L2, D2, hr, h⟩ := h
      refine am_wp_inv (as := [.ref 20, .int 3]) rfl rfl rfl rfl ⟨_, hr, ?_⟩
      show am_wp ext d mz_51 (33, [some (.ref 20), some (.int r1), none], [.int r2], (I2, L2, D2, am_rf (xt, xs, 11, xp, xu, xc))) P
      exact am_ret_z rfl rfl h.1 h.2
theorem w51_34 {ext : Nat → List Value → am_M → Option am_R} {d : Nat} {P : am_R → Prop} (I : Nat → Nat → Int32) (L : Nat → Nat → Int64) (D : Nat → Nat → UInt64) (xc : Nat) (xp : Nat) (xs : Nat) (xt : Nat) (xu : Nat) (v1 : Int32)
    (h : ∃ (r1 : Int32) (I1 : Nat → Nat → Int32) (L1 : Nat → Nat → Int64) (D1 : Nat → Nat → UInt64), am_Rn ext d 48 [.ref 20] (I, L, D, am_rf (xt, xs, 11, xp, xu, xc)) (some (.int r1), (I1, L1, D1, am_rf (xt, xs, 11, xp, xu, xc))) ∧ (∃ (r2 : Int32) (I2 : Nat → Nat → Int32) (L2 : Nat → Nat → Int64) (D2 : Nat → Nat → UInt64), am_Rn ext d 33 [.ref 11, .int v1] (I1, L1, D1, am_rf (xt, xs, 11, xp, xu, xc)) (some (.int r2), (I2, L2, D2, am_rf (xt, xs, 11, xp, xu, xc))) ∧ (((r2 = 0 → (∃ (r3 : Int32) (I3 : Nat → Nat → Int32) (L3 : Nat → Nat → Int64) (D3 : Nat → Nat → UInt64), am_Rn ext d 36 [.ref 11, .int 2, .int v1] (I2, L2, D2, am_rf (xt, xs, 11, xp, xu, xc)) (some (.int r3), (I3, L3, D3, am_rf (xt, xs, 11, xp, xu, xc))) ∧ ((r1 = 0 ∨ r1 = 1) ∧ P (some (.int r1), (I3, L3, D3, am_rf (xt, xs, 11, xp, xu, xc)))))) ∧ (¬ r2 = 0 → (((r1 = 0 → (∃ (r4 : Int32) (I4 : Nat → Nat → Int32) (L4 : Nat → Nat → Int64) (D4 : Nat → Nat → UInt64), am_Rn ext d 36 [.ref 11, .int 3, .int v1] (I2, L2, D2, am_rf (xt, xs, 11, xp, xu, xc)) (some (.int r4), (I4, L4, D4, am_rf (xt, xs, 11, xp, xu, xc))) ∧ (P (some (.int 0), (I4, L4, D4, am_rf (xt, xs, 11, xp, xu, xc)))))) ∧ (¬ r1 = 0 → (∃ (r5 : Int32) (I5 : Nat → Nat → Int32) (L5 : Nat → Nat → Int64) (D5 : Nat → Nat → UInt64), am_Rn ext d 57 [.ref 20] (I2, L2, D2, am_rf (xt, xs, 11, xp, xu, xc)) (some (.int r5), (I5, L5, D5, am_rf (xt, xs, 11, xp, xu, xc))) ∧ (((r5 = 0 → (∃ (r6 : Int32) (I6 : Nat → Nat → Int32) (L6 : Nat → Nat → Int64) (D6 : Nat → Nat → UInt64), am_Rn ext d 36 [.ref 11, .int 3, .int v1] (I5, L5, D5, am_rf (xt, xs, 11, xp, xu, xc)) (some (.int r6), (I6, L6, D6, am_rf (xt, xs, 11, xp, xu, xc))) ∧ (P (some (.int 0), (I6, L6, D6, am_rf (xt, xs, 11, xp, xu, xc)))))) ∧ (¬ r5 = 0 → (∃ (r7 : Int32) (I7 : Nat → Nat → Int32) (L7 : Nat → Nat → Int64) (D7 : Nat → Nat → UInt64), am_Rn ext d 44 [.ref 20, .int 0] (I5, L5, D5, am_rf (xt, xs, 11, xp, xu, xc)) (some (.int r7), (I7, L7, D7, am_rf (xt, xs, 11, xp, xu, xc))) ∧ (((r7 = 0 → (∃ (r8 : Int32) (I8 : Nat → Nat → Int32) (L8 : Nat → Nat → Int64) (D8 : Nat → Nat → UInt64), am_Rn ext d 36 [.ref 11, .int 3, .int v1] (I7, L7, D7, am_rf (xt, xs, 11, xp, xu, xc)) (some (.int r8), (I8, L8, D8, am_rf (xt, xs, 11, xp, xu, xc))) ∧ (P (some (.int 0), (I8, L8, D8, am_rf (xt, xs, 11, xp, xu, xc)))))) ∧ (¬ r7 = 0 → (∃ (r9 : Int32) (I9 : Nat → Nat → Int32) (L9 : Nat → Nat → Int64) (D9 : Nat → Nat → UInt64), am_Rn ext d 58 [.ref 20] (I7, L7, D7, am_rf (xt, xs, 11, xp, xu, xc)) (some (.int r9), (I9, L9, D9, am_rf (xt, xs, 11, xp, xu, xc))) ∧ (((r9 = 0 → (∃ (r10 : Int32) (I10 : Nat → Nat → Int32) (L10 : Nat → Nat → Int64) (D10 : Nat → Nat → UInt64), am_Rn ext d 36 [.ref 11, .int 3, .int v1] (I9, L9, D9, am_rf (xt, xs, 11, xp, xu, xc)) (some (.int r10), (I10, L10, D10, am_rf (xt, xs, 11, xp, xu, xc))) ∧ (P (some (.int 0), (I10, L10, D10, am_rf (xt, xs, 11, xp, xu, xc)))))) ∧ (¬ r9 = 0 → (∃ (r11 : Int32) (I11 : Nat → Nat → Int32) (L11 : Nat → Nat → Int64) (D11 : Nat → Nat → UInt64), am_Rn ext d 36 [.ref 11, .int 3, .int v1] (I9, L9, D9, am_rf (xt, xs, 11, xp, xu, xc)) (some (.int r11), (I11, L11, D11, am_rf (xt, xs, 11, xp, xu, xc))) ∧ (P (some (.int 1), (I11, L11, D11, am_rf (xt, xs, 11, xp, xu, xc))))))))))))))))))))))))) : am_wp ext d mz_51 (34, [some (.ref 20), some (.int v1), none], [], (I, L, D, am_rf (xt, xs, 11, xp, xu, xc))) P := by
  refine am_wpb (c' := (35, [some (.ref 20), some (.int v1), none], [.ref 20], (I, L, D, am_rf (xt, xs, 11, xp, xu, xc)))) 1 rfl ?_
  obtain ⟨r1, I1, L1, D1, hr, h⟩ := h
  refine am_wp_inv (as := [.ref 20]) rfl rfl rfl rfl ⟨_, hr, ?_⟩
  show am_wp ext d mz_51 (38, [some (.ref 20), some (.int v1), none], [.int r1], (I1, L1, D1, am_rf (xt, xs, 11, xp, xu, xc))) P
  refine am_wpb (c' := (44, [some (.ref 20), some (.int v1), some (.int r1)], [.int v1, .ref 11], (I1, L1, D1, am_rf (xt, xs, 11, xp, xu, xc)))) 4 rfl ?_
  obtain ⟨r2, I2, L2, D2, hr, h⟩ := h
  refine am_wp_inv (as := [.ref 11, .int v1]) rfl rfl rfl rfl ⟨_, hr, ?_⟩
  show am_wp ext d mz_51 (47, [some (.ref 20), some (.int v1), some (.int r1)], [.int r2], (I2, L2, D2, am_rf (xt, xs, 11, xp, xu, xc))) P
  refine am_b1_eq rfl (fun z => ?_) (fun z => ?_)
  · replace h := h.1 z
    refine am_wpb (c' := (101, [some (.ref 20), some (.int v1), some (.int r1)], [.int v1, .int 2, .ref 11], (I2, L2, D2, am_rf (xt, xs, 11, xp, xu, xc)))) 4 rfl ?_
    obtain ⟨r3, I3, L3, D3, hr, h⟩ := h
    refine am_wp_inv (as := [.ref 11, .int 2, .int v1]) rfl rfl rfl rfl ⟨_, hr, ?_⟩
    show am_wp ext d mz_51 (104, [some (.ref 20), some (.int v1), some (.int r1)], [.int r3], (I3, L3, D3, am_rf (xt, xs, 11, xp, xu, xc))) P
    refine am_wpb (c' := (106, [some (.ref 20), some (.int v1), some (.int r1)], [.int r1], (I3, L3, D3, am_rf (xt, xs, 11, xp, xu, xc)))) 2 rfl ?_
    exact am_ret_z rfl rfl h.1 h.2
  · replace h := h.2 z
    refine am_wpb (c' := (51, [some (.ref 20), some (.int v1), some (.int r1)], [.int r1], (I2, L2, D2, am_rf (xt, xs, 11, xp, xu, xc)))) 1 rfl ?_
    refine am_b1_eq rfl (fun z => ?_) (fun z => ?_)
    · replace h := h.1 z
      refine am_wpb (c' := (88, [some (.ref 20), some (.int v1), some (.int 0)], [.int v1, .int 3, .ref 11], (I2, L2, D2, am_rf (xt, xs, 11, xp, xu, xc)))) 6 rfl ?_
      obtain ⟨r4, I4, L4, D4, hr, h⟩ := h
      refine am_wp_inv (as := [.ref 11, .int 3, .int v1]) rfl rfl rfl rfl ⟨_, hr, ?_⟩
      show am_wp ext d mz_51 (91, [some (.ref 20), some (.int v1), some (.int 0)], [.int r4], (I4, L4, D4, am_rf (xt, xs, 11, xp, xu, xc))) P
      refine am_wpb (c' := (106, [some (.ref 20), some (.int v1), some (.int 0)], [.int 0], (I4, L4, D4, am_rf (xt, xs, 11, xp, xu, xc)))) 3 rfl ?_
      exact am_ret_z rfl rfl (Or.inl rfl) h
    · replace h := h.2 z
      refine am_wpb (c' := (55, [some (.ref 20), some (.int v1), some (.int r1)], [.ref 20], (I2, L2, D2, am_rf (xt, xs, 11, xp, xu, xc)))) 1 rfl ?_
      obtain ⟨r5, I5, L5, D5, hr, h⟩ := h
      refine am_wp_inv (as := [.ref 20]) rfl rfl rfl rfl ⟨_, hr, ?_⟩
      show am_wp ext d mz_51 (58, [some (.ref 20), some (.int v1), some (.int r1)], [.int r5], (I5, L5, D5, am_rf (xt, xs, 11, xp, xu, xc))) P
      refine am_b1_eq rfl (fun z => ?_) (fun z => ?_)
      · replace h := h.1 z
        refine am_wpb (c' := (88, [some (.ref 20), some (.int v1), some (.int 0)], [.int v1, .int 3, .ref 11], (I5, L5, D5, am_rf (xt, xs, 11, xp, xu, xc)))) 6 rfl ?_
        obtain ⟨r6, I6, L6, D6, hr, h⟩ := h
        refine am_wp_inv (as := [.ref 11, .int 3, .int v1]) rfl rfl rfl rfl ⟨_, hr, ?_⟩
        show am_wp ext d mz_51 (91, [some (.ref 20), some (.int v1), some (.int 0)], [.int r6], (I6, L6, D6, am_rf (xt, xs, 11, xp, xu, xc))) P
        refine am_wpb (c' := (106, [some (.ref 20), some (.int v1), some (.int 0)], [.int 0], (I6, L6, D6, am_rf (xt, xs, 11, xp, xu, xc)))) 3 rfl ?_
        exact am_ret_z rfl rfl (Or.inl rfl) h
      · replace h := h.2 z
        refine am_wpb (c' := (63, [some (.ref 20), some (.int v1), some (.int r1)], [.int 0, .ref 20], (I5, L5, D5, am_rf (xt, xs, 11, xp, xu, xc)))) 2 rfl ?_
        obtain ⟨r7, I7, L7, D7, hr, h⟩ := h
        refine am_wp_inv (as := [.ref 20, .int 0]) rfl rfl rfl rfl ⟨_, hr, ?_⟩
        show am_wp ext d mz_51 (66, [some (.ref 20), some (.int v1), some (.int r1)], [.int r7], (I7, L7, D7, am_rf (xt, xs, 11, xp, xu, xc))) P
        refine am_b1_eq rfl (fun z => ?_) (fun z => ?_)
        · replace h := h.1 z
          refine am_wpb (c' := (88, [some (.ref 20), some (.int v1), some (.int 0)], [.int v1, .int 3, .ref 11], (I7, L7, D7, am_rf (xt, xs, 11, xp, xu, xc)))) 6 rfl ?_
          obtain ⟨r8, I8, L8, D8, hr, h⟩ := h
          refine am_wp_inv (as := [.ref 11, .int 3, .int v1]) rfl rfl rfl rfl ⟨_, hr, ?_⟩
          show am_wp ext d mz_51 (91, [some (.ref 20), some (.int v1), some (.int 0)], [.int r8], (I8, L8, D8, am_rf (xt, xs, 11, xp, xu, xc))) P
          refine am_wpb (c' := (106, [some (.ref 20), some (.int v1), some (.int 0)], [.int 0], (I8, L8, D8, am_rf (xt, xs, 11, xp, xu, xc)))) 3 rfl ?_
          exact am_ret_z rfl rfl (Or.inl rfl) h
        · replace h := h.2 z
          refine am_wpb (c' := (70, [some (.ref 20), some (.int v1), some (.int r1)], [.ref 20], (I7, L7, D7, am_rf (xt, xs, 11, xp, xu, xc)))) 1 rfl ?_
          obtain ⟨r9, I9, L9, D9, hr, h⟩ := h
          refine am_wp_inv (as := [.ref 20]) rfl rfl rfl rfl ⟨_, hr, ?_⟩
          show am_wp ext d mz_51 (73, [some (.ref 20), some (.int v1), some (.int r1)], [.int r9], (I9, L9, D9, am_rf (xt, xs, 11, xp, xu, xc))) P
          refine am_b1_eq rfl (fun z => ?_) (fun z => ?_)
          · replace h := h.1 z
            refine am_wpb (c' := (88, [some (.ref 20), some (.int v1), some (.int 0)], [.int v1, .int 3, .ref 11], (I9, L9, D9, am_rf (xt, xs, 11, xp, xu, xc)))) 6 rfl ?_
            obtain ⟨r10, I10, L10, D10, hr, h⟩ := h
            refine am_wp_inv (as := [.ref 11, .int 3, .int v1]) rfl rfl rfl rfl ⟨_, hr, ?_⟩
            show am_wp ext d mz_51 (91, [some (.ref 20), some (.int v1), some (.int 0)], [.int r10], (I10, L10, D10, am_rf (xt, xs, 11, xp, xu, xc))) P
            refine am_wpb (c' := (106, [some (.ref 20), some (.int v1), some (.int 0)], [.int 0], (I10, L10, D10, am_rf (xt, xs, 11, xp, xu, xc)))) 3 rfl ?_
            exact am_ret_z rfl rfl (Or.inl rfl) h
          · replace h := h.2 z
            refine am_wpb (c' := (88, [some (.ref 20), some (.int v1), some (.int 1)], [.int v1, .int 3, .ref 11], (I9, L9, D9, am_rf (xt, xs, 11, xp, xu, xc)))) 7 rfl ?_
            obtain ⟨r11, I11, L11, D11, hr, h⟩ := h
            refine am_wp_inv (as := [.ref 11, .int 3, .int v1]) rfl rfl rfl rfl ⟨_, hr, ?_⟩
            show am_wp ext d mz_51 (91, [some (.ref 20), some (.int v1), some (.int 1)], [.int r11], (I11, L11, D11, am_rf (xt, xs, 11, xp, xu, xc))) P
            refine am_wpb (c' := (106, [some (.ref 20), some (.int v1), some (.int 1)], [.int 1], (I11, L11, D11, am_rf (xt, xs, 11, xp, xu, xc)))) 3 rfl ?_
            exact am_ret_z rfl rfl (Or.inr rfl) h
/-- SureSums$Reader.ofOne(I)Z -/
def mz_52 : am_Y := (fun pc => am_q52.lookup pc, 3, 2)
theorem mh_52 : am_Ys 52 = some mz_52 := rfl
theorem w52_0 {ext : Nat → List Value → am_M → Option am_R} {d : Nat} {P : am_R → Prop} (I : Nat → Nat → Int32) (L : Nat → Nat → Int64) (D : Nat → Nat → UInt64) (xc : Nat) (xp : Nat) (xs : Nat) (xt : Nat) (xu : Nat) (v1 : Int32)
    (h : ∃ (r1 : Int32) (I1 : Nat → Nat → Int32) (L1 : Nat → Nat → Int64) (D1 : Nat → Nat → UInt64), am_Rn ext d 48 [.ref 20] (I, L, D, am_rf (xt, xs, 11, xp, xu, xc)) (some (.int r1), (I1, L1, D1, am_rf (xt, xs, 11, xp, xu, xc))) ∧ (((r1 = 0 → (∃ (r2 : Int32) (I2 : Nat → Nat → Int32) (L2 : Nat → Nat → Int64) (D2 : Nat → Nat → UInt64), am_Rn ext d 36 [.ref 11, .int v1, .int 0] (I1, L1, D1, am_rf (xt, xs, 11, xp, xu, xc)) (some (.int r2), (I2, L2, D2, am_rf (xt, xs, 11, xp, xu, xc))) ∧ (P (some (.int 0), (I2, L2, D2, am_rf (xt, xs, 11, xp, xu, xc)))))) ∧ (¬ r1 = 0 → (∃ (r3 : Int32) (I3 : Nat → Nat → Int32) (L3 : Nat → Nat → Int64) (D3 : Nat → Nat → UInt64), am_Rn ext d 57 [.ref 20] (I1, L1, D1, am_rf (xt, xs, 11, xp, xu, xc)) (some (.int r3), (I3, L3, D3, am_rf (xt, xs, 11, xp, xu, xc))) ∧ (((r3 = 0 → (∃ (r4 : Int32) (I4 : Nat → Nat → Int32) (L4 : Nat → Nat → Int64) (D4 : Nat → Nat → UInt64), am_Rn ext d 36 [.ref 11, .int v1, .int 0] (I3, L3, D3, am_rf (xt, xs, 11, xp, xu, xc)) (some (.int r4), (I4, L4, D4, am_rf (xt, xs, 11, xp, xu, xc))) ∧ (P (some (.int 0), (I4, L4, D4, am_rf (xt, xs, 11, xp, xu, xc)))))) ∧ (¬ r3 = 0 → (∃ (r5 : Int32) (I5 : Nat → Nat → Int32) (L5 : Nat → Nat → Int64) (D5 : Nat → Nat → UInt64), am_Rn ext d 44 [.ref 20, .int 0] (I3, L3, D3, am_rf (xt, xs, 11, xp, xu, xc)) (some (.int r5), (I5, L5, D5, am_rf (xt, xs, 11, xp, xu, xc))) ∧ (((r5 = 0 → (∃ (r6 : Int32) (I6 : Nat → Nat → Int32) (L6 : Nat → Nat → Int64) (D6 : Nat → Nat → UInt64), am_Rn ext d 36 [.ref 11, .int v1, .int 0] (I5, L5, D5, am_rf (xt, xs, 11, xp, xu, xc)) (some (.int r6), (I6, L6, D6, am_rf (xt, xs, 11, xp, xu, xc))) ∧ (P (some (.int 0), (I6, L6, D6, am_rf (xt, xs, 11, xp, xu, xc)))))) ∧ (¬ r5 = 0 → (∃ (r7 : Int32) (I7 : Nat → Nat → Int32) (L7 : Nat → Nat → Int64) (D7 : Nat → Nat → UInt64), am_Rn ext d 58 [.ref 20] (I5, L5, D5, am_rf (xt, xs, 11, xp, xu, xc)) (some (.int r7), (I7, L7, D7, am_rf (xt, xs, 11, xp, xu, xc))) ∧ (((r7 = 0 → (∃ (r8 : Int32) (I8 : Nat → Nat → Int32) (L8 : Nat → Nat → Int64) (D8 : Nat → Nat → UInt64), am_Rn ext d 36 [.ref 11, .int v1, .int 0] (I7, L7, D7, am_rf (xt, xs, 11, xp, xu, xc)) (some (.int r8), (I8, L8, D8, am_rf (xt, xs, 11, xp, xu, xc))) ∧ (P (some (.int 0), (I8, L8, D8, am_rf (xt, xs, 11, xp, xu, xc)))))) ∧ (¬ r7 = 0 → (∃ (r9 : Int32) (I9 : Nat → Nat → Int32) (L9 : Nat → Nat → Int64) (D9 : Nat → Nat → UInt64), am_Rn ext d 36 [.ref 11, .int v1, .int 0] (I7, L7, D7, am_rf (xt, xs, 11, xp, xu, xc)) (some (.int r9), (I9, L9, D9, am_rf (xt, xs, 11, xp, xu, xc))) ∧ (P (some (.int 1), (I9, L9, D9, am_rf (xt, xs, 11, xp, xu, xc))))))))))))))))))))) : am_wp ext d mz_52 (0, [some (.ref 20), some (.int v1), none], [], (I, L, D, am_rf (xt, xs, 11, xp, xu, xc))) P := by
  refine am_wpb (c' := (1, [some (.ref 20), some (.int v1), none], [.ref 20], (I, L, D, am_rf (xt, xs, 11, xp, xu, xc)))) 1 rfl ?_
  obtain ⟨r1, I1, L1, D1, hr, h⟩ := h
  refine am_wp_inv (as := [.ref 20]) rfl rfl rfl rfl ⟨_, hr, ?_⟩
  show am_wp ext d mz_52 (4, [some (.ref 20), some (.int v1), none], [.int r1], (I1, L1, D1, am_rf (xt, xs, 11, xp, xu, xc))) P
  refine am_b1_eq rfl (fun z => ?_) (fun z => ?_)
  · replace h := h.1 z
    refine am_wpb (c' := (41, [some (.ref 20), some (.int v1), some (.int 0)], [.int 0, .int v1, .ref 11], (I1, L1, D1, am_rf (xt, xs, 11, xp, xu, xc)))) 6 rfl ?_
    obtain ⟨r2, I2, L2, D2, hr, h⟩ := h
    refine am_wp_inv (as := [.ref 11, .int v1, .int 0]) rfl rfl rfl rfl ⟨_, hr, ?_⟩
    show am_wp ext d mz_52 (44, [some (.ref 20), some (.int v1), some (.int 0)], [.int r2], (I2, L2, D2, am_rf (xt, xs, 11, xp, xu, xc))) P
    refine am_wpb (c' := (46, [some (.ref 20), some (.int v1), some (.int 0)], [.int 0], (I2, L2, D2, am_rf (xt, xs, 11, xp, xu, xc)))) 2 rfl ?_
    exact am_ret_z rfl rfl (Or.inl rfl) h
  · replace h := h.2 z
    refine am_wpb (c' := (8, [some (.ref 20), some (.int v1), none], [.ref 20], (I1, L1, D1, am_rf (xt, xs, 11, xp, xu, xc)))) 1 rfl ?_
    obtain ⟨r3, I3, L3, D3, hr, h⟩ := h
    refine am_wp_inv (as := [.ref 20]) rfl rfl rfl rfl ⟨_, hr, ?_⟩
    show am_wp ext d mz_52 (11, [some (.ref 20), some (.int v1), none], [.int r3], (I3, L3, D3, am_rf (xt, xs, 11, xp, xu, xc))) P
    refine am_b1_eq rfl (fun z => ?_) (fun z => ?_)
    · replace h := h.1 z
      refine am_wpb (c' := (41, [some (.ref 20), some (.int v1), some (.int 0)], [.int 0, .int v1, .ref 11], (I3, L3, D3, am_rf (xt, xs, 11, xp, xu, xc)))) 6 rfl ?_
      obtain ⟨r4, I4, L4, D4, hr, h⟩ := h
      refine am_wp_inv (as := [.ref 11, .int v1, .int 0]) rfl rfl rfl rfl ⟨_, hr, ?_⟩
      show am_wp ext d mz_52 (44, [some (.ref 20), some (.int v1), some (.int 0)], [.int r4], (I4, L4, D4, am_rf (xt, xs, 11, xp, xu, xc))) P
      refine am_wpb (c' := (46, [some (.ref 20), some (.int v1), some (.int 0)], [.int 0], (I4, L4, D4, am_rf (xt, xs, 11, xp, xu, xc)))) 2 rfl ?_
      exact am_ret_z rfl rfl (Or.inl rfl) h
    · replace h := h.2 z
      refine am_wpb (c' := (16, [some (.ref 20), some (.int v1), none], [.int 0, .ref 20], (I3, L3, D3, am_rf (xt, xs, 11, xp, xu, xc)))) 2 rfl ?_
      obtain ⟨r5, I5, L5, D5, hr, h⟩ := h
      refine am_wp_inv (as := [.ref 20, .int 0]) rfl rfl rfl rfl ⟨_, hr, ?_⟩
      show am_wp ext d mz_52 (19, [some (.ref 20), some (.int v1), none], [.int r5], (I5, L5, D5, am_rf (xt, xs, 11, xp, xu, xc))) P
      refine am_b1_eq rfl (fun z => ?_) (fun z => ?_)
      · replace h := h.1 z
        refine am_wpb (c' := (41, [some (.ref 20), some (.int v1), some (.int 0)], [.int 0, .int v1, .ref 11], (I5, L5, D5, am_rf (xt, xs, 11, xp, xu, xc)))) 6 rfl ?_
        obtain ⟨r6, I6, L6, D6, hr, h⟩ := h
        refine am_wp_inv (as := [.ref 11, .int v1, .int 0]) rfl rfl rfl rfl ⟨_, hr, ?_⟩
        show am_wp ext d mz_52 (44, [some (.ref 20), some (.int v1), some (.int 0)], [.int r6], (I6, L6, D6, am_rf (xt, xs, 11, xp, xu, xc))) P
        refine am_wpb (c' := (46, [some (.ref 20), some (.int v1), some (.int 0)], [.int 0], (I6, L6, D6, am_rf (xt, xs, 11, xp, xu, xc)))) 2 rfl ?_
        exact am_ret_z rfl rfl (Or.inl rfl) h
      · replace h := h.2 z
        refine am_wpb (c' := (23, [some (.ref 20), some (.int v1), none], [.ref 20], (I5, L5, D5, am_rf (xt, xs, 11, xp, xu, xc)))) 1 rfl ?_
        obtain ⟨r7, I7, L7, D7, hr, h⟩ := h
        refine am_wp_inv (as := [.ref 20]) rfl rfl rfl rfl ⟨_, hr, ?_⟩
        show am_wp ext d mz_52 (26, [some (.ref 20), some (.int v1), none], [.int r7], (I7, L7, D7, am_rf (xt, xs, 11, xp, xu, xc))) P
        refine am_b1_eq rfl (fun z => ?_) (fun z => ?_)
        · replace h := h.1 z
          refine am_wpb (c' := (41, [some (.ref 20), some (.int v1), some (.int 0)], [.int 0, .int v1, .ref 11], (I7, L7, D7, am_rf (xt, xs, 11, xp, xu, xc)))) 6 rfl ?_
          obtain ⟨r8, I8, L8, D8, hr, h⟩ := h
          refine am_wp_inv (as := [.ref 11, .int v1, .int 0]) rfl rfl rfl rfl ⟨_, hr, ?_⟩
          show am_wp ext d mz_52 (44, [some (.ref 20), some (.int v1), some (.int 0)], [.int r8], (I8, L8, D8, am_rf (xt, xs, 11, xp, xu, xc))) P
          refine am_wpb (c' := (46, [some (.ref 20), some (.int v1), some (.int 0)], [.int 0], (I8, L8, D8, am_rf (xt, xs, 11, xp, xu, xc)))) 2 rfl ?_
          exact am_ret_z rfl rfl (Or.inl rfl) h
        · replace h := h.2 z
          refine am_wpb (c' := (41, [some (.ref 20), some (.int v1), some (.int 1)], [.int 0, .int v1, .ref 11], (I7, L7, D7, am_rf (xt, xs, 11, xp, xu, xc)))) 7 rfl ?_
          obtain ⟨r9, I9, L9, D9, hr, h⟩ := h
          refine am_wp_inv (as := [.ref 11, .int v1, .int 0]) rfl rfl rfl rfl ⟨_, hr, ?_⟩
          show am_wp ext d mz_52 (44, [some (.ref 20), some (.int v1), some (.int 1)], [.int r9], (I9, L9, D9, am_rf (xt, xs, 11, xp, xu, xc))) P
          refine am_wpb (c' := (46, [some (.ref 20), some (.int v1), some (.int 1)], [.int 1], (I9, L9, D9, am_rf (xt, xs, 11, xp, xu, xc)))) 2 rfl ?_
          exact am_ret_z rfl rfl (Or.inr rfl) h
/-- SureSums$Reader.ofTwo(I)Z -/
def mz_53 : am_Y := (fun pc => am_q53.lookup pc, 3, 2)
theorem mh_53 : am_Ys 53 = some mz_53 := rfl
theorem w53_0 {ext : Nat → List Value → am_M → Option am_R} {d : Nat} {P : am_R → Prop} (I : Nat → Nat → Int32) (L : Nat → Nat → Int64) (D : Nat → Nat → UInt64) (xc : Nat) (xp : Nat) (xs : Nat) (xt : Nat) (xu : Nat) (v1 : Int32)
    (h : ∃ (r1 : Int32) (I1 : Nat → Nat → Int32) (L1 : Nat → Nat → Int64) (D1 : Nat → Nat → UInt64), am_Rn ext d 48 [.ref 20] (I, L, D, am_rf (xt, xs, 11, xp, xu, xc)) (some (.int r1), (I1, L1, D1, am_rf (xt, xs, 11, xp, xu, xc))) ∧ (((r1 = 0 → (∃ (r2 : Int32) (I2 : Nat → Nat → Int32) (L2 : Nat → Nat → Int64) (D2 : Nat → Nat → UInt64), am_Rn ext d 36 [.ref 11, .int v1, .int 0] (I1, L1, D1, am_rf (xt, xs, 11, xp, xu, xc)) (some (.int r2), (I2, L2, D2, am_rf (xt, xs, 11, xp, xu, xc))) ∧ (P (some (.int 0), (I2, L2, D2, am_rf (xt, xs, 11, xp, xu, xc)))))) ∧ (¬ r1 = 0 → (∃ (r3 : Int32) (I3 : Nat → Nat → Int32) (L3 : Nat → Nat → Int64) (D3 : Nat → Nat → UInt64), am_Rn ext d 57 [.ref 20] (I1, L1, D1, am_rf (xt, xs, 11, xp, xu, xc)) (some (.int r3), (I3, L3, D3, am_rf (xt, xs, 11, xp, xu, xc))) ∧ (((r3 = 0 → (∃ (r4 : Int32) (I4 : Nat → Nat → Int32) (L4 : Nat → Nat → Int64) (D4 : Nat → Nat → UInt64), am_Rn ext d 36 [.ref 11, .int v1, .int 0] (I3, L3, D3, am_rf (xt, xs, 11, xp, xu, xc)) (some (.int r4), (I4, L4, D4, am_rf (xt, xs, 11, xp, xu, xc))) ∧ (P (some (.int 0), (I4, L4, D4, am_rf (xt, xs, 11, xp, xu, xc)))))) ∧ (¬ r3 = 0 → (∃ (r5 : Int32) (I5 : Nat → Nat → Int32) (L5 : Nat → Nat → Int64) (D5 : Nat → Nat → UInt64), am_Rn ext d 44 [.ref 20, .int 0] (I3, L3, D3, am_rf (xt, xs, 11, xp, xu, xc)) (some (.int r5), (I5, L5, D5, am_rf (xt, xs, 11, xp, xu, xc))) ∧ (((r5 = 0 → (∃ (r6 : Int32) (I6 : Nat → Nat → Int32) (L6 : Nat → Nat → Int64) (D6 : Nat → Nat → UInt64), am_Rn ext d 36 [.ref 11, .int v1, .int 0] (I5, L5, D5, am_rf (xt, xs, 11, xp, xu, xc)) (some (.int r6), (I6, L6, D6, am_rf (xt, xs, 11, xp, xu, xc))) ∧ (P (some (.int 0), (I6, L6, D6, am_rf (xt, xs, 11, xp, xu, xc)))))) ∧ (¬ r5 = 0 → (∃ (r7 : Int32) (I7 : Nat → Nat → Int32) (L7 : Nat → Nat → Int64) (D7 : Nat → Nat → UInt64), am_Rn ext d 59 [.ref 20, .int 44] (I5, L5, D5, am_rf (xt, xs, 11, xp, xu, xc)) (some (.int r7), (I7, L7, D7, am_rf (xt, xs, 11, xp, xu, xc))) ∧ (((r7 = 0 → (∃ (r8 : Int32) (I8 : Nat → Nat → Int32) (L8 : Nat → Nat → Int64) (D8 : Nat → Nat → UInt64), am_Rn ext d 36 [.ref 11, .int v1, .int 0] (I7, L7, D7, am_rf (xt, xs, 11, xp, xu, xc)) (some (.int r8), (I8, L8, D8, am_rf (xt, xs, 11, xp, xu, xc))) ∧ (P (some (.int 0), (I8, L8, D8, am_rf (xt, xs, 11, xp, xu, xc)))))) ∧ (¬ r7 = 0 → (∃ (r9 : Int32) (I9 : Nat → Nat → Int32) (L9 : Nat → Nat → Int64) (D9 : Nat → Nat → UInt64), am_Rn ext d 44 [.ref 20, .int 0] (I7, L7, D7, am_rf (xt, xs, 11, xp, xu, xc)) (some (.int r9), (I9, L9, D9, am_rf (xt, xs, 11, xp, xu, xc))) ∧ (((r9 = 0 → (∃ (r10 : Int32) (I10 : Nat → Nat → Int32) (L10 : Nat → Nat → Int64) (D10 : Nat → Nat → UInt64), am_Rn ext d 36 [.ref 11, .int v1, .int 0] (I9, L9, D9, am_rf (xt, xs, 11, xp, xu, xc)) (some (.int r10), (I10, L10, D10, am_rf (xt, xs, 11, xp, xu, xc))) ∧ (P (some (.int 0), (I10, L10, D10, am_rf (xt, xs, 11, xp, xu, xc)))))) ∧ (¬ r9 = 0 → (∃ (r11 : Int32) (I11 : Nat → Nat → Int32) (L11 : Nat → Nat → Int64) (D11 : Nat → Nat → UInt64), am_Rn ext d 58 [.ref 20] (I9, L9, D9, am_rf (xt, xs, 11, xp, xu, xc)) (some (.int r11), (I11, L11, D11, am_rf (xt, xs, 11, xp, xu, xc))) ∧ (((r11 = 0 → (∃ (r12 : Int32) (I12 : Nat → Nat → Int32) (L12 : Nat → Nat → Int64) (D12 : Nat → Nat → UInt64), am_Rn ext d 36 [.ref 11, .int v1, .int 0] (I11, L11, D11, am_rf (xt, xs, 11, xp, xu, xc)) (some (.int r12), (I12, L12, D12, am_rf (xt, xs, 11, xp, xu, xc))) ∧ (P (some (.int 0), (I12, L12, D12, am_rf (xt, xs, 11, xp, xu, xc)))))) ∧ (¬ r11 = 0 → (∃ (r13 : Int32) (I13 : Nat → Nat → Int32) (L13 : Nat → Nat → Int64) (D13 : Nat → Nat → UInt64), am_Rn ext d 36 [.ref 11, .int v1, .int 0] (I11, L11, D11, am_rf (xt, xs, 11, xp, xu, xc)) (some (.int r13), (I13, L13, D13, am_rf (xt, xs, 11, xp, xu, xc))) ∧ (P (some (.int 1), (I13, L13, D13, am_rf (xt, xs, 11, xp, xu, xc))))))))))))))))))))))))))))) : am_wp ext d mz_53 (0, [some (.ref 20), some (.int v1), none], [], (I, L, D, am_rf (xt, xs, 11, xp, xu, xc))) P := by
  refine am_wpb (c' := (1, [some (.ref 20), some (.int v1), none], [.ref 20], (I, L, D, am_rf (xt, xs, 11, xp, xu, xc)))) 1 rfl ?_
  obtain ⟨r1, I1, L1, D1, hr, h⟩ := h
  refine am_wp_inv (as := [.ref 20]) rfl rfl rfl rfl ⟨_, hr, ?_⟩
  show am_wp ext d mz_53 (4, [some (.ref 20), some (.int v1), none], [.int r1], (I1, L1, D1, am_rf (xt, xs, 11, xp, xu, xc))) P
  refine am_b1_eq rfl (fun z => ?_) (fun z => ?_)
  · replace h := h.1 z
    refine am_wpb (c' := (58, [some (.ref 20), some (.int v1), some (.int 0)], [.int 0, .int v1, .ref 11], (I1, L1, D1, am_rf (xt, xs, 11, xp, xu, xc)))) 6 rfl ?_
    obtain ⟨r2, I2, L2, D2, hr, h⟩ := h
    refine am_wp_inv (as := [.ref 11, .int v1, .int 0]) rfl rfl rfl rfl ⟨_, hr, ?_⟩
    show am_wp ext d mz_53 (61, [some (.ref 20), some (.int v1), some (.int 0)], [.int r2], (I2, L2, D2, am_rf (xt, xs, 11, xp, xu, xc))) P
    refine am_wpb (c' := (63, [some (.ref 20), some (.int v1), some (.int 0)], [.int 0], (I2, L2, D2, am_rf (xt, xs, 11, xp, xu, xc)))) 2 rfl ?_
    exact am_ret_z rfl rfl (Or.inl rfl) h
  · replace h := h.2 z
    refine am_wpb (c' := (8, [some (.ref 20), some (.int v1), none], [.ref 20], (I1, L1, D1, am_rf (xt, xs, 11, xp, xu, xc)))) 1 rfl ?_
    obtain ⟨r3, I3, L3, D3, hr, h⟩ := h
    refine am_wp_inv (as := [.ref 20]) rfl rfl rfl rfl ⟨_, hr, ?_⟩
    show am_wp ext d mz_53 (11, [some (.ref 20), some (.int v1), none], [.int r3], (I3, L3, D3, am_rf (xt, xs, 11, xp, xu, xc))) P
    refine am_b1_eq rfl (fun z => ?_) (fun z => ?_)
    · replace h := h.1 z
      refine am_wpb (c' := (58, [some (.ref 20), some (.int v1), some (.int 0)], [.int 0, .int v1, .ref 11], (I3, L3, D3, am_rf (xt, xs, 11, xp, xu, xc)))) 6 rfl ?_
      obtain ⟨r4, I4, L4, D4, hr, h⟩ := h
      refine am_wp_inv (as := [.ref 11, .int v1, .int 0]) rfl rfl rfl rfl ⟨_, hr, ?_⟩
      show am_wp ext d mz_53 (61, [some (.ref 20), some (.int v1), some (.int 0)], [.int r4], (I4, L4, D4, am_rf (xt, xs, 11, xp, xu, xc))) P
      refine am_wpb (c' := (63, [some (.ref 20), some (.int v1), some (.int 0)], [.int 0], (I4, L4, D4, am_rf (xt, xs, 11, xp, xu, xc)))) 2 rfl ?_
      exact am_ret_z rfl rfl (Or.inl rfl) h
    · replace h := h.2 z
      refine am_wpb (c' := (16, [some (.ref 20), some (.int v1), none], [.int 0, .ref 20], (I3, L3, D3, am_rf (xt, xs, 11, xp, xu, xc)))) 2 rfl ?_
      obtain ⟨r5, I5, L5, D5, hr, h⟩ := h
      refine am_wp_inv (as := [.ref 20, .int 0]) rfl rfl rfl rfl ⟨_, hr, ?_⟩
      show am_wp ext d mz_53 (19, [some (.ref 20), some (.int v1), none], [.int r5], (I5, L5, D5, am_rf (xt, xs, 11, xp, xu, xc))) P
      refine am_b1_eq rfl (fun z => ?_) (fun z => ?_)
      · replace h := h.1 z
        refine am_wpb (c' := (58, [some (.ref 20), some (.int v1), some (.int 0)], [.int 0, .int v1, .ref 11], (I5, L5, D5, am_rf (xt, xs, 11, xp, xu, xc)))) 6 rfl ?_
        obtain ⟨r6, I6, L6, D6, hr, h⟩ := h
        refine am_wp_inv (as := [.ref 11, .int v1, .int 0]) rfl rfl rfl rfl ⟨_, hr, ?_⟩
        show am_wp ext d mz_53 (61, [some (.ref 20), some (.int v1), some (.int 0)], [.int r6], (I6, L6, D6, am_rf (xt, xs, 11, xp, xu, xc))) P
        refine am_wpb (c' := (63, [some (.ref 20), some (.int v1), some (.int 0)], [.int 0], (I6, L6, D6, am_rf (xt, xs, 11, xp, xu, xc)))) 2 rfl ?_
        exact am_ret_z rfl rfl (Or.inl rfl) h
      · replace h := h.2 z
        refine am_wpb (c' := (25, [some (.ref 20), some (.int v1), none], [.int 44, .ref 20], (I5, L5, D5, am_rf (xt, xs, 11, xp, xu, xc)))) 2 rfl ?_
        obtain ⟨r7, I7, L7, D7, hr, h⟩ := h
        refine am_wp_inv (as := [.ref 20, .int 44]) rfl rfl rfl rfl ⟨_, hr, ?_⟩
        show am_wp ext d mz_53 (28, [some (.ref 20), some (.int v1), none], [.int r7], (I7, L7, D7, am_rf (xt, xs, 11, xp, xu, xc))) P
        refine am_b1_eq rfl (fun z => ?_) (fun z => ?_)
        · replace h := h.1 z
          refine am_wpb (c' := (58, [some (.ref 20), some (.int v1), some (.int 0)], [.int 0, .int v1, .ref 11], (I7, L7, D7, am_rf (xt, xs, 11, xp, xu, xc)))) 6 rfl ?_
          obtain ⟨r8, I8, L8, D8, hr, h⟩ := h
          refine am_wp_inv (as := [.ref 11, .int v1, .int 0]) rfl rfl rfl rfl ⟨_, hr, ?_⟩
          show am_wp ext d mz_53 (61, [some (.ref 20), some (.int v1), some (.int 0)], [.int r8], (I8, L8, D8, am_rf (xt, xs, 11, xp, xu, xc))) P
          refine am_wpb (c' := (63, [some (.ref 20), some (.int v1), some (.int 0)], [.int 0], (I8, L8, D8, am_rf (xt, xs, 11, xp, xu, xc)))) 2 rfl ?_
          exact am_ret_z rfl rfl (Or.inl rfl) h
        · replace h := h.2 z
          refine am_wpb (c' := (33, [some (.ref 20), some (.int v1), none], [.int 0, .ref 20], (I7, L7, D7, am_rf (xt, xs, 11, xp, xu, xc)))) 2 rfl ?_
          obtain ⟨r9, I9, L9, D9, hr, h⟩ := h
          refine am_wp_inv (as := [.ref 20, .int 0]) rfl rfl rfl rfl ⟨_, hr, ?_⟩
          show am_wp ext d mz_53 (36, [some (.ref 20), some (.int v1), none], [.int r9], (I9, L9, D9, am_rf (xt, xs, 11, xp, xu, xc))) P
          refine am_b1_eq rfl (fun z => ?_) (fun z => ?_)
          · replace h := h.1 z
            refine am_wpb (c' := (58, [some (.ref 20), some (.int v1), some (.int 0)], [.int 0, .int v1, .ref 11], (I9, L9, D9, am_rf (xt, xs, 11, xp, xu, xc)))) 6 rfl ?_
            obtain ⟨r10, I10, L10, D10, hr, h⟩ := h
            refine am_wp_inv (as := [.ref 11, .int v1, .int 0]) rfl rfl rfl rfl ⟨_, hr, ?_⟩
            show am_wp ext d mz_53 (61, [some (.ref 20), some (.int v1), some (.int 0)], [.int r10], (I10, L10, D10, am_rf (xt, xs, 11, xp, xu, xc))) P
            refine am_wpb (c' := (63, [some (.ref 20), some (.int v1), some (.int 0)], [.int 0], (I10, L10, D10, am_rf (xt, xs, 11, xp, xu, xc)))) 2 rfl ?_
            exact am_ret_z rfl rfl (Or.inl rfl) h
          · replace h := h.2 z
            refine am_wpb (c' := (40, [some (.ref 20), some (.int v1), none], [.ref 20], (I9, L9, D9, am_rf (xt, xs, 11, xp, xu, xc)))) 1 rfl ?_
            obtain ⟨r11, I11, L11, D11, hr, h⟩ := h
            refine am_wp_inv (as := [.ref 20]) rfl rfl rfl rfl ⟨_, hr, ?_⟩
            show am_wp ext d mz_53 (43, [some (.ref 20), some (.int v1), none], [.int r11], (I11, L11, D11, am_rf (xt, xs, 11, xp, xu, xc))) P
            refine am_b1_eq rfl (fun z => ?_) (fun z => ?_)
            · replace h := h.1 z
              refine am_wpb (c' := (58, [some (.ref 20), some (.int v1), some (.int 0)], [.int 0, .int v1, .ref 11], (I11, L11, D11, am_rf (xt, xs, 11, xp, xu, xc)))) 6 rfl ?_
              obtain ⟨r12, I12, L12, D12, hr, h⟩ := h
              refine am_wp_inv (as := [.ref 11, .int v1, .int 0]) rfl rfl rfl rfl ⟨_, hr, ?_⟩
              show am_wp ext d mz_53 (61, [some (.ref 20), some (.int v1), some (.int 0)], [.int r12], (I12, L12, D12, am_rf (xt, xs, 11, xp, xu, xc))) P
              refine am_wpb (c' := (63, [some (.ref 20), some (.int v1), some (.int 0)], [.int 0], (I12, L12, D12, am_rf (xt, xs, 11, xp, xu, xc)))) 2 rfl ?_
              exact am_ret_z rfl rfl (Or.inl rfl) h
            · replace h := h.2 z
              refine am_wpb (c' := (58, [some (.ref 20), some (.int v1), some (.int 1)], [.int 0, .int v1, .ref 11], (I11, L11, D11, am_rf (xt, xs, 11, xp, xu, xc)))) 7 rfl ?_
              obtain ⟨r13, I13, L13, D13, hr, h⟩ := h
              refine am_wp_inv (as := [.ref 11, .int v1, .int 0]) rfl rfl rfl rfl ⟨_, hr, ?_⟩
              show am_wp ext d mz_53 (61, [some (.ref 20), some (.int v1), some (.int 1)], [.int r13], (I13, L13, D13, am_rf (xt, xs, 11, xp, xu, xc))) P
              refine am_wpb (c' := (63, [some (.ref 20), some (.int v1), some (.int 1)], [.int 1], (I13, L13, D13, am_rf (xt, xs, 11, xp, xu, xc)))) 2 rfl ?_
              exact am_ret_z rfl rfl (Or.inr rfl) h
/-- SureSums$Reader.choice()Z -/
def mz_54 : am_Y := (fun pc => am_q54.lookup pc, 5, 2)
theorem mh_54 : am_Ys 54 = some mz_54 := rfl
theorem w54_0 {ext : Nat → List Value → am_M → Option am_R} {d : Nat} {P : am_R → Prop} (I : Nat → Nat → Int32) (L : Nat → Nat → Int64) (D : Nat → Nat → UInt64) (xc : Nat) (xp : Nat) (xs : Nat) (xt : Nat) (xu : Nat)
    (h : ∃ (r1 : Int32) (I1 : Nat → Nat → Int32) (L1 : Nat → Nat → Int64) (D1 : Nat → Nat → UInt64), am_Rn ext d 48 [.ref 20] (I, L, D, am_rf (xt, xs, 11, xp, xu, xc)) (some (.int r1), (I1, L1, D1, am_rf (xt, xs, 11, xp, xu, xc))) ∧ (((r1 = 0 → (P (some (.int 0), (I1, L1, D1, am_rf (xt, xs, 11, xp, xu, xc))))) ∧ (¬ r1 = 0 → (∃ (r2 : Int32) (I2 : Nat → Nat → Int32) (L2 : Nat → Nat → Int64) (D2 : Nat → Nat → UInt64), am_Rn ext d 57 [.ref 20] (I1, L1, D1, am_rf (xt, xs, 11, xp, xu, xc)) (some (.int r2), (I2, L2, D2, am_rf (xt, xs, 11, xp, xu, xc))) ∧ (((r2 = 0 → (P (some (.int 0), (I2, L2, D2, am_rf (xt, xs, 11, xp, xu, xc))))) ∧ (¬ r2 = 0 → (∃ (r3 : Int32) (I3 : Nat → Nat → Int32) (L3 : Nat → Nat → Int64) (D3 : Nat → Nat → UInt64), am_Rn ext d 44 [.ref 20, .int 0] (I2, L2, D2, am_rf (xt, xs, 11, xp, xu, xc)) (some (.int r3), (I3, L3, D3, am_rf (xt, xs, 11, xp, xu, xc))) ∧ (((¬ r3 = 0 → ((((I3 20 3) = 60 → (am_wp ext d mz_54 (48, [some (.ref 20), none, none, none, none], [], (I3, L3, D3, am_rf (xt, xs, 11, xp, xu, xc))) P)) ∧ (¬ (I3 20 3) = 60 → ((((I3 20 3) = 62 → (am_wp ext d mz_54 (48, [some (.ref 20), none, none, none, none], [], (I3, L3, D3, am_rf (xt, xs, 11, xp, xu, xc))) P)) ∧ (¬ (I3 20 3) = 62 → (∃ (r4 : Int32) (I4 : Nat → Nat → Int32) (L4 : Nat → Nat → Int64) (D4 : Nat → Nat → UInt64), am_Rn ext d 42 [.ref 20, .int 1] (I3, L3, D3, am_rf (xt, xs, 11, xp, xu, xc)) (some (.int r4), (I4, L4, D4, am_rf (xt, xs, 11, xp, xu, xc))) ∧ ((r4 = 0 ∨ r4 = 1) ∧ P (some (.int r4), (I4, L4, D4, am_rf (xt, xs, 11, xp, xu, xc)))))))))))) ∧ (r3 = 0 → (P (some (.int 0), (I3, L3, D3, am_rf (xt, xs, 11, xp, xu, xc)))))))))))))))) : am_wp ext d mz_54 (0, [some (.ref 20), none, none, none, none], [], (I, L, D, am_rf (xt, xs, 11, xp, xu, xc))) P := by
  refine am_wpb (c' := (1, [some (.ref 20), none, none, none, none], [.ref 20], (I, L, D, am_rf (xt, xs, 11, xp, xu, xc)))) 1 rfl ?_
  obtain ⟨r1, I1, L1, D1, hr, h⟩ := h
  refine am_wp_inv (as := [.ref 20]) rfl rfl rfl rfl ⟨_, hr, ?_⟩
  show am_wp ext d mz_54 (4, [some (.ref 20), none, none, none, none], [.int r1], (I1, L1, D1, am_rf (xt, xs, 11, xp, xu, xc))) P
  refine am_b1_eq rfl (fun z => ?_) (fun z => ?_)
  · replace h := h.1 z
    refine am_wpb (c' := (23, [some (.ref 20), none, none, none, none], [.int 0], (I1, L1, D1, am_rf (xt, xs, 11, xp, xu, xc)))) 1 rfl ?_
    exact am_ret_z rfl rfl (Or.inl rfl) h
  · replace h := h.2 z
    refine am_wpb (c' := (8, [some (.ref 20), none, none, none, none], [.ref 20], (I1, L1, D1, am_rf (xt, xs, 11, xp, xu, xc)))) 1 rfl ?_
    obtain ⟨r2, I2, L2, D2, hr, h⟩ := h
    refine am_wp_inv (as := [.ref 20]) rfl rfl rfl rfl ⟨_, hr, ?_⟩
    show am_wp ext d mz_54 (11, [some (.ref 20), none, none, none, none], [.int r2], (I2, L2, D2, am_rf (xt, xs, 11, xp, xu, xc))) P
    refine am_b1_eq rfl (fun z => ?_) (fun z => ?_)
    · replace h := h.1 z
      refine am_wpb (c' := (23, [some (.ref 20), none, none, none, none], [.int 0], (I2, L2, D2, am_rf (xt, xs, 11, xp, xu, xc)))) 1 rfl ?_
      exact am_ret_z rfl rfl (Or.inl rfl) h
    · replace h := h.2 z
      refine am_wpb (c' := (16, [some (.ref 20), none, none, none, none], [.int 0, .ref 20], (I2, L2, D2, am_rf (xt, xs, 11, xp, xu, xc)))) 2 rfl ?_
      obtain ⟨r3, I3, L3, D3, hr, h⟩ := h
      refine am_wp_inv (as := [.ref 20, .int 0]) rfl rfl rfl rfl ⟨_, hr, ?_⟩
      show am_wp ext d mz_54 (19, [some (.ref 20), none, none, none, none], [.int r3], (I3, L3, D3, am_rf (xt, xs, 11, xp, xu, xc))) P
      refine am_b1_ne rfl (fun z => ?_) (fun z => ?_)
      · replace h := h.1 z
        refine am_wpb (c' := (30, [some (.ref 20), none, none, none, none], [.int 60, .int (I3 20 3)], (I3, L3, D3, am_rf (xt, xs, 11, xp, xu, xc)))) 3 rfl ?_
        refine am_b2_eq rfl (fun z => ?_) (fun z => ?_)
        · replace h := h.1 z
          exact h
        · replace h := h.2 z
          refine am_wpb (c' := (39, [some (.ref 20), none, none, none, none], [.int 62, .int (I3 20 3)], (I3, L3, D3, am_rf (xt, xs, 11, xp, xu, xc)))) 3 rfl ?_
          refine am_b2_eq rfl (fun z => ?_) (fun z => ?_)
          · replace h := h.1 z
            exact h
          · replace h := h.2 z
            refine am_wpb (c' := (44, [some (.ref 20), none, none, none, none], [.int 1, .ref 20], (I3, L3, D3, am_rf (xt, xs, 11, xp, xu, xc)))) 2 rfl ?_
            obtain ⟨r4, I4, L4, D4, hr, h⟩ := h
            refine am_wp_inv (as := [.ref 20, .int 1]) rfl rfl rfl rfl ⟨_, hr, ?_⟩
            show am_wp ext d mz_54 (47, [some (.ref 20), none, none, none, none], [.int r4], (I4, L4, D4, am_rf (xt, xs, 11, xp, xu, xc))) P
            exact am_ret_z rfl rfl h.1 h.2
      · replace h := h.2 z
        refine am_wpb (c' := (23, [some (.ref 20), none, none, none, none], [.int 0], (I3, L3, D3, am_rf (xt, xs, 11, xp, xu, xc)))) 1 rfl ?_
        exact am_ret_z rfl rfl (Or.inl rfl) h
theorem w54_48 {ext : Nat → List Value → am_M → Option am_R} {d : Nat} {P : am_R → Prop} (I : Nat → Nat → Int32) (L : Nat → Nat → Int64) (D : Nat → Nat → UInt64) (xc : Nat) (xp : Nat) (xs : Nat) (xt : Nat) (xu : Nat)
    (h : ((¬ (I 20 3) = 60 → (am_wp ext d mz_54 (64, [some (.ref 20), none, none, none, none], [.int 18], (I, L, D, am_rf (xt, xs, 11, xp, xu, xc))) P)) ∧ ((I 20 3) = 60 → (am_wp ext d mz_54 (64, [some (.ref 20), none, none, none, none], [.int 17], (I, L, D, am_rf (xt, xs, 11, xp, xu, xc))) P)))) : am_wp ext d mz_54 (48, [some (.ref 20), none, none, none, none], [], (I, L, D, am_rf (xt, xs, 11, xp, xu, xc))) P := by
  refine am_wpb (c' := (54, [some (.ref 20), none, none, none, none], [.int 60, .int (I 20 3)], (I, L, D, am_rf (xt, xs, 11, xp, xu, xc)))) 3 rfl ?_
  refine am_b2_ne rfl (fun z => ?_) (fun z => ?_)
  · replace h := h.1 z
    refine am_wpb (c' := (64, [some (.ref 20), none, none, none, none], [.int 18], (I, L, D, am_rf (xt, xs, 11, xp, xu, xc)))) 1 rfl ?_
    exact h
  · replace h := h.2 z
    refine am_wpb (c' := (64, [some (.ref 20), none, none, none, none], [.int 17], (I, L, D, am_rf (xt, xs, 11, xp, xu, xc)))) 2 rfl ?_
    exact h
theorem w54_64 {ext : Nat → List Value → am_M → Option am_R} {d : Nat} {P : am_R → Prop} (I : Nat → Nat → Int32) (L : Nat → Nat → Int64) (D : Nat → Nat → UInt64) (xc : Nat) (xp : Nat) (xs : Nat) (xt : Nat) (xu : Nat) (s0 : Int32)
    (h : ∃ (I1 : Nat → Nat → Int32) (L1 : Nat → Nat → Int64) (D1 : Nat → Nat → UInt64), am_Rn ext d 41 [.ref 20] (I, L, D, am_rf (xt, xs, 11, xp, xu, xc)) (none, (I1, L1, D1, am_rf (xt, xs, 11, xp, xu, xc))) ∧ (∃ (r2 : Int32) (I2 : Nat → Nat → Int32) (L2 : Nat → Nat → Int64) (D2 : Nat → Nat → UInt64), am_Rn ext d 44 [.ref 20, .int 0] (I1, L1, D1, am_rf (xt, xs, 11, xp, xu, xc)) (some (.int r2), (I2, L2, D2, am_rf (xt, xs, 11, xp, xu, xc))) ∧ (((r2 = 0 → (P (some (.int 0), (I2, L2, D2, am_rf (xt, xs, 11, xp, xu, xc))))) ∧ (¬ r2 = 0 → (∃ (r3 : Int32) (I3 : Nat → Nat → Int32) (L3 : Nat → Nat → Int64) (D3 : Nat → Nat → UInt64), am_Rn ext d 59 [.ref 20, .int 44] (I2, L2, D2, am_rf (xt, xs, 11, xp, xu, xc)) (some (.int r3), (I3, L3, D3, am_rf (xt, xs, 11, xp, xu, xc))) ∧ (((¬ r3 = 0 → (∃ (r4 : Int32) (I4 : Nat → Nat → Int32) (L4 : Nat → Nat → Int64) (D4 : Nat → Nat → UInt64), am_Rn ext d 36 [.ref 11, .int s0, .int 0] (I3, L3, D3, am_rf (xt, xs, 11, xp, xu, xc)) (some (.int r4), (I4, L4, D4, am_rf (xt, xs, 11, xp, xu, xc))) ∧ (∃ (r5 : Int32) (I5 : Nat → Nat → Int32) (L5 : Nat → Nat → Int64) (D5 : Nat → Nat → UInt64), am_Rn ext d 44 [.ref 20, .int 0] (I4, L4, D4, am_rf (xt, xs, 11, xp, xu, xc)) (some (.int r5), (I5, L5, D5, am_rf (xt, xs, 11, xp, xu, xc))) ∧ (((r5 = 0 → (P (some (.int 0), (I5, L5, D5, am_rf (xt, xs, 11, xp, xu, xc))))) ∧ (¬ r5 = 0 → (∃ (r6 : Int32) (I6 : Nat → Nat → Int32) (L6 : Nat → Nat → Int64) (D6 : Nat → Nat → UInt64), am_Rn ext d 59 [.ref 20, .int 44] (I5, L5, D5, am_rf (xt, xs, 11, xp, xu, xc)) (some (.int r6), (I6, L6, D6, am_rf (xt, xs, 11, xp, xu, xc))) ∧ (((¬ r6 = 0 → (∃ (r7 : Int32) (I7 : Nat → Nat → Int32) (L7 : Nat → Nat → Int64) (D7 : Nat → Nat → UInt64), am_Rn ext d 36 [.ref 11, .int 19, .int 0] (I6, L6, D6, am_rf (xt, xs, 11, xp, xu, xc)) (some (.int r7), (I7, L7, D7, am_rf (xt, xs, 11, xp, xu, xc))) ∧ (∃ (r8 : Int32) (I8 : Nat → Nat → Int32) (L8 : Nat → Nat → Int64) (D8 : Nat → Nat → UInt64), am_Rn ext d 44 [.ref 20, .int 0] (I7, L7, D7, am_rf (xt, xs, 11, xp, xu, xc)) (some (.int r8), (I8, L8, D8, am_rf (xt, xs, 11, xp, xu, xc))) ∧ (((¬ r8 = 0 → (∃ (r9 : Int32) (I9 : Nat → Nat → Int32) (L9 : Nat → Nat → Int64) (D9 : Nat → Nat → UInt64), am_Rn ext d 36 [.ref 11, .int 20, .int 0] (I8, L8, D8, am_rf (xt, xs, 11, xp, xu, xc)) (some (.int r9), (I9, L9, D9, am_rf (xt, xs, 11, xp, xu, xc))) ∧ (∃ (I10 : Nat → Nat → Int32) (L10 : Nat → Nat → Int64) (D10 : Nat → Nat → UInt64), am_Rn ext d 38 [.ref 11, .int r4, .int r7] (I9, L9, D9, am_rf (xt, xs, 11, xp, xu, xc)) (none, (I10, L10, D10, am_rf (xt, xs, 11, xp, xu, xc))) ∧ (∃ (I11 : Nat → Nat → Int32) (L11 : Nat → Nat → Int64) (D11 : Nat → Nat → UInt64), am_Rn ext d 38 [.ref 11, .int r7, .int r9] (I10, L10, D10, am_rf (xt, xs, 11, xp, xu, xc)) (none, (I11, L11, D11, am_rf (xt, xs, 11, xp, xu, xc))) ∧ (∃ (r12 : Int32) (I12 : Nat → Nat → Int32) (L12 : Nat → Nat → Int64) (D12 : Nat → Nat → UInt64), am_Rn ext d 58 [.ref 20] (I11, L11, D11, am_rf (xt, xs, 11, xp, xu, xc)) (some (.int r12), (I12, L12, D12, am_rf (xt, xs, 11, xp, xu, xc))) ∧ ((r12 = 0 ∨ r12 = 1) ∧ P (some (.int r12), (I12, L12, D12, am_rf (xt, xs, 11, xp, xu, xc))))))))) ∧ (r8 = 0 → (P (some (.int 0), (I8, L8, D8, am_rf (xt, xs, 11, xp, xu, xc)))))))))) ∧ (r6 = 0 → (P (some (.int 0), (I6, L6, D6, am_rf (xt, xs, 11, xp, xu, xc)))))))))))))) ∧ (r3 = 0 → (P (some (.int 0), (I3, L3, D3, am_rf (xt, xs, 11, xp, xu, xc))))))))))))) : am_wp ext d mz_54 (64, [some (.ref 20), none, none, none, none], [.int s0], (I, L, D, am_rf (xt, xs, 11, xp, xu, xc))) P := by
  refine am_wpb (c' := (66, [some (.ref 20), some (.int s0), none, none, none], [.ref 20], (I, L, D, am_rf (xt, xs, 11, xp, xu, xc)))) 2 rfl ?_
  obtain ⟨I1, L1, D1, hr, h⟩ := h
  refine am_wp_inv (as := [.ref 20]) rfl rfl rfl rfl ⟨_, hr, ?_⟩
  show am_wp ext d mz_54 (69, [some (.ref 20), some (.int s0), none, none, none], [], (I1, L1, D1, am_rf (xt, xs, 11, xp, xu, xc))) P
  refine am_wpb (c' := (71, [some (.ref 20), some (.int s0), none, none, none], [.int 0, .ref 20], (I1, L1, D1, am_rf (xt, xs, 11, xp, xu, xc)))) 2 rfl ?_
  obtain ⟨r2, I2, L2, D2, hr, h⟩ := h
  refine am_wp_inv (as := [.ref 20, .int 0]) rfl rfl rfl rfl ⟨_, hr, ?_⟩
  show am_wp ext d mz_54 (74, [some (.ref 20), some (.int s0), none, none, none], [.int r2], (I2, L2, D2, am_rf (xt, xs, 11, xp, xu, xc))) P
  refine am_b1_eq rfl (fun z => ?_) (fun z => ?_)
  · replace h := h.1 z
    refine am_wpb (c' := (87, [some (.ref 20), some (.int s0), none, none, none], [.int 0], (I2, L2, D2, am_rf (xt, xs, 11, xp, xu, xc)))) 1 rfl ?_
    exact am_ret_z rfl rfl (Or.inl rfl) h
  · replace h := h.2 z
    refine am_wpb (c' := (80, [some (.ref 20), some (.int s0), none, none, none], [.int 44, .ref 20], (I2, L2, D2, am_rf (xt, xs, 11, xp, xu, xc)))) 2 rfl ?_
    obtain ⟨r3, I3, L3, D3, hr, h⟩ := h
    refine am_wp_inv (as := [.ref 20, .int 44]) rfl rfl rfl rfl ⟨_, hr, ?_⟩
    show am_wp ext d mz_54 (83, [some (.ref 20), some (.int s0), none, none, none], [.int r3], (I3, L3, D3, am_rf (xt, xs, 11, xp, xu, xc))) P
    refine am_b1_ne rfl (fun z => ?_) (fun z => ?_)
    · replace h := h.1 z
      refine am_wpb (c' := (94, [some (.ref 20), some (.int s0), none, none, none], [.int 0, .int s0, .ref 11], (I3, L3, D3, am_rf (xt, xs, 11, xp, xu, xc)))) 4 rfl ?_
      obtain ⟨r4, I4, L4, D4, hr, h⟩ := h
      refine am_wp_inv (as := [.ref 11, .int s0, .int 0]) rfl rfl rfl rfl ⟨_, hr, ?_⟩
      show am_wp ext d mz_54 (97, [some (.ref 20), some (.int s0), none, none, none], [.int r4], (I4, L4, D4, am_rf (xt, xs, 11, xp, xu, xc))) P
      refine am_wpb (c' := (100, [some (.ref 20), some (.int s0), some (.int r4), none, none], [.int 0, .ref 20], (I4, L4, D4, am_rf (xt, xs, 11, xp, xu, xc)))) 3 rfl ?_
      obtain ⟨r5, I5, L5, D5, hr, h⟩ := h
      refine am_wp_inv (as := [.ref 20, .int 0]) rfl rfl rfl rfl ⟨_, hr, ?_⟩
      show am_wp ext d mz_54 (103, [some (.ref 20), some (.int s0), some (.int r4), none, none], [.int r5], (I5, L5, D5, am_rf (xt, xs, 11, xp, xu, xc))) P
      refine am_b1_eq rfl (fun z => ?_) (fun z => ?_)
      · replace h := h.1 z
        refine am_wpb (c' := (116, [some (.ref 20), some (.int s0), some (.int r4), none, none], [.int 0], (I5, L5, D5, am_rf (xt, xs, 11, xp, xu, xc)))) 1 rfl ?_
        exact am_ret_z rfl rfl (Or.inl rfl) h
      · replace h := h.2 z
        refine am_wpb (c' := (109, [some (.ref 20), some (.int s0), some (.int r4), none, none], [.int 44, .ref 20], (I5, L5, D5, am_rf (xt, xs, 11, xp, xu, xc)))) 2 rfl ?_
        obtain ⟨r6, I6, L6, D6, hr, h⟩ := h
        refine am_wp_inv (as := [.ref 20, .int 44]) rfl rfl rfl rfl ⟨_, hr, ?_⟩
        show am_wp ext d mz_54 (112, [some (.ref 20), some (.int s0), some (.int r4), none, none], [.int r6], (I6, L6, D6, am_rf (xt, xs, 11, xp, xu, xc))) P
        refine am_b1_ne rfl (fun z => ?_) (fun z => ?_)
        · replace h := h.1 z
          refine am_wpb (c' := (124, [some (.ref 20), some (.int s0), some (.int r4), none, none], [.int 0, .int 19, .ref 11], (I6, L6, D6, am_rf (xt, xs, 11, xp, xu, xc)))) 4 rfl ?_
          obtain ⟨r7, I7, L7, D7, hr, h⟩ := h
          refine am_wp_inv (as := [.ref 11, .int 19, .int 0]) rfl rfl rfl rfl ⟨_, hr, ?_⟩
          show am_wp ext d mz_54 (127, [some (.ref 20), some (.int s0), some (.int r4), none, none], [.int r7], (I7, L7, D7, am_rf (xt, xs, 11, xp, xu, xc))) P
          refine am_wpb (c' := (130, [some (.ref 20), some (.int s0), some (.int r4), some (.int r7), none], [.int 0, .ref 20], (I7, L7, D7, am_rf (xt, xs, 11, xp, xu, xc)))) 3 rfl ?_
          obtain ⟨r8, I8, L8, D8, hr, h⟩ := h
          refine am_wp_inv (as := [.ref 20, .int 0]) rfl rfl rfl rfl ⟨_, hr, ?_⟩
          show am_wp ext d mz_54 (133, [some (.ref 20), some (.int s0), some (.int r4), some (.int r7), none], [.int r8], (I8, L8, D8, am_rf (xt, xs, 11, xp, xu, xc))) P
          refine am_b1_ne rfl (fun z => ?_) (fun z => ?_)
          · replace h := h.1 z
            refine am_wpb (c' := (145, [some (.ref 20), some (.int s0), some (.int r4), some (.int r7), none], [.int 0, .int 20, .ref 11], (I8, L8, D8, am_rf (xt, xs, 11, xp, xu, xc)))) 4 rfl ?_
            obtain ⟨r9, I9, L9, D9, hr, h⟩ := h
            refine am_wp_inv (as := [.ref 11, .int 20, .int 0]) rfl rfl rfl rfl ⟨_, hr, ?_⟩
            show am_wp ext d mz_54 (148, [some (.ref 20), some (.int s0), some (.int r4), some (.int r7), none], [.int r9], (I9, L9, D9, am_rf (xt, xs, 11, xp, xu, xc))) P
            refine am_wpb (c' := (156, [some (.ref 20), some (.int s0), some (.int r4), some (.int r7), some (.int r9)], [.int r7, .int r4, .ref 11], (I9, L9, D9, am_rf (xt, xs, 11, xp, xu, xc)))) 5 rfl ?_
            obtain ⟨I10, L10, D10, hr, h⟩ := h
            refine am_wp_inv (as := [.ref 11, .int r4, .int r7]) rfl rfl rfl rfl ⟨_, hr, ?_⟩
            show am_wp ext d mz_54 (159, [some (.ref 20), some (.int s0), some (.int r4), some (.int r7), some (.int r9)], [], (I10, L10, D10, am_rf (xt, xs, 11, xp, xu, xc))) P
            refine am_wpb (c' := (166, [some (.ref 20), some (.int s0), some (.int r4), some (.int r7), some (.int r9)], [.int r9, .int r7, .ref 11], (I10, L10, D10, am_rf (xt, xs, 11, xp, xu, xc)))) 4 rfl ?_
            obtain ⟨I11, L11, D11, hr, h⟩ := h
            refine am_wp_inv (as := [.ref 11, .int r7, .int r9]) rfl rfl rfl rfl ⟨_, hr, ?_⟩
            show am_wp ext d mz_54 (169, [some (.ref 20), some (.int s0), some (.int r4), some (.int r7), some (.int r9)], [], (I11, L11, D11, am_rf (xt, xs, 11, xp, xu, xc))) P
            refine am_wpb (c' := (170, [some (.ref 20), some (.int s0), some (.int r4), some (.int r7), some (.int r9)], [.ref 20], (I11, L11, D11, am_rf (xt, xs, 11, xp, xu, xc)))) 1 rfl ?_
            obtain ⟨r12, I12, L12, D12, hr, h⟩ := h
            refine am_wp_inv (as := [.ref 20]) rfl rfl rfl rfl ⟨_, hr, ?_⟩
            show am_wp ext d mz_54 (173, [some (.ref 20), some (.int s0), some (.int r4), some (.int r7), some (.int r9)], [.int r12], (I12, L12, D12, am_rf (xt, xs, 11, xp, xu, xc))) P
            exact am_ret_z rfl rfl h.1 h.2
          · replace h := h.2 z
            refine am_wpb (c' := (137, [some (.ref 20), some (.int s0), some (.int r4), some (.int r7), none], [.int 0], (I8, L8, D8, am_rf (xt, xs, 11, xp, xu, xc)))) 1 rfl ?_
            exact am_ret_z rfl rfl (Or.inl rfl) h
        · replace h := h.2 z
          refine am_wpb (c' := (116, [some (.ref 20), some (.int s0), some (.int r4), none, none], [.int 0], (I6, L6, D6, am_rf (xt, xs, 11, xp, xu, xc)))) 1 rfl ?_
          exact am_ret_z rfl rfl (Or.inl rfl) h
    · replace h := h.2 z
      refine am_wpb (c' := (87, [some (.ref 20), some (.int s0), none, none, none], [.int 0], (I3, L3, D3, am_rf (xt, xs, 11, xp, xu, xc)))) 1 rfl ?_
      exact am_ret_z rfl rfl (Or.inl rfl) h
/-- SureSums$Reader.over(I)Z -/
def mz_55 : am_Y := (fun pc => am_q55.lookup pc, 4, 2)
theorem mh_55 : am_Ys 55 = some mz_55 := rfl
theorem w55_0 {ext : Nat → List Value → am_M → Option am_R} {d : Nat} {P : am_R → Prop} (I : Nat → Nat → Int32) (L : Nat → Nat → Int64) (D : Nat → Nat → UInt64) (xc : Nat) (xp : Nat) (xs : Nat) (xt : Nat) (xu : Nat) (v1 : Int32)
    (h : ((¬ v1 = (-1) → (∃ (r1 : Int32) (I1 : Nat → Nat → Int32) (L1 : Nat → Nat → Int64) (D1 : Nat → Nat → UInt64), am_Rn ext d 48 [.ref 20] (I, L, D, am_rf (xt, xs, 11, xp, xu, xc)) (some (.int r1), (I1, L1, D1, am_rf (xt, xs, 11, xp, xu, xc))) ∧ (((r1 = 0 → (P (some (.int 0), (I1, L1, D1, am_rf (xt, xs, 11, xp, xu, xc))))) ∧ (¬ r1 = 0 → (∃ (r2 : Int32) (I2 : Nat → Nat → Int32) (L2 : Nat → Nat → Int64) (D2 : Nat → Nat → UInt64), am_Rn ext d 57 [.ref 20] (I1, L1, D1, am_rf (xt, xs, 11, xp, xu, xc)) (some (.int r2), (I2, L2, D2, am_rf (xt, xs, 11, xp, xu, xc))) ∧ (((¬ r2 = 0 → (((¬ (I2 20 3) = 3 → (∃ (r3 : Int32) (I3 : Nat → Nat → Int32) (L3 : Nat → Nat → Int64) (D3 : Nat → Nat → UInt64), am_Rn ext d 42 [.ref 20, .int 1] (I2, L2, D2, am_rf (xt, xs, 11, xp, xu, xc)) (some (.int r3), (I3, L3, D3, am_rf (xt, xs, 11, xp, xu, xc))) ∧ ((r3 = 0 ∨ r3 = 1) ∧ P (some (.int r3), (I3, L3, D3, am_rf (xt, xs, 11, xp, xu, xc)))))) ∧ ((I2 20 3) = 3 → (((¬ (I2 20 4) = 19 → (∃ (r4 : Int32) (I4 : Nat → Nat → Int32) (L4 : Nat → Nat → Int64) (D4 : Nat → Nat → UInt64), am_Rn ext d 32 [.ref 11, .int (I2 20 4)] (I2, L2, D2, am_rf (xt, xs, 11, xp, xu, xc)) (some (.int r4), (I4, L4, D4, am_rf (xt, xs, 11, xp, xu, xc))) ∧ (∃ (r5 : Int32) (I5 : Nat → Nat → Int32) (L5 : Nat → Nat → Int64) (D5 : Nat → Nat → UInt64), am_Rn ext d 33 [.ref 11, .int r4] (I4, L4, D4, am_rf (xt, xs, 11, xp, xu, xc)) (some (.int r5), (I5, L5, D5, am_rf (xt, xs, 11, xp, xu, xc))) ∧ (((¬ r5 = 0 → (∃ (I6 : Nat → Nat → Int32) (L6 : Nat → Nat → Int64) (D6 : Nat → Nat → UInt64), am_Rn ext d 41 [.ref 20] (I5, L5, D5, am_rf (xt, xs, 11, xp, xu, xc)) (none, (I6, L6, D6, am_rf (xt, xs, 11, xp, xu, xc))) ∧ (∃ (r7 : Int32) (I7 : Nat → Nat → Int32) (L7 : Nat → Nat → Int64) (D7 : Nat → Nat → UInt64), am_Rn ext d 59 [.ref 20, .int 44] (I6, L6, D6, am_rf (xt, xs, 11, xp, xu, xc)) (some (.int r7), (I7, L7, D7, am_rf (xt, xs, 11, xp, xu, xc))) ∧ (((r7 = 0 → (P (some (.int 0), (I7, L7, D7, am_rf (xt, xs, 11, xp, xu, xc))))) ∧ (¬ r7 = 0 → (∃ (r8 : Int32) (I8 : Nat → Nat → Int32) (L8 : Nat → Nat → Int64) (D8 : Nat → Nat → UInt64), am_Rn ext d 56 [.ref 20, .int (-65)] (I7, L7, D7, am_rf (xt, xs, 11, xp, xu, xc)) (some (.int r8), (I8, L8, D8, am_rf (xt, xs, 11, xp, xu, xc))) ∧ (((¬ r8 = 0 → (∃ (r9 : Int32) (I9 : Nat → Nat → Int32) (L9 : Nat → Nat → Int64) (D9 : Nat → Nat → UInt64), am_Rn ext d 59 [.ref 20, .int 44] (I8, L8, D8, am_rf (xt, xs, 11, xp, xu, xc)) (some (.int r9), (I9, L9, D9, am_rf (xt, xs, 11, xp, xu, xc))) ∧ (((r9 = 0 → (P (some (.int 0), (I9, L9, D9, am_rf (xt, xs, 11, xp, xu, xc))))) ∧ (¬ r9 = 0 → (∃ (r10 : Int32) (I10 : Nat → Nat → Int32) (L10 : Nat → Nat → Int64) (D10 : Nat → Nat → UInt64), am_Rn ext d 56 [.ref 20, .int (I8 20 7)] (I9, L9, D9, am_rf (xt, xs, 11, xp, xu, xc)) (some (.int r10), (I10, L10, D10, am_rf (xt, xs, 11, xp, xu, xc))) ∧ (((¬ r10 = 0 → (∃ (r11 : Int32) (I11 : Nat → Nat → Int32) (L11 : Nat → Nat → Int64) (D11 : Nat → Nat → UInt64), am_Rn ext d 37 [.ref 11, .int v1, .int r4, .int (I8 20 7), .int (I10 20 7)] (I10, L10, D10, am_rf (xt, xs, 11, xp, xu, xc)) (some (.int r11), (I11, L11, D11, am_rf (xt, xs, 11, xp, xu, xc))) ∧ (∃ (r12 : Int32) (I12 : Nat → Nat → Int32) (L12 : Nat → Nat → Int64) (D12 : Nat → Nat → UInt64), am_Rn ext d 58 [.ref 20] (I11, L11, D11, am_rf (xt, xs, 11, xp, xu, xc)) (some (.int r12), (I12, L12, D12, am_rf (xt, xs, 11, xp, xu, xc))) ∧ ((r12 = 0 ∨ r12 = 1) ∧ P (some (.int r12), (I12, L12, D12, am_rf (xt, xs, 11, xp, xu, xc))))))) ∧ (r10 = 0 → (P (some (.int 0), (I10, L10, D10, am_rf (xt, xs, 11, xp, xu, xc))))))))))))) ∧ (r8 = 0 → (P (some (.int 0), (I8, L8, D8, am_rf (xt, xs, 11, xp, xu, xc)))))))))))))) ∧ (r5 = 0 → (∃ (r13 : Int32) (I13 : Nat → Nat → Int32) (L13 : Nat → Nat → Int64) (D13 : Nat → Nat → UInt64), am_Rn ext d 42 [.ref 20, .int 3] (I5, L5, D5, am_rf (xt, xs, 11, xp, xu, xc)) (some (.int r13), (I13, L13, D13, am_rf (xt, xs, 11, xp, xu, xc))) ∧ ((r13 = 0 ∨ r13 = 1) ∧ P (some (.int r13), (I13, L13, D13, am_rf (xt, xs, 11, xp, xu, xc))))))))))) ∧ ((I2 20 4) = 19 → (∃ (r14 : Int32) (I14 : Nat → Nat → Int32) (L14 : Nat → Nat → Int64) (D14 : Nat → Nat → UInt64), am_Rn ext d 42 [.ref 20, .int 1] (I2, L2, D2, am_rf (xt, xs, 11, xp, xu, xc)) (some (.int r14), (I14, L14, D14, am_rf (xt, xs, 11, xp, xu, xc))) ∧ ((r14 = 0 ∨ r14 = 1) ∧ P (some (.int r14), (I14, L14, D14, am_rf (xt, xs, 11, xp, xu, xc)))))))))))) ∧ (r2 = 0 → (P (some (.int 0), (I2, L2, D2, am_rf (xt, xs, 11, xp, xu, xc))))))))))))) ∧ (v1 = (-1) → (∃ (r15 : Int32) (I15 : Nat → Nat → Int32) (L15 : Nat → Nat → Int64) (D15 : Nat → Nat → UInt64), am_Rn ext d 42 [.ref 20, .int 1] (I, L, D, am_rf (xt, xs, 11, xp, xu, xc)) (some (.int r15), (I15, L15, D15, am_rf (xt, xs, 11, xp, xu, xc))) ∧ ((r15 = 0 ∨ r15 = 1) ∧ P (some (.int r15), (I15, L15, D15, am_rf (xt, xs, 11, xp, xu, xc)))))))) : am_wp ext d mz_55 (0, [some (.ref 20), some (.int v1), none, none], [], (I, L, D, am_rf (xt, xs, 11, xp, xu, xc))) P := by
  refine am_wpb (c' := (2, [some (.ref 20), some (.int v1), none, none], [.int (-1), .int v1], (I, L, D, am_rf (xt, xs, 11, xp, xu, xc)))) 2 rfl ?_
  refine am_b2_ne rfl (fun z => ?_) (fun z => ?_)
  · replace h := h.1 z
    refine am_wpb (c' := (12, [some (.ref 20), some (.int v1), none, none], [.ref 20], (I, L, D, am_rf (xt, xs, 11, xp, xu, xc)))) 1 rfl ?_
    obtain ⟨r1, I1, L1, D1, hr, h⟩ := h
    refine am_wp_inv (as := [.ref 20]) rfl rfl rfl rfl ⟨_, hr, ?_⟩
    show am_wp ext d mz_55 (15, [some (.ref 20), some (.int v1), none, none], [.int r1], (I1, L1, D1, am_rf (xt, xs, 11, xp, xu, xc))) P
    refine am_b1_eq rfl (fun z => ?_) (fun z => ?_)
    · replace h := h.1 z
      refine am_wpb (c' := (26, [some (.ref 20), some (.int v1), none, none], [.int 0], (I1, L1, D1, am_rf (xt, xs, 11, xp, xu, xc)))) 1 rfl ?_
      exact am_ret_z rfl rfl (Or.inl rfl) h
    · replace h := h.2 z
      refine am_wpb (c' := (19, [some (.ref 20), some (.int v1), none, none], [.ref 20], (I1, L1, D1, am_rf (xt, xs, 11, xp, xu, xc)))) 1 rfl ?_
      obtain ⟨r2, I2, L2, D2, hr, h⟩ := h
      refine am_wp_inv (as := [.ref 20]) rfl rfl rfl rfl ⟨_, hr, ?_⟩
      show am_wp ext d mz_55 (22, [some (.ref 20), some (.int v1), none, none], [.int r2], (I2, L2, D2, am_rf (xt, xs, 11, xp, xu, xc))) P
      refine am_b1_ne rfl (fun z => ?_) (fun z => ?_)
      · replace h := h.1 z
        refine am_wpb (c' := (32, [some (.ref 20), some (.int v1), none, none], [.int 3, .int (I2 20 3)], (I2, L2, D2, am_rf (xt, xs, 11, xp, xu, xc)))) 3 rfl ?_
        refine am_b2_ne rfl (fun z => ?_) (fun z => ?_)
        · replace h := h.1 z
          refine am_wpb (c' := (46, [some (.ref 20), some (.int v1), none, none], [.int 1, .ref 20], (I2, L2, D2, am_rf (xt, xs, 11, xp, xu, xc)))) 2 rfl ?_
          obtain ⟨r3, I3, L3, D3, hr, h⟩ := h
          refine am_wp_inv (as := [.ref 20, .int 1]) rfl rfl rfl rfl ⟨_, hr, ?_⟩
          show am_wp ext d mz_55 (49, [some (.ref 20), some (.int v1), none, none], [.int r3], (I3, L3, D3, am_rf (xt, xs, 11, xp, xu, xc))) P
          exact am_ret_z rfl rfl h.1 h.2
        · replace h := h.2 z
          refine am_wpb (c' := (41, [some (.ref 20), some (.int v1), none, none], [.int 19, .int (I2 20 4)], (I2, L2, D2, am_rf (xt, xs, 11, xp, xu, xc)))) 3 rfl ?_
          refine am_b2_ne rfl (fun z => ?_) (fun z => ?_)
          · replace h := h.1 z
            refine am_wpb (c' := (58, [some (.ref 20), some (.int v1), none, none], [.int (I2 20 4), .ref 11], (I2, L2, D2, am_rf (xt, xs, 11, xp, xu, xc)))) 4 rfl ?_
            obtain ⟨r4, I4, L4, D4, hr, h⟩ := h
            refine am_wp_inv (as := [.ref 11, .int (I2 20 4)]) rfl rfl rfl rfl ⟨_, hr, ?_⟩
            show am_wp ext d mz_55 (61, [some (.ref 20), some (.int v1), none, none], [.int r4], (I4, L4, D4, am_rf (xt, xs, 11, xp, xu, xc))) P
            refine am_wpb (c' := (67, [some (.ref 20), some (.int v1), some (.int r4), none], [.int r4, .ref 11], (I4, L4, D4, am_rf (xt, xs, 11, xp, xu, xc)))) 4 rfl ?_
            obtain ⟨r5, I5, L5, D5, hr, h⟩ := h
            refine am_wp_inv (as := [.ref 11, .int r4]) rfl rfl rfl rfl ⟨_, hr, ?_⟩
            show am_wp ext d mz_55 (70, [some (.ref 20), some (.int v1), some (.int r4), none], [.int r5], (I5, L5, D5, am_rf (xt, xs, 11, xp, xu, xc))) P
            refine am_b1_ne rfl (fun z => ?_) (fun z => ?_)
            · replace h := h.1 z
              refine am_wpb (c' := (80, [some (.ref 20), some (.int v1), some (.int r4), none], [.ref 20], (I5, L5, D5, am_rf (xt, xs, 11, xp, xu, xc)))) 1 rfl ?_
              obtain ⟨I6, L6, D6, hr, h⟩ := h
              refine am_wp_inv (as := [.ref 20]) rfl rfl rfl rfl ⟨_, hr, ?_⟩
              show am_wp ext d mz_55 (83, [some (.ref 20), some (.int v1), some (.int r4), none], [], (I6, L6, D6, am_rf (xt, xs, 11, xp, xu, xc))) P
              refine am_wpb (c' := (86, [some (.ref 20), some (.int v1), some (.int r4), none], [.int 44, .ref 20], (I6, L6, D6, am_rf (xt, xs, 11, xp, xu, xc)))) 2 rfl ?_
              obtain ⟨r7, I7, L7, D7, hr, h⟩ := h
              refine am_wp_inv (as := [.ref 20, .int 44]) rfl rfl rfl rfl ⟨_, hr, ?_⟩
              show am_wp ext d mz_55 (89, [some (.ref 20), some (.int v1), some (.int r4), none], [.int r7], (I7, L7, D7, am_rf (xt, xs, 11, xp, xu, xc))) P
              refine am_b1_eq rfl (fun z => ?_) (fun z => ?_)
              · replace h := h.1 z
                refine am_wpb (c' := (102, [some (.ref 20), some (.int v1), some (.int r4), none], [.int 0], (I7, L7, D7, am_rf (xt, xs, 11, xp, xu, xc)))) 1 rfl ?_
                exact am_ret_z rfl rfl (Or.inl rfl) h
              · replace h := h.2 z
                refine am_wpb (c' := (95, [some (.ref 20), some (.int v1), some (.int r4), none], [.int (-65), .ref 20], (I7, L7, D7, am_rf (xt, xs, 11, xp, xu, xc)))) 2 rfl ?_
                obtain ⟨r8, I8, L8, D8, hr, h⟩ := h
                refine am_wp_inv (as := [.ref 20, .int (-65)]) rfl rfl rfl rfl ⟨_, hr, ?_⟩
                show am_wp ext d mz_55 (98, [some (.ref 20), some (.int v1), some (.int r4), none], [.int r8], (I8, L8, D8, am_rf (xt, xs, 11, xp, xu, xc))) P
                refine am_b1_ne rfl (fun z => ?_) (fun z => ?_)
                · replace h := h.1 z
                  refine am_wpb (c' := (111, [some (.ref 20), some (.int v1), some (.int r4), some (.int (I8 20 7))], [.int 44, .ref 20], (I8, L8, D8, am_rf (xt, xs, 11, xp, xu, xc)))) 5 rfl ?_
                  obtain ⟨r9, I9, L9, D9, hr, h⟩ := h
                  refine am_wp_inv (as := [.ref 20, .int 44]) rfl rfl rfl rfl ⟨_, hr, ?_⟩
                  show am_wp ext d mz_55 (114, [some (.ref 20), some (.int v1), some (.int r4), some (.int (I8 20 7))], [.int r9], (I9, L9, D9, am_rf (xt, xs, 11, xp, xu, xc))) P
                  refine am_b1_eq rfl (fun z => ?_) (fun z => ?_)
                  · replace h := h.1 z
                    refine am_wpb (c' := (126, [some (.ref 20), some (.int v1), some (.int r4), some (.int (I8 20 7))], [.int 0], (I9, L9, D9, am_rf (xt, xs, 11, xp, xu, xc)))) 1 rfl ?_
                    exact am_ret_z rfl rfl (Or.inl rfl) h
                  · replace h := h.2 z
                    refine am_wpb (c' := (119, [some (.ref 20), some (.int v1), some (.int r4), some (.int (I8 20 7))], [.int (I8 20 7), .ref 20], (I9, L9, D9, am_rf (xt, xs, 11, xp, xu, xc)))) 2 rfl ?_
                    obtain ⟨r10, I10, L10, D10, hr, h⟩ := h
                    refine am_wp_inv (as := [.ref 20, .int (I8 20 7)]) rfl rfl rfl rfl ⟨_, hr, ?_⟩
                    show am_wp ext d mz_55 (122, [some (.ref 20), some (.int v1), some (.int r4), some (.int (I8 20 7))], [.int r10], (I10, L10, D10, am_rf (xt, xs, 11, xp, xu, xc))) P
                    refine am_b1_ne rfl (fun z => ?_) (fun z => ?_)
                    · replace h := h.1 z
                      refine am_wpb (c' := (138, [some (.ref 20), some (.int v1), some (.int r4), some (.int (I8 20 7))], [.int (I10 20 7), .int (I8 20 7), .int r4, .int v1, .ref 11], (I10, L10, D10, am_rf (xt, xs, 11, xp, xu, xc)))) 7 rfl ?_
                      obtain ⟨r11, I11, L11, D11, hr, h⟩ := h
                      refine am_wp_inv (as := [.ref 11, .int v1, .int r4, .int (I8 20 7), .int (I10 20 7)]) rfl rfl rfl rfl ⟨_, hr, ?_⟩
                      show am_wp ext d mz_55 (141, [some (.ref 20), some (.int v1), some (.int r4), some (.int (I8 20 7))], [.int r11], (I11, L11, D11, am_rf (xt, xs, 11, xp, xu, xc))) P
                      refine am_wpb (c' := (143, [some (.ref 20), some (.int v1), some (.int r4), some (.int (I8 20 7))], [.ref 20], (I11, L11, D11, am_rf (xt, xs, 11, xp, xu, xc)))) 2 rfl ?_
                      obtain ⟨r12, I12, L12, D12, hr, h⟩ := h
                      refine am_wp_inv (as := [.ref 20]) rfl rfl rfl rfl ⟨_, hr, ?_⟩
                      show am_wp ext d mz_55 (146, [some (.ref 20), some (.int v1), some (.int r4), some (.int (I8 20 7))], [.int r12], (I12, L12, D12, am_rf (xt, xs, 11, xp, xu, xc))) P
                      exact am_ret_z rfl rfl h.1 h.2
                    · replace h := h.2 z
                      refine am_wpb (c' := (126, [some (.ref 20), some (.int v1), some (.int r4), some (.int (I8 20 7))], [.int 0], (I10, L10, D10, am_rf (xt, xs, 11, xp, xu, xc)))) 1 rfl ?_
                      exact am_ret_z rfl rfl (Or.inl rfl) h
                · replace h := h.2 z
                  refine am_wpb (c' := (102, [some (.ref 20), some (.int v1), some (.int r4), none], [.int 0], (I8, L8, D8, am_rf (xt, xs, 11, xp, xu, xc)))) 1 rfl ?_
                  exact am_ret_z rfl rfl (Or.inl rfl) h
            · replace h := h.2 z
              refine am_wpb (c' := (75, [some (.ref 20), some (.int v1), some (.int r4), none], [.int 3, .ref 20], (I5, L5, D5, am_rf (xt, xs, 11, xp, xu, xc)))) 2 rfl ?_
              obtain ⟨r13, I13, L13, D13, hr, h⟩ := h
              refine am_wp_inv (as := [.ref 20, .int 3]) rfl rfl rfl rfl ⟨_, hr, ?_⟩
              show am_wp ext d mz_55 (78, [some (.ref 20), some (.int v1), some (.int r4), none], [.int r13], (I13, L13, D13, am_rf (xt, xs, 11, xp, xu, xc))) P
              exact am_ret_z rfl rfl h.1 h.2
          · replace h := h.2 z
            refine am_wpb (c' := (46, [some (.ref 20), some (.int v1), none, none], [.int 1, .ref 20], (I2, L2, D2, am_rf (xt, xs, 11, xp, xu, xc)))) 2 rfl ?_
            obtain ⟨r14, I14, L14, D14, hr, h⟩ := h
            refine am_wp_inv (as := [.ref 20, .int 1]) rfl rfl rfl rfl ⟨_, hr, ?_⟩
            show am_wp ext d mz_55 (49, [some (.ref 20), some (.int v1), none, none], [.int r14], (I14, L14, D14, am_rf (xt, xs, 11, xp, xu, xc))) P
            exact am_ret_z rfl rfl h.1 h.2
      · replace h := h.2 z
        refine am_wpb (c' := (26, [some (.ref 20), some (.int v1), none, none], [.int 0], (I2, L2, D2, am_rf (xt, xs, 11, xp, xu, xc)))) 1 rfl ?_
        exact am_ret_z rfl rfl (Or.inl rfl) h
  · replace h := h.2 z
    refine am_wpb (c' := (7, [some (.ref 20), some (.int v1), none, none], [.int 1, .ref 20], (I, L, D, am_rf (xt, xs, 11, xp, xu, xc)))) 2 rfl ?_
    obtain ⟨r15, I15, L15, D15, hr, h⟩ := h
    refine am_wp_inv (as := [.ref 20, .int 1]) rfl rfl rfl rfl ⟨_, hr, ?_⟩
    show am_wp ext d mz_55 (10, [some (.ref 20), some (.int v1), none, none], [.int r15], (I15, L15, D15, am_rf (xt, xs, 11, xp, xu, xc))) P
    exact am_ret_z rfl rfl h.1 h.2
/-- SureSums$Reader.boundAbove(I)Z -/
def mz_56 : am_Y := (fun pc => am_q56.lookup pc, 3, 2)
theorem mh_56 : am_Ys 56 = some mz_56 := rfl
theorem w56_0 {ext : Nat → List Value → am_M → Option am_R} {d : Nat} {P : am_R → Prop} (I : Nat → Nat → Int32) (L : Nat → Nat → Int64) (D : Nat → Nat → UInt64) (X : am_Rf) (v1 : Int32)
    (h : ((¬ (I 20 3) = 45 → (am_wp ext d mz_56 (14, [some (.ref 20), some (.int v1), none], [.int 0], (I, L, D, am_rf X)) P)) ∧ ((I 20 3) = 45 → (am_wp ext d mz_56 (14, [some (.ref 20), some (.int v1), none], [.int 1], (I, L, D, am_rf X)) P)))) : am_wp ext d mz_56 (0, [some (.ref 20), some (.int v1), none], [], (I, L, D, am_rf X)) P := by
  refine am_wpb (c' := (6, [some (.ref 20), some (.int v1), none], [.int 45, .int (I 20 3)], (I, L, D, am_rf X))) 3 rfl ?_
  refine am_b2_ne rfl (fun z => ?_) (fun z => ?_)
  · replace h := h.1 z
    refine am_wpb (c' := (14, [some (.ref 20), some (.int v1), none], [.int 0], (I, L, D, am_rf X))) 1 rfl ?_
    exact h
  · replace h := h.2 z
    refine am_wpb (c' := (14, [some (.ref 20), some (.int v1), none], [.int 1], (I, L, D, am_rf X))) 2 rfl ?_
    exact h
theorem w56_14 {ext : Nat → List Value → am_M → Option am_R} {d : Nat} {P : am_R → Prop} (I : Nat → Nat → Int32) (L : Nat → Nat → Int64) (D : Nat → Nat → UInt64) (X : am_Rf) (v1 : Int32) (s0 : Int32)
    (h : ((s0 = 0 → (am_wp ext d mz_56 (23, [some (.ref 20), some (.int v1), some (.int s0)], [], (I, L, D, am_rf X)) P)) ∧ (¬ s0 = 0 → (∃ (I1 : Nat → Nat → Int32) (L1 : Nat → Nat → Int64) (D1 : Nat → Nat → UInt64), am_Rn ext d 41 [.ref 20] (I, L, D, am_rf X) (none, (I1, L1, D1, am_rf X)) ∧ (am_wp ext d mz_56 (23, [some (.ref 20), some (.int v1), some (.int s0)], [], (I1, L1, D1, am_rf X)) P))))) : am_wp ext d mz_56 (14, [some (.ref 20), some (.int v1), none], [.int s0], (I, L, D, am_rf X)) P := by
  refine am_wpb (c' := (16, [some (.ref 20), some (.int v1), some (.int s0)], [.int s0], (I, L, D, am_rf X))) 2 rfl ?_
  refine am_b1_eq rfl (fun z => ?_) (fun z => ?_)
  · replace h := h.1 z
    exact h
  · replace h := h.2 z
    refine am_wpb (c' := (20, [some (.ref 20), some (.int v1), some (.int s0)], [.ref 20], (I, L, D, am_rf X))) 1 rfl ?_
    obtain ⟨I1, L1, D1, hr, h⟩ := h
    refine am_wp_inv (as := [.ref 20]) rfl rfl rfl rfl ⟨_, hr, ?_⟩
    show am_wp ext d mz_56 (23, [some (.ref 20), some (.int v1), some (.int s0)], [], (I1, L1, D1, am_rf X)) P
    exact h
theorem w56_23 {ext : Nat → List Value → am_M → Option am_R} {d : Nat} {P : am_R → Prop} (I : Nat → Nat → Int32) (L : Nat → Nat → Int64) (D : Nat → Nat → UInt64) (X : am_Rf) (v1 : Int32) (v2 : Int32)
    (h : (((I 20 3) = 2 → ((((I 20 4) ≤ 64 → (((v2 = 0 → (((v1 < (I 20 4) → (∃ (I1 : Nat → Nat → Int32) (L1 : Nat → Nat → Int64) (D1 : Nat → Nat → UInt64), am_Rn ext d 41 [.ref 20] (am_uI I 20 7 (I 20 4), L, D, am_rf X) (none, (I1, L1, D1, am_rf X)) ∧ (P (some (.int 1), (I1, L1, D1, am_rf X))))) ∧ (¬ v1 < (I 20 4) → (∃ (r2 : Int32) (I2 : Nat → Nat → Int32) (L2 : Nat → Nat → Int64) (D2 : Nat → Nat → UInt64), am_Rn ext d 42 [.ref 20, .int 3] (am_uI I 20 7 (I 20 4), L, D, am_rf X) (some (.int r2), (I2, L2, D2, am_rf X)) ∧ ((r2 = 0 ∨ r2 = 1) ∧ P (some (.int r2), (I2, L2, D2, am_rf X)))))))) ∧ (¬ v2 = 0 → (((v1 < (-(I 20 4)) → (∃ (I3 : Nat → Nat → Int32) (L3 : Nat → Nat → Int64) (D3 : Nat → Nat → UInt64), am_Rn ext d 41 [.ref 20] (am_uI I 20 7 (-(I 20 4)), L, D, am_rf X) (none, (I3, L3, D3, am_rf X)) ∧ (P (some (.int 1), (I3, L3, D3, am_rf X))))) ∧ (¬ v1 < (-(I 20 4)) → (∃ (r4 : Int32) (I4 : Nat → Nat → Int32) (L4 : Nat → Nat → Int64) (D4 : Nat → Nat → UInt64), am_Rn ext d 42 [.ref 20, .int 3] (am_uI I 20 7 (-(I 20 4)), L, D, am_rf X) (some (.int r4), (I4, L4, D4, am_rf X)) ∧ ((r4 = 0 ∨ r4 = 1) ∧ P (some (.int r4), (I4, L4, D4, am_rf X))))))))))) ∧ (¬ (I 20 4) ≤ 64 → (∃ (r5 : Int32) (I5 : Nat → Nat → Int32) (L5 : Nat → Nat → Int64) (D5 : Nat → Nat → UInt64), am_Rn ext d 42 [.ref 20, .int 2] (I, L, D, am_rf X) (some (.int r5), (I5, L5, D5, am_rf X)) ∧ ((r5 = 0 ∨ r5 = 1) ∧ P (some (.int r5), (I5, L5, D5, am_rf X)))))))) ∧ (¬ (I 20 3) = 2 → (∃ (r6 : Int32) (I6 : Nat → Nat → Int32) (L6 : Nat → Nat → Int64) (D6 : Nat → Nat → UInt64), am_Rn ext d 42 [.ref 20, .int 1] (I, L, D, am_rf X) (some (.int r6), (I6, L6, D6, am_rf X)) ∧ ((r6 = 0 ∨ r6 = 1) ∧ P (some (.int r6), (I6, L6, D6, am_rf X))))))) : am_wp ext d mz_56 (23, [some (.ref 20), some (.int v1), some (.int v2)], [], (I, L, D, am_rf X)) P := by
  refine am_wpb (c' := (28, [some (.ref 20), some (.int v1), some (.int v2)], [.int 2, .int (I 20 3)], (I, L, D, am_rf X))) 3 rfl ?_
  refine am_b2_eq rfl (fun z => ?_) (fun z => ?_)
  · replace h := h.1 z
    refine am_wpb (c' := (43, [some (.ref 20), some (.int v1), some (.int v2)], [.int 64, .int (I 20 4)], (I, L, D, am_rf X))) 3 rfl ?_
    refine am_b2_le rfl (fun z => ?_) (fun z => ?_)
    · replace h := h.1 z
      refine am_wpb (c' := (54, [some (.ref 20), some (.int v1), some (.int v2)], [.int v2, .ref 20], (I, L, D, am_rf X))) 2 rfl ?_
      refine am_b1_eq rfl (fun z => ?_) (fun z => ?_)
      · replace h := h.1 z
        refine am_wpb (c' := (77, [some (.ref 20), some (.int v1), some (.int v2)], [.int v1, .int (I 20 4)], (am_uI I 20 7 (I 20 4), L, D, am_rf X))) 6 rfl ?_
        refine am_b2_gt rfl (fun z => ?_) (fun z => ?_)
        · replace h := h.1 z
          refine am_wpb (c' := (87, [some (.ref 20), some (.int v1), some (.int v2)], [.ref 20], (am_uI I 20 7 (I 20 4), L, D, am_rf X))) 1 rfl ?_
          obtain ⟨I1, L1, D1, hr, h⟩ := h
          refine am_wp_inv (as := [.ref 20]) rfl rfl rfl rfl ⟨_, hr, ?_⟩
          show am_wp ext d mz_56 (90, [some (.ref 20), some (.int v1), some (.int v2)], [], (I1, L1, D1, am_rf X)) P
          refine am_wpb (c' := (91, [some (.ref 20), some (.int v1), some (.int v2)], [.int 1], (I1, L1, D1, am_rf X))) 1 rfl ?_
          exact am_ret_z rfl rfl (Or.inr rfl) h
        · replace h := h.2 z
          refine am_wpb (c' := (82, [some (.ref 20), some (.int v1), some (.int v2)], [.int 3, .ref 20], (am_uI I 20 7 (I 20 4), L, D, am_rf X))) 2 rfl ?_
          obtain ⟨r2, I2, L2, D2, hr, h⟩ := h
          refine am_wp_inv (as := [.ref 20, .int 3]) rfl rfl rfl rfl ⟨_, hr, ?_⟩
          show am_wp ext d mz_56 (85, [some (.ref 20), some (.int v1), some (.int v2)], [.int r2], (I2, L2, D2, am_rf X)) P
          exact am_ret_z rfl rfl h.1 h.2
      · replace h := h.2 z
        refine am_wpb (c' := (77, [some (.ref 20), some (.int v1), some (.int v2)], [.int v1, .int (-(I 20 4))], (am_uI I 20 7 (-(I 20 4)), L, D, am_rf X))) 8 rfl ?_
        refine am_b2_gt rfl (fun z => ?_) (fun z => ?_)
        · replace h := h.1 z
          refine am_wpb (c' := (87, [some (.ref 20), some (.int v1), some (.int v2)], [.ref 20], (am_uI I 20 7 (-(I 20 4)), L, D, am_rf X))) 1 rfl ?_
          obtain ⟨I3, L3, D3, hr, h⟩ := h
          refine am_wp_inv (as := [.ref 20]) rfl rfl rfl rfl ⟨_, hr, ?_⟩
          show am_wp ext d mz_56 (90, [some (.ref 20), some (.int v1), some (.int v2)], [], (I3, L3, D3, am_rf X)) P
          refine am_wpb (c' := (91, [some (.ref 20), some (.int v1), some (.int v2)], [.int 1], (I3, L3, D3, am_rf X))) 1 rfl ?_
          exact am_ret_z rfl rfl (Or.inr rfl) h
        · replace h := h.2 z
          refine am_wpb (c' := (82, [some (.ref 20), some (.int v1), some (.int v2)], [.int 3, .ref 20], (am_uI I 20 7 (-(I 20 4)), L, D, am_rf X))) 2 rfl ?_
          obtain ⟨r4, I4, L4, D4, hr, h⟩ := h
          refine am_wp_inv (as := [.ref 20, .int 3]) rfl rfl rfl rfl ⟨_, hr, ?_⟩
          show am_wp ext d mz_56 (85, [some (.ref 20), some (.int v1), some (.int v2)], [.int r4], (I4, L4, D4, am_rf X)) P
          exact am_ret_z rfl rfl h.1 h.2
    · replace h := h.2 z
      refine am_wpb (c' := (48, [some (.ref 20), some (.int v1), some (.int v2)], [.int 2, .ref 20], (I, L, D, am_rf X))) 2 rfl ?_
      obtain ⟨r5, I5, L5, D5, hr, h⟩ := h
      refine am_wp_inv (as := [.ref 20, .int 2]) rfl rfl rfl rfl ⟨_, hr, ?_⟩
      show am_wp ext d mz_56 (51, [some (.ref 20), some (.int v1), some (.int v2)], [.int r5], (I5, L5, D5, am_rf X)) P
      exact am_ret_z rfl rfl h.1 h.2
  · replace h := h.2 z
    refine am_wpb (c' := (33, [some (.ref 20), some (.int v1), some (.int v2)], [.int 1, .ref 20], (I, L, D, am_rf X))) 2 rfl ?_
    obtain ⟨r6, I6, L6, D6, hr, h⟩ := h
    refine am_wp_inv (as := [.ref 20, .int 1]) rfl rfl rfl rfl ⟨_, hr, ?_⟩
    show am_wp ext d mz_56 (36, [some (.ref 20), some (.int v1), some (.int v2)], [.int r6], (I6, L6, D6, am_rf X)) P
    exact am_ret_z rfl rfl h.1 h.2
/-- SureSums$Reader.openBracket()Z -/
def mz_57 : am_Y := (fun pc => am_q57.lookup pc, 1, 2)
theorem mh_57 : am_Ys 57 = some mz_57 := rfl
theorem w57_0 {ext : Nat → List Value → am_M → Option am_R} {d : Nat} {P : am_R → Prop} (I : Nat → Nat → Int32) (L : Nat → Nat → Int64) (D : Nat → Nat → UInt64) (X : am_Rf)
    (h : (((I 20 3) = 40 → ((((I 20 5) < 8 → (∃ (I1 : Nat → Nat → Int32) (L1 : Nat → Nat → Int64) (D1 : Nat → Nat → UInt64), am_Rn ext d 41 [.ref 20] (am_uI I 20 5 ((I 20 5) + 1), L, D, am_rf X) (none, (I1, L1, D1, am_rf X)) ∧ (P (some (.int 1), (I1, L1, D1, am_rf X))))) ∧ (¬ (I 20 5) < 8 → (∃ (r2 : Int32) (I2 : Nat → Nat → Int32) (L2 : Nat → Nat → Int64) (D2 : Nat → Nat → UInt64), am_Rn ext d 42 [.ref 20, .int 2] (I, L, D, am_rf X) (some (.int r2), (I2, L2, D2, am_rf X)) ∧ ((r2 = 0 ∨ r2 = 1) ∧ P (some (.int r2), (I2, L2, D2, am_rf X)))))))) ∧ (¬ (I 20 3) = 40 → (∃ (r3 : Int32) (I3 : Nat → Nat → Int32) (L3 : Nat → Nat → Int64) (D3 : Nat → Nat → UInt64), am_Rn ext d 42 [.ref 20, .int 1] (I, L, D, am_rf X) (some (.int r3), (I3, L3, D3, am_rf X)) ∧ ((r3 = 0 ∨ r3 = 1) ∧ P (some (.int r3), (I3, L3, D3, am_rf X))))))) : am_wp ext d mz_57 (0, [some (.ref 20)], [], (I, L, D, am_rf X)) P := by
  refine am_wpb (c' := (6, [some (.ref 20)], [.int 40, .int (I 20 3)], (I, L, D, am_rf X))) 3 rfl ?_
  refine am_b2_eq rfl (fun z => ?_) (fun z => ?_)
  · replace h := h.1 z
    refine am_wpb (c' := (21, [some (.ref 20)], [.int 8, .int (I 20 5)], (I, L, D, am_rf X))) 3 rfl ?_
    refine am_b2_lt rfl (fun z => ?_) (fun z => ?_)
    · replace h := h.1 z
      refine am_wpb (c' := (41, [some (.ref 20)], [.ref 20], (am_uI I 20 5 ((I 20 5) + 1), L, D, am_rf X))) 7 rfl ?_
      obtain ⟨I1, L1, D1, hr, h⟩ := h
      refine am_wp_inv (as := [.ref 20]) rfl rfl rfl rfl ⟨_, hr, ?_⟩
      show am_wp ext d mz_57 (44, [some (.ref 20)], [], (I1, L1, D1, am_rf X)) P
      refine am_wpb (c' := (45, [some (.ref 20)], [.int 1], (I1, L1, D1, am_rf X))) 1 rfl ?_
      exact am_ret_z rfl rfl (Or.inr rfl) h
    · replace h := h.2 z
      refine am_wpb (c' := (26, [some (.ref 20)], [.int 2, .ref 20], (I, L, D, am_rf X))) 2 rfl ?_
      obtain ⟨r2, I2, L2, D2, hr, h⟩ := h
      refine am_wp_inv (as := [.ref 20, .int 2]) rfl rfl rfl rfl ⟨_, hr, ?_⟩
      show am_wp ext d mz_57 (29, [some (.ref 20)], [.int r2], (I2, L2, D2, am_rf X)) P
      exact am_ret_z rfl rfl h.1 h.2
  · replace h := h.2 z
    refine am_wpb (c' := (11, [some (.ref 20)], [.int 1, .ref 20], (I, L, D, am_rf X))) 2 rfl ?_
    obtain ⟨r3, I3, L3, D3, hr, h⟩ := h
    refine am_wp_inv (as := [.ref 20, .int 1]) rfl rfl rfl rfl ⟨_, hr, ?_⟩
    show am_wp ext d mz_57 (14, [some (.ref 20)], [.int r3], (I3, L3, D3, am_rf X)) P
    exact am_ret_z rfl rfl h.1 h.2
/-- SureSums$Reader.closeBracket()Z -/
def mz_58 : am_Y := (fun pc => am_q58.lookup pc, 1, 2)
theorem mh_58 : am_Ys 58 = some mz_58 := rfl
theorem w58_0 {ext : Nat → List Value → am_M → Option am_R} {d : Nat} {P : am_R → Prop} (I : Nat → Nat → Int32) (L : Nat → Nat → Int64) (D : Nat → Nat → UInt64) (X : am_Rf)
    (h : (((I 20 3) = 41 → (∃ (I1 : Nat → Nat → Int32) (L1 : Nat → Nat → Int64) (D1 : Nat → Nat → UInt64), am_Rn ext d 41 [.ref 20] (am_uI I 20 5 ((I 20 5) - 1), L, D, am_rf X) (none, (I1, L1, D1, am_rf X)) ∧ (P (some (.int 1), (I1, L1, D1, am_rf X))))) ∧ (¬ (I 20 3) = 41 → (∃ (r2 : Int32) (I2 : Nat → Nat → Int32) (L2 : Nat → Nat → Int64) (D2 : Nat → Nat → UInt64), am_Rn ext d 42 [.ref 20, .int 1] (I, L, D, am_rf X) (some (.int r2), (I2, L2, D2, am_rf X)) ∧ ((r2 = 0 ∨ r2 = 1) ∧ P (some (.int r2), (I2, L2, D2, am_rf X))))))) : am_wp ext d mz_58 (0, [some (.ref 20)], [], (I, L, D, am_rf X)) P := by
  refine am_wpb (c' := (6, [some (.ref 20)], [.int 41, .int (I 20 3)], (I, L, D, am_rf X))) 3 rfl ?_
  refine am_b2_eq rfl (fun z => ?_) (fun z => ?_)
  · replace h := h.1 z
    refine am_wpb (c' := (26, [some (.ref 20)], [.ref 20], (am_uI I 20 5 ((I 20 5) - 1), L, D, am_rf X))) 7 rfl ?_
    obtain ⟨I1, L1, D1, hr, h⟩ := h
    refine am_wp_inv (as := [.ref 20]) rfl rfl rfl rfl ⟨_, hr, ?_⟩
    show am_wp ext d mz_58 (29, [some (.ref 20)], [], (I1, L1, D1, am_rf X)) P
    refine am_wpb (c' := (30, [some (.ref 20)], [.int 1], (I1, L1, D1, am_rf X))) 1 rfl ?_
    exact am_ret_z rfl rfl (Or.inr rfl) h
  · replace h := h.2 z
    refine am_wpb (c' := (11, [some (.ref 20)], [.int 1, .ref 20], (I, L, D, am_rf X))) 2 rfl ?_
    obtain ⟨r2, I2, L2, D2, hr, h⟩ := h
    refine am_wp_inv (as := [.ref 20, .int 1]) rfl rfl rfl rfl ⟨_, hr, ?_⟩
    show am_wp ext d mz_58 (14, [some (.ref 20)], [.int r2], (I2, L2, D2, am_rf X)) P
    exact am_ret_z rfl rfl h.1 h.2
/-- SureSums$Reader.expect(I)Z -/
def mz_59 : am_Y := (fun pc => am_q59.lookup pc, 2, 2)
theorem mh_59 : am_Ys 59 = some mz_59 := rfl
theorem w59_0 {ext : Nat → List Value → am_M → Option am_R} {d : Nat} {P : am_R → Prop} (I : Nat → Nat → Int32) (L : Nat → Nat → Int64) (D : Nat → Nat → UInt64) (X : am_Rf) (v1 : Int32)
    (h : (((I 20 3) = v1 → (∃ (I1 : Nat → Nat → Int32) (L1 : Nat → Nat → Int64) (D1 : Nat → Nat → UInt64), am_Rn ext d 41 [.ref 20] (I, L, D, am_rf X) (none, (I1, L1, D1, am_rf X)) ∧ (P (some (.int 1), (I1, L1, D1, am_rf X))))) ∧ (¬ (I 20 3) = v1 → (∃ (r2 : Int32) (I2 : Nat → Nat → Int32) (L2 : Nat → Nat → Int64) (D2 : Nat → Nat → UInt64), am_Rn ext d 42 [.ref 20, .int 1] (I, L, D, am_rf X) (some (.int r2), (I2, L2, D2, am_rf X)) ∧ ((r2 = 0 ∨ r2 = 1) ∧ P (some (.int r2), (I2, L2, D2, am_rf X))))))) : am_wp ext d mz_59 (0, [some (.ref 20), some (.int v1)], [], (I, L, D, am_rf X)) P := by
  refine am_wpb (c' := (5, [some (.ref 20), some (.int v1)], [.int v1, .int (I 20 3)], (I, L, D, am_rf X))) 3 rfl ?_
  refine am_b2_eq rfl (fun z => ?_) (fun z => ?_)
  · replace h := h.1 z
    refine am_wpb (c' := (15, [some (.ref 20), some (.int v1)], [.ref 20], (I, L, D, am_rf X))) 1 rfl ?_
    obtain ⟨I1, L1, D1, hr, h⟩ := h
    refine am_wp_inv (as := [.ref 20]) rfl rfl rfl rfl ⟨_, hr, ?_⟩
    show am_wp ext d mz_59 (18, [some (.ref 20), some (.int v1)], [], (I1, L1, D1, am_rf X)) P
    refine am_wpb (c' := (19, [some (.ref 20), some (.int v1)], [.int 1], (I1, L1, D1, am_rf X))) 1 rfl ?_
    exact am_ret_z rfl rfl (Or.inr rfl) h
  · replace h := h.2 z
    refine am_wpb (c' := (10, [some (.ref 20), some (.int v1)], [.int 1, .ref 20], (I, L, D, am_rf X))) 2 rfl ?_
    obtain ⟨r2, I2, L2, D2, hr, h⟩ := h
    refine am_wp_inv (as := [.ref 20, .int 1]) rfl rfl rfl rfl ⟨_, hr, ?_⟩
    show am_wp ext d mz_59 (13, [some (.ref 20), some (.int v1)], [.int r2], (I2, L2, D2, am_rf X)) P
    exact am_ret_z rfl rfl h.1 h.2
/-- SureSums$Spans.reckon(LSureSums$Program;IJJI)Z -/
def mz_60 : am_Y := (fun pc => am_q60.lookup pc, 8, 2)
theorem mh_60 : am_Ys 60 = some mz_60 := rfl
theorem w60_0 {ext : Nat → List Value → am_M → Option am_R} {d : Nat} {P : am_R → Prop} (I : Nat → Nat → Int32) (L : Nat → Nat → Int64) (D : Nat → Nat → UInt64) (xc : Nat) (xi : Nat) (xp : Nat) (xs : Nat) (xt : Nat) (xu : Nat) (v2 : Int32) (v3 : Int64) (v5 : Int64) (v7 : Int32)
    (h : ∃ (I1 : Nat → Nat → Int32) (L1 : Nat → Nat → Int64) (D1 : Nat → Nat → UInt64), am_Rn ext d 62 [.ref 25, .int v2, .long v3, .long v5, .int 0] (am_uI (am_uI (am_uI (am_uI I 25 6 v7) 25 8 0) 25 3 0) 25 4 0, am_uL L 25 7 (2048 <<< ((Int32.toInt64 v7) &&& 63)), D, am_rf (xt, xs, xi, 2, xu, xc)) (none, (I1, L1, D1, am_rf (xt, xs, xi, 2, xu, xc))) ∧ (∃ (r2 : Int32) (I2 : Nat → Nat → Int32) (L2 : Nat → Nat → Int64) (D2 : Nat → Nat → UInt64), am_Rn ext d 61 [.ref 25] (I1, L1, D1, am_rf (xt, xs, xi, 2, xu, xc)) (some (.int r2), (I2, L2, D2, am_rf (xt, xs, xi, 2, xu, xc))) ∧ ((r2 = 0 ∨ r2 = 1) ∧ P (some (.int r2), (I2, L2, D2, am_rf (xt, xs, xi, 2, xu, xc)))))) : am_wp ext d mz_60 (0, [some (.ref 25), some (.ref 2), some (.int v2), some (.long v3), none, some (.long v5), none, some (.int v7)], [], (I, L, D, am_rf (xt, xs, xi, xp, xu, xc))) P := by
  refine am_wpb (c' := (2, [some (.ref 25), some (.ref 2), some (.int v2), some (.long v3), none, some (.long v5), none, some (.int v7)], [.ref 2, .ref 25], (I, L, D, am_rf (xt, xs, xi, xp, xu, xc)))) 2 rfl ?_
  refine am_wps (c' := (5, [some (.ref 25), some (.ref 2), some (.int v2), some (.long v3), none, some (.long v5), none, some (.int v7)], [], (I, L, D, am_rf (xt, xs, xi, 2, xu, xc)))) rfl rfl (am_s_rput rfl rfl (am_rf_w3 _ _ _ _ _ _ _ _ _ _)) ?_
  refine am_wpb (c' := (42, [some (.ref 25), some (.ref 2), some (.int v2), some (.long v3), none, some (.long v5), none, some (.int v7)], [.int 0, .long v5, .long v3, .int v2, .ref 25], (am_uI (am_uI (am_uI (am_uI I 25 6 v7) 25 8 0) 25 3 0) 25 4 0, am_uL L 25 7 (2048 <<< ((Int32.toInt64 v7) &&& 63)), D, am_rf (xt, xs, xi, 2, xu, xc)))) 22 rfl ?_
  obtain ⟨I1, L1, D1, hr, h⟩ := h
  refine am_wp_inv (as := [.ref 25, .int v2, .long v3, .long v5, .int 0]) rfl rfl rfl rfl ⟨_, hr, ?_⟩
  show am_wp ext d mz_60 (45, [some (.ref 25), some (.ref 2), some (.int v2), some (.long v3), none, some (.long v5), none, some (.int v7)], [], (I1, L1, D1, am_rf (xt, xs, xi, 2, xu, xc))) P
  refine am_wpb (c' := (46, [some (.ref 25), some (.ref 2), some (.int v2), some (.long v3), none, some (.long v5), none, some (.int v7)], [.ref 25], (I1, L1, D1, am_rf (xt, xs, xi, 2, xu, xc)))) 1 rfl ?_
  obtain ⟨r2, I2, L2, D2, hr, h⟩ := h
  refine am_wp_inv (as := [.ref 25]) rfl rfl rfl rfl ⟨_, hr, ?_⟩
  show am_wp ext d mz_60 (49, [some (.ref 25), some (.ref 2), some (.int v2), some (.long v3), none, some (.long v5), none, some (.int v7)], [.int r2], (I2, L2, D2, am_rf (xt, xs, xi, 2, xu, xc))) P
  exact am_ret_z rfl rfl h.1 h.2
/-- SureSums$Spans.take()Z -/
def mz_61 : am_Y := (fun pc => am_q61.lookup pc, 1, 2)
theorem mh_61 : am_Ys 61 = some mz_61 := rfl
theorem w61_0 {ext : Nat → List Value → am_M → Option am_R} {d : Nat} {P : am_R → Prop} (I : Nat → Nat → Int32) (L : Nat → Nat → Int64) (D : Nat → Nat → UInt64) (X : am_Rf)
    (h : ((1 ≤ (I 25 3) → (am_inb ((I 25 3) - 1) 100 = true ∧ (am_inb ((I 25 3) - 1) 100 = true ∧ ((((L 27 (Int32.toNatClampNeg ((I 25 3) - 1))) < (L 26 (Int32.toNatClampNeg ((I 25 3) - 1))) → (P (some (.int 0), (am_uI I 25 3 ((I 25 3) - 1), am_uL (am_uL L 25 9 (L 26 (Int32.toNatClampNeg ((I 25 3) - 1)))) 25 10 (L 27 (Int32.toNatClampNeg ((I 25 3) - 1))), D, am_rf X)))) ∧ (¬ (L 27 (Int32.toNatClampNeg ((I 25 3) - 1))) < (L 26 (Int32.toNatClampNeg ((I 25 3) - 1))) → (P (some (.int 1), (am_uI I 25 3 ((I 25 3) - 1), am_uL (am_uL L 25 9 (L 26 (Int32.toNatClampNeg ((I 25 3) - 1)))) 25 10 (L 27 (Int32.toNatClampNeg ((I 25 3) - 1))), D, am_rf X))))))))) ∧ (¬ 1 ≤ (I 25 3) → (P (some (.int 0), (I, L, D, am_rf X)))))) : am_wp ext d mz_61 (0, [some (.ref 25)], [], (I, L, D, am_rf X)) P := by
  refine am_wpb (c' := (5, [some (.ref 25)], [.int 1, .int (I 25 3)], (I, L, D, am_rf X))) 3 rfl ?_
  refine am_b2_ge rfl (fun z => ?_) (fun z => ?_)
  · replace h := h.1 z
    refine am_wpb (c' := (29, [some (.ref 25)], [.int ((I 25 3) - 1), .ref 26, .ref 25], (am_uI I 25 3 ((I 25 3) - 1), L, D, am_rf X))) 11 rfl ?_
    obtain ⟨o, h⟩ := h
    refine am_wps (c' := (30, [some (.ref 25)], [.long (L 26 (Int32.toNatClampNeg ((I 25 3) - 1))), .ref 25], (am_uI I 25 3 ((I 25 3) - 1), L, D, am_rf X))) rfl rfl (am_s_lald rfl o) ?_
    refine am_wpb (c' := (42, [some (.ref 25)], [.int ((I 25 3) - 1), .ref 27, .ref 25], (am_uI I 25 3 ((I 25 3) - 1), am_uL L 25 9 (L 26 (Int32.toNatClampNeg ((I 25 3) - 1))), D, am_rf X))) 6 rfl ?_
    obtain ⟨o, h⟩ := h
    refine am_wps (c' := (43, [some (.ref 25)], [.long (L 27 (Int32.toNatClampNeg ((I 25 3) - 1))), .ref 25], (am_uI I 25 3 ((I 25 3) - 1), am_uL L 25 9 (L 26 (Int32.toNatClampNeg ((I 25 3) - 1))), D, am_rf X))) rfl rfl (am_s_lald rfl o) ?_
    refine am_wpb (c' := (54, [some (.ref 25)], [.long (L 27 (Int32.toNatClampNeg ((I 25 3) - 1))), .long (L 26 (Int32.toNatClampNeg ((I 25 3) - 1)))], (am_uI I 25 3 ((I 25 3) - 1), am_uL (am_uL L 25 9 (L 26 (Int32.toNatClampNeg ((I 25 3) - 1)))) 25 10 (L 27 (Int32.toNatClampNeg ((I 25 3) - 1))), D, am_rf X))) 5 rfl ?_
    refine am_lc_gt rfl rfl (fun z => ?_) (fun z => ?_)
    · replace h := h.1 z
      refine am_wpb (c' := (63, [some (.ref 25)], [.int 0], (am_uI I 25 3 ((I 25 3) - 1), am_uL (am_uL L 25 9 (L 26 (Int32.toNatClampNeg ((I 25 3) - 1)))) 25 10 (L 27 (Int32.toNatClampNeg ((I 25 3) - 1))), D, am_rf X))) 1 rfl ?_
      exact am_ret_z rfl rfl (Or.inl rfl) h
    · replace h := h.2 z
      refine am_wpb (c' := (63, [some (.ref 25)], [.int 1], (am_uI I 25 3 ((I 25 3) - 1), am_uL (am_uL L 25 9 (L 26 (Int32.toNatClampNeg ((I 25 3) - 1)))) 25 10 (L 27 (Int32.toNatClampNeg ((I 25 3) - 1))), D, am_rf X))) 2 rfl ?_
      exact am_ret_z rfl rfl (Or.inr rfl) h
  · replace h := h.2 z
    refine am_wpb (c' := (9, [some (.ref 25)], [.int 0], (I, L, D, am_rf X))) 1 rfl ?_
    exact am_ret_z rfl rfl (Or.inl rfl) h
/-- SureSums$Spans.run(IJJI)V -/
def mz_62 : am_Y := (fun pc => am_q62.lookup pc, 12, 0)
theorem mh_62 : am_Ys 62 = some mz_62 := rfl
theorem w62_0 {ext : Nat → List Value → am_M → Option am_R} {d : Nat} {P : am_R → Prop} (I : Nat → Nat → Int32) (L : Nat → Nat → Int64) (D : Nat → Nat → UInt64) (xc : Nat) (xi : Nat) (xs : Nat) (xt : Nat) (xu : Nat) (v1 : Int32) (v2 : Int64) (v4 : Int64) (v6 : Int32)
    (h : ∃ (r1 : Int32) (I1 : Nat → Nat → Int32) (L1 : Nat → Nat → Int64) (D1 : Nat → Nat → UInt64), am_Rn ext d 34 [.ref 2, .int v1] (I, L, D, am_rf (xt, xs, xi, 2, xu, xc)) (some (.int r1), (I1, L1, D1, am_rf (xt, xs, xi, 2, xu, xc))) ∧ (((r1 = 0 → (∃ (I2 : Nat → Nat → Int32) (L2 : Nat → Nat → Int64) (D2 : Nat → Nat → UInt64), am_Rn ext d 64 [.ref 25, .long 1, .long 0] (I1, L1, D1, am_rf (xt, xs, xi, 2, xu, xc)) (none, (I2, L2, D2, am_rf (xt, xs, xi, 2, xu, xc))) ∧ (P (none, (I2, L2, D2, am_rf (xt, xs, xi, 2, xu, xc)))))) ∧ (¬ r1 = 0 → (((v6 ≤ 18 → (am_inb v1 18 = true ∧ (∃ (r3 : Int32) (I3 : Nat → Nat → Int32) (L3 : Nat → Nat → Int64) (D3 : Nat → Nat → UInt64), am_Rn ext d 202 [.int (I1 6 (Int32.toNatClampNeg v1)), .int (I1 2 8)] (I1, L1, D1, am_rf (xt, xs, xi, 2, xu, xc)) (some (.int r3), (I3, L3, D3, am_rf (xt, xs, xi, 2, xu, xc))) ∧ (am_inb v1 18 = true ∧ (∃ (r4 : Int32) (I4 : Nat → Nat → Int32) (L4 : Nat → Nat → Int64) (D4 : Nat → Nat → UInt64), am_Rn ext d 201 [.int (I3 5 (Int32.toNatClampNeg v1)), .int 0] (I3, L3, D3, am_rf (xt, xs, xi, 2, xu, xc)) (some (.int r4), (I4, L4, D4, am_rf (xt, xs, xi, 2, xu, xc))) ∧ (am_wp ext d mz_62 (73, [some (.ref 25), none, some (.long v2), none, some (.long v4), none, some (.int v6), some (.int (I1 25 3)), some (.int (I1 25 4)), some (.int r3), some (.int r4), none], [], (I4, L4, D4, am_rf (xt, xs, xi, 2, xu, xc))) P)))))) ∧ (¬ v6 ≤ 18 → (∃ (I5 : Nat → Nat → Int32) (L5 : Nat → Nat → Int64) (D5 : Nat → Nat → UInt64), am_Rn ext d 64 [.ref 25, .long 1, .long 0] (I1, L1, D1, am_rf (xt, xs, xi, 2, xu, xc)) (none, (I5, L5, D5, am_rf (xt, xs, xi, 2, xu, xc))) ∧ (P (none, (I5, L5, D5, am_rf (xt, xs, xi, 2, xu, xc)))))))))))) : am_wp ext d mz_62 (0, [some (.ref 25), some (.int v1), some (.long v2), none, some (.long v4), none, some (.int v6), none, none, none, none, none], [], (I, L, D, am_rf (xt, xs, xi, 2, xu, xc))) P := by
  refine am_wpb (c' := (5, [some (.ref 25), some (.int v1), some (.long v2), none, some (.long v4), none, some (.int v6), none, none, none, none, none], [.int v1, .ref 2], (I, L, D, am_rf (xt, xs, xi, 2, xu, xc)))) 3 rfl ?_
  obtain ⟨r1, I1, L1, D1, hr, h⟩ := h
  refine am_wp_inv (as := [.ref 2, .int v1]) rfl rfl rfl rfl ⟨_, hr, ?_⟩
  show am_wp ext d mz_62 (8, [some (.ref 25), some (.int v1), some (.long v2), none, some (.long v4), none, some (.int v6), none, none, none, none, none], [.int r1], (I1, L1, D1, am_rf (xt, xs, xi, 2, xu, xc))) P
  refine am_b1_eq rfl (fun z => ?_) (fun z => ?_)
  · replace h := h.1 z
    refine am_wpb (c' := (21, [some (.ref 25), some (.int v1), some (.long v2), none, some (.long v4), none, some (.int v6), none, none, none, none, none], [.long 0, .long 1, .ref 25], (I1, L1, D1, am_rf (xt, xs, xi, 2, xu, xc)))) 3 rfl ?_
    obtain ⟨I2, L2, D2, hr, h⟩ := h
    refine am_wp_inv (as := [.ref 25, .long 1, .long 0]) rfl rfl rfl rfl ⟨_, hr, ?_⟩
    show am_wp ext d mz_62 (24, [some (.ref 25), some (.int v1), some (.long v2), none, some (.long v4), none, some (.int v6), none, none, none, none, none], [], (I2, L2, D2, am_rf (xt, xs, xi, 2, xu, xc))) P
    exact am_ret_v rfl rfl h
  · replace h := h.2 z
    refine am_wpb (c' := (15, [some (.ref 25), some (.int v1), some (.long v2), none, some (.long v4), none, some (.int v6), none, none, none, none, none], [.int 18, .int v6], (I1, L1, D1, am_rf (xt, xs, xi, 2, xu, xc)))) 2 rfl ?_
    refine am_b2_le rfl (fun z => ?_) (fun z => ?_)
    · replace h := h.1 z
      refine am_wpb (c' := (45, [some (.ref 25), some (.int v1), some (.long v2), none, some (.long v4), none, some (.int v6), some (.int (I1 25 3)), some (.int (I1 25 4)), none, none, none], [.int v1, .ref 6], (I1, L1, D1, am_rf (xt, xs, xi, 2, xu, xc)))) 10 rfl ?_
      obtain ⟨o, h⟩ := h
      refine am_wps (c' := (46, [some (.ref 25), some (.int v1), some (.long v2), none, some (.long v4), none, some (.int v6), some (.int (I1 25 3)), some (.int (I1 25 4)), none, none, none], [.int (I1 6 (Int32.toNatClampNeg v1))], (I1, L1, D1, am_rf (xt, xs, xi, 2, xu, xc)))) rfl rfl (am_s_iald rfl o) ?_
      refine am_wpb (c' := (53, [some (.ref 25), some (.int v1), some (.long v2), none, some (.long v4), none, some (.int v6), some (.int (I1 25 3)), some (.int (I1 25 4)), none, none, none], [.int (I1 2 8), .int (I1 6 (Int32.toNatClampNeg v1))], (I1, L1, D1, am_rf (xt, xs, xi, 2, xu, xc)))) 3 rfl ?_
      obtain ⟨r3, I3, L3, D3, hr, h⟩ := h
      refine am_wp_inv (as := [.int (I1 6 (Int32.toNatClampNeg v1)), .int (I1 2 8)]) rfl rfl rfl rfl ⟨_, hr, ?_⟩
      show am_wp ext d mz_62 (56, [some (.ref 25), some (.int v1), some (.long v2), none, some (.long v4), none, some (.int v6), some (.int (I1 25 3)), some (.int (I1 25 4)), none, none, none], [.int r3], (I3, L3, D3, am_rf (xt, xs, xi, 2, xu, xc))) P
      refine am_wpb (c' := (66, [some (.ref 25), some (.int v1), some (.long v2), none, some (.long v4), none, some (.int v6), some (.int (I1 25 3)), some (.int (I1 25 4)), some (.int r3), none, none], [.int v1, .ref 5], (I3, L3, D3, am_rf (xt, xs, xi, 2, xu, xc)))) 5 rfl ?_
      obtain ⟨o, h⟩ := h
      refine am_wps (c' := (67, [some (.ref 25), some (.int v1), some (.long v2), none, some (.long v4), none, some (.int v6), some (.int (I1 25 3)), some (.int (I1 25 4)), some (.int r3), none, none], [.int (I3 5 (Int32.toNatClampNeg v1))], (I3, L3, D3, am_rf (xt, xs, xi, 2, xu, xc)))) rfl rfl (am_s_iald rfl o) ?_
      refine am_wpb (c' := (68, [some (.ref 25), some (.int v1), some (.long v2), none, some (.long v4), none, some (.int v6), some (.int (I1 25 3)), some (.int (I1 25 4)), some (.int r3), none, none], [.int 0, .int (I3 5 (Int32.toNatClampNeg v1))], (I3, L3, D3, am_rf (xt, xs, xi, 2, xu, xc)))) 1 rfl ?_
      obtain ⟨r4, I4, L4, D4, hr, h⟩ := h
      refine am_wp_inv (as := [.int (I3 5 (Int32.toNatClampNeg v1)), .int 0]) rfl rfl rfl rfl ⟨_, hr, ?_⟩
      show am_wp ext d mz_62 (71, [some (.ref 25), some (.int v1), some (.long v2), none, some (.long v4), none, some (.int v6), some (.int (I1 25 3)), some (.int (I1 25 4)), some (.int r3), none, none], [.int r4], (I4, L4, D4, am_rf (xt, xs, xi, 2, xu, xc))) P
      refine am_wpb (c' := (73, [some (.ref 25), some (.int v1), some (.long v2), none, some (.long v4), none, some (.int v6), some (.int (I1 25 3)), some (.int (I1 25 4)), some (.int r3), some (.int r4), none], [], (I4, L4, D4, am_rf (xt, xs, xi, 2, xu, xc)))) 1 rfl ?_
      exact am_fgt (l := [some (.ref 25), none, some (.long v2), none, some (.long v4), none, some (.int v6), some (.int (I1 25 3)), some (.int (I1 25 4)), some (.int r3), some (.int r4), none]) (am_le_of (am_leS (am_leN (am_leS (am_leN (am_leS (am_leN (am_leS (am_leS (am_leS (am_leS (am_leS (am_leN (am_leZ)))))))))))))) h
    · replace h := h.2 z
      refine am_wpb (c' := (21, [some (.ref 25), some (.int v1), some (.long v2), none, some (.long v4), none, some (.int v6), none, none, none, none, none], [.long 0, .long 1, .ref 25], (I1, L1, D1, am_rf (xt, xs, xi, 2, xu, xc)))) 3 rfl ?_
      obtain ⟨I5, L5, D5, hr, h⟩ := h
      refine am_wp_inv (as := [.ref 25, .long 1, .long 0]) rfl rfl rfl rfl ⟨_, hr, ?_⟩
      show am_wp ext d mz_62 (24, [some (.ref 25), some (.int v1), some (.long v2), none, some (.long v4), none, some (.int v6), none, none, none, none, none], [], (I5, L5, D5, am_rf (xt, xs, xi, 2, xu, xc))) P
      exact am_ret_v rfl rfl h
theorem w62_73 {ext : Nat → List Value → am_M → Option am_R} {d : Nat} {P : am_R → Prop} (I : Nat → Nat → Int32) (L : Nat → Nat → Int64) (D : Nat → Nat → UInt64) (xc : Nat) (xi : Nat) (xs : Nat) (xt : Nat) (xu : Nat) (v2 : Int64) (v4 : Int64) (v6 : Int32) (v7 : Int32) (v8 : Int32) (v9 : Int32) (v10 : Int32)
    (h : ((v9 ≤ v10 → (am_wp ext d mz_62 (183, [some (.ref 25), none, none, none, none, none, none, some (.int v7), some (.int v8), none, none, none], [], (I, L, D, am_rf (xt, xs, xi, 2, xu, xc))) P)) ∧ (¬ v9 ≤ v10 → (((20000 < (I 25 8) → (am_wp ext d mz_62 (183, [some (.ref 25), none, none, none, none, none, none, some (.int v7), some (.int v8), none, none, none], [], (I, L, D, am_rf (xt, xs, xi, 2, xu, xc))) P)) ∧ (¬ 20000 < (I 25 8) → (am_inb v10 288 = true ∧ ((((I 7 (Int32.toNatClampNeg v10)) = 19 → (∃ (r1 : Int32) (I1 : Nat → Nat → Int32) (L1 : Nat → Nat → Int64) (D1 : Nat → Nat → UInt64), am_Rn ext d 77 [.ref 25, .int (I 7 (Int32.toNatClampNeg v10)), .int v10] (I, L, D, am_rf (xt, xs, xi, 2, xu, xc)) (some (.int r1), (I1, L1, D1, am_rf (xt, xs, xi, 2, xu, xc))) ∧ (∃ (r2 : Int32) (I2 : Nat → Nat → Int32) (L2 : Nat → Nat → Int64) (D2 : Nat → Nat → UInt64), am_Rn ext d 201 [.int v10, .int r1] (I1, L1, D1, am_rf (xt, xs, xi, 2, xu, xc)) (some (.int r2), (I2, L2, D2, am_rf (xt, xs, xi, 2, xu, xc))) ∧ (am_wp ext d mz_62 (73, [some (.ref 25), none, some (.long v2), none, some (.long v4), none, some (.int v6), some (.int v7), some (.int v8), some (.int v9), some (.int (r2 + 1)), none], [], (I2, L2, D2, am_rf (xt, xs, xi, 2, xu, xc))) P)))) ∧ (¬ (I 7 (Int32.toNatClampNeg v10)) = 19 → (((¬ (I 7 (Int32.toNatClampNeg v10)) = 20 → (((¬ (I 7 (Int32.toNatClampNeg v10)) = 1 → (∃ (r3 : Int32) (I3 : Nat → Nat → Int32) (L3 : Nat → Nat → Int64) (D3 : Nat → Nat → UInt64), am_Rn ext d 63 [.ref 25, .int (I 7 (Int32.toNatClampNeg v10)), .int v10, .int v6] (am_uI I 25 8 ((I 25 8) + 1), L, D, am_rf (xt, xs, xi, 2, xu, xc)) (some (.int r3), (I3, L3, D3, am_rf (xt, xs, xi, 2, xu, xc))) ∧ (∃ (r4 : Int32) (I4 : Nat → Nat → Int32) (L4 : Nat → Nat → Int64) (D4 : Nat → Nat → UInt64), am_Rn ext d 201 [.int v10, .int r3] (I3, L3, D3, am_rf (xt, xs, xi, 2, xu, xc)) (some (.int r4), (I4, L4, D4, am_rf (xt, xs, xi, 2, xu, xc))) ∧ (am_wp ext d mz_62 (73, [some (.ref 25), none, some (.long v2), none, some (.long v4), none, some (.int v6), some (.int v7), some (.int v8), some (.int v9), some (.int (r4 + 1)), none], [], (I4, L4, D4, am_rf (xt, xs, xi, 2, xu, xc))) P)))) ∧ ((I 7 (Int32.toNatClampNeg v10)) = 1 → (∃ (I5 : Nat → Nat → Int32) (L5 : Nat → Nat → Int64) (D5 : Nat → Nat → UInt64), am_Rn ext d 64 [.ref 25, .long v2, .long v4] (am_uI I 25 8 ((I 25 8) + 1), L, D, am_rf (xt, xs, xi, 2, xu, xc)) (none, (I5, L5, D5, am_rf (xt, xs, xi, 2, xu, xc))) ∧ (am_wp ext d mz_62 (73, [some (.ref 25), none, some (.long v2), none, some (.long v4), none, some (.int v6), some (.int v7), some (.int v8), some (.int v9), some (.int (v10 + 1)), none], [], (I5, L5, D5, am_rf (xt, xs, xi, 2, xu, xc))) P)))))) ∧ ((I 7 (Int32.toNatClampNeg v10)) = 20 → (∃ (r6 : Int32) (I6 : Nat → Nat → Int32) (L6 : Nat → Nat → Int64) (D6 : Nat → Nat → UInt64), am_Rn ext d 77 [.ref 25, .int (I 7 (Int32.toNatClampNeg v10)), .int v10] (I, L, D, am_rf (xt, xs, xi, 2, xu, xc)) (some (.int r6), (I6, L6, D6, am_rf (xt, xs, xi, 2, xu, xc))) ∧ (∃ (r7 : Int32) (I7 : Nat → Nat → Int32) (L7 : Nat → Nat → Int64) (D7 : Nat → Nat → UInt64), am_Rn ext d 201 [.int v10, .int r6] (I6, L6, D6, am_rf (xt, xs, xi, 2, xu, xc)) (some (.int r7), (I7, L7, D7, am_rf (xt, xs, xi, 2, xu, xc))) ∧ (am_wp ext d mz_62 (73, [some (.ref 25), none, some (.long v2), none, some (.long v4), none, some (.int v6), some (.int v7), some (.int v8), some (.int v9), some (.int (r7 + 1)), none], [], (I7, L7, D7, am_rf (xt, xs, xi, 2, xu, xc))) P)))))))))))))))) : am_wp ext d mz_62 (73, [some (.ref 25), none, some (.long v2), none, some (.long v4), none, some (.int v6), some (.int v7), some (.int v8), some (.int v9), some (.int v10), none], [], (I, L, D, am_rf (xt, xs, xi, 2, xu, xc))) P := by
  refine am_wpb (c' := (77, [some (.ref 25), none, some (.long v2), none, some (.long v4), none, some (.int v6), some (.int v7), some (.int v8), some (.int v9), some (.int v10), none], [.int v9, .int v10], (I, L, D, am_rf (xt, xs, xi, 2, xu, xc)))) 2 rfl ?_
  refine am_b2_ge rfl (fun z => ?_) (fun z => ?_)
  · replace h := h.1 z
    exact am_fgt (l := [some (.ref 25), none, none, none, none, none, none, some (.int v7), some (.int v8), none, none, none]) (am_le_of (am_leS (am_leN (am_leN (am_leN (am_leN (am_leN (am_leN (am_leS (am_leS (am_leN (am_leN (am_leN (am_leZ)))))))))))))) h
  · replace h := h.2 z
    refine am_wpb (c' := (87, [some (.ref 25), none, some (.long v2), none, some (.long v4), none, some (.int v6), some (.int v7), some (.int v8), some (.int v9), some (.int v10), none], [.int 20000, .int (I 25 8)], (I, L, D, am_rf (xt, xs, xi, 2, xu, xc)))) 3 rfl ?_
    refine am_b2_gt rfl (fun z => ?_) (fun z => ?_)
    · replace h := h.1 z
      exact am_fgt (l := [some (.ref 25), none, none, none, none, none, none, some (.int v7), some (.int v8), none, none, none]) (am_le_of (am_leS (am_leN (am_leN (am_leN (am_leN (am_leN (am_leN (am_leS (am_leS (am_leN (am_leN (am_leN (am_leZ)))))))))))))) h
    · replace h := h.2 z
      refine am_wpb (c' := (99, [some (.ref 25), none, some (.long v2), none, some (.long v4), none, some (.int v6), some (.int v7), some (.int v8), some (.int v9), some (.int v10), none], [.int v10, .ref 7], (I, L, D, am_rf (xt, xs, xi, 2, xu, xc)))) 4 rfl ?_
      obtain ⟨o, h⟩ := h
      refine am_wps (c' := (100, [some (.ref 25), none, some (.long v2), none, some (.long v4), none, some (.int v6), some (.int v7), some (.int v8), some (.int v9), some (.int v10), none], [.int (I 7 (Int32.toNatClampNeg v10))], (I, L, D, am_rf (xt, xs, xi, 2, xu, xc)))) rfl rfl (am_s_iald rfl o) ?_
      refine am_wpb (c' := (106, [some (.ref 25), none, some (.long v2), none, some (.long v4), none, some (.int v6), some (.int v7), some (.int v8), some (.int v9), some (.int v10), some (.int (I 7 (Int32.toNatClampNeg v10)))], [.int 19, .int (I 7 (Int32.toNatClampNeg v10))], (I, L, D, am_rf (xt, xs, xi, 2, xu, xc)))) 3 rfl ?_
      refine am_b2_eq rfl (fun z => ?_) (fun z => ?_)
      · replace h := h.1 z
        refine am_wpb (c' := (123, [some (.ref 25), none, some (.long v2), none, some (.long v4), none, some (.int v6), some (.int v7), some (.int v8), some (.int v9), some (.int v10), some (.int (I 7 (Int32.toNatClampNeg v10)))], [.int v10, .int (I 7 (Int32.toNatClampNeg v10)), .ref 25, .int v10], (I, L, D, am_rf (xt, xs, xi, 2, xu, xc)))) 4 rfl ?_
        obtain ⟨r1, I1, L1, D1, hr, h⟩ := h
        refine am_wp_inv (as := [.ref 25, .int (I 7 (Int32.toNatClampNeg v10)), .int v10]) rfl rfl rfl rfl ⟨_, hr, ?_⟩
        show am_wp ext d mz_62 (126, [some (.ref 25), none, some (.long v2), none, some (.long v4), none, some (.int v6), some (.int v7), some (.int v8), some (.int v9), some (.int v10), some (.int (I 7 (Int32.toNatClampNeg v10)))], [.int r1, .int v10], (I1, L1, D1, am_rf (xt, xs, xi, 2, xu, xc))) P
        obtain ⟨r2, I2, L2, D2, hr, h⟩ := h
        refine am_wp_inv (as := [.int v10, .int r1]) rfl rfl rfl rfl ⟨_, hr, ?_⟩
        show am_wp ext d mz_62 (129, [some (.ref 25), none, some (.long v2), none, some (.long v4), none, some (.int v6), some (.int v7), some (.int v8), some (.int v9), some (.int v10), some (.int (I 7 (Int32.toNatClampNeg v10)))], [.int r2], (I2, L2, D2, am_rf (xt, xs, xi, 2, xu, xc))) P
        refine am_wpb (c' := (73, [some (.ref 25), none, some (.long v2), none, some (.long v4), none, some (.int v6), some (.int v7), some (.int v8), some (.int v9), some (.int (r2 + 1)), some (.int (I 7 (Int32.toNatClampNeg v10)))], [], (I2, L2, D2, am_rf (xt, xs, xi, 2, xu, xc)))) 4 rfl ?_
        exact am_fgt (l := [some (.ref 25), none, some (.long v2), none, some (.long v4), none, some (.int v6), some (.int v7), some (.int v8), some (.int v9), some (.int (r2 + 1)), none]) (am_le_of (am_leS (am_leN (am_leS (am_leN (am_leS (am_leN (am_leS (am_leS (am_leS (am_leS (am_leS (am_leN (am_leZ)))))))))))))) h
      · replace h := h.2 z
        refine am_wpb (c' := (113, [some (.ref 25), none, some (.long v2), none, some (.long v4), none, some (.int v6), some (.int v7), some (.int v8), some (.int v9), some (.int v10), some (.int (I 7 (Int32.toNatClampNeg v10)))], [.int 20, .int (I 7 (Int32.toNatClampNeg v10))], (I, L, D, am_rf (xt, xs, xi, 2, xu, xc)))) 2 rfl ?_
        refine am_b2_ne rfl (fun z => ?_) (fun z => ?_)
        · replace h := h.1 z
          refine am_wpb (c' := (147, [some (.ref 25), none, some (.long v2), none, some (.long v4), none, some (.int v6), some (.int v7), some (.int v8), some (.int v9), some (.int v10), some (.int (I 7 (Int32.toNatClampNeg v10)))], [.int 1, .int (I 7 (Int32.toNatClampNeg v10))], (am_uI I 25 8 ((I 25 8) + 1), L, D, am_rf (xt, xs, xi, 2, xu, xc)))) 8 rfl ?_
          refine am_b2_ne rfl (fun z => ?_) (fun z => ?_)
          · replace h := h.1 z
            refine am_wpb (c' := (169, [some (.ref 25), none, some (.long v2), none, some (.long v4), none, some (.int v6), some (.int v7), some (.int v8), some (.int v9), some (.int v10), some (.int (I 7 (Int32.toNatClampNeg v10)))], [.int v6, .int v10, .int (I 7 (Int32.toNatClampNeg v10)), .ref 25, .int v10], (am_uI I 25 8 ((I 25 8) + 1), L, D, am_rf (xt, xs, xi, 2, xu, xc)))) 5 rfl ?_
            obtain ⟨r3, I3, L3, D3, hr, h⟩ := h
            refine am_wp_inv (as := [.ref 25, .int (I 7 (Int32.toNatClampNeg v10)), .int v10, .int v6]) rfl rfl rfl rfl ⟨_, hr, ?_⟩
            show am_wp ext d mz_62 (172, [some (.ref 25), none, some (.long v2), none, some (.long v4), none, some (.int v6), some (.int v7), some (.int v8), some (.int v9), some (.int v10), some (.int (I 7 (Int32.toNatClampNeg v10)))], [.int r3, .int v10], (I3, L3, D3, am_rf (xt, xs, xi, 2, xu, xc))) P
            obtain ⟨r4, I4, L4, D4, hr, h⟩ := h
            refine am_wp_inv (as := [.int v10, .int r3]) rfl rfl rfl rfl ⟨_, hr, ?_⟩
            show am_wp ext d mz_62 (175, [some (.ref 25), none, some (.long v2), none, some (.long v4), none, some (.int v6), some (.int v7), some (.int v8), some (.int v9), some (.int v10), some (.int (I 7 (Int32.toNatClampNeg v10)))], [.int r4], (I4, L4, D4, am_rf (xt, xs, xi, 2, xu, xc))) P
            refine am_wpb (c' := (73, [some (.ref 25), none, some (.long v2), none, some (.long v4), none, some (.int v6), some (.int v7), some (.int v8), some (.int v9), some (.int (r4 + 1)), some (.int (I 7 (Int32.toNatClampNeg v10)))], [], (I4, L4, D4, am_rf (xt, xs, xi, 2, xu, xc)))) 3 rfl ?_
            exact am_fgt (l := [some (.ref 25), none, some (.long v2), none, some (.long v4), none, some (.int v6), some (.int v7), some (.int v8), some (.int v9), some (.int (r4 + 1)), none]) (am_le_of (am_leS (am_leN (am_leS (am_leN (am_leS (am_leN (am_leS (am_leS (am_leS (am_leS (am_leS (am_leN (am_leZ)))))))))))))) h
          · replace h := h.2 z
            refine am_wpb (c' := (154, [some (.ref 25), none, some (.long v2), none, some (.long v4), none, some (.int v6), some (.int v7), some (.int v8), some (.int v9), some (.int v10), some (.int (I 7 (Int32.toNatClampNeg v10)))], [.long v4, .long v2, .ref 25], (am_uI I 25 8 ((I 25 8) + 1), L, D, am_rf (xt, xs, xi, 2, xu, xc)))) 3 rfl ?_
            obtain ⟨I5, L5, D5, hr, h⟩ := h
            refine am_wp_inv (as := [.ref 25, .long v2, .long v4]) rfl rfl rfl rfl ⟨_, hr, ?_⟩
            show am_wp ext d mz_62 (157, [some (.ref 25), none, some (.long v2), none, some (.long v4), none, some (.int v6), some (.int v7), some (.int v8), some (.int v9), some (.int v10), some (.int (I 7 (Int32.toNatClampNeg v10)))], [], (I5, L5, D5, am_rf (xt, xs, xi, 2, xu, xc))) P
            refine am_wpb (c' := (73, [some (.ref 25), none, some (.long v2), none, some (.long v4), none, some (.int v6), some (.int v7), some (.int v8), some (.int v9), some (.int (v10 + 1)), some (.int (I 7 (Int32.toNatClampNeg v10)))], [], (I5, L5, D5, am_rf (xt, xs, xi, 2, xu, xc)))) 3 rfl ?_
            exact am_fgt (l := [some (.ref 25), none, some (.long v2), none, some (.long v4), none, some (.int v6), some (.int v7), some (.int v8), some (.int v9), some (.int (v10 + 1)), none]) (am_le_of (am_leS (am_leN (am_leS (am_leN (am_leS (am_leN (am_leS (am_leS (am_leS (am_leS (am_leS (am_leN (am_leZ)))))))))))))) h
        · replace h := h.2 z
          refine am_wpb (c' := (123, [some (.ref 25), none, some (.long v2), none, some (.long v4), none, some (.int v6), some (.int v7), some (.int v8), some (.int v9), some (.int v10), some (.int (I 7 (Int32.toNatClampNeg v10)))], [.int v10, .int (I 7 (Int32.toNatClampNeg v10)), .ref 25, .int v10], (I, L, D, am_rf (xt, xs, xi, 2, xu, xc)))) 4 rfl ?_
          obtain ⟨r6, I6, L6, D6, hr, h⟩ := h
          refine am_wp_inv (as := [.ref 25, .int (I 7 (Int32.toNatClampNeg v10)), .int v10]) rfl rfl rfl rfl ⟨_, hr, ?_⟩
          show am_wp ext d mz_62 (126, [some (.ref 25), none, some (.long v2), none, some (.long v4), none, some (.int v6), some (.int v7), some (.int v8), some (.int v9), some (.int v10), some (.int (I 7 (Int32.toNatClampNeg v10)))], [.int r6, .int v10], (I6, L6, D6, am_rf (xt, xs, xi, 2, xu, xc))) P
          obtain ⟨r7, I7, L7, D7, hr, h⟩ := h
          refine am_wp_inv (as := [.int v10, .int r6]) rfl rfl rfl rfl ⟨_, hr, ?_⟩
          show am_wp ext d mz_62 (129, [some (.ref 25), none, some (.long v2), none, some (.long v4), none, some (.int v6), some (.int v7), some (.int v8), some (.int v9), some (.int v10), some (.int (I 7 (Int32.toNatClampNeg v10)))], [.int r7], (I7, L7, D7, am_rf (xt, xs, xi, 2, xu, xc))) P
          refine am_wpb (c' := (73, [some (.ref 25), none, some (.long v2), none, some (.long v4), none, some (.int v6), some (.int v7), some (.int v8), some (.int v9), some (.int (r7 + 1)), some (.int (I 7 (Int32.toNatClampNeg v10)))], [], (I7, L7, D7, am_rf (xt, xs, xi, 2, xu, xc)))) 4 rfl ?_
          exact am_fgt (l := [some (.ref 25), none, some (.long v2), none, some (.long v4), none, some (.int v6), some (.int v7), some (.int v8), some (.int v9), some (.int (r7 + 1)), none]) (am_le_of (am_leS (am_leN (am_leS (am_leN (am_leS (am_leN (am_leS (am_leS (am_leS (am_leS (am_leS (am_leN (am_leZ)))))))))))))) h
theorem w62_183 {ext : Nat → List Value → am_M → Option am_R} {d : Nat} {P : am_R → Prop} (I : Nat → Nat → Int32) (L : Nat → Nat → Int64) (D : Nat → Nat → UInt64) (xc : Nat) (xi : Nat) (xs : Nat) (xt : Nat) (xu : Nat) (v7 : Int32) (v8 : Int32)
    (h : (((I 25 8) ≤ 20000 → (P (none, (I, L, D, am_rf (xt, xs, xi, 2, xu, xc))))) ∧ (¬ (I 25 8) ≤ 20000 → (∃ (I1 : Nat → Nat → Int32) (L1 : Nat → Nat → Int64) (D1 : Nat → Nat → UInt64), am_Rn ext d 64 [.ref 25, .long 1, .long 0] (am_uI (am_uI I 25 3 v7) 25 4 v8, L, D, am_rf (xt, xs, xi, 2, xu, xc)) (none, (I1, L1, D1, am_rf (xt, xs, xi, 2, xu, xc))) ∧ (P (none, (I1, L1, D1, am_rf (xt, xs, xi, 2, xu, xc)))))))) : am_wp ext d mz_62 (183, [some (.ref 25), none, none, none, none, none, none, some (.int v7), some (.int v8), none, none, none], [], (I, L, D, am_rf (xt, xs, xi, 2, xu, xc))) P := by
  refine am_wpb (c' := (190, [some (.ref 25), none, none, none, none, none, none, some (.int v7), some (.int v8), none, none, none], [.int 20000, .int (I 25 8)], (I, L, D, am_rf (xt, xs, xi, 2, xu, xc)))) 3 rfl ?_
  refine am_b2_le rfl (fun z => ?_) (fun z => ?_)
  · replace h := h.1 z
    exact am_ret_v rfl rfl h
  · replace h := h.2 z
    refine am_wpb (c' := (208, [some (.ref 25), none, none, none, none, none, none, some (.int v7), some (.int v8), none, none, none], [.long 0, .long 1, .ref 25], (am_uI (am_uI I 25 3 v7) 25 4 v8, L, D, am_rf (xt, xs, xi, 2, xu, xc)))) 9 rfl ?_
    obtain ⟨I1, L1, D1, hr, h⟩ := h
    refine am_wp_inv (as := [.ref 25, .long 1, .long 0]) rfl rfl rfl rfl ⟨_, hr, ?_⟩
    show am_wp ext d mz_62 (211, [some (.ref 25), none, none, none, none, none, none, some (.int v7), some (.int v8), none, none, none], [], (I1, L1, D1, am_rf (xt, xs, xi, 2, xu, xc))) P
    exact am_ret_v rfl rfl h
