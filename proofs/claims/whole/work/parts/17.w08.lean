/-- SureSums.off(I)I -/
def mz_109 : am_Y := (fun pc => am_q109.lookup pc, 5, 1)
theorem mh_109 : am_Ys 109 = some mz_109 := rfl
theorem w109_0 {ext : Nat → List Value → am_M → Option am_R} {d : Nat} {P : am_R → Prop} (I : Nat → Nat → Int32) (L : Nat → Nat → Int64) (D : Nat → Nat → UInt64) (xc : Nat) (xi : Nat) (xp : Nat) (xs : Nat) (xt : Nat) (xu : Nat) (v1 : Int32)
    (h : ∃ (r1 : Int32) (I1 : Nat → Nat → Int32) (L1 : Nat → Nat → Int64) (D1 : Nat → Nat → UInt64), am_Rn ext d 111 [.ref 0, .int v1] (I, L, D, am_rf (xt, xs, xi, xp, xu, xc)) (some (.int r1), (I1, L1, D1, am_rf (xt, xs, xi, xp, xu, xc))) ∧ (((0 ≤ r1 → (∃ (r2 : Int32) (I2 : Nat → Nat → Int32) (L2 : Nat → Nat → Int64) (D2 : Nat → Nat → UInt64), am_Rn ext d 4 [.ref 34, .int r1] (I1, L1, D1, am_rf (xt, xs, xi, xp, xu, xc)) (some (.int r2), (I2, L2, D2, am_rf (xt, xs, xi, xp, xu, xc))) ∧ (((r2 = 0 → (P (some (.int 2), (I2, L2, D2, am_rf (xt, xs, xi, xp, xu, xc))))) ∧ (¬ r2 = 0 → (∃ (r3 : Int32) (I3 : Nat → Nat → Int32) (L3 : Nat → Nat → Int64) (D3 : Nat → Nat → UInt64), am_Rn ext d 60 [.ref 25, .ref xt, .int r1, .long 0, .long 0, .int 20] (I2, L2, D2, am_rf (xt, xs, xi, xp, xu, xc)) (some (.int r3), (I3, L3, D3, am_rf (xt, xs, xi, xt, xu, xc))) ∧ (((¬ r3 = 0 → (am_nn (FP.ddiv (FP.l2d (L3 25 9)) 4697254411347427328) = true ∧ (((0 ≤ (Op.cmpValue (FP.dcmp (D3 34 6) (FP.ddiv (FP.l2d (L3 25 9)) 4697254411347427328)) .g) → (am_nn (FP.ddiv (FP.l2d (L3 25 10)) 4697254411347427328) = true ∧ ((((Op.cmpValue (FP.dcmp (D3 34 6) (FP.ddiv (FP.l2d (L3 25 10)) 4697254411347427328)) .l) ≤ 0 → (P (some (.int 0), (I3, L3, D3, am_rf (xt, xs, xi, xt, xu, xc))))) ∧ (¬ (Op.cmpValue (FP.dcmp (D3 34 6) (FP.ddiv (FP.l2d (L3 25 10)) 4697254411347427328)) .l) ≤ 0 → (P (some (.int 1), (I3, L3, D3, am_rf (xt, xs, xi, xt, xu, xc))))))))) ∧ (¬ 0 ≤ (Op.cmpValue (FP.dcmp (D3 34 6) (FP.ddiv (FP.l2d (L3 25 9)) 4697254411347427328)) .g) → (P (some (.int (-1)), (I3, L3, D3, am_rf (xt, xs, xi, xt, xu, xc))))))))) ∧ (r3 = 0 → (P (some (.int 2), (I3, L3, D3, am_rf (xt, xs, xi, xt, xu, xc))))))))))))) ∧ (¬ 0 ≤ r1 → (P (some (.int (-1)), (I1, L1, D1, am_rf (xt, xs, xi, xp, xu, xc)))))))) : am_wp ext d mz_109 (0, [some (.ref 0), some (.int v1), none, none, none], [], (I, L, D, am_rf (xt, xs, xi, xp, xu, xc))) P := by
  refine am_wpb (c' := (2, [some (.ref 0), some (.int v1), none, none, none], [.int v1, .ref 0], (I, L, D, am_rf (xt, xs, xi, xp, xu, xc)))) 2 rfl ?_
  obtain ⟨r1, I1, L1, D1, hr, h⟩ := h
  refine am_wp_inv (as := [.ref 0, .int v1]) rfl rfl rfl rfl ⟨_, hr, ?_⟩
  show am_wp ext d mz_109 (5, [some (.ref 0), some (.int v1), none, none, none], [.int r1], (I1, L1, D1, am_rf (xt, xs, xi, xp, xu, xc))) P
  refine am_wpb (c' := (7, [some (.ref 0), some (.int v1), some (.int r1), none, none], [.int r1], (I1, L1, D1, am_rf (xt, xs, xi, xp, xu, xc)))) 2 rfl ?_
  refine am_b1_ge rfl (fun z => ?_) (fun z => ?_)
  · replace h := h.1 z
    refine am_wpb (c' := (17, [some (.ref 0), some (.int v1), some (.int r1), none, none], [.int r1, .ref 34], (I1, L1, D1, am_rf (xt, xs, xi, xp, xu, xc)))) 3 rfl ?_
    obtain ⟨r2, I2, L2, D2, hr, h⟩ := h
    refine am_wp_inv (as := [.ref 34, .int r1]) rfl rfl rfl rfl ⟨_, hr, ?_⟩
    show am_wp ext d mz_109 (20, [some (.ref 0), some (.int v1), some (.int r1), none, none], [.int r2], (I2, L2, D2, am_rf (xt, xs, xi, xp, xu, xc))) P
    refine am_b1_eq rfl (fun z => ?_) (fun z => ?_)
    · replace h := h.1 z
      refine am_wpb (c' := (43, [some (.ref 0), some (.int v1), some (.int r1), none, none], [.int 2], (I2, L2, D2, am_rf (xt, xs, xi, xp, xu, xc)))) 1 rfl ?_
      exact am_ret_i rfl rfl h
    · replace h := h.2 z
      refine am_wpb (c' := (36, [some (.ref 0), some (.int v1), some (.int r1), none, none], [.int 20, .long 0, .long 0, .int r1, .ref xt, .ref 25], (I2, L2, D2, am_rf (xt, xs, xi, xp, xu, xc)))) 8 rfl ?_
      obtain ⟨r3, I3, L3, D3, hr, h⟩ := h
      refine am_wp_inv (as := [.ref 25, .ref xt, .int r1, .long 0, .long 0, .int 20]) rfl rfl rfl rfl ⟨_, hr, ?_⟩
      show am_wp ext d mz_109 (39, [some (.ref 0), some (.int v1), some (.int r1), none, none], [.int r3], (I3, L3, D3, am_rf (xt, xs, xi, xt, xu, xc))) P
      refine am_b1_ne rfl (fun z => ?_) (fun z => ?_)
      · replace h := h.1 z
        refine am_wpb (c' := (64, [some (.ref 0), some (.int v1), some (.int r1), some (.double 4697254411347427328), none], [.double 4697254411347427328, .double (FP.l2d (L3 25 9)), .double (D3 34 6)], (I3, L3, D3, am_rf (xt, xs, xi, xt, xu, xc)))) 10 rfl ?_
        obtain ⟨o, h⟩ := h
        refine am_wps (c' := (65, [some (.ref 0), some (.int v1), some (.int r1), some (.double 4697254411347427328), none], [.double (FP.ddiv (FP.l2d (L3 25 9)) 4697254411347427328), .double (D3 34 6)], (I3, L3, D3, am_rf (xt, xs, xi, xt, xu, xc)))) rfl rfl (am_s_ddiv o) ?_
        refine am_wpb (c' := (66, [some (.ref 0), some (.int v1), some (.int r1), some (.double 4697254411347427328), none], [.int (Op.cmpValue (FP.dcmp (D3 34 6) (FP.ddiv (FP.l2d (L3 25 9)) 4697254411347427328)) .g)], (I3, L3, D3, am_rf (xt, xs, xi, xt, xu, xc)))) 1 rfl ?_
        refine am_b1_ge rfl (fun z => ?_) (fun z => ?_)
        · replace h := h.1 z
          refine am_wpb (c' := (87, [some (.ref 0), some (.int v1), some (.int r1), some (.double 4697254411347427328), none], [.double 4697254411347427328, .double (FP.l2d (L3 25 10)), .double (D3 34 6)], (I3, L3, D3, am_rf (xt, xs, xi, xt, xu, xc)))) 8 rfl ?_
          obtain ⟨o, h⟩ := h
          refine am_wps (c' := (88, [some (.ref 0), some (.int v1), some (.int r1), some (.double 4697254411347427328), none], [.double (FP.ddiv (FP.l2d (L3 25 10)) 4697254411347427328), .double (D3 34 6)], (I3, L3, D3, am_rf (xt, xs, xi, xt, xu, xc)))) rfl rfl (am_s_ddiv o) ?_
          refine am_wpb (c' := (89, [some (.ref 0), some (.int v1), some (.int r1), some (.double 4697254411347427328), none], [.int (Op.cmpValue (FP.dcmp (D3 34 6) (FP.ddiv (FP.l2d (L3 25 10)) 4697254411347427328)) .l)], (I3, L3, D3, am_rf (xt, xs, xi, xt, xu, xc)))) 1 rfl ?_
          refine am_b1_le rfl (fun z => ?_) (fun z => ?_)
          · replace h := h.1 z
            refine am_wpb (c' := (97, [some (.ref 0), some (.int v1), some (.int r1), some (.double 4697254411347427328), none], [.int 0], (I3, L3, D3, am_rf (xt, xs, xi, xt, xu, xc)))) 1 rfl ?_
            exact am_ret_i rfl rfl h
          · replace h := h.2 z
            refine am_wpb (c' := (97, [some (.ref 0), some (.int v1), some (.int r1), some (.double 4697254411347427328), none], [.int 1], (I3, L3, D3, am_rf (xt, xs, xi, xt, xu, xc)))) 2 rfl ?_
            exact am_ret_i rfl rfl h
        · replace h := h.2 z
          refine am_wpb (c' := (70, [some (.ref 0), some (.int v1), some (.int r1), some (.double 4697254411347427328), none], [.int (-1)], (I3, L3, D3, am_rf (xt, xs, xi, xt, xu, xc)))) 1 rfl ?_
          exact am_ret_i rfl rfl h
      · replace h := h.2 z
        refine am_wpb (c' := (43, [some (.ref 0), some (.int v1), some (.int r1), none, none], [.int 2], (I3, L3, D3, am_rf (xt, xs, xi, xt, xu, xc)))) 1 rfl ?_
        exact am_ret_i rfl rfl h
  · replace h := h.2 z
    refine am_wpb (c' := (11, [some (.ref 0), some (.int v1), some (.int r1), none, none], [.int (-1)], (I1, L1, D1, am_rf (xt, xs, xi, xp, xu, xc)))) 1 rfl ?_
    exact am_ret_i rfl rfl h
/-- SureSums.count(I)I -/
def mz_110 : am_Y := (fun pc => am_q110.lookup pc, 2, 1)
theorem mh_110 : am_Ys 110 = some mz_110 := rfl
theorem w110_0 {ext : Nat → List Value → am_M → Option am_R} {d : Nat} {P : am_R → Prop} (I : Nat → Nat → Int32) (L : Nat → Nat → Int64) (D : Nat → Nat → UInt64) (xc : Nat) (xi : Nat) (xp : Nat) (xu : Nat) (v1 : Int32)
    (h : ((v1 = 0 → (P (some (.int (I 2 10)), (I, L, D, am_rf (2, 11, xi, xp, xu, xc))))) ∧ (v1 = 1 → (P (some (.int (I 2 11)), (I, L, D, am_rf (2, 11, xi, xp, xu, xc))))) ∧ (v1 = 2 → (P (some (.int (I 2 12)), (I, L, D, am_rf (2, 11, xi, xp, xu, xc))))) ∧ (v1 = 3 → (P (some (.int (I 2 9)), (I, L, D, am_rf (2, 11, xi, xp, xu, xc))))) ∧ (¬ v1 = 0 ∧ ¬ v1 = 1 ∧ ¬ v1 = 2 ∧ ¬ v1 = 3 → (P (some (.int (-1)), (I, L, D, am_rf (2, 11, xi, xp, xu, xc))))))) : am_wp ext d mz_110 (0, [some (.ref 0), some (.int v1)], [], (I, L, D, am_rf (2, 11, xi, xp, xu, xc))) P := by
  refine am_wpb (c' := (1, [some (.ref 0), some (.int v1)], [.int v1], (I, L, D, am_rf (2, 11, xi, xp, xu, xc)))) 1 rfl ?_
  have hsw := am_swc v1 0 3
  by_cases c0 : v1 = 0
  · replace h := h.1 c0
    have e := c0
    refine am_ts_in 0 rfl (by rw [e]; rfl) (by decide) rfl ?_
    refine am_wpb (c' := (39, [some (.ref 0), some (.int v1)], [.int (I 2 10)], (I, L, D, am_rf (2, 11, xi, xp, xu, xc)))) 3 rfl ?_
    exact am_ret_i rfl rfl h
  by_cases c1 : v1 = 1
  · replace h := h.2.1 c1
    have e := c1
    refine am_ts_in 1 rfl (by rw [e]; rfl) (by decide) rfl ?_
    refine am_wpb (c' := (47, [some (.ref 0), some (.int v1)], [.int (I 2 11)], (I, L, D, am_rf (2, 11, xi, xp, xu, xc)))) 3 rfl ?_
    exact am_ret_i rfl rfl h
  by_cases c2 : v1 = 2
  · replace h := h.2.2.1 c2
    have e := c2
    refine am_ts_in 2 rfl (by rw [e]; rfl) (by decide) rfl ?_
    refine am_wpb (c' := (55, [some (.ref 0), some (.int v1)], [.int (I 2 12)], (I, L, D, am_rf (2, 11, xi, xp, xu, xc)))) 3 rfl ?_
    exact am_ret_i rfl rfl h
  by_cases c3 : v1 = 3
  · replace h := h.2.2.2.1 c3
    have e := c3
    refine am_ts_in 3 rfl (by rw [e]; rfl) (by decide) rfl ?_
    refine am_wpb (c' := (63, [some (.ref 0), some (.int v1)], [.int (I 2 9)], (I, L, D, am_rf (2, 11, xi, xp, xu, xc)))) 3 rfl ?_
    exact am_ret_i rfl rfl h
  replace h := h.2.2.2.2 ⟨fun e => c0 (e), fun e => c1 (e), fun e => c2 (e), fun e => c3 (e)⟩
  rcases hsw with hsw | ⟨k, hk, hsw⟩
  · refine am_ts_out rfl hsw ?_
    refine am_wpb (c' := (65, [some (.ref 0), some (.int v1)], [.int (-1)], (I, L, D, am_rf (2, 11, xi, xp, xu, xc)))) 1 rfl ?_
    exact am_ret_i rfl rfl h
  · refine am_ts_in (t := 64) k rfl hsw (by omega) ?_ ?_
    · refine am_sw_d (bad := [0, 1, 2, 3]) hk (by decide) (fun hm => ?_)
      simp only [List.mem_cons, List.not_mem_nil, or_false] at hm
      rcases hm with e | e | e | e
      · exact c0 (am_i32 (v := 0) (by rw [hsw, e]; rfl))
      · exact c1 (am_i32 (v := 1) (by rw [hsw, e]; rfl))
      · exact c2 (am_i32 (v := 2) (by rw [hsw, e]; rfl))
      · exact c3 (am_i32 (v := 3) (by rw [hsw, e]; rfl))
    · skip
      refine am_wpb (c' := (65, [some (.ref 0), some (.int v1)], [.int (-1)], (I, L, D, am_rf (2, 11, xi, xp, xu, xc)))) 1 rfl ?_
      exact am_ret_i rfl rfl h
/-- SureSums.numberLine(I)I -/
def mz_111 : am_Y := (fun pc => am_q111.lookup pc, 3, 1)
theorem mh_111 : am_Ys 111 = some mz_111 := rfl
theorem w111_0 {ext : Nat → List Value → am_M → Option am_R} {d : Nat} {P : am_R → Prop} (I : Nat → Nat → Int32) (L : Nat → Nat → Int64) (D : Nat → Nat → UInt64) (xc : Nat) (xi : Nat) (xp : Nat) (xu : Nat) (v1 : Int32)
    (h : ∃ (r1 : Int32) (I1 : Nat → Nat → Int32) (L1 : Nat → Nat → Int64) (D1 : Nat → Nat → UInt64), am_Rn ext d 32 [.ref 2, .int v1] (I, L, D, am_rf (2, 11, xi, xp, xu, xc)) (some (.int r1), (I1, L1, D1, am_rf (2, 11, xi, xp, xu, xc))) ∧ (((r1 < 0 → (P (some (.int (-1)), (I1, L1, D1, am_rf (2, 11, xi, xp, xu, xc))))) ∧ (¬ r1 < 0 → (∃ (r2 : Int32) (I2 : Nat → Nat → Int32) (L2 : Nat → Nat → Int64) (D2 : Nat → Nat → UInt64), am_Rn ext d 33 [.ref 2, .int r1] (I1, L1, D1, am_rf (2, 11, xi, xp, xu, xc)) (some (.int r2), (I2, L2, D2, am_rf (2, 11, xi, xp, xu, xc))) ∧ (((¬ r2 = 0 → (P (some (.int (-1)), (I2, L2, D2, am_rf (2, 11, xi, xp, xu, xc))))) ∧ (r2 = 0 → (P (some (.int r1), (I2, L2, D2, am_rf (2, 11, xi, xp, xu, xc)))))))))))) : am_wp ext d mz_111 (0, [some (.ref 0), some (.int v1), none], [], (I, L, D, am_rf (2, 11, xi, xp, xu, xc))) P := by
  refine am_wpb (c' := (5, [some (.ref 0), some (.int v1), none], [.int v1, .ref 2], (I, L, D, am_rf (2, 11, xi, xp, xu, xc)))) 3 rfl ?_
  obtain ⟨r1, I1, L1, D1, hr, h⟩ := h
  refine am_wp_inv (as := [.ref 2, .int v1]) rfl rfl rfl rfl ⟨_, hr, ?_⟩
  show am_wp ext d mz_111 (8, [some (.ref 0), some (.int v1), none], [.int r1], (I1, L1, D1, am_rf (2, 11, xi, xp, xu, xc))) P
  refine am_wpb (c' := (10, [some (.ref 0), some (.int v1), some (.int r1)], [.int r1], (I1, L1, D1, am_rf (2, 11, xi, xp, xu, xc)))) 2 rfl ?_
  refine am_b1_lt rfl (fun z => ?_) (fun z => ?_)
  · replace h := h.1 z
    refine am_wpb (c' := (29, [some (.ref 0), some (.int v1), some (.int r1)], [.int (-1)], (I1, L1, D1, am_rf (2, 11, xi, xp, xu, xc)))) 1 rfl ?_
    exact am_ret_i rfl rfl h
  · replace h := h.2 z
    refine am_wpb (c' := (18, [some (.ref 0), some (.int v1), some (.int r1)], [.int r1, .ref 2], (I1, L1, D1, am_rf (2, 11, xi, xp, xu, xc)))) 3 rfl ?_
    obtain ⟨r2, I2, L2, D2, hr, h⟩ := h
    refine am_wp_inv (as := [.ref 2, .int r1]) rfl rfl rfl rfl ⟨_, hr, ?_⟩
    show am_wp ext d mz_111 (21, [some (.ref 0), some (.int v1), some (.int r1)], [.int r2], (I2, L2, D2, am_rf (2, 11, xi, xp, xu, xc))) P
    refine am_b1_ne rfl (fun z => ?_) (fun z => ?_)
    · replace h := h.1 z
      refine am_wpb (c' := (29, [some (.ref 0), some (.int v1), some (.int r1)], [.int (-1)], (I2, L2, D2, am_rf (2, 11, xi, xp, xu, xc)))) 1 rfl ?_
      exact am_ret_i rfl rfl h
    · replace h := h.2 z
      refine am_wpb (c' := (29, [some (.ref 0), some (.int v1), some (.int r1)], [.int r1], (I2, L2, D2, am_rf (2, 11, xi, xp, xu, xc)))) 2 rfl ?_
      exact am_ret_i rfl rfl h
/-- SureSums.functionLine(I)I -/
def mz_112 : am_Y := (fun pc => am_q112.lookup pc, 3, 1)
theorem mh_112 : am_Ys 112 = some mz_112 := rfl
theorem w112_0 {ext : Nat → List Value → am_M → Option am_R} {d : Nat} {P : am_R → Prop} (I : Nat → Nat → Int32) (L : Nat → Nat → Int64) (D : Nat → Nat → UInt64) (xc : Nat) (xi : Nat) (xp : Nat) (xu : Nat) (v1 : Int32)
    (h : ∃ (r1 : Int32) (I1 : Nat → Nat → Int32) (L1 : Nat → Nat → Int64) (D1 : Nat → Nat → UInt64), am_Rn ext d 32 [.ref 2, .int v1] (I, L, D, am_rf (2, 11, xi, xp, xu, xc)) (some (.int r1), (I1, L1, D1, am_rf (2, 11, xi, xp, xu, xc))) ∧ (∃ (r2 : Int32) (I2 : Nat → Nat → Int32) (L2 : Nat → Nat → Int64) (D2 : Nat → Nat → UInt64), am_Rn ext d 33 [.ref 2, .int r1] (I1, L1, D1, am_rf (2, 11, xi, xp, xu, xc)) (some (.int r2), (I2, L2, D2, am_rf (2, 11, xi, xp, xu, xc))) ∧ (((r2 = 0 → (P (some (.int (-1)), (I2, L2, D2, am_rf (2, 11, xi, xp, xu, xc))))) ∧ (¬ r2 = 0 → (P (some (.int r1), (I2, L2, D2, am_rf (2, 11, xi, xp, xu, xc))))))))) : am_wp ext d mz_112 (0, [some (.ref 0), some (.int v1), none], [], (I, L, D, am_rf (2, 11, xi, xp, xu, xc))) P := by
  refine am_wpb (c' := (5, [some (.ref 0), some (.int v1), none], [.int v1, .ref 2], (I, L, D, am_rf (2, 11, xi, xp, xu, xc)))) 3 rfl ?_
  obtain ⟨r1, I1, L1, D1, hr, h⟩ := h
  refine am_wp_inv (as := [.ref 2, .int v1]) rfl rfl rfl rfl ⟨_, hr, ?_⟩
  show am_wp ext d mz_112 (8, [some (.ref 0), some (.int v1), none], [.int r1], (I1, L1, D1, am_rf (2, 11, xi, xp, xu, xc))) P
  refine am_wpb (c' := (14, [some (.ref 0), some (.int v1), some (.int r1)], [.int r1, .ref 2], (I1, L1, D1, am_rf (2, 11, xi, xp, xu, xc)))) 4 rfl ?_
  obtain ⟨r2, I2, L2, D2, hr, h⟩ := h
  refine am_wp_inv (as := [.ref 2, .int r1]) rfl rfl rfl rfl ⟨_, hr, ?_⟩
  show am_wp ext d mz_112 (17, [some (.ref 0), some (.int v1), some (.int r1)], [.int r2], (I2, L2, D2, am_rf (2, 11, xi, xp, xu, xc))) P
  refine am_b1_eq rfl (fun z => ?_) (fun z => ?_)
  · replace h := h.1 z
    refine am_wpb (c' := (25, [some (.ref 0), some (.int v1), some (.int r1)], [.int (-1)], (I2, L2, D2, am_rf (2, 11, xi, xp, xu, xc)))) 1 rfl ?_
    exact am_ret_i rfl rfl h
  · replace h := h.2 z
    refine am_wpb (c' := (25, [some (.ref 0), some (.int v1), some (.int r1)], [.int r1], (I2, L2, D2, am_rf (2, 11, xi, xp, xu, xc)))) 2 rfl ?_
    exact am_ret_i rfl rfl h
/-- SureSums.bitsFit(I)Z -/
def mz_113 : am_Y := (fun pc => am_q113.lookup pc, 1, 2)
theorem mh_113 : am_Ys 113 = some mz_113 := rfl
theorem w113_0 {ext : Nat → List Value → am_M → Option am_R} {d : Nat} {P : am_R → Prop} (I : Nat → Nat → Int32) (L : Nat → Nat → Int64) (D : Nat → Nat → UInt64) (X : am_Rf) (v0 : Int32)
    (h : ((v0 < 4 → (P (some (.int 0), (I, L, D, am_rf X)))) ∧ (¬ v0 < 4 → (((20 < v0 → (P (some (.int 0), (I, L, D, am_rf X)))) ∧ (¬ 20 < v0 → (P (some (.int 1), (I, L, D, am_rf X))))))))) : am_wp ext d mz_113 (0, [some (.int v0)], [], (I, L, D, am_rf X)) P := by
  refine am_wpb (c' := (2, [some (.int v0)], [.int 4, .int v0], (I, L, D, am_rf X))) 2 rfl ?_
  refine am_b2_lt rfl (fun z => ?_) (fun z => ?_)
  · replace h := h.1 z
    refine am_wpb (c' := (16, [some (.int v0)], [.int 0], (I, L, D, am_rf X))) 1 rfl ?_
    exact am_ret_z rfl rfl (Or.inl rfl) h
  · replace h := h.2 z
    refine am_wpb (c' := (8, [some (.int v0)], [.int 20, .int v0], (I, L, D, am_rf X))) 2 rfl ?_
    refine am_b2_gt rfl (fun z => ?_) (fun z => ?_)
    · replace h := h.1 z
      refine am_wpb (c' := (16, [some (.int v0)], [.int 0], (I, L, D, am_rf X))) 1 rfl ?_
      exact am_ret_z rfl rfl (Or.inl rfl) h
    · replace h := h.2 z
      refine am_wpb (c' := (16, [some (.int v0)], [.int 1], (I, L, D, am_rf X))) 2 rfl ?_
      exact am_ret_z rfl rfl (Or.inr rfl) h
/-- SureSums.squareFits(I)Z -/
def mz_114 : am_Y := (fun pc => am_q114.lookup pc, 1, 2)
theorem mh_114 : am_Ys 114 = some mz_114 := rfl
theorem w114_0 {ext : Nat → List Value → am_M → Option am_R} {d : Nat} {P : am_R → Prop} (I : Nat → Nat → Int32) (L : Nat → Nat → Int64) (D : Nat → Nat → UInt64) (X : am_Rf) (v0 : Int32)
    (h : ((v0 < (-64) → (P (some (.int 0), (I, L, D, am_rf X)))) ∧ (¬ v0 < (-64) → (((63 < v0 → (P (some (.int 0), (I, L, D, am_rf X)))) ∧ (¬ 63 < v0 → (P (some (.int 1), (I, L, D, am_rf X))))))))) : am_wp ext d mz_114 (0, [some (.int v0)], [], (I, L, D, am_rf X)) P := by
  refine am_wpb (c' := (3, [some (.int v0)], [.int (-64), .int v0], (I, L, D, am_rf X))) 2 rfl ?_
  refine am_b2_lt rfl (fun z => ?_) (fun z => ?_)
  · replace h := h.1 z
    refine am_wpb (c' := (17, [some (.int v0)], [.int 0], (I, L, D, am_rf X))) 1 rfl ?_
    exact am_ret_z rfl rfl (Or.inl rfl) h
  · replace h := h.2 z
    refine am_wpb (c' := (9, [some (.int v0)], [.int 63, .int v0], (I, L, D, am_rf X))) 2 rfl ?_
    refine am_b2_gt rfl (fun z => ?_) (fun z => ?_)
    · replace h := h.1 z
      refine am_wpb (c' := (17, [some (.int v0)], [.int 0], (I, L, D, am_rf X))) 1 rfl ?_
      exact am_ret_z rfl rfl (Or.inl rfl) h
    · replace h := h.2 z
      refine am_wpb (c' := (17, [some (.int v0)], [.int 1], (I, L, D, am_rf X))) 2 rfl ?_
      exact am_ret_z rfl rfl (Or.inr rfl) h
/-- SureSumsModel.thrown()I -/
def mz_115 : am_Y := (fun pc => am_q115.lookup pc, 1, 1)
theorem mh_115 : am_Ys 115 = some mz_115 := rfl
theorem w115_0 {ext : Nat → List Value → am_M → Option am_R} {d : Nat} {P : am_R → Prop} (I : Nat → Nat → Int32) (L : Nat → Nat → Int64) (D : Nat → Nat → UInt64) (X : am_Rf)
    (h : P (some (.int (I 42 2)), (I, L, D, am_rf X))) : am_wp ext d mz_115 (0, [some (.ref 42)], [], (I, L, D, am_rf X)) P := by
  refine am_wpb (c' := (4, [some (.ref 42)], [.int (I 42 2)], (I, L, D, am_rf X))) 2 rfl ?_
  exact am_ret_i rfl rfl h
/-- SureSumsModel.feed(IIIII)I -/
def mz_116 : am_Y := (fun pc => am_q116.lookup pc, 8, 1)
theorem mh_116 : am_Ys 116 = some mz_116 := rfl
theorem w116_0 {ext : Nat → List Value → am_M → Option am_R} {d : Nat} {P : am_R → Prop} (I : Nat → Nat → Int32) (L : Nat → Nat → Int64) (D : Nat → Nat → UInt64) (X : am_Rf) (v1 : Int32) (v2 : Int32) (v3 : Int32) (v4 : Int32) (v5 : Int32)
    (h : ((((I 42 1) + 20) ≤ 500 → (am_wp ext d mz_116 (23, [some (.ref 42), some (.int v1), some (.int v2), some (.int v3), some (.int v4), some (.int v5), some (.int 0), none], [], (am_uI I 42 2 0, L, D, am_rf X)) P)) ∧ (¬ ((I 42 1) + 20) ≤ 500 → (P (some (.int (-1)), (am_uI I 42 2 0, L, D, am_rf X)))))) : am_wp ext d mz_116 (0, [some (.ref 42), some (.int v1), some (.int v2), some (.int v3), some (.int v4), some (.int v5), none, none], [], (I, L, D, am_rf X)) P := by
  refine am_wpb (c' := (15, [some (.ref 42), some (.int v1), some (.int v2), some (.int v3), some (.int v4), some (.int v5), none, none], [.int 500, .int ((I 42 1) + 20)], (am_uI I 42 2 0, L, D, am_rf X))) 8 rfl ?_
  refine am_b2_le rfl (fun z => ?_) (fun z => ?_)
  · replace h := h.1 z
    refine am_wpb (c' := (23, [some (.ref 42), some (.int v1), some (.int v2), some (.int v3), some (.int v4), some (.int v5), some (.int 0), none], [], (am_uI I 42 2 0, L, D, am_rf X))) 2 rfl ?_
    exact h
  · replace h := h.2 z
    refine am_wpb (c' := (19, [some (.ref 42), some (.int v1), some (.int v2), some (.int v3), some (.int v4), some (.int v5), none, none], [.int (-1)], (am_uI I 42 2 0, L, D, am_rf X))) 1 rfl ?_
    exact am_ret_i rfl rfl h
theorem w116_23 {ext : Nat → List Value → am_M → Option am_R} {d : Nat} {P : am_R → Prop} (I : Nat → Nat → Int32) (L : Nat → Nat → Int64) (D : Nat → Nat → UInt64) (X : am_Rf) (v1 : Int32) (v2 : Int32) (v3 : Int32) (v4 : Int32) (v5 : Int32) (v6 : Int32)
    (h : ((20 ≤ v6 → (P (some (.int ((I 42 1) + 20)), (am_uI I 42 1 ((I 42 1) + 20), L, D, am_rf X)))) ∧ (¬ 20 ≤ v6 → (((4 ≤ v6 → (((8 ≤ v6 → (((12 ≤ v6 → (((16 ≤ v6 → (am_wp ext d mz_116 (76, [some (.ref 42), some (.int v1), some (.int v2), some (.int v3), some (.int v4), some (.int v5), some (.int v6), none], [.int v5], (I, L, D, am_rf X)) P)) ∧ (¬ 16 ≤ v6 → (am_wp ext d mz_116 (76, [some (.ref 42), some (.int v1), some (.int v2), some (.int v3), some (.int v4), some (.int v5), some (.int v6), none], [.int v4], (I, L, D, am_rf X)) P))))) ∧ (¬ 12 ≤ v6 → (am_wp ext d mz_116 (76, [some (.ref 42), some (.int v1), some (.int v2), some (.int v3), some (.int v4), some (.int v5), some (.int v6), none], [.int v3], (I, L, D, am_rf X)) P))))) ∧ (¬ 8 ≤ v6 → (am_wp ext d mz_116 (76, [some (.ref 42), some (.int v1), some (.int v2), some (.int v3), some (.int v4), some (.int v5), some (.int v6), none], [.int v2], (I, L, D, am_rf X)) P))))) ∧ (¬ 4 ≤ v6 → (am_wp ext d mz_116 (76, [some (.ref 42), some (.int v1), some (.int v2), some (.int v3), some (.int v4), some (.int v5), some (.int v6), none], [.int v1], (I, L, D, am_rf X)) P))))))) : am_wp ext d mz_116 (23, [some (.ref 42), some (.int v1), some (.int v2), some (.int v3), some (.int v4), some (.int v5), some (.int v6), none], [], (I, L, D, am_rf X)) P := by
  refine am_wpb (c' := (27, [some (.ref 42), some (.int v1), some (.int v2), some (.int v3), some (.int v4), some (.int v5), some (.int v6), none], [.int 20, .int v6], (I, L, D, am_rf X))) 2 rfl ?_
  refine am_b2_ge rfl (fun z => ?_) (fun z => ?_)
  · replace h := h.1 z
    refine am_wpb (c' := (128, [some (.ref 42), some (.int v1), some (.int v2), some (.int v3), some (.int v4), some (.int v5), some (.int v6), none], [.int ((I 42 1) + 20)], (am_uI I 42 1 ((I 42 1) + 20), L, D, am_rf X))) 8 rfl ?_
    exact am_ret_i rfl rfl h
  · replace h := h.2 z
    refine am_wpb (c' := (33, [some (.ref 42), some (.int v1), some (.int v2), some (.int v3), some (.int v4), some (.int v5), some (.int v6), none], [.int 4, .int v6], (I, L, D, am_rf X))) 2 rfl ?_
    refine am_b2_ge rfl (fun z => ?_) (fun z => ?_)
    · replace h := h.1 z
      refine am_wpb (c' := (44, [some (.ref 42), some (.int v1), some (.int v2), some (.int v3), some (.int v4), some (.int v5), some (.int v6), none], [.int 8, .int v6], (I, L, D, am_rf X))) 2 rfl ?_
      refine am_b2_ge rfl (fun z => ?_) (fun z => ?_)
      · replace h := h.1 z
        refine am_wpb (c' := (55, [some (.ref 42), some (.int v1), some (.int v2), some (.int v3), some (.int v4), some (.int v5), some (.int v6), none], [.int 12, .int v6], (I, L, D, am_rf X))) 2 rfl ?_
        refine am_b2_ge rfl (fun z => ?_) (fun z => ?_)
        · replace h := h.1 z
          refine am_wpb (c' := (66, [some (.ref 42), some (.int v1), some (.int v2), some (.int v3), some (.int v4), some (.int v5), some (.int v6), none], [.int 16, .int v6], (I, L, D, am_rf X))) 2 rfl ?_
          refine am_b2_ge rfl (fun z => ?_) (fun z => ?_)
          · replace h := h.1 z
            refine am_wpb (c' := (76, [some (.ref 42), some (.int v1), some (.int v2), some (.int v3), some (.int v4), some (.int v5), some (.int v6), none], [.int v5], (I, L, D, am_rf X))) 1 rfl ?_
            exact h
          · replace h := h.2 z
            refine am_wpb (c' := (76, [some (.ref 42), some (.int v1), some (.int v2), some (.int v3), some (.int v4), some (.int v5), some (.int v6), none], [.int v4], (I, L, D, am_rf X))) 2 rfl ?_
            exact h
        · replace h := h.2 z
          refine am_wpb (c' := (76, [some (.ref 42), some (.int v1), some (.int v2), some (.int v3), some (.int v4), some (.int v5), some (.int v6), none], [.int v3], (I, L, D, am_rf X))) 2 rfl ?_
          exact h
      · replace h := h.2 z
        refine am_wpb (c' := (76, [some (.ref 42), some (.int v1), some (.int v2), some (.int v3), some (.int v4), some (.int v5), some (.int v6), none], [.int v2], (I, L, D, am_rf X))) 2 rfl ?_
        exact h
    · replace h := h.2 z
      refine am_wpb (c' := (76, [some (.ref 42), some (.int v1), some (.int v2), some (.int v3), some (.int v4), some (.int v5), some (.int v6), none], [.int v1], (I, L, D, am_rf X))) 2 rfl ?_
      exact h
theorem w116_76 {ext : Nat → List Value → am_M → Option am_R} {d : Nat} {P : am_R → Prop} (I : Nat → Nat → Int32) (L : Nat → Nat → Int64) (D : Nat → Nat → UInt64) (X : am_Rf) (v1 : Int32) (v2 : Int32) (v3 : Int32) (v4 : Int32) (v5 : Int32) (v6 : Int32) (s0 : Int32)
    (h : am_inb ((I 42 1) + v6) 500 = true ∧ (am_wp ext d mz_116 (23, [some (.ref 42), some (.int v1), some (.int v2), some (.int v3), some (.int v4), some (.int v5), some (.int (v6 + 1)), none], [], (am_uI I 43 (Int32.toNatClampNeg ((I 42 1) + v6)) ((s0 >>> ((24 - (8 * (v6 - v6 / 4 * 4))) &&& 31)) &&& 255), L, D, am_rf X)) P)) : am_wp ext d mz_116 (76, [some (.ref 42), some (.int v1), some (.int v2), some (.int v3), some (.int v4), some (.int v5), some (.int v6), none], [.int s0], (I, L, D, am_rf X)) P := by
  refine am_wpb (c' := (98, [some (.ref 42), some (.int v1), some (.int v2), some (.int v3), some (.int v4), some (.int v5), some (.int v6), some (.int s0)], [.int 4, .int v6, .int 8, .int 24, .int s0, .int ((I 42 1) + v6), .ref 43], (I, L, D, am_rf X))) 12 rfl ?_
  refine am_wps (c' := (99, [some (.ref 42), some (.int v1), some (.int v2), some (.int v3), some (.int v4), some (.int v5), some (.int v6), some (.int s0)], [.int (v6 - v6 / 4 * 4), .int 8, .int 24, .int s0, .int ((I 42 1) + v6), .ref 43], (I, L, D, am_rf X))) rfl rfl (am_s_irem (by decide)) ?_
  refine am_wpb (c' := (106, [some (.ref 42), some (.int v1), some (.int v2), some (.int v3), some (.int v4), some (.int v5), some (.int v6), some (.int s0)], [.int ((s0 >>> ((24 - (8 * (v6 - v6 / 4 * 4))) &&& 31)) &&& 255), .int ((I 42 1) + v6), .ref 43], (I, L, D, am_rf X))) 5 rfl ?_
  obtain ⟨o, h⟩ := h
  refine am_wps (c' := (107, [some (.ref 42), some (.int v1), some (.int v2), some (.int v3), some (.int v4), some (.int v5), some (.int v6), some (.int s0)], [], (am_uI I 43 (Int32.toNatClampNeg ((I 42 1) + v6)) ((s0 >>> ((24 - (8 * (v6 - v6 / 4 * 4))) &&& 31)) &&& 255), L, D, am_rf X))) rfl rfl (am_s_iast rfl o) ?_
  refine am_wpb (c' := (23, [some (.ref 42), some (.int v1), some (.int v2), some (.int v3), some (.int v4), some (.int v5), some (.int (v6 + 1)), some (.int s0)], [], (am_uI I 43 (Int32.toNatClampNeg ((I 42 1) + v6)) ((s0 >>> ((24 - (8 * (v6 - v6 / 4 * 4))) &&& 31)) &&& 255), L, D, am_rf X))) 2 rfl ?_
  exact am_fgt (l := [some (.ref 42), some (.int v1), some (.int v2), some (.int v3), some (.int v4), some (.int v5), some (.int (v6 + 1)), none]) (am_le_of (am_leS (am_leS (am_leS (am_leS (am_leS (am_leS (am_leS (am_leN (am_leZ)))))))))) h
/-- SureSumsModel.isIn(III)Z -/
def mz_117 : am_Y := (fun pc => am_q117.lookup pc, 3, 2)
theorem mh_117 : am_Ys 117 = some mz_117 := rfl
theorem w117_0 {ext : Nat → List Value → am_M → Option am_R} {d : Nat} {P : am_R → Prop} (I : Nat → Nat → Int32) (L : Nat → Nat → Int64) (D : Nat → Nat → UInt64) (X : am_Rf) (v0 : Int32) (v1 : Int32) (v2 : Int32)
    (h : ((v0 < v1 → (P (some (.int 0), (I, L, D, am_rf X)))) ∧ (¬ v0 < v1 → (((v2 < v0 → (P (some (.int 0), (I, L, D, am_rf X)))) ∧ (¬ v2 < v0 → (P (some (.int 1), (I, L, D, am_rf X))))))))) : am_wp ext d mz_117 (0, [some (.int v0), some (.int v1), some (.int v2)], [], (I, L, D, am_rf X)) P := by
  refine am_wpb (c' := (2, [some (.int v0), some (.int v1), some (.int v2)], [.int v1, .int v0], (I, L, D, am_rf X))) 2 rfl ?_
  refine am_b2_lt rfl (fun z => ?_) (fun z => ?_)
  · replace h := h.1 z
    refine am_wpb (c' := (15, [some (.int v0), some (.int v1), some (.int v2)], [.int 0], (I, L, D, am_rf X))) 1 rfl ?_
    exact am_ret_z rfl rfl (Or.inl rfl) h
  · replace h := h.2 z
    refine am_wpb (c' := (7, [some (.int v0), some (.int v1), some (.int v2)], [.int v2, .int v0], (I, L, D, am_rf X))) 2 rfl ?_
    refine am_b2_gt rfl (fun z => ?_) (fun z => ?_)
    · replace h := h.1 z
      refine am_wpb (c' := (15, [some (.int v0), some (.int v1), some (.int v2)], [.int 0], (I, L, D, am_rf X))) 1 rfl ?_
      exact am_ret_z rfl rfl (Or.inl rfl) h
    · replace h := h.2 z
      refine am_wpb (c' := (15, [some (.int v0), some (.int v1), some (.int v2)], [.int 1], (I, L, D, am_rf X))) 2 rfl ?_
      exact am_ret_z rfl rfl (Or.inr rfl) h
/-- SureSumsModel.wrong(I)Z -/
def mz_118 : am_Y := (fun pc => am_q118.lookup pc, 2, 2)
theorem mh_118 : am_Ys 118 = some mz_118 := rfl
theorem w118_0 {ext : Nat → List Value → am_M → Option am_R} {d : Nat} {P : am_R → Prop} (I : Nat → Nat → Int32) (L : Nat → Nat → Int64) (D : Nat → Nat → UInt64) (X : am_Rf) (v1 : Int32)
    (h : P (some (.int 0), (am_uI (am_uI I 42 4 v1) 42 5 (I 42 10), L, D, am_rf X))) : am_wp ext d mz_118 (0, [some (.ref 42), some (.int v1)], [], (I, L, D, am_rf X)) P := by
  refine am_wpb (c' := (14, [some (.ref 42), some (.int v1)], [.int 0], (am_uI (am_uI I 42 4 v1) 42 5 (I 42 10), L, D, am_rf X))) 8 rfl ?_
  exact am_ret_z rfl rfl (Or.inl rfl) h
/-- SureSumsModel.wordAt(II)I -/
def mz_119 : am_Y := (fun pc => am_q119.lookup pc, 8, 1)
theorem mh_119 : am_Ys 119 = some mz_119 := rfl
theorem w119_0 {ext : Nat → List Value → am_M → Option am_R} {d : Nat} {P : am_R → Prop} (I : Nat → Nat → Int32) (L : Nat → Nat → Int64) (D : Nat → Nat → UInt64) (X : am_Rf) (v1 : Int32) (v2 : Int32)
    (h : am_wp ext d mz_119 (5, [some (.ref 42), some (.int v1), some (.int v2), some (.int 0), some (.int 0), none, none, none], [], (I, L, D, am_rf X)) P) : am_wp ext d mz_119 (0, [some (.ref 42), some (.int v1), some (.int v2), none, none, none, none, none], [], (I, L, D, am_rf X)) P := by
  refine am_wpb (c' := (5, [some (.ref 42), some (.int v1), some (.int v2), some (.int 0), some (.int 0), none, none, none], [], (I, L, D, am_rf X))) 4 rfl ?_
  exact h
theorem w119_5 {ext : Nat → List Value → am_M → Option am_R} {d : Nat} {P : am_R → Prop} (I : Nat → Nat → Int32) (L : Nat → Nat → Int64) (D : Nat → Nat → UInt64) (X : am_Rf) (v1 : Int32) (v2 : Int32) (v3 : Int32) (v4 : Int32)
    (h : ((51 ≤ v4 → (P (some (.int (-1)), (I, L, D, am_rf X)))) ∧ (¬ 51 ≤ v4 → (am_wp ext d mz_119 (18, [some (.ref 42), some (.int v1), some (.int v2), some (.int v3), some (.int v4), some (.int 0), none, none], [], (I, L, D, am_rf X)) P)))) : am_wp ext d mz_119 (5, [some (.ref 42), some (.int v1), some (.int v2), some (.int v3), some (.int v4), none, none, none], [], (I, L, D, am_rf X)) P := by
  refine am_wpb (c' := (12, [some (.ref 42), some (.int v1), some (.int v2), some (.int v3), some (.int v4), none, none, none], [.int 51, .int v4], (I, L, D, am_rf X))) 4 rfl ?_
  refine am_b2_ge rfl (fun z => ?_) (fun z => ?_)
  · replace h := h.1 z
    refine am_wpb (c' := (127, [some (.ref 42), some (.int v1), some (.int v2), some (.int v3), some (.int v4), none, none, none], [.int (-1)], (I, L, D, am_rf X))) 1 rfl ?_
    exact am_ret_i rfl rfl h
  · replace h := h.2 z
    refine am_wpb (c' := (18, [some (.ref 42), some (.int v1), some (.int v2), some (.int v3), some (.int v4), some (.int 0), none, none], [], (I, L, D, am_rf X))) 2 rfl ?_
    exact h
theorem w119_18 {ext : Nat → List Value → am_M → Option am_R} {d : Nat} {P : am_R → Prop} (I : Nat → Nat → Int32) (L : Nat → Nat → Int64) (D : Nat → Nat → UInt64) (X : am_Rf) (v1 : Int32) (v2 : Int32) (v3 : Int32) (v4 : Int32) (v5 : Int32)
    (h : am_inb (v4 + v5) 51 = true ∧ ((((I 44 (Int32.toNatClampNeg (v4 + v5))) = 32 → (((¬ v5 = (v2 - v1) → (am_wp ext d mz_119 (57, [some (.ref 42), some (.int v1), some (.int v2), some (.int v3), some (.int v4), some (.int v5), some (.int 0), some (.int 0)], [], (I, L, D, am_rf X)) P)) ∧ (v5 = (v2 - v1) → (am_wp ext d mz_119 (57, [some (.ref 42), some (.int v1), some (.int v2), some (.int v3), some (.int v4), some (.int v5), some (.int 1), some (.int 0)], [], (I, L, D, am_rf X)) P))))) ∧ (¬ (I 44 (Int32.toNatClampNeg (v4 + v5))) = 32 → (am_wp ext d mz_119 (18, [some (.ref 42), some (.int v1), some (.int v2), some (.int v3), some (.int v4), some (.int (v5 + 1)), none, none], [], (I, L, D, am_rf X)) P))))) : am_wp ext d mz_119 (18, [some (.ref 42), some (.int v1), some (.int v2), some (.int v3), some (.int v4), some (.int v5), none, none], [], (I, L, D, am_rf X)) P := by
  refine am_wpb (c' := (27, [some (.ref 42), some (.int v1), some (.int v2), some (.int v3), some (.int v4), some (.int v5), none, none], [.int (v4 + v5), .ref 44], (I, L, D, am_rf X))) 5 rfl ?_
  obtain ⟨o, h⟩ := h
  refine am_wps (c' := (28, [some (.ref 42), some (.int v1), some (.int v2), some (.int v3), some (.int v4), some (.int v5), none, none], [.int (I 44 (Int32.toNatClampNeg (v4 + v5)))], (I, L, D, am_rf X))) rfl rfl (am_s_iald rfl o) ?_
  refine am_wpb (c' := (30, [some (.ref 42), some (.int v1), some (.int v2), some (.int v3), some (.int v4), some (.int v5), none, none], [.int 32, .int (I 44 (Int32.toNatClampNeg (v4 + v5)))], (I, L, D, am_rf X))) 1 rfl ?_
  refine am_b2_eq rfl (fun z => ?_) (fun z => ?_)
  · replace h := h.1 z
    refine am_wpb (c' := (44, [some (.ref 42), some (.int v1), some (.int v2), some (.int v3), some (.int v4), some (.int v5), none, none], [.int (v2 - v1), .int v5], (I, L, D, am_rf X))) 4 rfl ?_
    refine am_b2_ne rfl (fun z => ?_) (fun z => ?_)
    · replace h := h.1 z
      refine am_wpb (c' := (57, [some (.ref 42), some (.int v1), some (.int v2), some (.int v3), some (.int v4), some (.int v5), some (.int 0), some (.int 0)], [], (I, L, D, am_rf X))) 4 rfl ?_
      exact h
    · replace h := h.2 z
      refine am_wpb (c' := (57, [some (.ref 42), some (.int v1), some (.int v2), some (.int v3), some (.int v4), some (.int v5), some (.int 1), some (.int 0)], [], (I, L, D, am_rf X))) 5 rfl ?_
      exact h
  · replace h := h.2 z
    refine am_wpb (c' := (18, [some (.ref 42), some (.int v1), some (.int v2), some (.int v3), some (.int v4), some (.int (v5 + 1)), none, none], [], (I, L, D, am_rf X))) 2 rfl ?_
    exact h
theorem w119_57 {ext : Nat → List Value → am_M → Option am_R} {d : Nat} {P : am_R → Prop} (I : Nat → Nat → Int32) (L : Nat → Nat → Int64) (D : Nat → Nat → UInt64) (X : am_Rf) (v1 : Int32) (v2 : Int32) (v3 : Int32) (v4 : Int32) (v5 : Int32) (v6 : Int32) (v7 : Int32)
    (h : ((v5 ≤ v7 → (((v6 = 0 → (am_wp ext d mz_119 (5, [some (.ref 42), some (.int v1), some (.int v2), some (.int (v3 + 1)), some (.int (v4 + (v5 + 1))), none, none, none], [], (I, L, D, am_rf X)) P)) ∧ (¬ v6 = 0 → (P (some (.int v3), (I, L, D, am_rf X))))))) ∧ (¬ v5 ≤ v7 → (((v6 = 0 → (((v6 = 0 → (am_wp ext d mz_119 (5, [some (.ref 42), some (.int v1), some (.int v2), some (.int (v3 + 1)), some (.int (v4 + (v5 + 1))), none, none, none], [], (I, L, D, am_rf X)) P)) ∧ (¬ v6 = 0 → (P (some (.int v3), (I, L, D, am_rf X))))))) ∧ (¬ v6 = 0 → (am_inb (v4 + v7) 51 = true ∧ (am_inb (v1 + v7) 500 = true ∧ (((¬ (I 44 (Int32.toNatClampNeg (v4 + v7))) = (I 43 (Int32.toNatClampNeg (v1 + v7))) → (am_wp ext d mz_119 (57, [some (.ref 42), some (.int v1), some (.int v2), some (.int v3), some (.int v4), some (.int v5), some (.int 0), some (.int (v7 + 1))], [], (I, L, D, am_rf X)) P)) ∧ ((I 44 (Int32.toNatClampNeg (v4 + v7))) = (I 43 (Int32.toNatClampNeg (v1 + v7))) → (am_wp ext d mz_119 (57, [some (.ref 42), some (.int v1), some (.int v2), some (.int v3), some (.int v4), some (.int v5), some (.int 1), some (.int (v7 + 1))], [], (I, L, D, am_rf X)) P)))))))))))) : am_wp ext d mz_119 (57, [some (.ref 42), some (.int v1), some (.int v2), some (.int v3), some (.int v4), some (.int v5), some (.int v6), some (.int v7)], [], (I, L, D, am_rf X)) P := by
  refine am_wpb (c' := (61, [some (.ref 42), some (.int v1), some (.int v2), some (.int v3), some (.int v4), some (.int v5), some (.int v6), some (.int v7)], [.int v5, .int v7], (I, L, D, am_rf X))) 2 rfl ?_
  refine am_b2_ge rfl (fun z => ?_) (fun z => ?_)
  · replace h := h.1 z
    refine am_wpb (c' := (106, [some (.ref 42), some (.int v1), some (.int v2), some (.int v3), some (.int v4), some (.int v5), some (.int v6), some (.int v7)], [.int v6], (I, L, D, am_rf X))) 1 rfl ?_
    refine am_b1_eq rfl (fun z => ?_) (fun z => ?_)
    · replace h := h.1 z
      refine am_wpb (c' := (5, [some (.ref 42), some (.int v1), some (.int v2), some (.int (v3 + 1)), some (.int (v4 + (v5 + 1))), some (.int v5), some (.int v6), some (.int v7)], [], (I, L, D, am_rf X))) 8 rfl ?_
      exact am_fgt (l := [some (.ref 42), some (.int v1), some (.int v2), some (.int (v3 + 1)), some (.int (v4 + (v5 + 1))), none, none, none]) (am_le_of (am_leS (am_leS (am_leS (am_leS (am_leS (am_leN (am_leN (am_leN (am_leZ)))))))))) h
    · replace h := h.2 z
      refine am_wpb (c' := (110, [some (.ref 42), some (.int v1), some (.int v2), some (.int v3), some (.int v4), some (.int v5), some (.int v6), some (.int v7)], [.int v3], (I, L, D, am_rf X))) 1 rfl ?_
      exact am_ret_i rfl rfl h
  · replace h := h.2 z
    refine am_wpb (c' := (66, [some (.ref 42), some (.int v1), some (.int v2), some (.int v3), some (.int v4), some (.int v5), some (.int v6), some (.int v7)], [.int v6], (I, L, D, am_rf X))) 1 rfl ?_
    refine am_b1_eq rfl (fun z => ?_) (fun z => ?_)
    · replace h := h.1 z
      refine am_wpb (c' := (106, [some (.ref 42), some (.int v1), some (.int v2), some (.int v3), some (.int v4), some (.int v5), some (.int v6), some (.int v7)], [.int v6], (I, L, D, am_rf X))) 1 rfl ?_
      refine am_b1_eq rfl (fun z => ?_) (fun z => ?_)
      · replace h := h.1 z
        refine am_wpb (c' := (5, [some (.ref 42), some (.int v1), some (.int v2), some (.int (v3 + 1)), some (.int (v4 + (v5 + 1))), some (.int v5), some (.int v6), some (.int v7)], [], (I, L, D, am_rf X))) 8 rfl ?_
        exact am_fgt (l := [some (.ref 42), some (.int v1), some (.int v2), some (.int (v3 + 1)), some (.int (v4 + (v5 + 1))), none, none, none]) (am_le_of (am_leS (am_leS (am_leS (am_leS (am_leS (am_leN (am_leN (am_leN (am_leZ)))))))))) h
      · replace h := h.2 z
        refine am_wpb (c' := (110, [some (.ref 42), some (.int v1), some (.int v2), some (.int v3), some (.int v4), some (.int v5), some (.int v6), some (.int v7)], [.int v3], (I, L, D, am_rf X))) 1 rfl ?_
        exact am_ret_i rfl rfl h
    · replace h := h.2 z
      refine am_wpb (c' := (78, [some (.ref 42), some (.int v1), some (.int v2), some (.int v3), some (.int v4), some (.int v5), some (.int v6), some (.int v7)], [.int (v4 + v7), .ref 44], (I, L, D, am_rf X))) 5 rfl ?_
      obtain ⟨o, h⟩ := h
      refine am_wps (c' := (79, [some (.ref 42), some (.int v1), some (.int v2), some (.int v3), some (.int v4), some (.int v5), some (.int v6), some (.int v7)], [.int (I 44 (Int32.toNatClampNeg (v4 + v7)))], (I, L, D, am_rf X))) rfl rfl (am_s_iald rfl o) ?_
      refine am_wpb (c' := (87, [some (.ref 42), some (.int v1), some (.int v2), some (.int v3), some (.int v4), some (.int v5), some (.int v6), some (.int v7)], [.int (v1 + v7), .ref 43, .int (I 44 (Int32.toNatClampNeg (v4 + v7)))], (I, L, D, am_rf X))) 5 rfl ?_
      obtain ⟨o, h⟩ := h
      refine am_wps (c' := (88, [some (.ref 42), some (.int v1), some (.int v2), some (.int v3), some (.int v4), some (.int v5), some (.int v6), some (.int v7)], [.int (I 43 (Int32.toNatClampNeg (v1 + v7))), .int (I 44 (Int32.toNatClampNeg (v4 + v7)))], (I, L, D, am_rf X))) rfl rfl (am_s_iald rfl o) ?_
      refine am_b2_ne rfl (fun z => ?_) (fun z => ?_)
      · replace h := h.1 z
        refine am_wpb (c' := (57, [some (.ref 42), some (.int v1), some (.int v2), some (.int v3), some (.int v4), some (.int v5), some (.int 0), some (.int (v7 + 1))], [], (I, L, D, am_rf X))) 4 rfl ?_
        exact h
      · replace h := h.2 z
        refine am_wpb (c' := (57, [some (.ref 42), some (.int v1), some (.int v2), some (.int v3), some (.int v4), some (.int v5), some (.int 1), some (.int (v7 + 1))], [], (I, L, D, am_rf X))) 5 rfl ?_
        exact h
/-- SureSumsModel.isSmall(I)Z -/
def mz_120 : am_Y := (fun pc => am_q120.lookup pc, 2, 2)
theorem mh_120 : am_Ys 120 = some mz_120 := rfl
theorem w120_0 {ext : Nat → List Value → am_M → Option am_R} {d : Nat} {P : am_R → Prop} (I : Nat → Nat → Int32) (L : Nat → Nat → Int64) (D : Nat → Nat → UInt64) (X : am_Rf) (v1 : Int32)
    (h : (((I 42 6) ≤ v1 → (P (some (.int 0), (I, L, D, am_rf X)))) ∧ (¬ (I 42 6) ≤ v1 → (am_inb v1 500 = true ∧ ((((I 43 (Int32.toNatClampNeg v1)) < 97 → (P (some (.int 0), (I, L, D, am_rf X)))) ∧ (¬ (I 43 (Int32.toNatClampNeg v1)) < 97 → (am_inb v1 500 = true ∧ (((122 < (I 43 (Int32.toNatClampNeg v1)) → (P (some (.int 0), (I, L, D, am_rf X)))) ∧ (¬ 122 < (I 43 (Int32.toNatClampNeg v1)) → (P (some (.int 1), (I, L, D, am_rf X)))))))))))))) : am_wp ext d mz_120 (0, [some (.ref 42), some (.int v1)], [], (I, L, D, am_rf X)) P := by
  refine am_wpb (c' := (5, [some (.ref 42), some (.int v1)], [.int (I 42 6), .int v1], (I, L, D, am_rf X))) 3 rfl ?_
  refine am_b2_ge rfl (fun z => ?_) (fun z => ?_)
  · replace h := h.1 z
    refine am_wpb (c' := (35, [some (.ref 42), some (.int v1)], [.int 0], (I, L, D, am_rf X))) 1 rfl ?_
    exact am_ret_z rfl rfl (Or.inl rfl) h
  · replace h := h.2 z
    refine am_wpb (c' := (13, [some (.ref 42), some (.int v1)], [.int v1, .ref 43], (I, L, D, am_rf X))) 3 rfl ?_
    obtain ⟨o, h⟩ := h
    refine am_wps (c' := (14, [some (.ref 42), some (.int v1)], [.int (I 43 (Int32.toNatClampNeg v1))], (I, L, D, am_rf X))) rfl rfl (am_s_iald rfl o) ?_
    refine am_wpb (c' := (16, [some (.ref 42), some (.int v1)], [.int 97, .int (I 43 (Int32.toNatClampNeg v1))], (I, L, D, am_rf X))) 1 rfl ?_
    refine am_b2_lt rfl (fun z => ?_) (fun z => ?_)
    · replace h := h.1 z
      refine am_wpb (c' := (35, [some (.ref 42), some (.int v1)], [.int 0], (I, L, D, am_rf X))) 1 rfl ?_
      exact am_ret_z rfl rfl (Or.inl rfl) h
    · replace h := h.2 z
      refine am_wpb (c' := (24, [some (.ref 42), some (.int v1)], [.int v1, .ref 43], (I, L, D, am_rf X))) 3 rfl ?_
      obtain ⟨o, h⟩ := h
      refine am_wps (c' := (25, [some (.ref 42), some (.int v1)], [.int (I 43 (Int32.toNatClampNeg v1))], (I, L, D, am_rf X))) rfl rfl (am_s_iald rfl o) ?_
      refine am_wpb (c' := (27, [some (.ref 42), some (.int v1)], [.int 122, .int (I 43 (Int32.toNatClampNeg v1))], (I, L, D, am_rf X))) 1 rfl ?_
      refine am_b2_gt rfl (fun z => ?_) (fun z => ?_)
      · replace h := h.1 z
        refine am_wpb (c' := (35, [some (.ref 42), some (.int v1)], [.int 0], (I, L, D, am_rf X))) 1 rfl ?_
        exact am_ret_z rfl rfl (Or.inl rfl) h
      · replace h := h.2 z
        refine am_wpb (c' := (35, [some (.ref 42), some (.int v1)], [.int 1], (I, L, D, am_rf X))) 2 rfl ?_
        exact am_ret_z rfl rfl (Or.inr rfl) h
/-- SureSumsModel.isDigit(I)Z -/
def mz_121 : am_Y := (fun pc => am_q121.lookup pc, 2, 2)
theorem mh_121 : am_Ys 121 = some mz_121 := rfl
theorem w121_0 {ext : Nat → List Value → am_M → Option am_R} {d : Nat} {P : am_R → Prop} (I : Nat → Nat → Int32) (L : Nat → Nat → Int64) (D : Nat → Nat → UInt64) (X : am_Rf) (v1 : Int32)
    (h : (((I 42 6) ≤ v1 → (P (some (.int 0), (I, L, D, am_rf X)))) ∧ (¬ (I 42 6) ≤ v1 → (am_inb v1 500 = true ∧ ((((I 43 (Int32.toNatClampNeg v1)) < 48 → (P (some (.int 0), (I, L, D, am_rf X)))) ∧ (¬ (I 43 (Int32.toNatClampNeg v1)) < 48 → (am_inb v1 500 = true ∧ (((57 < (I 43 (Int32.toNatClampNeg v1)) → (P (some (.int 0), (I, L, D, am_rf X)))) ∧ (¬ 57 < (I 43 (Int32.toNatClampNeg v1)) → (P (some (.int 1), (I, L, D, am_rf X)))))))))))))) : am_wp ext d mz_121 (0, [some (.ref 42), some (.int v1)], [], (I, L, D, am_rf X)) P := by
  refine am_wpb (c' := (5, [some (.ref 42), some (.int v1)], [.int (I 42 6), .int v1], (I, L, D, am_rf X))) 3 rfl ?_
  refine am_b2_ge rfl (fun z => ?_) (fun z => ?_)
  · replace h := h.1 z
    refine am_wpb (c' := (35, [some (.ref 42), some (.int v1)], [.int 0], (I, L, D, am_rf X))) 1 rfl ?_
    exact am_ret_z rfl rfl (Or.inl rfl) h
  · replace h := h.2 z
    refine am_wpb (c' := (13, [some (.ref 42), some (.int v1)], [.int v1, .ref 43], (I, L, D, am_rf X))) 3 rfl ?_
    obtain ⟨o, h⟩ := h
    refine am_wps (c' := (14, [some (.ref 42), some (.int v1)], [.int (I 43 (Int32.toNatClampNeg v1))], (I, L, D, am_rf X))) rfl rfl (am_s_iald rfl o) ?_
    refine am_wpb (c' := (16, [some (.ref 42), some (.int v1)], [.int 48, .int (I 43 (Int32.toNatClampNeg v1))], (I, L, D, am_rf X))) 1 rfl ?_
    refine am_b2_lt rfl (fun z => ?_) (fun z => ?_)
    · replace h := h.1 z
      refine am_wpb (c' := (35, [some (.ref 42), some (.int v1)], [.int 0], (I, L, D, am_rf X))) 1 rfl ?_
      exact am_ret_z rfl rfl (Or.inl rfl) h
    · replace h := h.2 z
      refine am_wpb (c' := (24, [some (.ref 42), some (.int v1)], [.int v1, .ref 43], (I, L, D, am_rf X))) 3 rfl ?_
      obtain ⟨o, h⟩ := h
      refine am_wps (c' := (25, [some (.ref 42), some (.int v1)], [.int (I 43 (Int32.toNatClampNeg v1))], (I, L, D, am_rf X))) rfl rfl (am_s_iald rfl o) ?_
      refine am_wpb (c' := (27, [some (.ref 42), some (.int v1)], [.int 57, .int (I 43 (Int32.toNatClampNeg v1))], (I, L, D, am_rf X))) 1 rfl ?_
      refine am_b2_gt rfl (fun z => ?_) (fun z => ?_)
      · replace h := h.1 z
        refine am_wpb (c' := (35, [some (.ref 42), some (.int v1)], [.int 0], (I, L, D, am_rf X))) 1 rfl ?_
        exact am_ret_z rfl rfl (Or.inl rfl) h
      · replace h := h.2 z
        refine am_wpb (c' := (35, [some (.ref 42), some (.int v1)], [.int 1], (I, L, D, am_rf X))) 2 rfl ?_
        exact am_ret_z rfl rfl (Or.inr rfl) h
/-- SureSumsModel.isMark(I)Z -/
def mz_122 : am_Y := (fun pc => am_q122.lookup pc, 1, 2)
theorem mh_122 : am_Ys 122 = some mz_122 := rfl
theorem w122_0 {ext : Nat → List Value → am_M → Option am_R} {d : Nat} {P : am_R → Prop} (I : Nat → Nat → Int32) (L : Nat → Nat → Int64) (D : Nat → Nat → UInt64) (X : am_Rf) (v0 : Int32)
    (h : ((v0 = 43 → (P (some (.int 1), (I, L, D, am_rf X)))) ∧ (¬ v0 = 43 → (((v0 = 45 → (P (some (.int 1), (I, L, D, am_rf X)))) ∧ (¬ v0 = 45 → (((v0 = 42 → (P (some (.int 1), (I, L, D, am_rf X)))) ∧ (¬ v0 = 42 → (((v0 = 47 → (P (some (.int 1), (I, L, D, am_rf X)))) ∧ (¬ v0 = 47 → (((v0 = 61 → (P (some (.int 1), (I, L, D, am_rf X)))) ∧ (¬ v0 = 61 → (((v0 = 59 → (P (some (.int 1), (I, L, D, am_rf X)))) ∧ (¬ v0 = 59 → (((v0 = 40 → (P (some (.int 1), (I, L, D, am_rf X)))) ∧ (¬ v0 = 40 → (((v0 = 41 → (P (some (.int 1), (I, L, D, am_rf X)))) ∧ (¬ v0 = 41 → (((v0 = 44 → (P (some (.int 1), (I, L, D, am_rf X)))) ∧ (¬ v0 = 44 → (((v0 = 60 → (P (some (.int 1), (I, L, D, am_rf X)))) ∧ (¬ v0 = 60 → (((¬ v0 = 62 → (P (some (.int 0), (I, L, D, am_rf X)))) ∧ (v0 = 62 → (P (some (.int 1), (I, L, D, am_rf X)))))))))))))))))))))))))))))))))))) : am_wp ext d mz_122 (0, [some (.int v0)], [], (I, L, D, am_rf X)) P := by
  refine am_wpb (c' := (3, [some (.int v0)], [.int 43, .int v0], (I, L, D, am_rf X))) 2 rfl ?_
  refine am_b2_eq rfl (fun z => ?_) (fun z => ?_)
  · replace h := h.1 z
    refine am_wpb (c' := (71, [some (.int v0)], [.int 1], (I, L, D, am_rf X))) 2 rfl ?_
    exact am_ret_z rfl rfl (Or.inr rfl) h
  · replace h := h.2 z
    refine am_wpb (c' := (9, [some (.int v0)], [.int 45, .int v0], (I, L, D, am_rf X))) 2 rfl ?_
    refine am_b2_eq rfl (fun z => ?_) (fun z => ?_)
    · replace h := h.1 z
      refine am_wpb (c' := (71, [some (.int v0)], [.int 1], (I, L, D, am_rf X))) 2 rfl ?_
      exact am_ret_z rfl rfl (Or.inr rfl) h
    · replace h := h.2 z
      refine am_wpb (c' := (15, [some (.int v0)], [.int 42, .int v0], (I, L, D, am_rf X))) 2 rfl ?_
      refine am_b2_eq rfl (fun z => ?_) (fun z => ?_)
      · replace h := h.1 z
        refine am_wpb (c' := (71, [some (.int v0)], [.int 1], (I, L, D, am_rf X))) 2 rfl ?_
        exact am_ret_z rfl rfl (Or.inr rfl) h
      · replace h := h.2 z
        refine am_wpb (c' := (21, [some (.int v0)], [.int 47, .int v0], (I, L, D, am_rf X))) 2 rfl ?_
        refine am_b2_eq rfl (fun z => ?_) (fun z => ?_)
        · replace h := h.1 z
          refine am_wpb (c' := (71, [some (.int v0)], [.int 1], (I, L, D, am_rf X))) 2 rfl ?_
          exact am_ret_z rfl rfl (Or.inr rfl) h
        · replace h := h.2 z
          refine am_wpb (c' := (27, [some (.int v0)], [.int 61, .int v0], (I, L, D, am_rf X))) 2 rfl ?_
          refine am_b2_eq rfl (fun z => ?_) (fun z => ?_)
          · replace h := h.1 z
            refine am_wpb (c' := (71, [some (.int v0)], [.int 1], (I, L, D, am_rf X))) 2 rfl ?_
            exact am_ret_z rfl rfl (Or.inr rfl) h
          · replace h := h.2 z
            refine am_wpb (c' := (33, [some (.int v0)], [.int 59, .int v0], (I, L, D, am_rf X))) 2 rfl ?_
            refine am_b2_eq rfl (fun z => ?_) (fun z => ?_)
            · replace h := h.1 z
              refine am_wpb (c' := (71, [some (.int v0)], [.int 1], (I, L, D, am_rf X))) 2 rfl ?_
              exact am_ret_z rfl rfl (Or.inr rfl) h
            · replace h := h.2 z
              refine am_wpb (c' := (39, [some (.int v0)], [.int 40, .int v0], (I, L, D, am_rf X))) 2 rfl ?_
              refine am_b2_eq rfl (fun z => ?_) (fun z => ?_)
              · replace h := h.1 z
                refine am_wpb (c' := (71, [some (.int v0)], [.int 1], (I, L, D, am_rf X))) 2 rfl ?_
                exact am_ret_z rfl rfl (Or.inr rfl) h
              · replace h := h.2 z
                refine am_wpb (c' := (45, [some (.int v0)], [.int 41, .int v0], (I, L, D, am_rf X))) 2 rfl ?_
                refine am_b2_eq rfl (fun z => ?_) (fun z => ?_)
                · replace h := h.1 z
                  refine am_wpb (c' := (71, [some (.int v0)], [.int 1], (I, L, D, am_rf X))) 2 rfl ?_
                  exact am_ret_z rfl rfl (Or.inr rfl) h
                · replace h := h.2 z
                  refine am_wpb (c' := (51, [some (.int v0)], [.int 44, .int v0], (I, L, D, am_rf X))) 2 rfl ?_
                  refine am_b2_eq rfl (fun z => ?_) (fun z => ?_)
                  · replace h := h.1 z
                    refine am_wpb (c' := (71, [some (.int v0)], [.int 1], (I, L, D, am_rf X))) 2 rfl ?_
                    exact am_ret_z rfl rfl (Or.inr rfl) h
                  · replace h := h.2 z
                    refine am_wpb (c' := (57, [some (.int v0)], [.int 60, .int v0], (I, L, D, am_rf X))) 2 rfl ?_
                    refine am_b2_eq rfl (fun z => ?_) (fun z => ?_)
                    · replace h := h.1 z
                      refine am_wpb (c' := (71, [some (.int v0)], [.int 1], (I, L, D, am_rf X))) 2 rfl ?_
                      exact am_ret_z rfl rfl (Or.inr rfl) h
                    · replace h := h.2 z
                      refine am_wpb (c' := (63, [some (.int v0)], [.int 62, .int v0], (I, L, D, am_rf X))) 2 rfl ?_
                      refine am_b2_ne rfl (fun z => ?_) (fun z => ?_)
                      · replace h := h.1 z
                        refine am_wpb (c' := (71, [some (.int v0)], [.int 0], (I, L, D, am_rf X))) 1 rfl ?_
                        exact am_ret_z rfl rfl (Or.inl rfl) h
                      · replace h := h.2 z
                        refine am_wpb (c' := (71, [some (.int v0)], [.int 1], (I, L, D, am_rf X))) 2 rfl ?_
                        exact am_ret_z rfl rfl (Or.inr rfl) h
/-- SureSumsModel.take()V -/
def mz_123 : am_Y := (fun pc => am_q123.lookup pc, 2, 0)
theorem mh_123 : am_Ys 123 = some mz_123 := rfl
theorem w123_0 {ext : Nat → List Value → am_M → Option am_R} {d : Nat} {P : am_R → Prop} (I : Nat → Nat → Int32) (L : Nat → Nat → Int64) (D : Nat → Nat → UInt64) (X : am_Rf)
    (h : (((I 42 6) ≤ (I 42 7) → (am_wp ext d mz_123 (52, [some (.ref 42), none], [], (I, L, D, am_rf X)) P)) ∧ (¬ (I 42 6) ≤ (I 42 7) → (am_inb (I 42 7) 500 = true ∧ ((((I 43 (Int32.toNatClampNeg (I 42 7))) = 10 → (am_wp ext d mz_123 (0, [some (.ref 42), none], [], (am_uI I 42 7 ((I 42 7) + 1), L, D, am_rf X)) P)) ∧ (¬ (I 43 (Int32.toNatClampNeg (I 42 7))) = 10 → (am_inb (I 42 7) 500 = true ∧ (((¬ (I 43 (Int32.toNatClampNeg (I 42 7))) = 32 → (am_wp ext d mz_123 (52, [some (.ref 42), none], [], (I, L, D, am_rf X)) P)) ∧ ((I 43 (Int32.toNatClampNeg (I 42 7))) = 32 → (am_wp ext d mz_123 (0, [some (.ref 42), none], [], (am_uI I 42 7 ((I 42 7) + 1), L, D, am_rf X)) P)))))))))))) : am_wp ext d mz_123 (0, [some (.ref 42), none], [], (I, L, D, am_rf X)) P := by
  refine am_wpb (c' := (8, [some (.ref 42), none], [.int (I 42 6), .int (I 42 7)], (I, L, D, am_rf X))) 4 rfl ?_
  refine am_b2_ge rfl (fun z => ?_) (fun z => ?_)
  · replace h := h.1 z
    exact h
  · replace h := h.2 z
    refine am_wpb (c' := (19, [some (.ref 42), none], [.int (I 42 7), .ref 43], (I, L, D, am_rf X))) 4 rfl ?_
    obtain ⟨o, h⟩ := h
    refine am_wps (c' := (20, [some (.ref 42), none], [.int (I 43 (Int32.toNatClampNeg (I 42 7)))], (I, L, D, am_rf X))) rfl rfl (am_s_iald rfl o) ?_
    refine am_wpb (c' := (22, [some (.ref 42), none], [.int 10, .int (I 43 (Int32.toNatClampNeg (I 42 7)))], (I, L, D, am_rf X))) 1 rfl ?_
    refine am_b2_eq rfl (fun z => ?_) (fun z => ?_)
    · replace h := h.1 z
      refine am_wpb (c' := (0, [some (.ref 42), none], [], (am_uI I 42 7 ((I 42 7) + 1), L, D, am_rf X))) 7 rfl ?_
      exact h
    · replace h := h.2 z
      refine am_wpb (c' := (33, [some (.ref 42), none], [.int (I 42 7), .ref 43], (I, L, D, am_rf X))) 4 rfl ?_
      obtain ⟨o, h⟩ := h
      refine am_wps (c' := (34, [some (.ref 42), none], [.int (I 43 (Int32.toNatClampNeg (I 42 7)))], (I, L, D, am_rf X))) rfl rfl (am_s_iald rfl o) ?_
      refine am_wpb (c' := (36, [some (.ref 42), none], [.int 32, .int (I 43 (Int32.toNatClampNeg (I 42 7)))], (I, L, D, am_rf X))) 1 rfl ?_
      refine am_b2_ne rfl (fun z => ?_) (fun z => ?_)
      · replace h := h.1 z
        exact h
      · replace h := h.2 z
        refine am_wpb (c' := (0, [some (.ref 42), none], [], (am_uI I 42 7 ((I 42 7) + 1), L, D, am_rf X))) 7 rfl ?_
        exact h
theorem w123_52 {ext : Nat → List Value → am_M → Option am_R} {d : Nat} {P : am_R → Prop} (I : Nat → Nat → Int32) (L : Nat → Nat → Int64) (D : Nat → Nat → UInt64) (X : am_Rf)
    (h : ((¬ (I 42 7) = (I 42 6) → (∃ (r1 : Int32) (I1 : Nat → Nat → Int32) (L1 : Nat → Nat → Int64) (D1 : Nat → Nat → UInt64), am_Rn ext d 120 [.ref 42, .int (I 42 7)] (am_uI I 42 10 (I 42 7), L, D, am_rf X) (some (.int r1), (I1, L1, D1, am_rf X)) ∧ (((r1 = 0 → (∃ (r2 : Int32) (I2 : Nat → Nat → Int32) (L2 : Nat → Nat → Int64) (D2 : Nat → Nat → UInt64), am_Rn ext d 121 [.ref 42, .int (I1 42 7)] (I1, L1, D1, am_rf X) (some (.int r2), (I2, L2, D2, am_rf X)) ∧ (((r2 = 0 → (am_inb (I2 42 7) 500 = true ∧ (∃ (r3 : Int32) (I3 : Nat → Nat → Int32) (L3 : Nat → Nat → Int64) (D3 : Nat → Nat → UInt64), am_Rn ext d 122 [.int (I2 43 (Int32.toNatClampNeg (I2 42 7)))] (am_uI I2 42 9 (I2 43 (Int32.toNatClampNeg (I2 42 7))), L2, D2, am_rf X) (some (.int r3), (I3, L3, D3, am_rf X)) ∧ (((r3 = 0 → (P (none, (am_uI (am_uI I3 42 8 5) 42 7 ((I3 42 7) + 1), L3, D3, am_rf X)))) ∧ (¬ r3 = 0 → (P (none, (am_uI (am_uI I3 42 8 4) 42 7 ((I3 42 7) + 1), L3, D3, am_rf X))))))))) ∧ (¬ r2 = 0 → (am_wp ext d mz_123 (216, [some (.ref 42), none], [], (am_uI (am_uI I2 42 8 3) 42 9 0, L2, D2, am_rf X)) P)))))) ∧ (¬ r1 = 0 → (am_wp ext d mz_123 (90, [some (.ref 42), none], [], (I1, L1, D1, am_rf X)) P)))))) ∧ ((I 42 7) = (I 42 6) → (P (none, (am_uI (am_uI I 42 10 (I 42 7)) 42 8 0, L, D, am_rf X)))))) : am_wp ext d mz_123 (52, [some (.ref 42), none], [], (I, L, D, am_rf X)) P := by
  refine am_wpb (c' := (68, [some (.ref 42), none], [.int (I 42 6), .int (I 42 7)], (am_uI I 42 10 (I 42 7), L, D, am_rf X))) 8 rfl ?_
  refine am_b2_ne rfl (fun z => ?_) (fun z => ?_)
  · replace h := h.1 z
    refine am_wpb (c' := (84, [some (.ref 42), none], [.int (I 42 7), .ref 42], (am_uI I 42 10 (I 42 7), L, D, am_rf X))) 3 rfl ?_
    obtain ⟨r1, I1, L1, D1, hr, h⟩ := h
    refine am_wp_inv (as := [.ref 42, .int (I 42 7)]) rfl rfl rfl rfl ⟨_, hr, ?_⟩
    show am_wp ext d mz_123 (87, [some (.ref 42), none], [.int r1], (I1, L1, D1, am_rf X)) P
    refine am_b1_eq rfl (fun z => ?_) (fun z => ?_)
    · replace h := h.1 z
      refine am_wpb (c' := (200, [some (.ref 42), none], [.int (I1 42 7), .ref 42], (I1, L1, D1, am_rf X))) 3 rfl ?_
      obtain ⟨r2, I2, L2, D2, hr, h⟩ := h
      refine am_wp_inv (as := [.ref 42, .int (I1 42 7)]) rfl rfl rfl rfl ⟨_, hr, ?_⟩
      show am_wp ext d mz_123 (203, [some (.ref 42), none], [.int r2], (I2, L2, D2, am_rf X)) P
      refine am_b1_eq rfl (fun z => ?_) (fun z => ?_)
      · replace h := h.1 z
        refine am_wpb (c' := (290, [some (.ref 42), none], [.int (I2 42 7), .ref 43, .ref 42], (I2, L2, D2, am_rf X))) 5 rfl ?_
        obtain ⟨o, h⟩ := h
        refine am_wps (c' := (291, [some (.ref 42), none], [.int (I2 43 (Int32.toNatClampNeg (I2 42 7))), .ref 42], (I2, L2, D2, am_rf X))) rfl rfl (am_s_iald rfl o) ?_
        refine am_wpb (c' := (299, [some (.ref 42), none], [.int (I2 43 (Int32.toNatClampNeg (I2 42 7))), .ref 42], (am_uI I2 42 9 (I2 43 (Int32.toNatClampNeg (I2 42 7))), L2, D2, am_rf X))) 4 rfl ?_
        obtain ⟨r3, I3, L3, D3, hr, h⟩ := h
        refine am_wp_inv (as := [.int (I2 43 (Int32.toNatClampNeg (I2 42 7)))]) rfl rfl rfl rfl ⟨_, hr, ?_⟩
        show am_wp ext d mz_123 (302, [some (.ref 42), none], [.int r3, .ref 42], (I3, L3, D3, am_rf X)) P
        refine am_b1_eq rfl (fun z => ?_) (fun z => ?_)
        · replace h := h.1 z
          refine am_wpb (c' := (323, [some (.ref 42), none], [], (am_uI (am_uI I3 42 8 5) 42 7 ((I3 42 7) + 1), L3, D3, am_rf X))) 8 rfl ?_
          exact am_ret_v rfl rfl h
        · replace h := h.2 z
          refine am_wpb (c' := (323, [some (.ref 42), none], [], (am_uI (am_uI I3 42 8 4) 42 7 ((I3 42 7) + 1), L3, D3, am_rf X))) 9 rfl ?_
          exact am_ret_v rfl rfl h
      · replace h := h.2 z
        refine am_wpb (c' := (216, [some (.ref 42), none], [], (am_uI (am_uI I2 42 8 3) 42 9 0, L2, D2, am_rf X))) 6 rfl ?_
        exact h
    · replace h := h.2 z
      exact h
  · replace h := h.2 z
    refine am_wpb (c' := (323, [some (.ref 42), none], [], (am_uI (am_uI I 42 10 (I 42 7)) 42 8 0, L, D, am_rf X))) 4 rfl ?_
    exact am_ret_v rfl rfl h
theorem w123_90 {ext : Nat → List Value → am_M → Option am_R} {d : Nat} {P : am_R → Prop} (I : Nat → Nat → Int32) (L : Nat → Nat → Int64) (D : Nat → Nat → UInt64) (X : am_Rf)
    (h : ∃ (r1 : Int32) (I1 : Nat → Nat → Int32) (L1 : Nat → Nat → Int64) (D1 : Nat → Nat → UInt64), am_Rn ext d 120 [.ref 42, .int (I 42 7)] (I, L, D, am_rf X) (some (.int r1), (I1, L1, D1, am_rf X)) ∧ (((r1 = 0 → (((¬ (I1 42 7) = ((I1 42 10) + 1) → (am_wp ext d mz_123 (132, [some (.ref 42), none], [.int 0], (I1, L1, D1, am_rf X)) P)) ∧ ((I1 42 7) = ((I1 42 10) + 1) → (am_wp ext d mz_123 (132, [some (.ref 42), none], [.int 1], (I1, L1, D1, am_rf X)) P))))) ∧ (¬ r1 = 0 → (am_wp ext d mz_123 (90, [some (.ref 42), none], [], (am_uI I1 42 7 ((I1 42 7) + 1), L1, D1, am_rf X)) P))))) : am_wp ext d mz_123 (90, [some (.ref 42), none], [], (I, L, D, am_rf X)) P := by
  refine am_wpb (c' := (95, [some (.ref 42), none], [.int (I 42 7), .ref 42], (I, L, D, am_rf X))) 3 rfl ?_
  obtain ⟨r1, I1, L1, D1, hr, h⟩ := h
  refine am_wp_inv (as := [.ref 42, .int (I 42 7)]) rfl rfl rfl rfl ⟨_, hr, ?_⟩
  show am_wp ext d mz_123 (98, [some (.ref 42), none], [.int r1], (I1, L1, D1, am_rf X)) P
  refine am_b1_eq rfl (fun z => ?_) (fun z => ?_)
  · replace h := h.1 z
    refine am_wpb (c' := (124, [some (.ref 42), none], [.int ((I1 42 10) + 1), .int (I1 42 7)], (I1, L1, D1, am_rf X))) 6 rfl ?_
    refine am_b2_ne rfl (fun z => ?_) (fun z => ?_)
    · replace h := h.1 z
      refine am_wpb (c' := (132, [some (.ref 42), none], [.int 0], (I1, L1, D1, am_rf X))) 1 rfl ?_
      exact h
    · replace h := h.2 z
      refine am_wpb (c' := (132, [some (.ref 42), none], [.int 1], (I1, L1, D1, am_rf X))) 2 rfl ?_
      exact h
  · replace h := h.2 z
    refine am_wpb (c' := (90, [some (.ref 42), none], [], (am_uI I1 42 7 ((I1 42 7) + 1), L1, D1, am_rf X))) 7 rfl ?_
    exact h
theorem w123_132 {ext : Nat → List Value → am_M → Option am_R} {d : Nat} {P : am_R → Prop} (I : Nat → Nat → Int32) (L : Nat → Nat → Int64) (D : Nat → Nat → UInt64) (X : am_Rf) (s0 : Int32)
    (h : ((s0 = 0 → (∃ (r1 : Int32) (I1 : Nat → Nat → Int32) (L1 : Nat → Nat → Int64) (D1 : Nat → Nat → UInt64), am_Rn ext d 119 [.ref 42, .int (I 42 10), .int (I 42 7)] (I, L, D, am_rf X) (some (.int r1), (I1, L1, D1, am_rf X)) ∧ (am_wp ext d mz_123 (165, [some (.ref 42), some (.int s0)], [.int r1, .ref 42], (I1, L1, D1, am_rf X)) P))) ∧ (¬ s0 = 0 → (am_inb (I 42 10) 500 = true ∧ (am_wp ext d mz_123 (165, [some (.ref 42), some (.int s0)], [.int ((I 43 (Int32.toNatClampNeg (I 42 10))) - 97), .ref 42], (I, L, D, am_rf X)) P))))) : am_wp ext d mz_123 (132, [some (.ref 42), none], [.int s0], (I, L, D, am_rf X)) P := by
  refine am_wpb (c' := (135, [some (.ref 42), some (.int s0)], [.int s0, .ref 42], (I, L, D, am_rf X))) 3 rfl ?_
  refine am_b1_eq rfl (fun z => ?_) (fun z => ?_)
  · replace h := h.1 z
    refine am_wpb (c' := (162, [some (.ref 42), some (.int s0)], [.int (I 42 7), .int (I 42 10), .ref 42, .ref 42], (I, L, D, am_rf X))) 5 rfl ?_
    obtain ⟨r1, I1, L1, D1, hr, h⟩ := h
    refine am_wp_inv (as := [.ref 42, .int (I 42 10), .int (I 42 7)]) rfl rfl rfl rfl ⟨_, hr, ?_⟩
    show am_wp ext d mz_123 (165, [some (.ref 42), some (.int s0)], [.int r1, .ref 42], (I1, L1, D1, am_rf X)) P
    exact h
  · replace h := h.2 z
    refine am_wpb (c' := (146, [some (.ref 42), some (.int s0)], [.int (I 42 10), .ref 43, .ref 42], (I, L, D, am_rf X))) 4 rfl ?_
    obtain ⟨o, h⟩ := h
    refine am_wps (c' := (147, [some (.ref 42), some (.int s0)], [.int (I 43 (Int32.toNatClampNeg (I 42 10))), .ref 42], (I, L, D, am_rf X))) rfl rfl (am_s_iald rfl o) ?_
    refine am_wpb (c' := (165, [some (.ref 42), some (.int s0)], [.int ((I 43 (Int32.toNatClampNeg (I 42 10))) - 97), .ref 42], (I, L, D, am_rf X))) 3 rfl ?_
    exact h
theorem w123_165 {ext : Nat → List Value → am_M → Option am_R} {d : Nat} {P : am_R → Prop} (I : Nat → Nat → Int32) (L : Nat → Nat → Int64) (D : Nat → Nat → UInt64) (X : am_Rf) (v1 : Int32) (s0 : Int32)
    (h : ((v1 = 0 → (((0 ≤ s0 → (P (none, (am_uI (am_uI I 42 9 s0) 42 8 1, L, D, am_rf X)))) ∧ (¬ 0 ≤ s0 → (P (none, (am_uI (am_uI I 42 9 s0) 42 8 5, L, D, am_rf X))))))) ∧ (¬ v1 = 0 → (P (none, (am_uI (am_uI I 42 9 s0) 42 8 2, L, D, am_rf X)))))) : am_wp ext d mz_123 (165, [some (.ref 42), some (.int v1)], [.int s0, .ref 42], (I, L, D, am_rf X)) P := by
  refine am_wpb (c' := (170, [some (.ref 42), some (.int v1)], [.int v1, .ref 42], (am_uI I 42 9 s0, L, D, am_rf X))) 3 rfl ?_
  refine am_b1_eq rfl (fun z => ?_) (fun z => ?_)
  · replace h := h.1 z
    refine am_wpb (c' := (181, [some (.ref 42), some (.int v1)], [.int s0, .ref 42], (am_uI I 42 9 s0, L, D, am_rf X))) 2 rfl ?_
    refine am_b1_ge rfl (fun z => ?_) (fun z => ?_)
    · replace h := h.1 z
      refine am_wpb (c' := (323, [some (.ref 42), some (.int v1)], [], (am_uI (am_uI I 42 9 s0) 42 8 1, L, D, am_rf X))) 3 rfl ?_
      exact am_ret_v rfl rfl h
    · replace h := h.2 z
      refine am_wpb (c' := (323, [some (.ref 42), some (.int v1)], [], (am_uI (am_uI I 42 9 s0) 42 8 5, L, D, am_rf X))) 4 rfl ?_
      exact am_ret_v rfl rfl h
  · replace h := h.2 z
    refine am_wpb (c' := (323, [some (.ref 42), some (.int v1)], [], (am_uI (am_uI I 42 9 s0) 42 8 2, L, D, am_rf X))) 4 rfl ?_
    exact am_ret_v rfl rfl h
theorem w123_216 {ext : Nat → List Value → am_M → Option am_R} {d : Nat} {P : am_R → Prop} (I : Nat → Nat → Int32) (L : Nat → Nat → Int64) (D : Nat → Nat → UInt64) (X : am_Rf)
    (h : ∃ (r1 : Int32) (I1 : Nat → Nat → Int32) (L1 : Nat → Nat → Int64) (D1 : Nat → Nat → UInt64), am_Rn ext d 121 [.ref 42, .int (I 42 7)] (I, L, D, am_rf X) (some (.int r1), (I1, L1, D1, am_rf X)) ∧ (((r1 = 0 → (P (none, (I1, L1, D1, am_rf X)))) ∧ (¬ r1 = 0 → ((((I1 42 9) ≤ 999 → (am_inb (I1 42 7) 500 = true ∧ (am_wp ext d mz_123 (216, [some (.ref 42), none], [], (am_uI (am_uI I1 42 9 (((10 * (I1 42 9)) + (I1 43 (Int32.toNatClampNeg (I1 42 7)))) - 48)) 42 7 ((I1 42 7) + 1), L1, D1, am_rf X)) P))) ∧ (¬ (I1 42 9) ≤ 999 → (am_wp ext d mz_123 (216, [some (.ref 42), none], [], (am_uI (am_uI I1 42 9 (I1 42 9)) 42 7 ((I1 42 7) + 1), L1, D1, am_rf X)) P)))))))) : am_wp ext d mz_123 (216, [some (.ref 42), none], [], (I, L, D, am_rf X)) P := by
  refine am_wpb (c' := (221, [some (.ref 42), none], [.int (I 42 7), .ref 42], (I, L, D, am_rf X))) 3 rfl ?_
  obtain ⟨r1, I1, L1, D1, hr, h⟩ := h
  refine am_wp_inv (as := [.ref 42, .int (I 42 7)]) rfl rfl rfl rfl ⟨_, hr, ?_⟩
  show am_wp ext d mz_123 (224, [some (.ref 42), none], [.int r1], (I1, L1, D1, am_rf X)) P
  refine am_b1_eq rfl (fun z => ?_) (fun z => ?_)
  · replace h := h.1 z
    exact am_ret_v rfl rfl h
  · replace h := h.2 z
    refine am_wpb (c' := (235, [some (.ref 42), none], [.int 999, .int (I1 42 9), .ref 42], (I1, L1, D1, am_rf X))) 4 rfl ?_
    refine am_b2_le rfl (fun z => ?_) (fun z => ?_)
    · replace h := h.1 z
      refine am_wpb (c' := (260, [some (.ref 42), none], [.int (I1 42 7), .ref 43, .int (10 * (I1 42 9)), .ref 42], (I1, L1, D1, am_rf X))) 8 rfl ?_
      obtain ⟨o, h⟩ := h
      refine am_wps (c' := (261, [some (.ref 42), none], [.int (I1 43 (Int32.toNatClampNeg (I1 42 7))), .int (10 * (I1 42 9)), .ref 42], (I1, L1, D1, am_rf X))) rfl rfl (am_s_iald rfl o) ?_
      refine am_wpb (c' := (216, [some (.ref 42), none], [], (am_uI (am_uI I1 42 9 (((10 * (I1 42 9)) + (I1 43 (Int32.toNatClampNeg (I1 42 7)))) - 48)) 42 7 ((I1 42 7) + 1), L1, D1, am_rf X))) 11 rfl ?_
      exact h
    · replace h := h.2 z
      refine am_wpb (c' := (216, [some (.ref 42), none], [], (am_uI (am_uI I1 42 9 (I1 42 9)) 42 7 ((I1 42 7) + 1), L1, D1, am_rf X))) 11 rfl ?_
      exact h
/-- SureSumsModel.isSign(I)Z -/
def mz_124 : am_Y := (fun pc => am_q124.lookup pc, 2, 2)
theorem mh_124 : am_Ys 124 = some mz_124 := rfl
theorem w124_0 {ext : Nat → List Value → am_M → Option am_R} {d : Nat} {P : am_R → Prop} (I : Nat → Nat → Int32) (L : Nat → Nat → Int64) (D : Nat → Nat → UInt64) (X : am_Rf) (v1 : Int32)
    (h : ((¬ (I 42 8) = 4 → (P (some (.int 0), (I, L, D, am_rf X)))) ∧ ((I 42 8) = 4 → (((¬ (I 42 9) = v1 → (P (some (.int 0), (I, L, D, am_rf X)))) ∧ ((I 42 9) = v1 → (P (some (.int 1), (I, L, D, am_rf X))))))))) : am_wp ext d mz_124 (0, [some (.ref 42), some (.int v1)], [], (I, L, D, am_rf X)) P := by
  refine am_wpb (c' := (5, [some (.ref 42), some (.int v1)], [.int 4, .int (I 42 8)], (I, L, D, am_rf X))) 3 rfl ?_
  refine am_b2_ne rfl (fun z => ?_) (fun z => ?_)
  · replace h := h.1 z
    refine am_wpb (c' := (21, [some (.ref 42), some (.int v1)], [.int 0], (I, L, D, am_rf X))) 1 rfl ?_
    exact am_ret_z rfl rfl (Or.inl rfl) h
  · replace h := h.2 z
    refine am_wpb (c' := (13, [some (.ref 42), some (.int v1)], [.int v1, .int (I 42 9)], (I, L, D, am_rf X))) 3 rfl ?_
    refine am_b2_ne rfl (fun z => ?_) (fun z => ?_)
    · replace h := h.1 z
      refine am_wpb (c' := (21, [some (.ref 42), some (.int v1)], [.int 0], (I, L, D, am_rf X))) 1 rfl ?_
      exact am_ret_z rfl rfl (Or.inl rfl) h
    · replace h := h.2 z
      refine am_wpb (c' := (21, [some (.ref 42), some (.int v1)], [.int 1], (I, L, D, am_rf X))) 2 rfl ?_
      exact am_ret_z rfl rfl (Or.inr rfl) h
/-- SureSumsModel.comes(I)Z -/
def mz_125 : am_Y := (fun pc => am_q125.lookup pc, 2, 2)
theorem mh_125 : am_Ys 125 = some mz_125 := rfl
theorem w125_0 {ext : Nat → List Value → am_M → Option am_R} {d : Nat} {P : am_R → Prop} (I : Nat → Nat → Int32) (L : Nat → Nat → Int64) (D : Nat → Nat → UInt64) (X : am_Rf) (v1 : Int32)
    (h : ∃ (r1 : Int32) (I1 : Nat → Nat → Int32) (L1 : Nat → Nat → Int64) (D1 : Nat → Nat → UInt64), am_Rn ext d 124 [.ref 42, .int v1] (I, L, D, am_rf X) (some (.int r1), (I1, L1, D1, am_rf X)) ∧ (((¬ r1 = 0 → (∃ (I2 : Nat → Nat → Int32) (L2 : Nat → Nat → Int64) (D2 : Nat → Nat → UInt64), am_Rn ext d 123 [.ref 42] (I1, L1, D1, am_rf X) (none, (I2, L2, D2, am_rf X)) ∧ (P (some (.int 1), (I2, L2, D2, am_rf X))))) ∧ (r1 = 0 → (∃ (r3 : Int32) (I3 : Nat → Nat → Int32) (L3 : Nat → Nat → Int64) (D3 : Nat → Nat → UInt64), am_Rn ext d 118 [.ref 42, .int 1] (I1, L1, D1, am_rf X) (some (.int r3), (I3, L3, D3, am_rf X)) ∧ ((r3 = 0 ∨ r3 = 1) ∧ P (some (.int r3), (I3, L3, D3, am_rf X)))))))) : am_wp ext d mz_125 (0, [some (.ref 42), some (.int v1)], [], (I, L, D, am_rf X)) P := by
  refine am_wpb (c' := (2, [some (.ref 42), some (.int v1)], [.int v1, .ref 42], (I, L, D, am_rf X))) 2 rfl ?_
  obtain ⟨r1, I1, L1, D1, hr, h⟩ := h
  refine am_wp_inv (as := [.ref 42, .int v1]) rfl rfl rfl rfl ⟨_, hr, ?_⟩
  show am_wp ext d mz_125 (5, [some (.ref 42), some (.int v1)], [.int r1], (I1, L1, D1, am_rf X)) P
  refine am_b1_ne rfl (fun z => ?_) (fun z => ?_)
  · replace h := h.1 z
    refine am_wpb (c' := (15, [some (.ref 42), some (.int v1)], [.ref 42], (I1, L1, D1, am_rf X))) 1 rfl ?_
    obtain ⟨I2, L2, D2, hr, h⟩ := h
    refine am_wp_inv (as := [.ref 42]) rfl rfl rfl rfl ⟨_, hr, ?_⟩
    show am_wp ext d mz_125 (18, [some (.ref 42), some (.int v1)], [], (I2, L2, D2, am_rf X)) P
    refine am_wpb (c' := (19, [some (.ref 42), some (.int v1)], [.int 1], (I2, L2, D2, am_rf X))) 1 rfl ?_
    exact am_ret_z rfl rfl (Or.inr rfl) h
  · replace h := h.2 z
    refine am_wpb (c' := (10, [some (.ref 42), some (.int v1)], [.int 1, .ref 42], (I1, L1, D1, am_rf X))) 2 rfl ?_
    obtain ⟨r3, I3, L3, D3, hr, h⟩ := h
    refine am_wp_inv (as := [.ref 42, .int 1]) rfl rfl rfl rfl ⟨_, hr, ?_⟩
    show am_wp ext d mz_125 (13, [some (.ref 42), some (.int v1)], [.int r3], (I3, L3, D3, am_rf X)) P
    exact am_ret_z rfl rfl h.1 h.2
/-- SureSumsModel.grown(II)I -/
def mz_126 : am_Y := (fun pc => am_q126.lookup pc, 4, 1)
theorem mh_126 : am_Ys 126 = some mz_126 := rfl
theorem w126_0 {ext : Nat → List Value → am_M → Option am_R} {d : Nat} {P : am_R → Prop} (I : Nat → Nat → Int32) (L : Nat → Nat → Int64) (D : Nat → Nat → UInt64) (X : am_Rf) (v1 : Int32) (v2 : Int32)
    (h : ((¬ (I 42 18) = 96 → (am_inb (96 + (I 42 18)) 192 = true ∧ (am_inb (96 + (I 42 18)) 192 = true ∧ (am_inb (96 + (I 42 18)) 192 = true ∧ (am_inb (96 + (I 42 18)) 192 = true ∧ (am_inb (96 + (I 42 18)) 192 = true ∧ (am_inb (96 + (I 42 18)) 192 = true ∧ (P (some (.int (96 + (I 42 18))), (am_uI (am_uI (am_uI (am_uI (am_uI (am_uI (am_uI I 42 18 ((I 42 18) + 1)) 45 (Int32.toNatClampNeg (96 + (I 42 18))) v1) 46 (Int32.toNatClampNeg (96 + (I 42 18))) v2) 47 (Int32.toNatClampNeg (96 + (I 42 18))) (-1)) 48 (Int32.toNatClampNeg (96 + (I 42 18))) (-1)) 49 (Int32.toNatClampNeg (96 + (I 42 18))) (-1)) 50 (Int32.toNatClampNeg (96 + (I 42 18))) (-1), L, D, am_rf X)))))))))) ∧ ((I 42 18) = 96 → (∃ (r1 : Int32) (I1 : Nat → Nat → Int32) (L1 : Nat → Nat → Int64) (D1 : Nat → Nat → UInt64), am_Rn ext d 118 [.ref 42, .int 2] (I, L, D, am_rf X) (some (.int r1), (I1, L1, D1, am_rf X)) ∧ (P (some (.int (-1)), (I1, L1, D1, am_rf X))))))) : am_wp ext d mz_126 (0, [some (.ref 42), some (.int v1), some (.int v2), none], [], (I, L, D, am_rf X)) P := by
  refine am_wpb (c' := (6, [some (.ref 42), some (.int v1), some (.int v2), none], [.int 96, .int (I 42 18)], (I, L, D, am_rf X))) 3 rfl ?_
  refine am_b2_ne rfl (fun z => ?_) (fun z => ?_)
  · replace h := h.1 z
    refine am_wpb (c' := (41, [some (.ref 42), some (.int v1), some (.int v2), some (.int (96 + (I 42 18)))], [.int v1, .int (96 + (I 42 18)), .ref 45], (am_uI I 42 18 ((I 42 18) + 1), L, D, am_rf X))) 15 rfl ?_
    obtain ⟨o, h⟩ := h
    refine am_wps (c' := (42, [some (.ref 42), some (.int v1), some (.int v2), some (.int (96 + (I 42 18)))], [], (am_uI (am_uI I 42 18 ((I 42 18) + 1)) 45 (Int32.toNatClampNeg (96 + (I 42 18))) v1, L, D, am_rf X))) rfl rfl (am_s_iast rfl o) ?_
    refine am_wpb (c' := (48, [some (.ref 42), some (.int v1), some (.int v2), some (.int (96 + (I 42 18)))], [.int v2, .int (96 + (I 42 18)), .ref 46], (am_uI (am_uI I 42 18 ((I 42 18) + 1)) 45 (Int32.toNatClampNeg (96 + (I 42 18))) v1, L, D, am_rf X))) 4 rfl ?_
    obtain ⟨o, h⟩ := h
    refine am_wps (c' := (49, [some (.ref 42), some (.int v1), some (.int v2), some (.int (96 + (I 42 18)))], [], (am_uI (am_uI (am_uI I 42 18 ((I 42 18) + 1)) 45 (Int32.toNatClampNeg (96 + (I 42 18))) v1) 46 (Int32.toNatClampNeg (96 + (I 42 18))) v2, L, D, am_rf X))) rfl rfl (am_s_iast rfl o) ?_
    refine am_wpb (c' := (55, [some (.ref 42), some (.int v1), some (.int v2), some (.int (96 + (I 42 18)))], [.int (-1), .int (96 + (I 42 18)), .ref 47], (am_uI (am_uI (am_uI I 42 18 ((I 42 18) + 1)) 45 (Int32.toNatClampNeg (96 + (I 42 18))) v1) 46 (Int32.toNatClampNeg (96 + (I 42 18))) v2, L, D, am_rf X))) 4 rfl ?_
    obtain ⟨o, h⟩ := h
    refine am_wps (c' := (56, [some (.ref 42), some (.int v1), some (.int v2), some (.int (96 + (I 42 18)))], [], (am_uI (am_uI (am_uI (am_uI I 42 18 ((I 42 18) + 1)) 45 (Int32.toNatClampNeg (96 + (I 42 18))) v1) 46 (Int32.toNatClampNeg (96 + (I 42 18))) v2) 47 (Int32.toNatClampNeg (96 + (I 42 18))) (-1), L, D, am_rf X))) rfl rfl (am_s_iast rfl o) ?_
    refine am_wpb (c' := (62, [some (.ref 42), some (.int v1), some (.int v2), some (.int (96 + (I 42 18)))], [.int (-1), .int (96 + (I 42 18)), .ref 48], (am_uI (am_uI (am_uI (am_uI I 42 18 ((I 42 18) + 1)) 45 (Int32.toNatClampNeg (96 + (I 42 18))) v1) 46 (Int32.toNatClampNeg (96 + (I 42 18))) v2) 47 (Int32.toNatClampNeg (96 + (I 42 18))) (-1), L, D, am_rf X))) 4 rfl ?_
    obtain ⟨o, h⟩ := h
    refine am_wps (c' := (63, [some (.ref 42), some (.int v1), some (.int v2), some (.int (96 + (I 42 18)))], [], (am_uI (am_uI (am_uI (am_uI (am_uI I 42 18 ((I 42 18) + 1)) 45 (Int32.toNatClampNeg (96 + (I 42 18))) v1) 46 (Int32.toNatClampNeg (96 + (I 42 18))) v2) 47 (Int32.toNatClampNeg (96 + (I 42 18))) (-1)) 48 (Int32.toNatClampNeg (96 + (I 42 18))) (-1), L, D, am_rf X))) rfl rfl (am_s_iast rfl o) ?_
    refine am_wpb (c' := (69, [some (.ref 42), some (.int v1), some (.int v2), some (.int (96 + (I 42 18)))], [.int (-1), .int (96 + (I 42 18)), .ref 49], (am_uI (am_uI (am_uI (am_uI (am_uI I 42 18 ((I 42 18) + 1)) 45 (Int32.toNatClampNeg (96 + (I 42 18))) v1) 46 (Int32.toNatClampNeg (96 + (I 42 18))) v2) 47 (Int32.toNatClampNeg (96 + (I 42 18))) (-1)) 48 (Int32.toNatClampNeg (96 + (I 42 18))) (-1), L, D, am_rf X))) 4 rfl ?_
    obtain ⟨o, h⟩ := h
    refine am_wps (c' := (70, [some (.ref 42), some (.int v1), some (.int v2), some (.int (96 + (I 42 18)))], [], (am_uI (am_uI (am_uI (am_uI (am_uI (am_uI I 42 18 ((I 42 18) + 1)) 45 (Int32.toNatClampNeg (96 + (I 42 18))) v1) 46 (Int32.toNatClampNeg (96 + (I 42 18))) v2) 47 (Int32.toNatClampNeg (96 + (I 42 18))) (-1)) 48 (Int32.toNatClampNeg (96 + (I 42 18))) (-1)) 49 (Int32.toNatClampNeg (96 + (I 42 18))) (-1), L, D, am_rf X))) rfl rfl (am_s_iast rfl o) ?_
    refine am_wpb (c' := (76, [some (.ref 42), some (.int v1), some (.int v2), some (.int (96 + (I 42 18)))], [.int (-1), .int (96 + (I 42 18)), .ref 50], (am_uI (am_uI (am_uI (am_uI (am_uI (am_uI I 42 18 ((I 42 18) + 1)) 45 (Int32.toNatClampNeg (96 + (I 42 18))) v1) 46 (Int32.toNatClampNeg (96 + (I 42 18))) v2) 47 (Int32.toNatClampNeg (96 + (I 42 18))) (-1)) 48 (Int32.toNatClampNeg (96 + (I 42 18))) (-1)) 49 (Int32.toNatClampNeg (96 + (I 42 18))) (-1), L, D, am_rf X))) 4 rfl ?_
    obtain ⟨o, h⟩ := h
    refine am_wps (c' := (77, [some (.ref 42), some (.int v1), some (.int v2), some (.int (96 + (I 42 18)))], [], (am_uI (am_uI (am_uI (am_uI (am_uI (am_uI (am_uI I 42 18 ((I 42 18) + 1)) 45 (Int32.toNatClampNeg (96 + (I 42 18))) v1) 46 (Int32.toNatClampNeg (96 + (I 42 18))) v2) 47 (Int32.toNatClampNeg (96 + (I 42 18))) (-1)) 48 (Int32.toNatClampNeg (96 + (I 42 18))) (-1)) 49 (Int32.toNatClampNeg (96 + (I 42 18))) (-1)) 50 (Int32.toNatClampNeg (96 + (I 42 18))) (-1), L, D, am_rf X))) rfl rfl (am_s_iast rfl o) ?_
    refine am_wpb (c' := (78, [some (.ref 42), some (.int v1), some (.int v2), some (.int (96 + (I 42 18)))], [.int (96 + (I 42 18))], (am_uI (am_uI (am_uI (am_uI (am_uI (am_uI (am_uI I 42 18 ((I 42 18) + 1)) 45 (Int32.toNatClampNeg (96 + (I 42 18))) v1) 46 (Int32.toNatClampNeg (96 + (I 42 18))) v2) 47 (Int32.toNatClampNeg (96 + (I 42 18))) (-1)) 48 (Int32.toNatClampNeg (96 + (I 42 18))) (-1)) 49 (Int32.toNatClampNeg (96 + (I 42 18))) (-1)) 50 (Int32.toNatClampNeg (96 + (I 42 18))) (-1), L, D, am_rf X))) 1 rfl ?_
    exact am_ret_i rfl rfl h
  · replace h := h.2 z
    refine am_wpb (c' := (11, [some (.ref 42), some (.int v1), some (.int v2), none], [.int 2, .ref 42], (I, L, D, am_rf X))) 2 rfl ?_
    obtain ⟨r1, I1, L1, D1, hr, h⟩ := h
    refine am_wp_inv (as := [.ref 42, .int 2]) rfl rfl rfl rfl ⟨_, hr, ?_⟩
    show am_wp ext d mz_126 (14, [some (.ref 42), some (.int v1), some (.int v2), none], [.int r1], (I1, L1, D1, am_rf X)) P
    refine am_wpb (c' := (16, [some (.ref 42), some (.int v1), some (.int v2), some (.int r1)], [.int (-1)], (I1, L1, D1, am_rf X))) 2 rfl ?_
    exact am_ret_i rfl rfl h
/-- SureSumsModel.weight(I)I -/
def mz_127 : am_Y := (fun pc => am_q127.lookup pc, 1, 1)
theorem mh_127 : am_Ys 127 = some mz_127 := rfl
theorem w127_0 {ext : Nat → List Value → am_M → Option am_R} {d : Nat} {P : am_R → Prop} (I : Nat → Nat → Int32) (L : Nat → Nat → Int64) (D : Nat → Nat → UInt64) (X : am_Rf) (v0 : Int32)
    (h : ((v0 < 100 → (((¬ v0 = 3 → (((v0 = 8 → (P (some (.int 2), (I, L, D, am_rf X)))) ∧ (¬ v0 = 8 → (((¬ v0 = 9 → (P (some (.int 1), (I, L, D, am_rf X)))) ∧ (v0 = 9 → (P (some (.int 2), (I, L, D, am_rf X)))))))))) ∧ (v0 = 3 → (P (some (.int 3), (I, L, D, am_rf X))))))) ∧ (¬ v0 < 100 → (P (some (.int 0), (I, L, D, am_rf X)))))) : am_wp ext d mz_127 (0, [some (.int v0)], [], (I, L, D, am_rf X)) P := by
  refine am_wpb (c' := (3, [some (.int v0)], [.int 100, .int v0], (I, L, D, am_rf X))) 2 rfl ?_
  refine am_b2_lt rfl (fun z => ?_) (fun z => ?_)
  · replace h := h.1 z
    refine am_wpb (c' := (12, [some (.int v0)], [.int 3, .int v0], (I, L, D, am_rf X))) 2 rfl ?_
    refine am_b2_ne rfl (fun z => ?_) (fun z => ?_)
    · replace h := h.1 z
      refine am_wpb (c' := (22, [some (.int v0)], [.int 8, .int v0], (I, L, D, am_rf X))) 2 rfl ?_
      refine am_b2_eq rfl (fun z => ?_) (fun z => ?_)
      · replace h := h.1 z
        refine am_wpb (c' := (36, [some (.int v0)], [.int 2], (I, L, D, am_rf X))) 2 rfl ?_
        exact am_ret_i rfl rfl h
      · replace h := h.2 z
        refine am_wpb (c' := (28, [some (.int v0)], [.int 9, .int v0], (I, L, D, am_rf X))) 2 rfl ?_
        refine am_b2_ne rfl (fun z => ?_) (fun z => ?_)
        · replace h := h.1 z
          refine am_wpb (c' := (36, [some (.int v0)], [.int 1], (I, L, D, am_rf X))) 1 rfl ?_
          exact am_ret_i rfl rfl h
        · replace h := h.2 z
          refine am_wpb (c' := (36, [some (.int v0)], [.int 2], (I, L, D, am_rf X))) 2 rfl ?_
          exact am_ret_i rfl rfl h
    · replace h := h.2 z
      refine am_wpb (c' := (36, [some (.int v0)], [.int 3], (I, L, D, am_rf X))) 2 rfl ?_
      exact am_ret_i rfl rfl h
  · replace h := h.2 z
    refine am_wpb (c' := (36, [some (.int v0)], [.int 0], (I, L, D, am_rf X))) 2 rfl ?_
    exact am_ret_i rfl rfl h
/-- SureSumsModel.drop()I -/
def mz_128 : am_Y := (fun pc => am_q128.lookup pc, 1, 1)
theorem mh_128 : am_Ys 128 = some mz_128 := rfl
theorem w128_0 {ext : Nat → List Value → am_M → Option am_R} {d : Nat} {P : am_R → Prop} (I : Nat → Nat → Int32) (L : Nat → Nat → Int64) (D : Nat → Nat → UInt64) (X : am_Rf)
    (h : am_inb ((I 42 33) - 1) 120 = true ∧ (P (some (.int (I 58 (Int32.toNatClampNeg ((I 42 33) - 1)))), (am_uI I 42 33 ((I 42 33) - 1), L, D, am_rf X)))) : am_wp ext d mz_128 (0, [some (.ref 42)], [], (I, L, D, am_rf X)) P := by
  refine am_wpb (c' := (18, [some (.ref 42)], [.int ((I 42 33) - 1), .ref 58], (am_uI I 42 33 ((I 42 33) - 1), L, D, am_rf X))) 10 rfl ?_
  obtain ⟨o, h⟩ := h
  refine am_wps (c' := (19, [some (.ref 42)], [.int (I 58 (Int32.toNatClampNeg ((I 42 33) - 1)))], (am_uI I 42 33 ((I 42 33) - 1), L, D, am_rf X))) rfl rfl (am_s_iald rfl o) ?_
  exact am_ret_i rfl rfl h
/-- SureSumsModel.hold(I)V -/
def mz_129 : am_Y := (fun pc => am_q129.lookup pc, 2, 0)
theorem mh_129 : am_Ys 129 = some mz_129 := rfl
theorem w129_0 {ext : Nat → List Value → am_M → Option am_R} {d : Nat} {P : am_R → Prop} (I : Nat → Nat → Int32) (L : Nat → Nat → Int64) (D : Nat → Nat → UInt64) (X : am_Rf) (v1 : Int32)
    (h : am_inb (I 42 33) 120 = true ∧ (P (none, (am_uI (am_uI I 58 (Int32.toNatClampNeg (I 42 33)) v1) 42 33 ((I 42 33) + 1), L, D, am_rf X)))) : am_wp ext d mz_129 (0, [some (.ref 42), some (.int v1)], [], (I, L, D, am_rf X)) P := by
  refine am_wpb (c' := (9, [some (.ref 42), some (.int v1)], [.int v1, .int (I 42 33), .ref 58], (I, L, D, am_rf X))) 5 rfl ?_
  obtain ⟨o, h⟩ := h
  refine am_wps (c' := (10, [some (.ref 42), some (.int v1)], [], (am_uI I 58 (Int32.toNatClampNeg (I 42 33)) v1, L, D, am_rf X))) rfl rfl (am_s_iast rfl o) ?_
  refine am_wpb (c' := (20, [some (.ref 42), some (.int v1)], [], (am_uI (am_uI I 58 (Int32.toNatClampNeg (I 42 33)) v1) 42 33 ((I 42 33) + 1), L, D, am_rf X))) 6 rfl ?_
  exact am_ret_v rfl rfl h
/-- SureSumsModel.bind(I)V -/
def mz_130 : am_Y := (fun pc => am_q130.lookup pc, 3, 0)
theorem mh_130 : am_Ys 130 = some mz_130 := rfl
theorem w130_0 {ext : Nat → List Value → am_M → Option am_R} {d : Nat} {P : am_R → Prop} (I : Nat → Nat → Int32) (L : Nat → Nat → Int64) (D : Nat → Nat → UInt64) (X : am_Rf) (v1 : Int32)
    (h : (((I 42 31) ≤ 0 → (P (none, (I, L, D, am_rf X)))) ∧ (¬ (I 42 31) ≤ 0 → (am_inb ((I 42 31) - 1) 120 = true ∧ (∃ (r1 : Int32) (I1 : Nat → Nat → Int32) (L1 : Nat → Nat → Int64) (D1 : Nat → Nat → UInt64), am_Rn ext d 127 [.int (I 55 (Int32.toNatClampNeg ((I 42 31) - 1)))] (I, L, D, am_rf X) (some (.int r1), (I1, L1, D1, am_rf X)) ∧ (((r1 < v1 → (P (none, (I1, L1, D1, am_rf X)))) ∧ (¬ r1 < v1 → (am_inb ((I1 42 31) - 1) 120 = true ∧ (am_inb (I1 56 (Int32.toNatClampNeg ((I1 42 31) - 1))) 192 = true ∧ ((((I1 45 (Int32.toNatClampNeg (I1 56 (Int32.toNatClampNeg ((I1 42 31) - 1))))) = 3 → (∃ (r2 : Int32) (I2 : Nat → Nat → Int32) (L2 : Nat → Nat → Int64) (D2 : Nat → Nat → UInt64), am_Rn ext d 128 [.ref 42] (am_uI I1 42 31 ((I1 42 31) - 1), L1, D1, am_rf X) (some (.int r2), (I2, L2, D2, am_rf X)) ∧ (am_inb (I1 56 (Int32.toNatClampNeg ((I1 42 31) - 1))) 192 = true ∧ (∃ (I3 : Nat → Nat → Int32) (L3 : Nat → Nat → Int64) (D3 : Nat → Nat → UInt64), am_Rn ext d 129 [.ref 42, .int (I1 56 (Int32.toNatClampNeg ((I1 42 31) - 1)))] (am_uI I2 47 (Int32.toNatClampNeg (I1 56 (Int32.toNatClampNeg ((I1 42 31) - 1)))) r2, L2, D2, am_rf X) (none, (I3, L3, D3, am_rf X)) ∧ (am_wp ext d mz_130 (0, [some (.ref 42), some (.int v1), none], [], (I3, L3, D3, am_rf X)) P))))) ∧ (¬ (I1 45 (Int32.toNatClampNeg (I1 56 (Int32.toNatClampNeg ((I1 42 31) - 1))))) = 3 → (∃ (r4 : Int32) (I4 : Nat → Nat → Int32) (L4 : Nat → Nat → Int64) (D4 : Nat → Nat → UInt64), am_Rn ext d 128 [.ref 42] (am_uI I1 42 31 ((I1 42 31) - 1), L1, D1, am_rf X) (some (.int r4), (I4, L4, D4, am_rf X)) ∧ (am_inb (I1 56 (Int32.toNatClampNeg ((I1 42 31) - 1))) 192 = true ∧ (∃ (r5 : Int32) (I5 : Nat → Nat → Int32) (L5 : Nat → Nat → Int64) (D5 : Nat → Nat → UInt64), am_Rn ext d 128 [.ref 42] (am_uI I4 48 (Int32.toNatClampNeg (I1 56 (Int32.toNatClampNeg ((I1 42 31) - 1)))) r4, L4, D4, am_rf X) (some (.int r5), (I5, L5, D5, am_rf X)) ∧ (am_inb (I1 56 (Int32.toNatClampNeg ((I1 42 31) - 1))) 192 = true ∧ (∃ (I6 : Nat → Nat → Int32) (L6 : Nat → Nat → Int64) (D6 : Nat → Nat → UInt64), am_Rn ext d 129 [.ref 42, .int (I1 56 (Int32.toNatClampNeg ((I1 42 31) - 1)))] (am_uI I5 47 (Int32.toNatClampNeg (I1 56 (Int32.toNatClampNeg ((I1 42 31) - 1)))) r5, L5, D5, am_rf X) (none, (I6, L6, D6, am_rf X)) ∧ (am_wp ext d mz_130 (0, [some (.ref 42), some (.int v1), none], [], (I6, L6, D6, am_rf X)) P))))))))))))))))))) : am_wp ext d mz_130 (0, [some (.ref 42), some (.int v1), none], [], (I, L, D, am_rf X)) P := by
  refine am_wpb (c' := (4, [some (.ref 42), some (.int v1), none], [.int (I 42 31)], (I, L, D, am_rf X))) 2 rfl ?_
  refine am_b1_le rfl (fun z => ?_) (fun z => ?_)
  · replace h := h.1 z
    exact am_ret_v rfl rfl h
  · replace h := h.2 z
    refine am_wpb (c' := (17, [some (.ref 42), some (.int v1), none], [.int ((I 42 31) - 1), .ref 55], (I, L, D, am_rf X))) 6 rfl ?_
    obtain ⟨o, h⟩ := h
    refine am_wps (c' := (18, [some (.ref 42), some (.int v1), none], [.int (I 55 (Int32.toNatClampNeg ((I 42 31) - 1)))], (I, L, D, am_rf X))) rfl rfl (am_s_iald rfl o) ?_
    obtain ⟨r1, I1, L1, D1, hr, h⟩ := h
    refine am_wp_inv (as := [.int (I 55 (Int32.toNatClampNeg ((I 42 31) - 1)))]) rfl rfl rfl rfl ⟨_, hr, ?_⟩
    show am_wp ext d mz_130 (21, [some (.ref 42), some (.int v1), none], [.int r1], (I1, L1, D1, am_rf X)) P
    refine am_wpb (c' := (22, [some (.ref 42), some (.int v1), none], [.int v1, .int r1], (I1, L1, D1, am_rf X))) 1 rfl ?_
    refine am_b2_lt rfl (fun z => ?_) (fun z => ?_)
    · replace h := h.1 z
      exact am_ret_v rfl rfl h
    · replace h := h.2 z
      refine am_wpb (c' := (43, [some (.ref 42), some (.int v1), none], [.int ((I1 42 31) - 1), .ref 56], (am_uI I1 42 31 ((I1 42 31) - 1), L1, D1, am_rf X))) 10 rfl ?_
      obtain ⟨o, h⟩ := h
      refine am_wps (c' := (44, [some (.ref 42), some (.int v1), none], [.int (I1 56 (Int32.toNatClampNeg ((I1 42 31) - 1)))], (am_uI I1 42 31 ((I1 42 31) - 1), L1, D1, am_rf X))) rfl rfl (am_s_iald rfl o) ?_
      refine am_wpb (c' := (50, [some (.ref 42), some (.int v1), some (.int (I1 56 (Int32.toNatClampNeg ((I1 42 31) - 1))))], [.int (I1 56 (Int32.toNatClampNeg ((I1 42 31) - 1))), .ref 45], (am_uI I1 42 31 ((I1 42 31) - 1), L1, D1, am_rf X))) 4 rfl ?_
      obtain ⟨o, h⟩ := h
      refine am_wps (c' := (51, [some (.ref 42), some (.int v1), some (.int (I1 56 (Int32.toNatClampNeg ((I1 42 31) - 1))))], [.int (I1 45 (Int32.toNatClampNeg (I1 56 (Int32.toNatClampNeg ((I1 42 31) - 1)))))], (am_uI I1 42 31 ((I1 42 31) - 1), L1, D1, am_rf X))) rfl rfl (am_s_iald rfl o) ?_
      refine am_wpb (c' := (52, [some (.ref 42), some (.int v1), some (.int (I1 56 (Int32.toNatClampNeg ((I1 42 31) - 1))))], [.int 3, .int (I1 45 (Int32.toNatClampNeg (I1 56 (Int32.toNatClampNeg ((I1 42 31) - 1)))))], (am_uI I1 42 31 ((I1 42 31) - 1), L1, D1, am_rf X))) 1 rfl ?_
      refine am_b2_eq rfl (fun z => ?_) (fun z => ?_)
      · replace h := h.1 z
        refine am_wpb (c' := (71, [some (.ref 42), some (.int v1), some (.int (I1 56 (Int32.toNatClampNeg ((I1 42 31) - 1))))], [.ref 42, .int (I1 56 (Int32.toNatClampNeg ((I1 42 31) - 1))), .ref 47], (am_uI I1 42 31 ((I1 42 31) - 1), L1, D1, am_rf X))) 4 rfl ?_
        obtain ⟨r2, I2, L2, D2, hr, h⟩ := h
        refine am_wp_inv (as := [.ref 42]) rfl rfl rfl rfl ⟨_, hr, ?_⟩
        show am_wp ext d mz_130 (74, [some (.ref 42), some (.int v1), some (.int (I1 56 (Int32.toNatClampNeg ((I1 42 31) - 1))))], [.int r2, .int (I1 56 (Int32.toNatClampNeg ((I1 42 31) - 1))), .ref 47], (I2, L2, D2, am_rf X)) P
        obtain ⟨o, h⟩ := h
        refine am_wps (c' := (75, [some (.ref 42), some (.int v1), some (.int (I1 56 (Int32.toNatClampNeg ((I1 42 31) - 1))))], [], (am_uI I2 47 (Int32.toNatClampNeg (I1 56 (Int32.toNatClampNeg ((I1 42 31) - 1)))) r2, L2, D2, am_rf X))) rfl rfl (am_s_iast rfl o) ?_
        refine am_wpb (c' := (77, [some (.ref 42), some (.int v1), some (.int (I1 56 (Int32.toNatClampNeg ((I1 42 31) - 1))))], [.int (I1 56 (Int32.toNatClampNeg ((I1 42 31) - 1))), .ref 42], (am_uI I2 47 (Int32.toNatClampNeg (I1 56 (Int32.toNatClampNeg ((I1 42 31) - 1)))) r2, L2, D2, am_rf X))) 2 rfl ?_
        obtain ⟨I3, L3, D3, hr, h⟩ := h
        refine am_wp_inv (as := [.ref 42, .int (I1 56 (Int32.toNatClampNeg ((I1 42 31) - 1)))]) rfl rfl rfl rfl ⟨_, hr, ?_⟩
        show am_wp ext d mz_130 (80, [some (.ref 42), some (.int v1), some (.int (I1 56 (Int32.toNatClampNeg ((I1 42 31) - 1))))], [], (I3, L3, D3, am_rf X)) P
        refine am_wpb (c' := (0, [some (.ref 42), some (.int v1), some (.int (I1 56 (Int32.toNatClampNeg ((I1 42 31) - 1))))], [], (I3, L3, D3, am_rf X))) 1 rfl ?_
        exact am_fgt (l := [some (.ref 42), some (.int v1), none]) (am_le_of (am_leS (am_leS (am_leN (am_leZ))))) h
      · replace h := h.2 z
        refine am_wpb (c' := (61, [some (.ref 42), some (.int v1), some (.int (I1 56 (Int32.toNatClampNeg ((I1 42 31) - 1))))], [.ref 42, .int (I1 56 (Int32.toNatClampNeg ((I1 42 31) - 1))), .ref 48], (am_uI I1 42 31 ((I1 42 31) - 1), L1, D1, am_rf X))) 4 rfl ?_
        obtain ⟨r4, I4, L4, D4, hr, h⟩ := h
        refine am_wp_inv (as := [.ref 42]) rfl rfl rfl rfl ⟨_, hr, ?_⟩
        show am_wp ext d mz_130 (64, [some (.ref 42), some (.int v1), some (.int (I1 56 (Int32.toNatClampNeg ((I1 42 31) - 1))))], [.int r4, .int (I1 56 (Int32.toNatClampNeg ((I1 42 31) - 1))), .ref 48], (I4, L4, D4, am_rf X)) P
        obtain ⟨o, h⟩ := h
        refine am_wps (c' := (65, [some (.ref 42), some (.int v1), some (.int (I1 56 (Int32.toNatClampNeg ((I1 42 31) - 1))))], [], (am_uI I4 48 (Int32.toNatClampNeg (I1 56 (Int32.toNatClampNeg ((I1 42 31) - 1)))) r4, L4, D4, am_rf X))) rfl rfl (am_s_iast rfl o) ?_
        refine am_wpb (c' := (71, [some (.ref 42), some (.int v1), some (.int (I1 56 (Int32.toNatClampNeg ((I1 42 31) - 1))))], [.ref 42, .int (I1 56 (Int32.toNatClampNeg ((I1 42 31) - 1))), .ref 47], (am_uI I4 48 (Int32.toNatClampNeg (I1 56 (Int32.toNatClampNeg ((I1 42 31) - 1)))) r4, L4, D4, am_rf X))) 4 rfl ?_
        obtain ⟨r5, I5, L5, D5, hr, h⟩ := h
        refine am_wp_inv (as := [.ref 42]) rfl rfl rfl rfl ⟨_, hr, ?_⟩
        show am_wp ext d mz_130 (74, [some (.ref 42), some (.int v1), some (.int (I1 56 (Int32.toNatClampNeg ((I1 42 31) - 1))))], [.int r5, .int (I1 56 (Int32.toNatClampNeg ((I1 42 31) - 1))), .ref 47], (I5, L5, D5, am_rf X)) P
        obtain ⟨o, h⟩ := h
        refine am_wps (c' := (75, [some (.ref 42), some (.int v1), some (.int (I1 56 (Int32.toNatClampNeg ((I1 42 31) - 1))))], [], (am_uI I5 47 (Int32.toNatClampNeg (I1 56 (Int32.toNatClampNeg ((I1 42 31) - 1)))) r5, L5, D5, am_rf X))) rfl rfl (am_s_iast rfl o) ?_
        refine am_wpb (c' := (77, [some (.ref 42), some (.int v1), some (.int (I1 56 (Int32.toNatClampNeg ((I1 42 31) - 1))))], [.int (I1 56 (Int32.toNatClampNeg ((I1 42 31) - 1))), .ref 42], (am_uI I5 47 (Int32.toNatClampNeg (I1 56 (Int32.toNatClampNeg ((I1 42 31) - 1)))) r5, L5, D5, am_rf X))) 2 rfl ?_
        obtain ⟨I6, L6, D6, hr, h⟩ := h
        refine am_wp_inv (as := [.ref 42, .int (I1 56 (Int32.toNatClampNeg ((I1 42 31) - 1)))]) rfl rfl rfl rfl ⟨_, hr, ?_⟩
        show am_wp ext d mz_130 (80, [some (.ref 42), some (.int v1), some (.int (I1 56 (Int32.toNatClampNeg ((I1 42 31) - 1))))], [], (I6, L6, D6, am_rf X)) P
        refine am_wpb (c' := (0, [some (.ref 42), some (.int v1), some (.int (I1 56 (Int32.toNatClampNeg ((I1 42 31) - 1))))], [], (I6, L6, D6, am_rf X))) 1 rfl ?_
        exact am_fgt (l := [some (.ref 42), some (.int v1), none]) (am_le_of (am_leS (am_leS (am_leN (am_leZ))))) h
/-- SureSumsModel.waitFor(II)V -/
def mz_131 : am_Y := (fun pc => am_q131.lookup pc, 3, 0)
theorem mh_131 : am_Ys 131 = some mz_131 := rfl
theorem w131_0 {ext : Nat → List Value → am_M → Option am_R} {d : Nat} {P : am_R → Prop} (I : Nat → Nat → Int32) (L : Nat → Nat → Int64) (D : Nat → Nat → UInt64) (X : am_Rf) (v1 : Int32) (v2 : Int32)
    (h : am_inb (I 42 31) 120 = true ∧ (am_inb (I 42 31) 120 = true ∧ (am_inb (I 42 31) 120 = true ∧ (P (none, (am_uI (am_uI (am_uI (am_uI I 55 (Int32.toNatClampNeg (I 42 31)) v1) 56 (Int32.toNatClampNeg (I 42 31)) v2) 57 (Int32.toNatClampNeg (I 42 31)) 0) 42 31 ((I 42 31) + 1), L, D, am_rf X)))))) : am_wp ext d mz_131 (0, [some (.ref 42), some (.int v1), some (.int v2)], [], (I, L, D, am_rf X)) P := by
  refine am_wpb (c' := (9, [some (.ref 42), some (.int v1), some (.int v2)], [.int v1, .int (I 42 31), .ref 55], (I, L, D, am_rf X))) 5 rfl ?_
  obtain ⟨o, h⟩ := h
  refine am_wps (c' := (10, [some (.ref 42), some (.int v1), some (.int v2)], [], (am_uI I 55 (Int32.toNatClampNeg (I 42 31)) v1, L, D, am_rf X))) rfl rfl (am_s_iast rfl o) ?_
  refine am_wpb (c' := (19, [some (.ref 42), some (.int v1), some (.int v2)], [.int v2, .int (I 42 31), .ref 56], (am_uI I 55 (Int32.toNatClampNeg (I 42 31)) v1, L, D, am_rf X))) 5 rfl ?_
  obtain ⟨o, h⟩ := h
  refine am_wps (c' := (20, [some (.ref 42), some (.int v1), some (.int v2)], [], (am_uI (am_uI I 55 (Int32.toNatClampNeg (I 42 31)) v1) 56 (Int32.toNatClampNeg (I 42 31)) v2, L, D, am_rf X))) rfl rfl (am_s_iast rfl o) ?_
  refine am_wpb (c' := (29, [some (.ref 42), some (.int v1), some (.int v2)], [.int 0, .int (I 42 31), .ref 57], (am_uI (am_uI I 55 (Int32.toNatClampNeg (I 42 31)) v1) 56 (Int32.toNatClampNeg (I 42 31)) v2, L, D, am_rf X))) 5 rfl ?_
  obtain ⟨o, h⟩ := h
  refine am_wps (c' := (30, [some (.ref 42), some (.int v1), some (.int v2)], [], (am_uI (am_uI (am_uI I 55 (Int32.toNatClampNeg (I 42 31)) v1) 56 (Int32.toNatClampNeg (I 42 31)) v2) 57 (Int32.toNatClampNeg (I 42 31)) 0, L, D, am_rf X))) rfl rfl (am_s_iast rfl o) ?_
  refine am_wpb (c' := (40, [some (.ref 42), some (.int v1), some (.int v2)], [], (am_uI (am_uI (am_uI (am_uI I 55 (Int32.toNatClampNeg (I 42 31)) v1) 56 (Int32.toNatClampNeg (I 42 31)) v2) 57 (Int32.toNatClampNeg (I 42 31)) 0) 42 31 ((I 42 31) + 1), L, D, am_rf X))) 6 rfl ?_
  exact am_ret_v rfl rfl h
/-- SureSumsModel.opens(I)Z -/
def mz_132 : am_Y := (fun pc => am_q132.lookup pc, 2, 2)
theorem mh_132 : am_Ys 132 = some mz_132 := rfl
theorem w132_0 {ext : Nat → List Value → am_M → Option am_R} {d : Nat} {P : am_R → Prop} (I : Nat → Nat → Int32) (L : Nat → Nat → Int64) (D : Nat → Nat → UInt64) (X : am_Rf) (v1 : Int32)
    (h : ∃ (r1 : Int32) (I1 : Nat → Nat → Int32) (L1 : Nat → Nat → Int64) (D1 : Nat → Nat → UInt64), am_Rn ext d 124 [.ref 42, .int 40] (I, L, D, am_rf X) (some (.int r1), (I1, L1, D1, am_rf X)) ∧ (((¬ r1 = 0 → (((¬ (I1 42 34) = 8 → (∃ (I2 : Nat → Nat → Int32) (L2 : Nat → Nat → Int64) (D2 : Nat → Nat → UInt64), am_Rn ext d 131 [.ref 42, .int 100, .int v1] (am_uI I1 42 34 ((I1 42 34) + 1), L1, D1, am_rf X) (none, (I2, L2, D2, am_rf X)) ∧ (∃ (I3 : Nat → Nat → Int32) (L3 : Nat → Nat → Int64) (D3 : Nat → Nat → UInt64), am_Rn ext d 123 [.ref 42] (I2, L2, D2, am_rf X) (none, (I3, L3, D3, am_rf X)) ∧ (P (some (.int 1), (I3, L3, D3, am_rf X)))))) ∧ ((I1 42 34) = 8 → (∃ (r4 : Int32) (I4 : Nat → Nat → Int32) (L4 : Nat → Nat → Int64) (D4 : Nat → Nat → UInt64), am_Rn ext d 118 [.ref 42, .int 2] (I1, L1, D1, am_rf X) (some (.int r4), (I4, L4, D4, am_rf X)) ∧ ((r4 = 0 ∨ r4 = 1) ∧ P (some (.int r4), (I4, L4, D4, am_rf X)))))))) ∧ (r1 = 0 → (∃ (r5 : Int32) (I5 : Nat → Nat → Int32) (L5 : Nat → Nat → Int64) (D5 : Nat → Nat → UInt64), am_Rn ext d 118 [.ref 42, .int 1] (I1, L1, D1, am_rf X) (some (.int r5), (I5, L5, D5, am_rf X)) ∧ ((r5 = 0 ∨ r5 = 1) ∧ P (some (.int r5), (I5, L5, D5, am_rf X)))))))) : am_wp ext d mz_132 (0, [some (.ref 42), some (.int v1)], [], (I, L, D, am_rf X)) P := by
  refine am_wpb (c' := (3, [some (.ref 42), some (.int v1)], [.int 40, .ref 42], (I, L, D, am_rf X))) 2 rfl ?_
  obtain ⟨r1, I1, L1, D1, hr, h⟩ := h
  refine am_wp_inv (as := [.ref 42, .int 40]) rfl rfl rfl rfl ⟨_, hr, ?_⟩
  show am_wp ext d mz_132 (6, [some (.ref 42), some (.int v1)], [.int r1], (I1, L1, D1, am_rf X)) P
  refine am_b1_ne rfl (fun z => ?_) (fun z => ?_)
  · replace h := h.1 z
    refine am_wpb (c' := (21, [some (.ref 42), some (.int v1)], [.int 8, .int (I1 42 34)], (I1, L1, D1, am_rf X))) 3 rfl ?_
    refine am_b2_ne rfl (fun z => ?_) (fun z => ?_)
    · replace h := h.1 z
      refine am_wpb (c' := (44, [some (.ref 42), some (.int v1)], [.int v1, .int 100, .ref 42], (am_uI I1 42 34 ((I1 42 34) + 1), L1, D1, am_rf X))) 9 rfl ?_
      obtain ⟨I2, L2, D2, hr, h⟩ := h
      refine am_wp_inv (as := [.ref 42, .int 100, .int v1]) rfl rfl rfl rfl ⟨_, hr, ?_⟩
      show am_wp ext d mz_132 (47, [some (.ref 42), some (.int v1)], [], (I2, L2, D2, am_rf X)) P
      refine am_wpb (c' := (48, [some (.ref 42), some (.int v1)], [.ref 42], (I2, L2, D2, am_rf X))) 1 rfl ?_
      obtain ⟨I3, L3, D3, hr, h⟩ := h
      refine am_wp_inv (as := [.ref 42]) rfl rfl rfl rfl ⟨_, hr, ?_⟩
      show am_wp ext d mz_132 (51, [some (.ref 42), some (.int v1)], [], (I3, L3, D3, am_rf X)) P
      refine am_wpb (c' := (52, [some (.ref 42), some (.int v1)], [.int 1], (I3, L3, D3, am_rf X))) 1 rfl ?_
      exact am_ret_z rfl rfl (Or.inr rfl) h
    · replace h := h.2 z
      refine am_wpb (c' := (26, [some (.ref 42), some (.int v1)], [.int 2, .ref 42], (I1, L1, D1, am_rf X))) 2 rfl ?_
      obtain ⟨r4, I4, L4, D4, hr, h⟩ := h
      refine am_wp_inv (as := [.ref 42, .int 2]) rfl rfl rfl rfl ⟨_, hr, ?_⟩
      show am_wp ext d mz_132 (29, [some (.ref 42), some (.int v1)], [.int r4], (I4, L4, D4, am_rf X)) P
      exact am_ret_z rfl rfl h.1 h.2
  · replace h := h.2 z
    refine am_wpb (c' := (11, [some (.ref 42), some (.int v1)], [.int 1, .ref 42], (I1, L1, D1, am_rf X))) 2 rfl ?_
    obtain ⟨r5, I5, L5, D5, hr, h⟩ := h
    refine am_wp_inv (as := [.ref 42, .int 1]) rfl rfl rfl rfl ⟨_, hr, ?_⟩
    show am_wp ext d mz_132 (14, [some (.ref 42), some (.int v1)], [.int r5], (I5, L5, D5, am_rf X)) P
    exact am_ret_z rfl rfl h.1 h.2
/-- SureSumsModel.end(IZ)Z -/
def mz_133 : am_Y := (fun pc => am_q133.lookup pc, 5, 2)
theorem mh_133 : am_Ys 133 = some mz_133 := rfl
theorem w133_0 {ext : Nat → List Value → am_M → Option am_R} {d : Nat} {P : am_R → Prop} (I : Nat → Nat → Int32) (L : Nat → Nat → Int64) (D : Nat → Nat → UInt64) (X : am_Rf) (v1 : Int32) (v2 : Int32)
    (h : ∃ (r1 : Int32) (I1 : Nat → Nat → Int32) (L1 : Nat → Nat → Int64) (D1 : Nat → Nat → UInt64), am_Rn ext d 124 [.ref 42, .int 45] (I, L, D, am_rf X) (some (.int r1), (I1, L1, D1, am_rf X)) ∧ (((r1 = 0 → (am_wp ext d mz_133 (15, [some (.ref 42), some (.int v1), some (.int v2), some (.int r1), none], [], (I1, L1, D1, am_rf X)) P)) ∧ (¬ r1 = 0 → (∃ (I2 : Nat → Nat → Int32) (L2 : Nat → Nat → Int64) (D2 : Nat → Nat → UInt64), am_Rn ext d 123 [.ref 42] (I1, L1, D1, am_rf X) (none, (I2, L2, D2, am_rf X)) ∧ (am_wp ext d mz_133 (15, [some (.ref 42), some (.int v1), some (.int v2), some (.int r1), none], [], (I2, L2, D2, am_rf X)) P)))))) : am_wp ext d mz_133 (0, [some (.ref 42), some (.int v1), some (.int v2), none, none], [], (I, L, D, am_rf X)) P := by
  refine am_wpb (c' := (3, [some (.ref 42), some (.int v1), some (.int v2), none, none], [.int 45, .ref 42], (I, L, D, am_rf X))) 2 rfl ?_
  obtain ⟨r1, I1, L1, D1, hr, h⟩ := h
  refine am_wp_inv (as := [.ref 42, .int 45]) rfl rfl rfl rfl ⟨_, hr, ?_⟩
  show am_wp ext d mz_133 (6, [some (.ref 42), some (.int v1), some (.int v2), none, none], [.int r1], (I1, L1, D1, am_rf X)) P
  refine am_wpb (c' := (8, [some (.ref 42), some (.int v1), some (.int v2), some (.int r1), none], [.int r1], (I1, L1, D1, am_rf X))) 2 rfl ?_
  refine am_b1_eq rfl (fun z => ?_) (fun z => ?_)
  · replace h := h.1 z
    exact h
  · replace h := h.2 z
    refine am_wpb (c' := (12, [some (.ref 42), some (.int v1), some (.int v2), some (.int r1), none], [.ref 42], (I1, L1, D1, am_rf X))) 1 rfl ?_
    obtain ⟨I2, L2, D2, hr, h⟩ := h
    refine am_wp_inv (as := [.ref 42]) rfl rfl rfl rfl ⟨_, hr, ?_⟩
    show am_wp ext d mz_133 (15, [some (.ref 42), some (.int v1), some (.int v2), some (.int r1), none], [], (I2, L2, D2, am_rf X)) P
    exact h
theorem w133_15 {ext : Nat → List Value → am_M → Option am_R} {d : Nat} {P : am_R → Prop} (I : Nat → Nat → Int32) (L : Nat → Nat → Int64) (D : Nat → Nat → UInt64) (X : am_Rf) (v1 : Int32) (v2 : Int32) (v3 : Int32)
    (h : (((I 42 8) = 3 → ((((I 42 9) ≤ 64 → (((v3 = 0 → (am_wp ext d mz_133 (60, [some (.ref 42), some (.int v1), some (.int v2), none, none], [.int (I 42 9)], (I, L, D, am_rf X)) P)) ∧ (¬ v3 = 0 → (am_wp ext d mz_133 (60, [some (.ref 42), some (.int v1), some (.int v2), none, none], [.int (-(I 42 9))], (I, L, D, am_rf X)) P))))) ∧ (¬ (I 42 9) ≤ 64 → (∃ (r1 : Int32) (I1 : Nat → Nat → Int32) (L1 : Nat → Nat → Int64) (D1 : Nat → Nat → UInt64), am_Rn ext d 118 [.ref 42, .int 2] (I, L, D, am_rf X) (some (.int r1), (I1, L1, D1, am_rf X)) ∧ ((r1 = 0 ∨ r1 = 1) ∧ P (some (.int r1), (I1, L1, D1, am_rf X)))))))) ∧ (¬ (I 42 8) = 3 → (∃ (r2 : Int32) (I2 : Nat → Nat → Int32) (L2 : Nat → Nat → Int64) (D2 : Nat → Nat → UInt64), am_Rn ext d 118 [.ref 42, .int 1] (I, L, D, am_rf X) (some (.int r2), (I2, L2, D2, am_rf X)) ∧ ((r2 = 0 ∨ r2 = 1) ∧ P (some (.int r2), (I2, L2, D2, am_rf X))))))) : am_wp ext d mz_133 (15, [some (.ref 42), some (.int v1), some (.int v2), some (.int v3), none], [], (I, L, D, am_rf X)) P := by
  refine am_wpb (c' := (20, [some (.ref 42), some (.int v1), some (.int v2), some (.int v3), none], [.int 3, .int (I 42 8)], (I, L, D, am_rf X))) 3 rfl ?_
  refine am_b2_eq rfl (fun z => ?_) (fun z => ?_)
  · replace h := h.1 z
    refine am_wpb (c' := (35, [some (.ref 42), some (.int v1), some (.int v2), some (.int v3), none], [.int 64, .int (I 42 9)], (I, L, D, am_rf X))) 3 rfl ?_
    refine am_b2_le rfl (fun z => ?_) (fun z => ?_)
    · replace h := h.1 z
      refine am_wpb (c' := (45, [some (.ref 42), some (.int v1), some (.int v2), some (.int v3), none], [.int v3], (I, L, D, am_rf X))) 1 rfl ?_
      refine am_b1_eq rfl (fun z => ?_) (fun z => ?_)
      · replace h := h.1 z
        refine am_wpb (c' := (60, [some (.ref 42), some (.int v1), some (.int v2), some (.int v3), none], [.int (I 42 9)], (I, L, D, am_rf X))) 2 rfl ?_
        exact am_fgt (l := [some (.ref 42), some (.int v1), some (.int v2), none, none]) (am_le_of (am_leS (am_leS (am_leS (am_leN (am_leN (am_leZ))))))) h
      · replace h := h.2 z
        refine am_wpb (c' := (60, [some (.ref 42), some (.int v1), some (.int v2), some (.int v3), none], [.int (-(I 42 9))], (I, L, D, am_rf X))) 4 rfl ?_
        exact am_fgt (l := [some (.ref 42), some (.int v1), some (.int v2), none, none]) (am_le_of (am_leS (am_leS (am_leS (am_leN (am_leN (am_leZ))))))) h
    · replace h := h.2 z
      refine am_wpb (c' := (40, [some (.ref 42), some (.int v1), some (.int v2), some (.int v3), none], [.int 2, .ref 42], (I, L, D, am_rf X))) 2 rfl ?_
      obtain ⟨r1, I1, L1, D1, hr, h⟩ := h
      refine am_wp_inv (as := [.ref 42, .int 2]) rfl rfl rfl rfl ⟨_, hr, ?_⟩
      show am_wp ext d mz_133 (43, [some (.ref 42), some (.int v1), some (.int v2), some (.int v3), none], [.int r1], (I1, L1, D1, am_rf X)) P
      exact am_ret_z rfl rfl h.1 h.2
  · replace h := h.2 z
    refine am_wpb (c' := (25, [some (.ref 42), some (.int v1), some (.int v2), some (.int v3), none], [.int 1, .ref 42], (I, L, D, am_rf X))) 2 rfl ?_
    obtain ⟨r2, I2, L2, D2, hr, h⟩ := h
    refine am_wp_inv (as := [.ref 42, .int 1]) rfl rfl rfl rfl ⟨_, hr, ?_⟩
    show am_wp ext d mz_133 (28, [some (.ref 42), some (.int v1), some (.int v2), some (.int v3), none], [.int r2], (I2, L2, D2, am_rf X)) P
    exact am_ret_z rfl rfl h.1 h.2
theorem w133_60 {ext : Nat → List Value → am_M → Option am_R} {d : Nat} {P : am_R → Prop} (I : Nat → Nat → Int32) (L : Nat → Nat → Int64) (D : Nat → Nat → UInt64) (X : am_Rf) (v1 : Int32) (v2 : Int32) (s0 : Int32)
    (h : ((¬ v2 = 0 → (am_wp ext d mz_133 (83, [some (.ref 42), some (.int v1), some (.int v2), none, some (.int s0)], [], (I, L, D, am_rf X)) P)) ∧ (v2 = 0 → (am_inb v1 192 = true ∧ ((((I 48 (Int32.toNatClampNeg v1)) < s0 → (am_wp ext d mz_133 (83, [some (.ref 42), some (.int v1), some (.int v2), none, some (.int s0)], [], (I, L, D, am_rf X)) P)) ∧ (¬ (I 48 (Int32.toNatClampNeg v1)) < s0 → (∃ (r1 : Int32) (I1 : Nat → Nat → Int32) (L1 : Nat → Nat → Int64) (D1 : Nat → Nat → UInt64), am_Rn ext d 118 [.ref 42, .int 3] (I, L, D, am_rf X) (some (.int r1), (I1, L1, D1, am_rf X)) ∧ ((r1 = 0 ∨ r1 = 1) ∧ P (some (.int r1), (I1, L1, D1, am_rf X))))))))))) : am_wp ext d mz_133 (60, [some (.ref 42), some (.int v1), some (.int v2), none, none], [.int s0], (I, L, D, am_rf X)) P := by
  refine am_wpb (c' := (63, [some (.ref 42), some (.int v1), some (.int v2), none, some (.int s0)], [.int v2], (I, L, D, am_rf X))) 2 rfl ?_
  refine am_b1_ne rfl (fun z => ?_) (fun z => ?_)
  · replace h := h.1 z
    exact h
  · replace h := h.2 z
    refine am_wpb (c' := (73, [some (.ref 42), some (.int v1), some (.int v2), none, some (.int s0)], [.int v1, .ref 48, .int s0], (I, L, D, am_rf X))) 4 rfl ?_
    obtain ⟨o, h⟩ := h
    refine am_wps (c' := (74, [some (.ref 42), some (.int v1), some (.int v2), none, some (.int s0)], [.int (I 48 (Int32.toNatClampNeg v1)), .int s0], (I, L, D, am_rf X))) rfl rfl (am_s_iald rfl o) ?_
    refine am_b2_gt rfl (fun z => ?_) (fun z => ?_)
    · replace h := h.1 z
      exact h
    · replace h := h.2 z
      refine am_wpb (c' := (79, [some (.ref 42), some (.int v1), some (.int v2), none, some (.int s0)], [.int 3, .ref 42], (I, L, D, am_rf X))) 2 rfl ?_
      obtain ⟨r1, I1, L1, D1, hr, h⟩ := h
      refine am_wp_inv (as := [.ref 42, .int 3]) rfl rfl rfl rfl ⟨_, hr, ?_⟩
      show am_wp ext d mz_133 (82, [some (.ref 42), some (.int v1), some (.int v2), none, some (.int s0)], [.int r1], (I1, L1, D1, am_rf X)) P
      exact am_ret_z rfl rfl h.1 h.2
theorem w133_83 {ext : Nat → List Value → am_M → Option am_R} {d : Nat} {P : am_R → Prop} (I : Nat → Nat → Int32) (L : Nat → Nat → Int64) (D : Nat → Nat → UInt64) (X : am_Rf) (v1 : Int32) (v2 : Int32) (v4 : Int32)
    (h : ((v2 = 0 → (am_inb v1 192 = true ∧ (∃ (I1 : Nat → Nat → Int32) (L1 : Nat → Nat → Int64) (D1 : Nat → Nat → UInt64), am_Rn ext d 123 [.ref 42] (am_uI I 49 (Int32.toNatClampNeg v1) v4, L, D, am_rf X) (none, (I1, L1, D1, am_rf X)) ∧ (P (some (.int 1), (I1, L1, D1, am_rf X)))))) ∧ (¬ v2 = 0 → (am_inb v1 192 = true ∧ (∃ (I2 : Nat → Nat → Int32) (L2 : Nat → Nat → Int64) (D2 : Nat → Nat → UInt64), am_Rn ext d 123 [.ref 42] (am_uI I 48 (Int32.toNatClampNeg v1) v4, L, D, am_rf X) (none, (I2, L2, D2, am_rf X)) ∧ (P (some (.int 1), (I2, L2, D2, am_rf X)))))))) : am_wp ext d mz_133 (83, [some (.ref 42), some (.int v1), some (.int v2), none, some (.int v4)], [], (I, L, D, am_rf X)) P := by
  refine am_wpb (c' := (84, [some (.ref 42), some (.int v1), some (.int v2), none, some (.int v4)], [.int v2], (I, L, D, am_rf X))) 1 rfl ?_
  refine am_b1_eq rfl (fun z => ?_) (fun z => ?_)
  · replace h := h.1 z
    refine am_wpb (c' := (105, [some (.ref 42), some (.int v1), some (.int v2), none, some (.int v4)], [.int v4, .int v1, .ref 49], (I, L, D, am_rf X))) 4 rfl ?_
    obtain ⟨o, h⟩ := h
    refine am_wps (c' := (106, [some (.ref 42), some (.int v1), some (.int v2), none, some (.int v4)], [], (am_uI I 49 (Int32.toNatClampNeg v1) v4, L, D, am_rf X))) rfl rfl (am_s_iast rfl o) ?_
    refine am_wpb (c' := (107, [some (.ref 42), some (.int v1), some (.int v2), none, some (.int v4)], [.ref 42], (am_uI I 49 (Int32.toNatClampNeg v1) v4, L, D, am_rf X))) 1 rfl ?_
    obtain ⟨I1, L1, D1, hr, h⟩ := h
    refine am_wp_inv (as := [.ref 42]) rfl rfl rfl rfl ⟨_, hr, ?_⟩
    show am_wp ext d mz_133 (110, [some (.ref 42), some (.int v1), some (.int v2), none, some (.int v4)], [], (I1, L1, D1, am_rf X)) P
    refine am_wpb (c' := (111, [some (.ref 42), some (.int v1), some (.int v2), none, some (.int v4)], [.int 1], (I1, L1, D1, am_rf X))) 1 rfl ?_
    exact am_ret_z rfl rfl (Or.inr rfl) h
  · replace h := h.2 z
    refine am_wpb (c' := (94, [some (.ref 42), some (.int v1), some (.int v2), none, some (.int v4)], [.int v4, .int v1, .ref 48], (I, L, D, am_rf X))) 4 rfl ?_
    obtain ⟨o, h⟩ := h
    refine am_wps (c' := (95, [some (.ref 42), some (.int v1), some (.int v2), none, some (.int v4)], [], (am_uI I 48 (Int32.toNatClampNeg v1) v4, L, D, am_rf X))) rfl rfl (am_s_iast rfl o) ?_
    refine am_wpb (c' := (107, [some (.ref 42), some (.int v1), some (.int v2), none, some (.int v4)], [.ref 42], (am_uI I 48 (Int32.toNatClampNeg v1) v4, L, D, am_rf X))) 2 rfl ?_
    obtain ⟨I2, L2, D2, hr, h⟩ := h
    refine am_wp_inv (as := [.ref 42]) rfl rfl rfl rfl ⟨_, hr, ?_⟩
    show am_wp ext d mz_133 (110, [some (.ref 42), some (.int v1), some (.int v2), none, some (.int v4)], [], (I2, L2, D2, am_rf X)) P
    refine am_wpb (c' := (111, [some (.ref 42), some (.int v1), some (.int v2), none, some (.int v4)], [.int 1], (I2, L2, D2, am_rf X))) 1 rfl ?_
    exact am_ret_z rfl rfl (Or.inr rfl) h
/-- SureSumsModel.over(I)Z -/
def mz_134 : am_Y := (fun pc => am_q134.lookup pc, 2, 2)
theorem mh_134 : am_Ys 134 = some mz_134 := rfl
theorem w134_0 {ext : Nat → List Value → am_M → Option am_R} {d : Nat} {P : am_R → Prop} (I : Nat → Nat → Int32) (L : Nat → Nat → Int64) (D : Nat → Nat → UInt64) (X : am_Rf) (v1 : Int32)
    (h : ∃ (r1 : Int32) (I1 : Nat → Nat → Int32) (L1 : Nat → Nat → Int64) (D1 : Nat → Nat → UInt64), am_Rn ext d 124 [.ref 42, .int 40] (I, L, D, am_rf X) (some (.int r1), (I1, L1, D1, am_rf X)) ∧ (((¬ r1 = 0 → (((¬ (I1 42 34) = 8 → (∃ (I2 : Nat → Nat → Int32) (L2 : Nat → Nat → Int64) (D2 : Nat → Nat → UInt64), am_Rn ext d 123 [.ref 42] (I1, L1, D1, am_rf X) (none, (I2, L2, D2, am_rf X)) ∧ (((¬ (I2 42 8) = 2 → (∃ (r3 : Int32) (I3 : Nat → Nat → Int32) (L3 : Nat → Nat → Int64) (D3 : Nat → Nat → UInt64), am_Rn ext d 118 [.ref 42, .int 1] (I2, L2, D2, am_rf X) (some (.int r3), (I3, L3, D3, am_rf X)) ∧ ((r3 = 0 ∨ r3 = 1) ∧ P (some (.int r3), (I3, L3, D3, am_rf X))))) ∧ ((I2 42 8) = 2 → (((¬ (I2 42 9) = 19 → (am_inb (26 + (I2 42 9)) 52 = true ∧ ((((I2 51 (Int32.toNatClampNeg (26 + (I2 42 9)))) = 2 → (am_inb v1 192 = true ∧ (∃ (I4 : Nat → Nat → Int32) (L4 : Nat → Nat → Int64) (D4 : Nat → Nat → UInt64), am_Rn ext d 123 [.ref 42] (am_uI I2 47 (Int32.toNatClampNeg v1) (I2 42 9), L2, D2, am_rf X) (none, (I4, L4, D4, am_rf X)) ∧ (∃ (r5 : Int32) (I5 : Nat → Nat → Int32) (L5 : Nat → Nat → Int64) (D5 : Nat → Nat → UInt64), am_Rn ext d 125 [.ref 42, .int 44] (I4, L4, D4, am_rf X) (some (.int r5), (I5, L5, D5, am_rf X)) ∧ (((r5 = 0 → (P (some (.int 0), (I5, L5, D5, am_rf X)))) ∧ (¬ r5 = 0 → (∃ (r6 : Int32) (I6 : Nat → Nat → Int32) (L6 : Nat → Nat → Int64) (D6 : Nat → Nat → UInt64), am_Rn ext d 133 [.ref 42, .int v1, .int 1] (I5, L5, D5, am_rf X) (some (.int r6), (I6, L6, D6, am_rf X)) ∧ (((r6 = 0 → (P (some (.int 0), (I6, L6, D6, am_rf X)))) ∧ (¬ r6 = 0 → (∃ (r7 : Int32) (I7 : Nat → Nat → Int32) (L7 : Nat → Nat → Int64) (D7 : Nat → Nat → UInt64), am_Rn ext d 125 [.ref 42, .int 44] (I6, L6, D6, am_rf X) (some (.int r7), (I7, L7, D7, am_rf X)) ∧ (((r7 = 0 → (P (some (.int 0), (I7, L7, D7, am_rf X)))) ∧ (¬ r7 = 0 → (∃ (r8 : Int32) (I8 : Nat → Nat → Int32) (L8 : Nat → Nat → Int64) (D8 : Nat → Nat → UInt64), am_Rn ext d 133 [.ref 42, .int v1, .int 0] (I7, L7, D7, am_rf X) (some (.int r8), (I8, L8, D8, am_rf X)) ∧ (((r8 = 0 → (P (some (.int 0), (I8, L8, D8, am_rf X)))) ∧ (¬ r8 = 0 → (∃ (r9 : Int32) (I9 : Nat → Nat → Int32) (L9 : Nat → Nat → Int64) (D9 : Nat → Nat → UInt64), am_Rn ext d 125 [.ref 42, .int 41] (I8, L8, D8, am_rf X) (some (.int r9), (I9, L9, D9, am_rf X)) ∧ (((¬ r9 = 0 → (∃ (I10 : Nat → Nat → Int32) (L10 : Nat → Nat → Int64) (D10 : Nat → Nat → UInt64), am_Rn ext d 129 [.ref 42, .int v1] (am_uI I9 42 35 0, L9, D9, am_rf X) (none, (I10, L10, D10, am_rf X)) ∧ (P (some (.int 1), (I10, L10, D10, am_rf X))))) ∧ (r9 = 0 → (P (some (.int 0), (I9, L9, D9, am_rf X)))))))))))))))))))))))))) ∧ (¬ (I2 51 (Int32.toNatClampNeg (26 + (I2 42 9)))) = 2 → (∃ (r11 : Int32) (I11 : Nat → Nat → Int32) (L11 : Nat → Nat → Int64) (D11 : Nat → Nat → UInt64), am_Rn ext d 118 [.ref 42, .int 3] (I2, L2, D2, am_rf X) (some (.int r11), (I11, L11, D11, am_rf X)) ∧ ((r11 = 0 ∨ r11 = 1) ∧ P (some (.int r11), (I11, L11, D11, am_rf X))))))))) ∧ ((I2 42 9) = 19 → (∃ (r12 : Int32) (I12 : Nat → Nat → Int32) (L12 : Nat → Nat → Int64) (D12 : Nat → Nat → UInt64), am_Rn ext d 118 [.ref 42, .int 1] (I2, L2, D2, am_rf X) (some (.int r12), (I12, L12, D12, am_rf X)) ∧ ((r12 = 0 ∨ r12 = 1) ∧ P (some (.int r12), (I12, L12, D12, am_rf X)))))))))))) ∧ ((I1 42 34) = 8 → (∃ (r13 : Int32) (I13 : Nat → Nat → Int32) (L13 : Nat → Nat → Int64) (D13 : Nat → Nat → UInt64), am_Rn ext d 118 [.ref 42, .int 2] (I1, L1, D1, am_rf X) (some (.int r13), (I13, L13, D13, am_rf X)) ∧ ((r13 = 0 ∨ r13 = 1) ∧ P (some (.int r13), (I13, L13, D13, am_rf X)))))))) ∧ (r1 = 0 → (∃ (r14 : Int32) (I14 : Nat → Nat → Int32) (L14 : Nat → Nat → Int64) (D14 : Nat → Nat → UInt64), am_Rn ext d 118 [.ref 42, .int 1] (I1, L1, D1, am_rf X) (some (.int r14), (I14, L14, D14, am_rf X)) ∧ ((r14 = 0 ∨ r14 = 1) ∧ P (some (.int r14), (I14, L14, D14, am_rf X)))))))) : am_wp ext d mz_134 (0, [some (.ref 42), some (.int v1)], [], (I, L, D, am_rf X)) P := by
  refine am_wpb (c' := (3, [some (.ref 42), some (.int v1)], [.int 40, .ref 42], (I, L, D, am_rf X))) 2 rfl ?_
  obtain ⟨r1, I1, L1, D1, hr, h⟩ := h
  refine am_wp_inv (as := [.ref 42, .int 40]) rfl rfl rfl rfl ⟨_, hr, ?_⟩
  show am_wp ext d mz_134 (6, [some (.ref 42), some (.int v1)], [.int r1], (I1, L1, D1, am_rf X)) P
  refine am_b1_ne rfl (fun z => ?_) (fun z => ?_)
  · replace h := h.1 z
    refine am_wpb (c' := (21, [some (.ref 42), some (.int v1)], [.int 8, .int (I1 42 34)], (I1, L1, D1, am_rf X))) 3 rfl ?_
    refine am_b2_ne rfl (fun z => ?_) (fun z => ?_)
    · replace h := h.1 z
      refine am_wpb (c' := (31, [some (.ref 42), some (.int v1)], [.ref 42], (I1, L1, D1, am_rf X))) 1 rfl ?_
      obtain ⟨I2, L2, D2, hr, h⟩ := h
      refine am_wp_inv (as := [.ref 42]) rfl rfl rfl rfl ⟨_, hr, ?_⟩
      show am_wp ext d mz_134 (34, [some (.ref 42), some (.int v1)], [], (I2, L2, D2, am_rf X)) P
      refine am_wpb (c' := (39, [some (.ref 42), some (.int v1)], [.int 2, .int (I2 42 8)], (I2, L2, D2, am_rf X))) 3 rfl ?_
      refine am_b2_ne rfl (fun z => ?_) (fun z => ?_)
      · replace h := h.1 z
        refine am_wpb (c' := (53, [some (.ref 42), some (.int v1)], [.int 1, .ref 42], (I2, L2, D2, am_rf X))) 2 rfl ?_
        obtain ⟨r3, I3, L3, D3, hr, h⟩ := h
        refine am_wp_inv (as := [.ref 42, .int 1]) rfl rfl rfl rfl ⟨_, hr, ?_⟩
        show am_wp ext d mz_134 (56, [some (.ref 42), some (.int v1)], [.int r3], (I3, L3, D3, am_rf X)) P
        exact am_ret_z rfl rfl h.1 h.2
      · replace h := h.2 z
        refine am_wpb (c' := (48, [some (.ref 42), some (.int v1)], [.int 19, .int (I2 42 9)], (I2, L2, D2, am_rf X))) 3 rfl ?_
        refine am_b2_ne rfl (fun z => ?_) (fun z => ?_)
        · replace h := h.1 z
          refine am_wpb (c' := (68, [some (.ref 42), some (.int v1)], [.int (26 + (I2 42 9)), .ref 51], (I2, L2, D2, am_rf X))) 6 rfl ?_
          obtain ⟨o, h⟩ := h
          refine am_wps (c' := (69, [some (.ref 42), some (.int v1)], [.int (I2 51 (Int32.toNatClampNeg (26 + (I2 42 9))))], (I2, L2, D2, am_rf X))) rfl rfl (am_s_iald rfl o) ?_
          refine am_wpb (c' := (70, [some (.ref 42), some (.int v1)], [.int 2, .int (I2 51 (Int32.toNatClampNeg (26 + (I2 42 9))))], (I2, L2, D2, am_rf X))) 1 rfl ?_
          refine am_b2_eq rfl (fun z => ?_) (fun z => ?_)
          · replace h := h.1 z
            refine am_wpb (c' := (88, [some (.ref 42), some (.int v1)], [.int (I2 42 9), .int v1, .ref 47], (I2, L2, D2, am_rf X))) 5 rfl ?_
            obtain ⟨o, h⟩ := h
            refine am_wps (c' := (89, [some (.ref 42), some (.int v1)], [], (am_uI I2 47 (Int32.toNatClampNeg v1) (I2 42 9), L2, D2, am_rf X))) rfl rfl (am_s_iast rfl o) ?_
            refine am_wpb (c' := (90, [some (.ref 42), some (.int v1)], [.ref 42], (am_uI I2 47 (Int32.toNatClampNeg v1) (I2 42 9), L2, D2, am_rf X))) 1 rfl ?_
            obtain ⟨I4, L4, D4, hr, h⟩ := h
            refine am_wp_inv (as := [.ref 42]) rfl rfl rfl rfl ⟨_, hr, ?_⟩
            show am_wp ext d mz_134 (93, [some (.ref 42), some (.int v1)], [], (I4, L4, D4, am_rf X)) P
            refine am_wpb (c' := (96, [some (.ref 42), some (.int v1)], [.int 44, .ref 42], (I4, L4, D4, am_rf X))) 2 rfl ?_
            obtain ⟨r5, I5, L5, D5, hr, h⟩ := h
            refine am_wp_inv (as := [.ref 42, .int 44]) rfl rfl rfl rfl ⟨_, hr, ?_⟩
            show am_wp ext d mz_134 (99, [some (.ref 42), some (.int v1)], [.int r5], (I5, L5, D5, am_rf X)) P
            refine am_b1_eq rfl (fun z => ?_) (fun z => ?_)
            · replace h := h.1 z
              refine am_wpb (c' := (139, [some (.ref 42), some (.int v1)], [.int 0], (I5, L5, D5, am_rf X))) 1 rfl ?_
              exact am_ret_z rfl rfl (Or.inl rfl) h
            · replace h := h.2 z
              refine am_wpb (c' := (105, [some (.ref 42), some (.int v1)], [.int 1, .int v1, .ref 42], (I5, L5, D5, am_rf X))) 3 rfl ?_
              obtain ⟨r6, I6, L6, D6, hr, h⟩ := h
              refine am_wp_inv (as := [.ref 42, .int v1, .int 1]) rfl rfl rfl rfl ⟨_, hr, ?_⟩
              show am_wp ext d mz_134 (108, [some (.ref 42), some (.int v1)], [.int r6], (I6, L6, D6, am_rf X)) P
              refine am_b1_eq rfl (fun z => ?_) (fun z => ?_)
              · replace h := h.1 z
                refine am_wpb (c' := (139, [some (.ref 42), some (.int v1)], [.int 0], (I6, L6, D6, am_rf X))) 1 rfl ?_
                exact am_ret_z rfl rfl (Or.inl rfl) h
              · replace h := h.2 z
                refine am_wpb (c' := (114, [some (.ref 42), some (.int v1)], [.int 44, .ref 42], (I6, L6, D6, am_rf X))) 2 rfl ?_
                obtain ⟨r7, I7, L7, D7, hr, h⟩ := h
                refine am_wp_inv (as := [.ref 42, .int 44]) rfl rfl rfl rfl ⟨_, hr, ?_⟩
                show am_wp ext d mz_134 (117, [some (.ref 42), some (.int v1)], [.int r7], (I7, L7, D7, am_rf X)) P
                refine am_b1_eq rfl (fun z => ?_) (fun z => ?_)
                · replace h := h.1 z
                  refine am_wpb (c' := (139, [some (.ref 42), some (.int v1)], [.int 0], (I7, L7, D7, am_rf X))) 1 rfl ?_
                  exact am_ret_z rfl rfl (Or.inl rfl) h
                · replace h := h.2 z
                  refine am_wpb (c' := (123, [some (.ref 42), some (.int v1)], [.int 0, .int v1, .ref 42], (I7, L7, D7, am_rf X))) 3 rfl ?_
                  obtain ⟨r8, I8, L8, D8, hr, h⟩ := h
                  refine am_wp_inv (as := [.ref 42, .int v1, .int 0]) rfl rfl rfl rfl ⟨_, hr, ?_⟩
                  show am_wp ext d mz_134 (126, [some (.ref 42), some (.int v1)], [.int r8], (I8, L8, D8, am_rf X)) P
                  refine am_b1_eq rfl (fun z => ?_) (fun z => ?_)
                  · replace h := h.1 z
                    refine am_wpb (c' := (139, [some (.ref 42), some (.int v1)], [.int 0], (I8, L8, D8, am_rf X))) 1 rfl ?_
                    exact am_ret_z rfl rfl (Or.inl rfl) h
                  · replace h := h.2 z
                    refine am_wpb (c' := (132, [some (.ref 42), some (.int v1)], [.int 41, .ref 42], (I8, L8, D8, am_rf X))) 2 rfl ?_
                    obtain ⟨r9, I9, L9, D9, hr, h⟩ := h
                    refine am_wp_inv (as := [.ref 42, .int 41]) rfl rfl rfl rfl ⟨_, hr, ?_⟩
                    show am_wp ext d mz_134 (135, [some (.ref 42), some (.int v1)], [.int r9], (I9, L9, D9, am_rf X)) P
                    refine am_b1_ne rfl (fun z => ?_) (fun z => ?_)
                    · replace h := h.1 z
                      refine am_wpb (c' := (147, [some (.ref 42), some (.int v1)], [.int v1, .ref 42], (am_uI I9 42 35 0, L9, D9, am_rf X))) 5 rfl ?_
                      obtain ⟨I10, L10, D10, hr, h⟩ := h
                      refine am_wp_inv (as := [.ref 42, .int v1]) rfl rfl rfl rfl ⟨_, hr, ?_⟩
                      show am_wp ext d mz_134 (150, [some (.ref 42), some (.int v1)], [], (I10, L10, D10, am_rf X)) P
                      refine am_wpb (c' := (151, [some (.ref 42), some (.int v1)], [.int 1], (I10, L10, D10, am_rf X))) 1 rfl ?_
                      exact am_ret_z rfl rfl (Or.inr rfl) h
                    · replace h := h.2 z
                      refine am_wpb (c' := (139, [some (.ref 42), some (.int v1)], [.int 0], (I9, L9, D9, am_rf X))) 1 rfl ?_
                      exact am_ret_z rfl rfl (Or.inl rfl) h
          · replace h := h.2 z
            refine am_wpb (c' := (75, [some (.ref 42), some (.int v1)], [.int 3, .ref 42], (I2, L2, D2, am_rf X))) 2 rfl ?_
            obtain ⟨r11, I11, L11, D11, hr, h⟩ := h
            refine am_wp_inv (as := [.ref 42, .int 3]) rfl rfl rfl rfl ⟨_, hr, ?_⟩
            show am_wp ext d mz_134 (78, [some (.ref 42), some (.int v1)], [.int r11], (I11, L11, D11, am_rf X)) P
            exact am_ret_z rfl rfl h.1 h.2
        · replace h := h.2 z
          refine am_wpb (c' := (53, [some (.ref 42), some (.int v1)], [.int 1, .ref 42], (I2, L2, D2, am_rf X))) 2 rfl ?_
          obtain ⟨r12, I12, L12, D12, hr, h⟩ := h
          refine am_wp_inv (as := [.ref 42, .int 1]) rfl rfl rfl rfl ⟨_, hr, ?_⟩
          show am_wp ext d mz_134 (56, [some (.ref 42), some (.int v1)], [.int r12], (I12, L12, D12, am_rf X)) P
          exact am_ret_z rfl rfl h.1 h.2
    · replace h := h.2 z
      refine am_wpb (c' := (26, [some (.ref 42), some (.int v1)], [.int 2, .ref 42], (I1, L1, D1, am_rf X))) 2 rfl ?_
      obtain ⟨r13, I13, L13, D13, hr, h⟩ := h
      refine am_wp_inv (as := [.ref 42, .int 2]) rfl rfl rfl rfl ⟨_, hr, ?_⟩
      show am_wp ext d mz_134 (29, [some (.ref 42), some (.int v1)], [.int r13], (I13, L13, D13, am_rf X)) P
      exact am_ret_z rfl rfl h.1 h.2
  · replace h := h.2 z
    refine am_wpb (c' := (11, [some (.ref 42), some (.int v1)], [.int 1, .ref 42], (I1, L1, D1, am_rf X))) 2 rfl ?_
    obtain ⟨r14, I14, L14, D14, hr, h⟩ := h
    refine am_wp_inv (as := [.ref 42, .int 1]) rfl rfl rfl rfl ⟨_, hr, ?_⟩
    show am_wp ext d mz_134 (14, [some (.ref 42), some (.int v1)], [.int r14], (I14, L14, D14, am_rf X)) P
    exact am_ret_z rfl rfl h.1 h.2
