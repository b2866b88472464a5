/-- SureSums$Spans.perform(III)I -/
def mz_63 : am_Y := (fun pc => am_q63.lookup pc, 5, 1)
theorem mh_63 : am_Ys 63 = some mz_63 := rfl
theorem w63_0 {ext : Nat → List Value → am_M → Option am_R} {d : Nat} {P : am_R → Prop} (I : Nat → Nat → Int32) (L : Nat → Nat → Int64) (D : Nat → Nat → UInt64) (xc : Nat) (xi : Nat) (xs : Nat) (xt : Nat) (xu : Nat) (v1 : Int32) (v2 : Int32) (v3 : Int32)
    (h : ∃ (r1 : Int32) (I1 : Nat → Nat → Int32) (L1 : Nat → Nat → Int64) (D1 : Nat → Nat → UInt64), am_Rn ext d 39 [.ref 2, .int v2] (I, L, D, am_rf (xt, xs, xi, 2, xu, xc)) (some (.int r1), (I1, L1, D1, am_rf (xt, xs, xi, 2, xu, xc))) ∧ (((v1 = 0 → (∃ (I2 : Nat → Nat → Int32) (L2 : Nat → Nat → Int64) (D2 : Nat → Nat → UInt64), am_Rn ext d 64 [.ref 25, .long ((Int32.toInt64 r1) <<< ((Int32.toInt64 (I1 25 6)) &&& 63)), .long ((Int32.toInt64 r1) <<< ((Int32.toInt64 (I1 25 6)) &&& 63))] (I1, L1, D1, am_rf (xt, xs, xi, 2, xu, xc)) (none, (I2, L2, D2, am_rf (xt, xs, xi, 2, xu, xc))) ∧ (P (some (.int v2), (I2, L2, D2, am_rf (xt, xs, xi, 2, xu, xc)))))) ∧ (v1 = 2 → (∃ (I3 : Nat → Nat → Int32) (L3 : Nat → Nat → Int64) (D3 : Nat → Nat → UInt64), am_Rn ext d 62 [.ref 25, .int r1, .long 0, .long 0, .int (v3 + 1)] (I1, L1, D1, am_rf (xt, xs, xi, 2, xu, xc)) (none, (I3, L3, D3, am_rf (xt, xs, xi, 2, xu, xc))) ∧ (P (some (.int v2), (I3, L3, D3, am_rf (xt, xs, xi, 2, xu, xc)))))) ∧ (v1 = 3 → (∃ (I4 : Nat → Nat → Int32) (L4 : Nat → Nat → Int64) (D4 : Nat → Nat → UInt64), am_Rn ext d 65 [.ref 25, .int r1, .int (v3 + 1)] (I1, L1, D1, am_rf (xt, xs, xi, 2, xu, xc)) (none, (I4, L4, D4, am_rf (xt, xs, xi, 2, xu, xc))) ∧ (P (some (.int v2), (I4, L4, D4, am_rf (xt, xs, xi, 2, xu, xc)))))) ∧ (v1 = 4 → (∃ (I5 : Nat → Nat → Int32) (L5 : Nat → Nat → Int64) (D5 : Nat → Nat → UInt64), am_Rn ext d 79 [.ref 25, .int r1, .int v2, .int (v3 + 1)] (I1, L1, D1, am_rf (xt, xs, xi, 2, xu, xc)) (none, (I5, L5, D5, am_rf (xt, xs, xi, 2, xu, xc))) ∧ (P (some (.int v2), (I5, L5, D5, am_rf (xt, xs, xi, 2, xu, xc)))))) ∧ (v1 = 5 ∨ v1 = 6 ∨ v1 = 7 → (∃ (I6 : Nat → Nat → Int32) (L6 : Nat → Nat → Int64) (D6 : Nat → Nat → UInt64), am_Rn ext d 81 [.ref 25, .int v1, .int r1, .int v2, .int (v3 + 1)] (I1, L1, D1, am_rf (xt, xs, xi, 2, xu, xc)) (none, (I6, L6, D6, am_rf (xt, xs, xi, 2, xu, xc))) ∧ (P (some (.int v2), (I6, L6, D6, am_rf (xt, xs, xi, 2, xu, xc)))))) ∧ (v1 = 8 ∨ v1 = 9 ∨ v1 = 10 → (∃ (I7 : Nat → Nat → Int32) (L7 : Nat → Nat → Int64) (D7 : Nat → Nat → UInt64), am_Rn ext d 66 [.ref 25, .int v1] (I1, L1, D1, am_rf (xt, xs, xi, 2, xu, xc)) (none, (I7, L7, D7, am_rf (xt, xs, xi, 2, xu, xc))) ∧ (P (some (.int v2), (I7, L7, D7, am_rf (xt, xs, xi, 2, xu, xc)))))) ∧ (v1 = 17 ∨ v1 = 18 → (∃ (r8 : Int32) (I8 : Nat → Nat → Int32) (L8 : Nat → Nat → Int64) (D8 : Nat → Nat → UInt64), am_Rn ext d 76 [.ref 25, .int v1, .int r1, .int v2] (I1, L1, D1, am_rf (xt, xs, xi, 2, xu, xc)) (some (.int r8), (I8, L8, D8, am_rf (xt, xs, xi, 2, xu, xc))) ∧ (P (some (.int r8), (I8, L8, D8, am_rf (xt, xs, xi, 2, xu, xc)))))) ∧ (¬ v1 = 0 ∧ ¬ v1 = 2 ∧ ¬ v1 = 3 ∧ ¬ v1 = 4 ∧ ¬ v1 = 5 ∧ ¬ v1 = 6 ∧ ¬ v1 = 7 ∧ ¬ v1 = 8 ∧ ¬ v1 = 9 ∧ ¬ v1 = 10 ∧ ¬ v1 = 17 ∧ ¬ v1 = 18 → (∃ (I9 : Nat → Nat → Int32) (L9 : Nat → Nat → Int64) (D9 : Nat → Nat → UInt64), am_Rn ext d 67 [.ref 25, .int v1] (I1, L1, D1, am_rf (xt, xs, xi, 2, xu, xc)) (none, (I9, L9, D9, am_rf (xt, xs, xi, 2, xu, xc))) ∧ (P (some (.int v2), (I9, L9, D9, am_rf (xt, xs, xi, 2, xu, xc))))))))) : am_wp ext d mz_63 (0, [some (.ref 25), some (.int v1), some (.int v2), some (.int v3), none], [], (I, L, D, am_rf (xt, xs, xi, 2, xu, xc))) P := by
  refine am_wpb (c' := (5, [some (.ref 25), some (.int v1), some (.int v2), some (.int v3), none], [.int v2, .ref 2], (I, L, D, am_rf (xt, xs, xi, 2, xu, xc)))) 3 rfl ?_
  obtain ⟨r1, I1, L1, D1, hr, h⟩ := h
  refine am_wp_inv (as := [.ref 2, .int v2]) rfl rfl rfl rfl ⟨_, hr, ?_⟩
  show am_wp ext d mz_63 (8, [some (.ref 25), some (.int v1), some (.int v2), some (.int v3), none], [.int r1], (I1, L1, D1, am_rf (xt, xs, xi, 2, xu, xc))) P
  refine am_wpb (c' := (11, [some (.ref 25), some (.int v1), some (.int v2), some (.int v3), some (.int r1)], [.int v1], (I1, L1, D1, am_rf (xt, xs, xi, 2, xu, xc)))) 2 rfl ?_
  have hsw := am_swc v1 0 18
  by_cases c0 : v1 = 0
  · replace h := h.1 c0
    have e := c0
    refine am_ts_in 0 rfl (by rw [e]; rfl) (by decide) rfl ?_
    refine am_wpb (c' := (117, [some (.ref 25), some (.int v1), some (.int v2), some (.int v3), some (.int r1)], [.long ((Int32.toInt64 r1) <<< ((Int32.toInt64 (I1 25 6)) &&& 63)), .long ((Int32.toInt64 r1) <<< ((Int32.toInt64 (I1 25 6)) &&& 63)), .ref 25], (I1, L1, D1, am_rf (xt, xs, xi, 2, xu, xc)))) 11 rfl ?_
    obtain ⟨I2, L2, D2, hr, h⟩ := h
    refine am_wp_inv (as := [.ref 25, .long ((Int32.toInt64 r1) <<< ((Int32.toInt64 (I1 25 6)) &&& 63)), .long ((Int32.toInt64 r1) <<< ((Int32.toInt64 (I1 25 6)) &&& 63))]) rfl rfl rfl rfl ⟨_, hr, ?_⟩
    show am_wp ext d mz_63 (120, [some (.ref 25), some (.int v1), some (.int v2), some (.int v3), some (.int r1)], [], (I2, L2, D2, am_rf (xt, xs, xi, 2, xu, xc))) P
    refine am_wpb (c' := (121, [some (.ref 25), some (.int v1), some (.int v2), some (.int v3), some (.int r1)], [.int v2], (I2, L2, D2, am_rf (xt, xs, xi, 2, xu, xc)))) 1 rfl ?_
    exact am_ret_i rfl rfl h
  by_cases c1 : v1 = 2
  · replace h := h.2.1 c1
    have e := c1
    refine am_ts_in 2 rfl (by rw [e]; rfl) (by decide) rfl ?_
    refine am_wpb (c' := (130, [some (.ref 25), some (.int v1), some (.int v2), some (.int v3), some (.int r1)], [.int (v3 + 1), .long 0, .long 0, .int r1, .ref 25], (I1, L1, D1, am_rf (xt, xs, xi, 2, xu, xc)))) 7 rfl ?_
    obtain ⟨I3, L3, D3, hr, h⟩ := h
    refine am_wp_inv (as := [.ref 25, .int r1, .long 0, .long 0, .int (v3 + 1)]) rfl rfl rfl rfl ⟨_, hr, ?_⟩
    show am_wp ext d mz_63 (133, [some (.ref 25), some (.int v1), some (.int v2), some (.int v3), some (.int r1)], [], (I3, L3, D3, am_rf (xt, xs, xi, 2, xu, xc))) P
    refine am_wpb (c' := (134, [some (.ref 25), some (.int v1), some (.int v2), some (.int v3), some (.int r1)], [.int v2], (I3, L3, D3, am_rf (xt, xs, xi, 2, xu, xc)))) 1 rfl ?_
    exact am_ret_i rfl rfl h
  by_cases c2 : v1 = 3
  · replace h := h.2.2.1 c2
    have e := c2
    refine am_ts_in 3 rfl (by rw [e]; rfl) (by decide) rfl ?_
    refine am_wpb (c' := (141, [some (.ref 25), some (.int v1), some (.int v2), some (.int v3), some (.int r1)], [.int (v3 + 1), .int r1, .ref 25], (I1, L1, D1, am_rf (xt, xs, xi, 2, xu, xc)))) 5 rfl ?_
    obtain ⟨I4, L4, D4, hr, h⟩ := h
    refine am_wp_inv (as := [.ref 25, .int r1, .int (v3 + 1)]) rfl rfl rfl rfl ⟨_, hr, ?_⟩
    show am_wp ext d mz_63 (144, [some (.ref 25), some (.int v1), some (.int v2), some (.int v3), some (.int r1)], [], (I4, L4, D4, am_rf (xt, xs, xi, 2, xu, xc))) P
    refine am_wpb (c' := (145, [some (.ref 25), some (.int v1), some (.int v2), some (.int v3), some (.int r1)], [.int v2], (I4, L4, D4, am_rf (xt, xs, xi, 2, xu, xc)))) 1 rfl ?_
    exact am_ret_i rfl rfl h
  by_cases c3 : v1 = 4
  · replace h := h.2.2.2.1 c3
    have e := c3
    refine am_ts_in 4 rfl (by rw [e]; rfl) (by decide) rfl ?_
    refine am_wpb (c' := (153, [some (.ref 25), some (.int v1), some (.int v2), some (.int v3), some (.int r1)], [.int (v3 + 1), .int v2, .int r1, .ref 25], (I1, L1, D1, am_rf (xt, xs, xi, 2, xu, xc)))) 6 rfl ?_
    obtain ⟨I5, L5, D5, hr, h⟩ := h
    refine am_wp_inv (as := [.ref 25, .int r1, .int v2, .int (v3 + 1)]) rfl rfl rfl rfl ⟨_, hr, ?_⟩
    show am_wp ext d mz_63 (156, [some (.ref 25), some (.int v1), some (.int v2), some (.int v3), some (.int r1)], [], (I5, L5, D5, am_rf (xt, xs, xi, 2, xu, xc))) P
    refine am_wpb (c' := (157, [some (.ref 25), some (.int v1), some (.int v2), some (.int v3), some (.int r1)], [.int v2], (I5, L5, D5, am_rf (xt, xs, xi, 2, xu, xc)))) 1 rfl ?_
    exact am_ret_i rfl rfl h
  by_cases c4 : v1 = 5 ∨ v1 = 6 ∨ v1 = 7
  · replace h := h.2.2.2.2.1 c4
    rcases c4 with e | e | e
    · refine am_ts_in 5 rfl (by rw [e]; rfl) (by decide) rfl ?_
      refine am_wpb (c' := (166, [some (.ref 25), some (.int v1), some (.int v2), some (.int v3), some (.int r1)], [.int (v3 + 1), .int v2, .int r1, .int v1, .ref 25], (I1, L1, D1, am_rf (xt, xs, xi, 2, xu, xc)))) 7 rfl ?_
      obtain ⟨I6, L6, D6, hr, h⟩ := h
      refine am_wp_inv (as := [.ref 25, .int v1, .int r1, .int v2, .int (v3 + 1)]) rfl rfl rfl rfl ⟨_, hr, ?_⟩
      show am_wp ext d mz_63 (169, [some (.ref 25), some (.int v1), some (.int v2), some (.int v3), some (.int r1)], [], (I6, L6, D6, am_rf (xt, xs, xi, 2, xu, xc))) P
      refine am_wpb (c' := (170, [some (.ref 25), some (.int v1), some (.int v2), some (.int v3), some (.int r1)], [.int v2], (I6, L6, D6, am_rf (xt, xs, xi, 2, xu, xc)))) 1 rfl ?_
      exact am_ret_i rfl rfl h
    · refine am_ts_in 6 rfl (by rw [e]; rfl) (by decide) rfl ?_
      refine am_wpb (c' := (166, [some (.ref 25), some (.int v1), some (.int v2), some (.int v3), some (.int r1)], [.int (v3 + 1), .int v2, .int r1, .int v1, .ref 25], (I1, L1, D1, am_rf (xt, xs, xi, 2, xu, xc)))) 7 rfl ?_
      obtain ⟨I6, L6, D6, hr, h⟩ := h
      refine am_wp_inv (as := [.ref 25, .int v1, .int r1, .int v2, .int (v3 + 1)]) rfl rfl rfl rfl ⟨_, hr, ?_⟩
      show am_wp ext d mz_63 (169, [some (.ref 25), some (.int v1), some (.int v2), some (.int v3), some (.int r1)], [], (I6, L6, D6, am_rf (xt, xs, xi, 2, xu, xc))) P
      refine am_wpb (c' := (170, [some (.ref 25), some (.int v1), some (.int v2), some (.int v3), some (.int r1)], [.int v2], (I6, L6, D6, am_rf (xt, xs, xi, 2, xu, xc)))) 1 rfl ?_
      exact am_ret_i rfl rfl h
    · refine am_ts_in 7 rfl (by rw [e]; rfl) (by decide) rfl ?_
      refine am_wpb (c' := (166, [some (.ref 25), some (.int v1), some (.int v2), some (.int v3), some (.int r1)], [.int (v3 + 1), .int v2, .int r1, .int v1, .ref 25], (I1, L1, D1, am_rf (xt, xs, xi, 2, xu, xc)))) 7 rfl ?_
      obtain ⟨I6, L6, D6, hr, h⟩ := h
      refine am_wp_inv (as := [.ref 25, .int v1, .int r1, .int v2, .int (v3 + 1)]) rfl rfl rfl rfl ⟨_, hr, ?_⟩
      show am_wp ext d mz_63 (169, [some (.ref 25), some (.int v1), some (.int v2), some (.int v3), some (.int r1)], [], (I6, L6, D6, am_rf (xt, xs, xi, 2, xu, xc))) P
      refine am_wpb (c' := (170, [some (.ref 25), some (.int v1), some (.int v2), some (.int v3), some (.int r1)], [.int v2], (I6, L6, D6, am_rf (xt, xs, xi, 2, xu, xc)))) 1 rfl ?_
      exact am_ret_i rfl rfl h
  by_cases c5 : v1 = 8 ∨ v1 = 9 ∨ v1 = 10
  · replace h := h.2.2.2.2.2.1 c5
    rcases c5 with e | e | e
    · refine am_ts_in 8 rfl (by rw [e]; rfl) (by decide) rfl ?_
      refine am_wpb (c' := (173, [some (.ref 25), some (.int v1), some (.int v2), some (.int v3), some (.int r1)], [.int v1, .ref 25], (I1, L1, D1, am_rf (xt, xs, xi, 2, xu, xc)))) 2 rfl ?_
      obtain ⟨I7, L7, D7, hr, h⟩ := h
      refine am_wp_inv (as := [.ref 25, .int v1]) rfl rfl rfl rfl ⟨_, hr, ?_⟩
      show am_wp ext d mz_63 (176, [some (.ref 25), some (.int v1), some (.int v2), some (.int v3), some (.int r1)], [], (I7, L7, D7, am_rf (xt, xs, xi, 2, xu, xc))) P
      refine am_wpb (c' := (177, [some (.ref 25), some (.int v1), some (.int v2), some (.int v3), some (.int r1)], [.int v2], (I7, L7, D7, am_rf (xt, xs, xi, 2, xu, xc)))) 1 rfl ?_
      exact am_ret_i rfl rfl h
    · refine am_ts_in 9 rfl (by rw [e]; rfl) (by decide) rfl ?_
      refine am_wpb (c' := (173, [some (.ref 25), some (.int v1), some (.int v2), some (.int v3), some (.int r1)], [.int v1, .ref 25], (I1, L1, D1, am_rf (xt, xs, xi, 2, xu, xc)))) 2 rfl ?_
      obtain ⟨I7, L7, D7, hr, h⟩ := h
      refine am_wp_inv (as := [.ref 25, .int v1]) rfl rfl rfl rfl ⟨_, hr, ?_⟩
      show am_wp ext d mz_63 (176, [some (.ref 25), some (.int v1), some (.int v2), some (.int v3), some (.int r1)], [], (I7, L7, D7, am_rf (xt, xs, xi, 2, xu, xc))) P
      refine am_wpb (c' := (177, [some (.ref 25), some (.int v1), some (.int v2), some (.int v3), some (.int r1)], [.int v2], (I7, L7, D7, am_rf (xt, xs, xi, 2, xu, xc)))) 1 rfl ?_
      exact am_ret_i rfl rfl h
    · refine am_ts_in 10 rfl (by rw [e]; rfl) (by decide) rfl ?_
      refine am_wpb (c' := (173, [some (.ref 25), some (.int v1), some (.int v2), some (.int v3), some (.int r1)], [.int v1, .ref 25], (I1, L1, D1, am_rf (xt, xs, xi, 2, xu, xc)))) 2 rfl ?_
      obtain ⟨I7, L7, D7, hr, h⟩ := h
      refine am_wp_inv (as := [.ref 25, .int v1]) rfl rfl rfl rfl ⟨_, hr, ?_⟩
      show am_wp ext d mz_63 (176, [some (.ref 25), some (.int v1), some (.int v2), some (.int v3), some (.int r1)], [], (I7, L7, D7, am_rf (xt, xs, xi, 2, xu, xc))) P
      refine am_wpb (c' := (177, [some (.ref 25), some (.int v1), some (.int v2), some (.int v3), some (.int r1)], [.int v2], (I7, L7, D7, am_rf (xt, xs, xi, 2, xu, xc)))) 1 rfl ?_
      exact am_ret_i rfl rfl h
  by_cases c6 : v1 = 17 ∨ v1 = 18
  · replace h := h.2.2.2.2.2.2.1 c6
    rcases c6 with e | e
    · refine am_ts_in 17 rfl (by rw [e]; rfl) (by decide) rfl ?_
      refine am_wpb (c' := (183, [some (.ref 25), some (.int v1), some (.int v2), some (.int v3), some (.int r1)], [.int v2, .int r1, .int v1, .ref 25], (I1, L1, D1, am_rf (xt, xs, xi, 2, xu, xc)))) 4 rfl ?_
      obtain ⟨r8, I8, L8, D8, hr, h⟩ := h
      refine am_wp_inv (as := [.ref 25, .int v1, .int r1, .int v2]) rfl rfl rfl rfl ⟨_, hr, ?_⟩
      show am_wp ext d mz_63 (186, [some (.ref 25), some (.int v1), some (.int v2), some (.int v3), some (.int r1)], [.int r8], (I8, L8, D8, am_rf (xt, xs, xi, 2, xu, xc))) P
      exact am_ret_i rfl rfl h
    · refine am_ts_in 18 rfl (by rw [e]; rfl) (by decide) rfl ?_
      refine am_wpb (c' := (183, [some (.ref 25), some (.int v1), some (.int v2), some (.int v3), some (.int r1)], [.int v2, .int r1, .int v1, .ref 25], (I1, L1, D1, am_rf (xt, xs, xi, 2, xu, xc)))) 4 rfl ?_
      obtain ⟨r8, I8, L8, D8, hr, h⟩ := h
      refine am_wp_inv (as := [.ref 25, .int v1, .int r1, .int v2]) rfl rfl rfl rfl ⟨_, hr, ?_⟩
      show am_wp ext d mz_63 (186, [some (.ref 25), some (.int v1), some (.int v2), some (.int v3), some (.int r1)], [.int r8], (I8, L8, D8, am_rf (xt, xs, xi, 2, xu, xc))) P
      exact am_ret_i rfl rfl h
  replace h := h.2.2.2.2.2.2.2 ⟨fun e => c0 (e), fun e => c1 (e), fun e => c2 (e), fun e => c3 (e), fun e => c4 (Or.inl e), fun e => c4 (Or.inr (Or.inl e)), fun e => c4 (Or.inr (Or.inr (e))), fun e => c5 (Or.inl e), fun e => c5 (Or.inr (Or.inl e)), fun e => c5 (Or.inr (Or.inr (e))), fun e => c6 (Or.inl e), fun e => c6 (Or.inr (e))⟩
  rcases hsw with hsw | ⟨k, hk, hsw⟩
  · refine am_ts_out rfl hsw ?_
    refine am_wpb (c' := (189, [some (.ref 25), some (.int v1), some (.int v2), some (.int v3), some (.int r1)], [.int v1, .ref 25], (I1, L1, D1, am_rf (xt, xs, xi, 2, xu, xc)))) 2 rfl ?_
    obtain ⟨I9, L9, D9, hr, h⟩ := h
    refine am_wp_inv (as := [.ref 25, .int v1]) rfl rfl rfl rfl ⟨_, hr, ?_⟩
    show am_wp ext d mz_63 (192, [some (.ref 25), some (.int v1), some (.int v2), some (.int v3), some (.int r1)], [], (I9, L9, D9, am_rf (xt, xs, xi, 2, xu, xc))) P
    refine am_wpb (c' := (193, [some (.ref 25), some (.int v1), some (.int v2), some (.int v3), some (.int r1)], [.int v2], (I9, L9, D9, am_rf (xt, xs, xi, 2, xu, xc)))) 1 rfl ?_
    exact am_ret_i rfl rfl h
  · refine am_ts_in (t := 187) k rfl hsw (by omega) ?_ ?_
    · refine am_sw_d (bad := [0, 2, 3, 4, 5, 6, 7, 8, 9, 10, 17, 18]) hk (by decide) (fun hm => ?_)
      simp only [List.mem_cons, List.not_mem_nil, or_false] at hm
      rcases hm with e | e | e | e | e | e | e | e | e | e | e | e
      · exact c0 (am_i32 (v := 0) (by rw [hsw, e]; rfl))
      · exact c1 (am_i32 (v := 2) (by rw [hsw, e]; rfl))
      · exact c2 (am_i32 (v := 3) (by rw [hsw, e]; rfl))
      · exact c3 (am_i32 (v := 4) (by rw [hsw, e]; rfl))
      · exact c4 (Or.inl (am_i32 (v := 5) (by rw [hsw, e]; rfl)))
      · exact c4 (Or.inr (Or.inl (am_i32 (v := 6) (by rw [hsw, e]; rfl))))
      · exact c4 (Or.inr (Or.inr (am_i32 (v := 7) (by rw [hsw, e]; rfl))))
      · exact c5 (Or.inl (am_i32 (v := 8) (by rw [hsw, e]; rfl)))
      · exact c5 (Or.inr (Or.inl (am_i32 (v := 9) (by rw [hsw, e]; rfl))))
      · exact c5 (Or.inr (Or.inr (am_i32 (v := 10) (by rw [hsw, e]; rfl))))
      · exact c6 (Or.inl (am_i32 (v := 17) (by rw [hsw, e]; rfl)))
      · exact c6 (Or.inr (am_i32 (v := 18) (by rw [hsw, e]; rfl)))
    · skip
      refine am_wpb (c' := (189, [some (.ref 25), some (.int v1), some (.int v2), some (.int v3), some (.int r1)], [.int v1, .ref 25], (I1, L1, D1, am_rf (xt, xs, xi, 2, xu, xc)))) 2 rfl ?_
      obtain ⟨I9, L9, D9, hr, h⟩ := h
      refine am_wp_inv (as := [.ref 25, .int v1]) rfl rfl rfl rfl ⟨_, hr, ?_⟩
      show am_wp ext d mz_63 (192, [some (.ref 25), some (.int v1), some (.int v2), some (.int v3), some (.int r1)], [], (I9, L9, D9, am_rf (xt, xs, xi, 2, xu, xc))) P
      refine am_wpb (c' := (193, [some (.ref 25), some (.int v1), some (.int v2), some (.int v3), some (.int r1)], [.int v2], (I9, L9, D9, am_rf (xt, xs, xi, 2, xu, xc)))) 1 rfl ?_
      exact am_ret_i rfl rfl h
/-- SureSums$Spans.push(JJ)V -/
def mz_64 : am_Y := (fun pc => am_q64.lookup pc, 6, 0)
theorem mh_64 : am_Ys 64 = some mz_64 := rfl
theorem w64_0 {ext : Nat → List Value → am_M → Option am_R} {d : Nat} {P : am_R → Prop} (I : Nat → Nat → Int32) (L : Nat → Nat → Int64) (D : Nat → Nat → UInt64) (X : am_Rf) (v1 : Int64) (v3 : Int64)
    (h : ((100 ≤ (I 25 3) → (P (none, (I, L, D, am_rf X)))) ∧ (¬ 100 ≤ (I 25 3) → (((v1 < (-(L 25 7)) → (am_wp ext d mz_64 (32, [some (.ref 25), some (.long v1), none, some (.long v3), none, none], [], (I, L, D, am_rf X)) P)) ∧ (¬ v1 < (-(L 25 7)) → ((((L 25 7) < v3 → (am_wp ext d mz_64 (32, [some (.ref 25), some (.long v1), none, some (.long v3), none, none], [], (I, L, D, am_rf X)) P)) ∧ (¬ (L 25 7) < v3 → (am_wp ext d mz_64 (33, [some (.ref 25), some (.long v1), none, some (.long v3), none, none], [.int 1], (I, L, D, am_rf X)) P)))))))))) : am_wp ext d mz_64 (0, [some (.ref 25), some (.long v1), none, some (.long v3), none, none], [], (I, L, D, am_rf X)) P := by
  refine am_wpb (c' := (6, [some (.ref 25), some (.long v1), none, some (.long v3), none, none], [.int 100, .int (I 25 3)], (I, L, D, am_rf X))) 3 rfl ?_
  refine am_b2_ge rfl (fun z => ?_) (fun z => ?_)
  · replace h := h.1 z
    exact am_ret_v rfl rfl h
  · replace h := h.2 z
    refine am_wpb (c' := (15, [some (.ref 25), some (.long v1), none, some (.long v3), none, none], [.long (-(L 25 7)), .long v1], (I, L, D, am_rf X))) 4 rfl ?_
    refine am_lc_lt rfl rfl (fun z => ?_) (fun z => ?_)
    · replace h := h.1 z
      exact h
    · replace h := h.2 z
      refine am_wpb (c' := (24, [some (.ref 25), some (.long v1), none, some (.long v3), none, none], [.long (L 25 7), .long v3], (I, L, D, am_rf X))) 3 rfl ?_
      refine am_lc_gt rfl rfl (fun z => ?_) (fun z => ?_)
      · replace h := h.1 z
        exact h
      · replace h := h.2 z
        refine am_wpb (c' := (33, [some (.ref 25), some (.long v1), none, some (.long v3), none, none], [.int 1], (I, L, D, am_rf X))) 2 rfl ?_
        exact h
theorem w64_32 {ext : Nat → List Value → am_M → Option am_R} {d : Nat} {P : am_R → Prop} (I : Nat → Nat → Int32) (L : Nat → Nat → Int64) (D : Nat → Nat → UInt64) (X : am_Rf) (v1 : Int64) (v3 : Int64)
    (h : am_wp ext d mz_64 (33, [some (.ref 25), some (.long v1), none, some (.long v3), none, none], [.int 0], (I, L, D, am_rf X)) P) : am_wp ext d mz_64 (32, [some (.ref 25), some (.long v1), none, some (.long v3), none, none], [], (I, L, D, am_rf X)) P := by
  refine am_wpb (c' := (33, [some (.ref 25), some (.long v1), none, some (.long v3), none, none], [.int 0], (I, L, D, am_rf X))) 1 rfl ?_
  exact h
theorem w64_33 {ext : Nat → List Value → am_M → Option am_R} {d : Nat} {P : am_R → Prop} (I : Nat → Nat → Int32) (L : Nat → Nat → Int64) (D : Nat → Nat → UInt64) (X : am_Rf) (v1 : Int64) (v3 : Int64) (s0 : Int32)
    (h : ((s0 = 0 → (am_wp ext d mz_64 (53, [some (.ref 25), none, none, some (.long v3), none, some (.int s0)], [.long 1, .int (I 25 3), .ref 26], (I, L, D, am_rf X)) P)) ∧ (¬ s0 = 0 → (am_wp ext d mz_64 (53, [some (.ref 25), none, none, some (.long v3), none, some (.int s0)], [.long v1, .int (I 25 3), .ref 26], (I, L, D, am_rf X)) P)))) : am_wp ext d mz_64 (33, [some (.ref 25), some (.long v1), none, some (.long v3), none, none], [.int s0], (I, L, D, am_rf X)) P := by
  refine am_wpb (c' := (45, [some (.ref 25), some (.long v1), none, some (.long v3), none, some (.int s0)], [.int s0, .int (I 25 3), .ref 26], (I, L, D, am_rf X))) 6 rfl ?_
  refine am_b1_eq rfl (fun z => ?_) (fun z => ?_)
  · replace h := h.1 z
    refine am_wpb (c' := (53, [some (.ref 25), some (.long v1), none, some (.long v3), none, some (.int s0)], [.long 1, .int (I 25 3), .ref 26], (I, L, D, am_rf X))) 1 rfl ?_
    exact am_fgt (l := [some (.ref 25), none, none, some (.long v3), none, some (.int s0)]) (am_le_of (am_leS (am_leN (am_leN (am_leS (am_leN (am_leS (am_leZ)))))))) h
  · replace h := h.2 z
    refine am_wpb (c' := (53, [some (.ref 25), some (.long v1), none, some (.long v3), none, some (.int s0)], [.long v1, .int (I 25 3), .ref 26], (I, L, D, am_rf X))) 2 rfl ?_
    exact am_fgt (l := [some (.ref 25), none, none, some (.long v3), none, some (.int s0)]) (am_le_of (am_leS (am_leN (am_leN (am_leS (am_leN (am_leS (am_leZ)))))))) h
theorem w64_53 {ext : Nat → List Value → am_M → Option am_R} {d : Nat} {P : am_R → Prop} (I : Nat → Nat → Int32) (L : Nat → Nat → Int64) (D : Nat → Nat → UInt64) (X : am_Rf) (v3 : Int64) (v5 : Int32) (s0 : Int64) (s1 : Int32)
    (h : am_inb s1 100 = true ∧ (((v5 = 0 → (am_inb (I 25 3) 100 = true ∧ (P (none, (am_uI I 25 3 ((I 25 3) + 1), am_uL (am_uL L 26 (Int32.toNatClampNeg s1) s0) 27 (Int32.toNatClampNeg (I 25 3)) 0, D, am_rf X))))) ∧ (¬ v5 = 0 → (am_inb (I 25 3) 100 = true ∧ (P (none, (am_uI I 25 3 ((I 25 3) + 1), am_uL (am_uL L 26 (Int32.toNatClampNeg s1) s0) 27 (Int32.toNatClampNeg (I 25 3)) v3, D, am_rf X)))))))) : am_wp ext d mz_64 (53, [some (.ref 25), none, none, some (.long v3), none, some (.int v5)], [.long s0, .int s1, .ref 26], (I, L, D, am_rf X)) P := by
  obtain ⟨o, h⟩ := h
  refine am_wps (c' := (54, [some (.ref 25), none, none, some (.long v3), none, some (.int v5)], [], (I, am_uL L 26 (Int32.toNatClampNeg s1) s0, D, am_rf X))) rfl rfl (am_s_last rfl o) ?_
  refine am_wpb (c' := (64, [some (.ref 25), none, none, some (.long v3), none, some (.int v5)], [.int v5, .int (I 25 3), .ref 27], (I, am_uL L 26 (Int32.toNatClampNeg s1) s0, D, am_rf X))) 5 rfl ?_
  refine am_b1_eq rfl (fun z => ?_) (fun z => ?_)
  · replace h := h.1 z
    refine am_wpb (c' := (72, [some (.ref 25), none, none, some (.long v3), none, some (.int v5)], [.long 0, .int (I 25 3), .ref 27], (I, am_uL L 26 (Int32.toNatClampNeg s1) s0, D, am_rf X))) 1 rfl ?_
    obtain ⟨o, h⟩ := h
    refine am_wps (c' := (73, [some (.ref 25), none, none, some (.long v3), none, some (.int v5)], [], (I, am_uL (am_uL L 26 (Int32.toNatClampNeg s1) s0) 27 (Int32.toNatClampNeg (I 25 3)) 0, D, am_rf X))) rfl rfl (am_s_last rfl o) ?_
    refine am_wpb (c' := (83, [some (.ref 25), none, none, some (.long v3), none, some (.int v5)], [], (am_uI I 25 3 ((I 25 3) + 1), am_uL (am_uL L 26 (Int32.toNatClampNeg s1) s0) 27 (Int32.toNatClampNeg (I 25 3)) 0, D, am_rf X))) 6 rfl ?_
    exact am_ret_v rfl rfl h
  · replace h := h.2 z
    refine am_wpb (c' := (72, [some (.ref 25), none, none, some (.long v3), none, some (.int v5)], [.long v3, .int (I 25 3), .ref 27], (I, am_uL L 26 (Int32.toNatClampNeg s1) s0, D, am_rf X))) 2 rfl ?_
    obtain ⟨o, h⟩ := h
    refine am_wps (c' := (73, [some (.ref 25), none, none, some (.long v3), none, some (.int v5)], [], (I, am_uL (am_uL L 26 (Int32.toNatClampNeg s1) s0) 27 (Int32.toNatClampNeg (I 25 3)) v3, D, am_rf X))) rfl rfl (am_s_last rfl o) ?_
    refine am_wpb (c' := (83, [some (.ref 25), none, none, some (.long v3), none, some (.int v5)], [], (am_uI I 25 3 ((I 25 3) + 1), am_uL (am_uL L 26 (Int32.toNatClampNeg s1) s0) 27 (Int32.toNatClampNeg (I 25 3)) v3, D, am_rf X))) 6 rfl ?_
    exact am_ret_v rfl rfl h
/-- SureSums$Spans.call(II)V -/
def mz_65 : am_Y := (fun pc => am_q65.lookup pc, 3, 0)
theorem mh_65 : am_Ys 65 = some mz_65 := rfl
theorem w65_0 {ext : Nat → List Value → am_M → Option am_R} {d : Nat} {P : am_R → Prop} (I : Nat → Nat → Int32) (L : Nat → Nat → Int64) (D : Nat → Nat → UInt64) (X : am_Rf) (v1 : Int32) (v2 : Int32)
    (h : ((1 ≤ (I 25 3) → (am_inb ((I 25 3) - 1) 100 = true ∧ (am_inb ((I 25 3) - 1) 100 = true ∧ ((((L 26 (Int32.toNatClampNeg ((I 25 3) - 1))) ≤ (L 27 (Int32.toNatClampNeg ((I 25 3) - 1))) → (am_inb ((I 25 3) - 1) 100 = true ∧ (am_inb ((I 25 3) - 1) 100 = true ∧ (∃ (I1 : Nat → Nat → Int32) (L1 : Nat → Nat → Int64) (D1 : Nat → Nat → UInt64), am_Rn ext d 62 [.ref 25, .int v1, .long (L 26 (Int32.toNatClampNeg ((I 25 3) - 1))), .long (L 27 (Int32.toNatClampNeg ((I 25 3) - 1))), .int v2] (am_uI I 25 3 ((I 25 3) - 1), L, D, am_rf X) (none, (I1, L1, D1, am_rf X)) ∧ (P (none, (I1, L1, D1, am_rf X))))))) ∧ (¬ (L 26 (Int32.toNatClampNeg ((I 25 3) - 1))) ≤ (L 27 (Int32.toNatClampNeg ((I 25 3) - 1))) → (∃ (I2 : Nat → Nat → Int32) (L2 : Nat → Nat → Int64) (D2 : Nat → Nat → UInt64), am_Rn ext d 64 [.ref 25, .long 1, .long 0] (am_uI I 25 3 ((I 25 3) - 1), L, D, am_rf X) (none, (I2, L2, D2, am_rf X)) ∧ (P (none, (I2, L2, D2, am_rf X)))))))))) ∧ (¬ 1 ≤ (I 25 3) → (P (none, (I, L, D, am_rf X)))))) : am_wp ext d mz_65 (0, [some (.ref 25), some (.int v1), some (.int v2)], [], (I, L, D, am_rf X)) P := by
  refine am_wpb (c' := (5, [some (.ref 25), some (.int v1), some (.int v2)], [.int 1, .int (I 25 3)], (I, L, D, am_rf X))) 3 rfl ?_
  refine am_b2_ge rfl (fun z => ?_) (fun z => ?_)
  · replace h := h.1 z
    refine am_wpb (c' := (27, [some (.ref 25), some (.int v1), some (.int v2)], [.int ((I 25 3) - 1), .ref 26], (am_uI I 25 3 ((I 25 3) - 1), L, D, am_rf X))) 10 rfl ?_
    obtain ⟨o, h⟩ := h
    refine am_wps (c' := (28, [some (.ref 25), some (.int v1), some (.int v2)], [.long (L 26 (Int32.toNatClampNeg ((I 25 3) - 1)))], (am_uI I 25 3 ((I 25 3) - 1), L, D, am_rf X))) rfl rfl (am_s_lald rfl o) ?_
    refine am_wpb (c' := (36, [some (.ref 25), some (.int v1), some (.int v2)], [.int ((I 25 3) - 1), .ref 27, .long (L 26 (Int32.toNatClampNeg ((I 25 3) - 1)))], (am_uI I 25 3 ((I 25 3) - 1), L, D, am_rf X))) 4 rfl ?_
    obtain ⟨o, h⟩ := h
    refine am_wps (c' := (37, [some (.ref 25), some (.int v1), some (.int v2)], [.long (L 27 (Int32.toNatClampNeg ((I 25 3) - 1))), .long (L 26 (Int32.toNatClampNeg ((I 25 3) - 1)))], (am_uI I 25 3 ((I 25 3) - 1), L, D, am_rf X))) rfl rfl (am_s_lald rfl o) ?_
    refine am_lc_le rfl rfl (fun z => ?_) (fun z => ?_)
    · replace h := h.1 z
      refine am_wpb (c' := (60, [some (.ref 25), some (.int v1), some (.int v2)], [.int ((I 25 3) - 1), .ref 26, .int v1, .ref 25], (am_uI I 25 3 ((I 25 3) - 1), L, D, am_rf X))) 6 rfl ?_
      obtain ⟨o, h⟩ := h
      refine am_wps (c' := (61, [some (.ref 25), some (.int v1), some (.int v2)], [.long (L 26 (Int32.toNatClampNeg ((I 25 3) - 1))), .int v1, .ref 25], (am_uI I 25 3 ((I 25 3) - 1), L, D, am_rf X))) rfl rfl (am_s_lald rfl o) ?_
      refine am_wpb (c' := (69, [some (.ref 25), some (.int v1), some (.int v2)], [.int ((I 25 3) - 1), .ref 27, .long (L 26 (Int32.toNatClampNeg ((I 25 3) - 1))), .int v1, .ref 25], (am_uI I 25 3 ((I 25 3) - 1), L, D, am_rf X))) 4 rfl ?_
      obtain ⟨o, h⟩ := h
      refine am_wps (c' := (70, [some (.ref 25), some (.int v1), some (.int v2)], [.long (L 27 (Int32.toNatClampNeg ((I 25 3) - 1))), .long (L 26 (Int32.toNatClampNeg ((I 25 3) - 1))), .int v1, .ref 25], (am_uI I 25 3 ((I 25 3) - 1), L, D, am_rf X))) rfl rfl (am_s_lald rfl o) ?_
      refine am_wpb (c' := (71, [some (.ref 25), some (.int v1), some (.int v2)], [.int v2, .long (L 27 (Int32.toNatClampNeg ((I 25 3) - 1))), .long (L 26 (Int32.toNatClampNeg ((I 25 3) - 1))), .int v1, .ref 25], (am_uI I 25 3 ((I 25 3) - 1), L, D, am_rf X))) 1 rfl ?_
      obtain ⟨I1, L1, D1, hr, h⟩ := h
      refine am_wp_inv (as := [.ref 25, .int v1, .long (L 26 (Int32.toNatClampNeg ((I 25 3) - 1))), .long (L 27 (Int32.toNatClampNeg ((I 25 3) - 1))), .int v2]) rfl rfl rfl rfl ⟨_, hr, ?_⟩
      show am_wp ext d mz_65 (74, [some (.ref 25), some (.int v1), some (.int v2)], [], (I1, L1, D1, am_rf X)) P
      exact am_ret_v rfl rfl h
    · replace h := h.2 z
      refine am_wpb (c' := (44, [some (.ref 25), some (.int v1), some (.int v2)], [.long 0, .long 1, .ref 25], (am_uI I 25 3 ((I 25 3) - 1), L, D, am_rf X))) 3 rfl ?_
      obtain ⟨I2, L2, D2, hr, h⟩ := h
      refine am_wp_inv (as := [.ref 25, .long 1, .long 0]) rfl rfl rfl rfl ⟨_, hr, ?_⟩
      show am_wp ext d mz_65 (47, [some (.ref 25), some (.int v1), some (.int v2)], [], (I2, L2, D2, am_rf X)) P
      refine am_wpb (c' := (74, [some (.ref 25), some (.int v1), some (.int v2)], [], (I2, L2, D2, am_rf X))) 1 rfl ?_
      exact am_ret_v rfl rfl h
  · replace h := h.2 z
    exact am_ret_v rfl rfl h
/-- SureSums$Spans.ofOne(I)V -/
def mz_66 : am_Y := (fun pc => am_q66.lookup pc, 6, 0)
theorem mh_66 : am_Ys 66 = some mz_66 := rfl
theorem w66_0 {ext : Nat → List Value → am_M → Option am_R} {d : Nat} {P : am_R → Prop} (I : Nat → Nat → Int32) (L : Nat → Nat → Int64) (D : Nat → Nat → UInt64) (X : am_Rf) (v1 : Int32)
    (h : ((1 ≤ (I 25 3) → (am_inb ((I 25 3) - 1) 100 = true ∧ (am_inb ((I 25 3) - 1) 100 = true ∧ ((((L 27 (Int32.toNatClampNeg ((I 25 3) - 1))) < (L 26 (Int32.toNatClampNeg ((I 25 3) - 1))) → (∃ (I1 : Nat → Nat → Int32) (L1 : Nat → Nat → Int64) (D1 : Nat → Nat → UInt64), am_Rn ext d 64 [.ref 25, .long 1, .long 0] (am_uI I 25 3 ((I 25 3) - 1), L, D, am_rf X) (none, (I1, L1, D1, am_rf X)) ∧ (P (none, (I1, L1, D1, am_rf X))))) ∧ (¬ (L 27 (Int32.toNatClampNeg ((I 25 3) - 1))) < (L 26 (Int32.toNatClampNeg ((I 25 3) - 1))) → (((¬ v1 = 9 → (am_wp ext d mz_66 (68, [some (.ref 25), some (.int v1), some (.long (L 26 (Int32.toNatClampNeg ((I 25 3) - 1)))), none, some (.long (L 27 (Int32.toNatClampNeg ((I 25 3) - 1)))), none], [], (am_uI I 25 3 ((I 25 3) - 1), L, D, am_rf X)) P)) ∧ (v1 = 9 → (((0 ≤ (L 26 (Int32.toNatClampNeg ((I 25 3) - 1))) → (am_wp ext d mz_66 (68, [some (.ref 25), some (.int v1), some (.long (L 26 (Int32.toNatClampNeg ((I 25 3) - 1)))), none, some (.long (L 27 (Int32.toNatClampNeg ((I 25 3) - 1)))), none], [], (am_uI I 25 3 ((I 25 3) - 1), L, D, am_rf X)) P)) ∧ (¬ 0 ≤ (L 26 (Int32.toNatClampNeg ((I 25 3) - 1))) → (∃ (I2 : Nat → Nat → Int32) (L2 : Nat → Nat → Int64) (D2 : Nat → Nat → UInt64), am_Rn ext d 64 [.ref 25, .long 1, .long 0] (am_uI I 25 3 ((I 25 3) - 1), L, D, am_rf X) (none, (I2, L2, D2, am_rf X)) ∧ (P (none, (I2, L2, D2, am_rf X)))))))))))))))) ∧ (¬ 1 ≤ (I 25 3) → (P (none, (I, L, D, am_rf X)))))) : am_wp ext d mz_66 (0, [some (.ref 25), some (.int v1), none, none, none, none], [], (I, L, D, am_rf X)) P := by
  refine am_wpb (c' := (5, [some (.ref 25), some (.int v1), none, none, none, none], [.int 1, .int (I 25 3)], (I, L, D, am_rf X))) 3 rfl ?_
  refine am_b2_ge rfl (fun z => ?_) (fun z => ?_)
  · replace h := h.1 z
    refine am_wpb (c' := (27, [some (.ref 25), some (.int v1), none, none, none, none], [.int ((I 25 3) - 1), .ref 26], (am_uI I 25 3 ((I 25 3) - 1), L, D, am_rf X))) 10 rfl ?_
    obtain ⟨o, h⟩ := h
    refine am_wps (c' := (28, [some (.ref 25), some (.int v1), none, none, none, none], [.long (L 26 (Int32.toNatClampNeg ((I 25 3) - 1)))], (am_uI I 25 3 ((I 25 3) - 1), L, D, am_rf X))) rfl rfl (am_s_lald rfl o) ?_
    refine am_wpb (c' := (37, [some (.ref 25), some (.int v1), some (.long (L 26 (Int32.toNatClampNeg ((I 25 3) - 1)))), none, none, none], [.int ((I 25 3) - 1), .ref 27], (am_uI I 25 3 ((I 25 3) - 1), L, D, am_rf X))) 5 rfl ?_
    obtain ⟨o, h⟩ := h
    refine am_wps (c' := (38, [some (.ref 25), some (.int v1), some (.long (L 26 (Int32.toNatClampNeg ((I 25 3) - 1)))), none, none, none], [.long (L 27 (Int32.toNatClampNeg ((I 25 3) - 1)))], (am_uI I 25 3 ((I 25 3) - 1), L, D, am_rf X))) rfl rfl (am_s_lald rfl o) ?_
    refine am_wpb (c' := (43, [some (.ref 25), some (.int v1), some (.long (L 26 (Int32.toNatClampNeg ((I 25 3) - 1)))), none, some (.long (L 27 (Int32.toNatClampNeg ((I 25 3) - 1)))), none], [.long (L 27 (Int32.toNatClampNeg ((I 25 3) - 1))), .long (L 26 (Int32.toNatClampNeg ((I 25 3) - 1)))], (am_uI I 25 3 ((I 25 3) - 1), L, D, am_rf X))) 3 rfl ?_
    refine am_lc_gt rfl rfl (fun z => ?_) (fun z => ?_)
    · replace h := h.1 z
      refine am_wpb (c' := (62, [some (.ref 25), some (.int v1), some (.long (L 26 (Int32.toNatClampNeg ((I 25 3) - 1)))), none, some (.long (L 27 (Int32.toNatClampNeg ((I 25 3) - 1)))), none], [.long 0, .long 1, .ref 25], (am_uI I 25 3 ((I 25 3) - 1), L, D, am_rf X))) 3 rfl ?_
      obtain ⟨I1, L1, D1, hr, h⟩ := h
      refine am_wp_inv (as := [.ref 25, .long 1, .long 0]) rfl rfl rfl rfl ⟨_, hr, ?_⟩
      show am_wp ext d mz_66 (65, [some (.ref 25), some (.int v1), some (.long (L 26 (Int32.toNatClampNeg ((I 25 3) - 1)))), none, some (.long (L 27 (Int32.toNatClampNeg ((I 25 3) - 1)))), none], [], (I1, L1, D1, am_rf X)) P
      refine am_wpb (c' := (174, [some (.ref 25), some (.int v1), some (.long (L 26 (Int32.toNatClampNeg ((I 25 3) - 1)))), none, some (.long (L 27 (Int32.toNatClampNeg ((I 25 3) - 1)))), none], [], (I1, L1, D1, am_rf X))) 1 rfl ?_
      exact am_ret_v rfl rfl h
    · replace h := h.2 z
      refine am_wpb (c' := (50, [some (.ref 25), some (.int v1), some (.long (L 26 (Int32.toNatClampNeg ((I 25 3) - 1)))), none, some (.long (L 27 (Int32.toNatClampNeg ((I 25 3) - 1)))), none], [.int 9, .int v1], (am_uI I 25 3 ((I 25 3) - 1), L, D, am_rf X))) 2 rfl ?_
      refine am_b2_ne rfl (fun z => ?_) (fun z => ?_)
      · replace h := h.1 z
        exact h
      · replace h := h.2 z
        refine am_wpb (c' := (55, [some (.ref 25), some (.int v1), some (.long (L 26 (Int32.toNatClampNeg ((I 25 3) - 1)))), none, some (.long (L 27 (Int32.toNatClampNeg ((I 25 3) - 1)))), none], [.long 0, .long (L 26 (Int32.toNatClampNeg ((I 25 3) - 1)))], (am_uI I 25 3 ((I 25 3) - 1), L, D, am_rf X))) 2 rfl ?_
        refine am_lc_ge rfl rfl (fun z => ?_) (fun z => ?_)
        · replace h := h.1 z
          exact h
        · replace h := h.2 z
          refine am_wpb (c' := (62, [some (.ref 25), some (.int v1), some (.long (L 26 (Int32.toNatClampNeg ((I 25 3) - 1)))), none, some (.long (L 27 (Int32.toNatClampNeg ((I 25 3) - 1)))), none], [.long 0, .long 1, .ref 25], (am_uI I 25 3 ((I 25 3) - 1), L, D, am_rf X))) 3 rfl ?_
          obtain ⟨I2, L2, D2, hr, h⟩ := h
          refine am_wp_inv (as := [.ref 25, .long 1, .long 0]) rfl rfl rfl rfl ⟨_, hr, ?_⟩
          show am_wp ext d mz_66 (65, [some (.ref 25), some (.int v1), some (.long (L 26 (Int32.toNatClampNeg ((I 25 3) - 1)))), none, some (.long (L 27 (Int32.toNatClampNeg ((I 25 3) - 1)))), none], [], (I2, L2, D2, am_rf X)) P
          refine am_wpb (c' := (174, [some (.ref 25), some (.int v1), some (.long (L 26 (Int32.toNatClampNeg ((I 25 3) - 1)))), none, some (.long (L 27 (Int32.toNatClampNeg ((I 25 3) - 1)))), none], [], (I2, L2, D2, am_rf X))) 1 rfl ?_
          exact am_ret_v rfl rfl h
  · replace h := h.2 z
    exact am_ret_v rfl rfl h
theorem w66_68 {ext : Nat → List Value → am_M → Option am_R} {d : Nat} {P : am_R → Prop} (I : Nat → Nat → Int32) (L : Nat → Nat → Int64) (D : Nat → Nat → UInt64) (X : am_Rf) (v1 : Int32) (v2 : Int64) (v4 : Int64)
    (h : ((¬ v1 = 8 → (((¬ v1 = 9 → (((0 < v2 → (∃ (r1 : Int64) (I1 : Nat → Nat → Int32) (L1 : Nat → Nat → Int64) (D1 : Nat → Nat → UInt64), am_Rn ext d 205 [.long v2] (I, L, D, am_rf X) (some (.long r1), (I1, L1, D1, am_rf X)) ∧ (∃ (r2 : Int64) (I2 : Nat → Nat → Int32) (L2 : Nat → Nat → Int64) (D2 : Nat → Nat → UInt64), am_Rn ext d 205 [.long v4] (I1, L1, D1, am_rf X) (some (.long r2), (I2, L2, D2, am_rf X)) ∧ (∃ (r3 : Int64) (I3 : Nat → Nat → Int32) (L3 : Nat → Nat → Int64) (D3 : Nat → Nat → UInt64), am_Rn ext d 204 [.long r1, .long r2] (I2, L2, D2, am_rf X) (some (.long r3), (I3, L3, D3, am_rf X)) ∧ (∃ (r4 : Int64) (I4 : Nat → Nat → Int32) (L4 : Nat → Nat → Int64) (D4 : Nat → Nat → UInt64), am_Rn ext d 205 [.long v2] (I3, L3, D3, am_rf X) (some (.long r4), (I4, L4, D4, am_rf X)) ∧ (∃ (r5 : Int64) (I5 : Nat → Nat → Int32) (L5 : Nat → Nat → Int64) (D5 : Nat → Nat → UInt64), am_Rn ext d 205 [.long v4] (I4, L4, D4, am_rf X) (some (.long r5), (I5, L5, D5, am_rf X)) ∧ (∃ (r6 : Int64) (I6 : Nat → Nat → Int32) (L6 : Nat → Nat → Int64) (D6 : Nat → Nat → UInt64), am_Rn ext d 203 [.long r4, .long r5] (I5, L5, D5, am_rf X) (some (.long r6), (I6, L6, D6, am_rf X)) ∧ (∃ (I7 : Nat → Nat → Int32) (L7 : Nat → Nat → Int64) (D7 : Nat → Nat → UInt64), am_Rn ext d 64 [.ref 25, .long r3, .long r6] (I6, L6, D6, am_rf X) (none, (I7, L7, D7, am_rf X)) ∧ (P (none, (I7, L7, D7, am_rf X))))))))))) ∧ (¬ 0 < v2 → (((v4 < 0 → (∃ (r8 : Int64) (I8 : Nat → Nat → Int32) (L8 : Nat → Nat → Int64) (D8 : Nat → Nat → UInt64), am_Rn ext d 205 [.long v2] (I, L, D, am_rf X) (some (.long r8), (I8, L8, D8, am_rf X)) ∧ (∃ (r9 : Int64) (I9 : Nat → Nat → Int32) (L9 : Nat → Nat → Int64) (D9 : Nat → Nat → UInt64), am_Rn ext d 205 [.long v4] (I8, L8, D8, am_rf X) (some (.long r9), (I9, L9, D9, am_rf X)) ∧ (∃ (r10 : Int64) (I10 : Nat → Nat → Int32) (L10 : Nat → Nat → Int64) (D10 : Nat → Nat → UInt64), am_Rn ext d 204 [.long r8, .long r9] (I9, L9, D9, am_rf X) (some (.long r10), (I10, L10, D10, am_rf X)) ∧ (∃ (r11 : Int64) (I11 : Nat → Nat → Int32) (L11 : Nat → Nat → Int64) (D11 : Nat → Nat → UInt64), am_Rn ext d 205 [.long v2] (I10, L10, D10, am_rf X) (some (.long r11), (I11, L11, D11, am_rf X)) ∧ (∃ (r12 : Int64) (I12 : Nat → Nat → Int32) (L12 : Nat → Nat → Int64) (D12 : Nat → Nat → UInt64), am_Rn ext d 205 [.long v4] (I11, L11, D11, am_rf X) (some (.long r12), (I12, L12, D12, am_rf X)) ∧ (∃ (r13 : Int64) (I13 : Nat → Nat → Int32) (L13 : Nat → Nat → Int64) (D13 : Nat → Nat → UInt64), am_Rn ext d 203 [.long r11, .long r12] (I12, L12, D12, am_rf X) (some (.long r13), (I13, L13, D13, am_rf X)) ∧ (∃ (I14 : Nat → Nat → Int32) (L14 : Nat → Nat → Int64) (D14 : Nat → Nat → UInt64), am_Rn ext d 64 [.ref 25, .long r10, .long r13] (I13, L13, D13, am_rf X) (none, (I14, L14, D14, am_rf X)) ∧ (P (none, (I14, L14, D14, am_rf X))))))))))) ∧ (¬ v4 < 0 → (∃ (r15 : Int64) (I15 : Nat → Nat → Int32) (L15 : Nat → Nat → Int64) (D15 : Nat → Nat → UInt64), am_Rn ext d 203 [.long (-v2), .long v4] (I, L, D, am_rf X) (some (.long r15), (I15, L15, D15, am_rf X)) ∧ (∃ (I16 : Nat → Nat → Int32) (L16 : Nat → Nat → Int64) (D16 : Nat → Nat → UInt64), am_Rn ext d 64 [.ref 25, .long 0, .long r15] (I15, L15, D15, am_rf X) (none, (I16, L16, D16, am_rf X)) ∧ (P (none, (I16, L16, D16, am_rf X)))))))))))) ∧ (v1 = 9 → (∃ (r17 : Int64) (I17 : Nat → Nat → Int32) (L17 : Nat → Nat → Int64) (D17 : Nat → Nat → UInt64), am_Rn ext d 74 [.long (v2 <<< ((Int32.toInt64 (I 25 6)) &&& 63))] (I, L, D, am_rf X) (some (.long r17), (I17, L17, D17, am_rf X)) ∧ (∃ (r18 : Int64) (I18 : Nat → Nat → Int32) (L18 : Nat → Nat → Int64) (D18 : Nat → Nat → UInt64), am_Rn ext d 75 [.long (v4 <<< ((Int32.toInt64 (I17 25 6)) &&& 63))] (I17, L17, D17, am_rf X) (some (.long r18), (I18, L18, D18, am_rf X)) ∧ (∃ (I19 : Nat → Nat → Int32) (L19 : Nat → Nat → Int64) (D19 : Nat → Nat → UInt64), am_Rn ext d 64 [.ref 25, .long r17, .long r18] (I18, L18, D18, am_rf X) (none, (I19, L19, D19, am_rf X)) ∧ (P (none, (I19, L19, D19, am_rf X)))))))))) ∧ (v1 = 8 → (∃ (I20 : Nat → Nat → Int32) (L20 : Nat → Nat → Int64) (D20 : Nat → Nat → UInt64), am_Rn ext d 64 [.ref 25, .long (-v4), .long (-v2)] (I, L, D, am_rf X) (none, (I20, L20, D20, am_rf X)) ∧ (P (none, (I20, L20, D20, am_rf X))))))) : am_wp ext d mz_66 (68, [some (.ref 25), some (.int v1), some (.long v2), none, some (.long v4), none], [], (I, L, D, am_rf X)) P := by
  refine am_wpb (c' := (71, [some (.ref 25), some (.int v1), some (.long v2), none, some (.long v4), none], [.int 8, .int v1], (I, L, D, am_rf X))) 2 rfl ?_
  refine am_b2_ne rfl (fun z => ?_) (fun z => ?_)
  · replace h := h.1 z
    refine am_wpb (c' := (89, [some (.ref 25), some (.int v1), some (.long v2), none, some (.long v4), none], [.int 9, .int v1], (I, L, D, am_rf X))) 2 rfl ?_
    refine am_b2_ne rfl (fun z => ?_) (fun z => ?_)
    · replace h := h.1 z
      refine am_wpb (c' := (120, [some (.ref 25), some (.int v1), some (.long v2), none, some (.long v4), none], [.long 0, .long v2], (I, L, D, am_rf X))) 2 rfl ?_
      refine am_lc_gt rfl rfl (fun z => ?_) (fun z => ?_)
      · replace h := h.1 z
        refine am_wpb (c' := (148, [some (.ref 25), some (.int v1), some (.long v2), none, some (.long v4), none], [.long v2, .ref 25], (I, L, D, am_rf X))) 2 rfl ?_
        obtain ⟨r1, I1, L1, D1, hr, h⟩ := h
        refine am_wp_inv (as := [.long v2]) rfl rfl rfl rfl ⟨_, hr, ?_⟩
        show am_wp ext d mz_66 (151, [some (.ref 25), some (.int v1), some (.long v2), none, some (.long v4), none], [.long r1, .ref 25], (I1, L1, D1, am_rf X)) P
        refine am_wpb (c' := (153, [some (.ref 25), some (.int v1), some (.long v2), none, some (.long v4), none], [.long v4, .long r1, .ref 25], (I1, L1, D1, am_rf X))) 1 rfl ?_
        obtain ⟨r2, I2, L2, D2, hr, h⟩ := h
        refine am_wp_inv (as := [.long v4]) rfl rfl rfl rfl ⟨_, hr, ?_⟩
        show am_wp ext d mz_66 (156, [some (.ref 25), some (.int v1), some (.long v2), none, some (.long v4), none], [.long r2, .long r1, .ref 25], (I2, L2, D2, am_rf X)) P
        obtain ⟨r3, I3, L3, D3, hr, h⟩ := h
        refine am_wp_inv (as := [.long r1, .long r2]) rfl rfl rfl rfl ⟨_, hr, ?_⟩
        show am_wp ext d mz_66 (159, [some (.ref 25), some (.int v1), some (.long v2), none, some (.long v4), none], [.long r3, .ref 25], (I3, L3, D3, am_rf X)) P
        refine am_wpb (c' := (160, [some (.ref 25), some (.int v1), some (.long v2), none, some (.long v4), none], [.long v2, .long r3, .ref 25], (I3, L3, D3, am_rf X))) 1 rfl ?_
        obtain ⟨r4, I4, L4, D4, hr, h⟩ := h
        refine am_wp_inv (as := [.long v2]) rfl rfl rfl rfl ⟨_, hr, ?_⟩
        show am_wp ext d mz_66 (163, [some (.ref 25), some (.int v1), some (.long v2), none, some (.long v4), none], [.long r4, .long r3, .ref 25], (I4, L4, D4, am_rf X)) P
        refine am_wpb (c' := (165, [some (.ref 25), some (.int v1), some (.long v2), none, some (.long v4), none], [.long v4, .long r4, .long r3, .ref 25], (I4, L4, D4, am_rf X))) 1 rfl ?_
        obtain ⟨r5, I5, L5, D5, hr, h⟩ := h
        refine am_wp_inv (as := [.long v4]) rfl rfl rfl rfl ⟨_, hr, ?_⟩
        show am_wp ext d mz_66 (168, [some (.ref 25), some (.int v1), some (.long v2), none, some (.long v4), none], [.long r5, .long r4, .long r3, .ref 25], (I5, L5, D5, am_rf X)) P
        obtain ⟨r6, I6, L6, D6, hr, h⟩ := h
        refine am_wp_inv (as := [.long r4, .long r5]) rfl rfl rfl rfl ⟨_, hr, ?_⟩
        show am_wp ext d mz_66 (171, [some (.ref 25), some (.int v1), some (.long v2), none, some (.long v4), none], [.long r6, .long r3, .ref 25], (I6, L6, D6, am_rf X)) P
        obtain ⟨I7, L7, D7, hr, h⟩ := h
        refine am_wp_inv (as := [.ref 25, .long r3, .long r6]) rfl rfl rfl rfl ⟨_, hr, ?_⟩
        show am_wp ext d mz_66 (174, [some (.ref 25), some (.int v1), some (.long v2), none, some (.long v4), none], [], (I7, L7, D7, am_rf X)) P
        exact am_ret_v rfl rfl h
      · replace h := h.2 z
        refine am_wpb (c' := (127, [some (.ref 25), some (.int v1), some (.long v2), none, some (.long v4), none], [.long 0, .long v4], (I, L, D, am_rf X))) 2 rfl ?_
        refine am_lc_lt rfl rfl (fun z => ?_) (fun z => ?_)
        · replace h := h.1 z
          refine am_wpb (c' := (148, [some (.ref 25), some (.int v1), some (.long v2), none, some (.long v4), none], [.long v2, .ref 25], (I, L, D, am_rf X))) 2 rfl ?_
          obtain ⟨r8, I8, L8, D8, hr, h⟩ := h
          refine am_wp_inv (as := [.long v2]) rfl rfl rfl rfl ⟨_, hr, ?_⟩
          show am_wp ext d mz_66 (151, [some (.ref 25), some (.int v1), some (.long v2), none, some (.long v4), none], [.long r8, .ref 25], (I8, L8, D8, am_rf X)) P
          refine am_wpb (c' := (153, [some (.ref 25), some (.int v1), some (.long v2), none, some (.long v4), none], [.long v4, .long r8, .ref 25], (I8, L8, D8, am_rf X))) 1 rfl ?_
          obtain ⟨r9, I9, L9, D9, hr, h⟩ := h
          refine am_wp_inv (as := [.long v4]) rfl rfl rfl rfl ⟨_, hr, ?_⟩
          show am_wp ext d mz_66 (156, [some (.ref 25), some (.int v1), some (.long v2), none, some (.long v4), none], [.long r9, .long r8, .ref 25], (I9, L9, D9, am_rf X)) P
          obtain ⟨r10, I10, L10, D10, hr, h⟩ := h
          refine am_wp_inv (as := [.long r8, .long r9]) rfl rfl rfl rfl ⟨_, hr, ?_⟩
          show am_wp ext d mz_66 (159, [some (.ref 25), some (.int v1), some (.long v2), none, some (.long v4), none], [.long r10, .ref 25], (I10, L10, D10, am_rf X)) P
          refine am_wpb (c' := (160, [some (.ref 25), some (.int v1), some (.long v2), none, some (.long v4), none], [.long v2, .long r10, .ref 25], (I10, L10, D10, am_rf X))) 1 rfl ?_
          obtain ⟨r11, I11, L11, D11, hr, h⟩ := h
          refine am_wp_inv (as := [.long v2]) rfl rfl rfl rfl ⟨_, hr, ?_⟩
          show am_wp ext d mz_66 (163, [some (.ref 25), some (.int v1), some (.long v2), none, some (.long v4), none], [.long r11, .long r10, .ref 25], (I11, L11, D11, am_rf X)) P
          refine am_wpb (c' := (165, [some (.ref 25), some (.int v1), some (.long v2), none, some (.long v4), none], [.long v4, .long r11, .long r10, .ref 25], (I11, L11, D11, am_rf X))) 1 rfl ?_
          obtain ⟨r12, I12, L12, D12, hr, h⟩ := h
          refine am_wp_inv (as := [.long v4]) rfl rfl rfl rfl ⟨_, hr, ?_⟩
          show am_wp ext d mz_66 (168, [some (.ref 25), some (.int v1), some (.long v2), none, some (.long v4), none], [.long r12, .long r11, .long r10, .ref 25], (I12, L12, D12, am_rf X)) P
          obtain ⟨r13, I13, L13, D13, hr, h⟩ := h
          refine am_wp_inv (as := [.long r11, .long r12]) rfl rfl rfl rfl ⟨_, hr, ?_⟩
          show am_wp ext d mz_66 (171, [some (.ref 25), some (.int v1), some (.long v2), none, some (.long v4), none], [.long r13, .long r10, .ref 25], (I13, L13, D13, am_rf X)) P
          obtain ⟨I14, L14, D14, hr, h⟩ := h
          refine am_wp_inv (as := [.ref 25, .long r10, .long r13]) rfl rfl rfl rfl ⟨_, hr, ?_⟩
          show am_wp ext d mz_66 (174, [some (.ref 25), some (.int v1), some (.long v2), none, some (.long v4), none], [], (I14, L14, D14, am_rf X)) P
          exact am_ret_v rfl rfl h
        · replace h := h.2 z
          refine am_wpb (c' := (137, [some (.ref 25), some (.int v1), some (.long v2), none, some (.long v4), none], [.long v4, .long (-v2), .long 0, .ref 25], (I, L, D, am_rf X))) 5 rfl ?_
          obtain ⟨r15, I15, L15, D15, hr, h⟩ := h
          refine am_wp_inv (as := [.long (-v2), .long v4]) rfl rfl rfl rfl ⟨_, hr, ?_⟩
          show am_wp ext d mz_66 (140, [some (.ref 25), some (.int v1), some (.long v2), none, some (.long v4), none], [.long r15, .long 0, .ref 25], (I15, L15, D15, am_rf X)) P
          obtain ⟨I16, L16, D16, hr, h⟩ := h
          refine am_wp_inv (as := [.ref 25, .long 0, .long r15]) rfl rfl rfl rfl ⟨_, hr, ?_⟩
          show am_wp ext d mz_66 (143, [some (.ref 25), some (.int v1), some (.long v2), none, some (.long v4), none], [], (I16, L16, D16, am_rf X)) P
          refine am_wpb (c' := (174, [some (.ref 25), some (.int v1), some (.long v2), none, some (.long v4), none], [], (I16, L16, D16, am_rf X))) 1 rfl ?_
          exact am_ret_v rfl rfl h
    · replace h := h.2 z
      refine am_wpb (c' := (99, [some (.ref 25), some (.int v1), some (.long v2), none, some (.long v4), none], [.long (v2 <<< ((Int32.toInt64 (I 25 6)) &&& 63)), .ref 25], (I, L, D, am_rf X))) 5 rfl ?_
      obtain ⟨r17, I17, L17, D17, hr, h⟩ := h
      refine am_wp_inv (as := [.long (v2 <<< ((Int32.toInt64 (I 25 6)) &&& 63))]) rfl rfl rfl rfl ⟨_, hr, ?_⟩
      show am_wp ext d mz_66 (102, [some (.ref 25), some (.int v1), some (.long v2), none, some (.long v4), none], [.long r17, .ref 25], (I17, L17, D17, am_rf X)) P
      refine am_wpb (c' := (109, [some (.ref 25), some (.int v1), some (.long v2), none, some (.long v4), none], [.long (v4 <<< ((Int32.toInt64 (I17 25 6)) &&& 63)), .long r17, .ref 25], (I17, L17, D17, am_rf X))) 4 rfl ?_
      obtain ⟨r18, I18, L18, D18, hr, h⟩ := h
      refine am_wp_inv (as := [.long (v4 <<< ((Int32.toInt64 (I17 25 6)) &&& 63))]) rfl rfl rfl rfl ⟨_, hr, ?_⟩
      show am_wp ext d mz_66 (112, [some (.ref 25), some (.int v1), some (.long v2), none, some (.long v4), none], [.long r18, .long r17, .ref 25], (I18, L18, D18, am_rf X)) P
      obtain ⟨I19, L19, D19, hr, h⟩ := h
      refine am_wp_inv (as := [.ref 25, .long r17, .long r18]) rfl rfl rfl rfl ⟨_, hr, ?_⟩
      show am_wp ext d mz_66 (115, [some (.ref 25), some (.int v1), some (.long v2), none, some (.long v4), none], [], (I19, L19, D19, am_rf X)) P
      refine am_wpb (c' := (174, [some (.ref 25), some (.int v1), some (.long v2), none, some (.long v4), none], [], (I19, L19, D19, am_rf X))) 1 rfl ?_
      exact am_ret_v rfl rfl h
  · replace h := h.2 z
    refine am_wpb (c' := (80, [some (.ref 25), some (.int v1), some (.long v2), none, some (.long v4), none], [.long (-v2), .long (-v4), .ref 25], (I, L, D, am_rf X))) 5 rfl ?_
    obtain ⟨I20, L20, D20, hr, h⟩ := h
    refine am_wp_inv (as := [.ref 25, .long (-v4), .long (-v2)]) rfl rfl rfl rfl ⟨_, hr, ?_⟩
    show am_wp ext d mz_66 (83, [some (.ref 25), some (.int v1), some (.long v2), none, some (.long v4), none], [], (I20, L20, D20, am_rf X)) P
    refine am_wpb (c' := (174, [some (.ref 25), some (.int v1), some (.long v2), none, some (.long v4), none], [], (I20, L20, D20, am_rf X))) 1 rfl ?_
    exact am_ret_v rfl rfl h
/-- SureSums$Spans.ofTwo(I)V -/
def mz_67 : am_Y := (fun pc => am_q67.lookup pc, 10, 0)
theorem mh_67 : am_Ys 67 = some mz_67 := rfl
theorem w67_0 {ext : Nat → List Value → am_M → Option am_R} {d : Nat} {P : am_R → Prop} (I : Nat → Nat → Int32) (L : Nat → Nat → Int64) (D : Nat → Nat → UInt64) (X : am_Rf) (v1 : Int32)
    (h : ((2 ≤ (I 25 3) → (am_inb ((I 25 3) - 2) 100 = true ∧ (am_inb ((I 25 3) - 2) 100 = true ∧ (am_inb (((I 25 3) - 2) + 1) 100 = true ∧ (am_inb (((I 25 3) - 2) + 1) 100 = true ∧ ((((L 27 (Int32.toNatClampNeg ((I 25 3) - 2))) < (L 26 (Int32.toNatClampNeg ((I 25 3) - 2))) → (∃ (I1 : Nat → Nat → Int32) (L1 : Nat → Nat → Int64) (D1 : Nat → Nat → UInt64), am_Rn ext d 64 [.ref 25, .long 1, .long 0] (am_uI I 25 3 ((I 25 3) - 2), L, D, am_rf X) (none, (I1, L1, D1, am_rf X)) ∧ (P (none, (I1, L1, D1, am_rf X))))) ∧ (¬ (L 27 (Int32.toNatClampNeg ((I 25 3) - 2))) < (L 26 (Int32.toNatClampNeg ((I 25 3) - 2))) → ((((L 26 (Int32.toNatClampNeg (((I 25 3) - 2) + 1))) ≤ (L 27 (Int32.toNatClampNeg (((I 25 3) - 2) + 1))) → (((v1 = 11 → (∃ (I2 : Nat → Nat → Int32) (L2 : Nat → Nat → Int64) (D2 : Nat → Nat → UInt64), am_Rn ext d 64 [.ref 25, .long ((L 26 (Int32.toNatClampNeg ((I 25 3) - 2))) + (L 26 (Int32.toNatClampNeg (((I 25 3) - 2) + 1)))), .long ((L 27 (Int32.toNatClampNeg ((I 25 3) - 2))) + (L 27 (Int32.toNatClampNeg (((I 25 3) - 2) + 1))))] (am_uI I 25 3 ((I 25 3) - 2), L, D, am_rf X) (none, (I2, L2, D2, am_rf X)) ∧ (P (none, (I2, L2, D2, am_rf X))))) ∧ (v1 = 12 → (∃ (I3 : Nat → Nat → Int32) (L3 : Nat → Nat → Int64) (D3 : Nat → Nat → UInt64), am_Rn ext d 64 [.ref 25, .long ((L 26 (Int32.toNatClampNeg ((I 25 3) - 2))) - (L 27 (Int32.toNatClampNeg (((I 25 3) - 2) + 1)))), .long ((L 27 (Int32.toNatClampNeg ((I 25 3) - 2))) - (L 26 (Int32.toNatClampNeg (((I 25 3) - 2) + 1))))] (am_uI I 25 3 ((I 25 3) - 2), L, D, am_rf X) (none, (I3, L3, D3, am_rf X)) ∧ (P (none, (I3, L3, D3, am_rf X))))) ∧ (v1 = 13 → (∃ (I4 : Nat → Nat → Int32) (L4 : Nat → Nat → Int64) (D4 : Nat → Nat → UInt64), am_Rn ext d 68 [.ref 25, .long (L 26 (Int32.toNatClampNeg ((I 25 3) - 2))), .long (L 27 (Int32.toNatClampNeg ((I 25 3) - 2))), .long (L 26 (Int32.toNatClampNeg (((I 25 3) - 2) + 1))), .long (L 27 (Int32.toNatClampNeg (((I 25 3) - 2) + 1)))] (am_uI I 25 3 ((I 25 3) - 2), L, D, am_rf X) (none, (I4, L4, D4, am_rf X)) ∧ (P (none, (I4, L4, D4, am_rf X))))) ∧ (v1 = 14 → (∃ (I5 : Nat → Nat → Int32) (L5 : Nat → Nat → Int64) (D5 : Nat → Nat → UInt64), am_Rn ext d 69 [.ref 25, .long (L 26 (Int32.toNatClampNeg ((I 25 3) - 2))), .long (L 27 (Int32.toNatClampNeg ((I 25 3) - 2))), .long (L 26 (Int32.toNatClampNeg (((I 25 3) - 2) + 1))), .long (L 27 (Int32.toNatClampNeg (((I 25 3) - 2) + 1)))] (am_uI I 25 3 ((I 25 3) - 2), L, D, am_rf X) (none, (I5, L5, D5, am_rf X)) ∧ (P (none, (I5, L5, D5, am_rf X))))) ∧ (v1 = 15 → (∃ (r6 : Int64) (I6 : Nat → Nat → Int32) (L6 : Nat → Nat → Int64) (D6 : Nat → Nat → UInt64), am_Rn ext d 203 [.long (L 26 (Int32.toNatClampNeg ((I 25 3) - 2))), .long (L 26 (Int32.toNatClampNeg (((I 25 3) - 2) + 1)))] (am_uI I 25 3 ((I 25 3) - 2), L, D, am_rf X) (some (.long r6), (I6, L6, D6, am_rf X)) ∧ (∃ (r7 : Int64) (I7 : Nat → Nat → Int32) (L7 : Nat → Nat → Int64) (D7 : Nat → Nat → UInt64), am_Rn ext d 203 [.long (L 27 (Int32.toNatClampNeg ((I 25 3) - 2))), .long (L 27 (Int32.toNatClampNeg (((I 25 3) - 2) + 1)))] (I6, L6, D6, am_rf X) (some (.long r7), (I7, L7, D7, am_rf X)) ∧ (∃ (I8 : Nat → Nat → Int32) (L8 : Nat → Nat → Int64) (D8 : Nat → Nat → UInt64), am_Rn ext d 64 [.ref 25, .long r6, .long r7] (I7, L7, D7, am_rf X) (none, (I8, L8, D8, am_rf X)) ∧ (P (none, (I8, L8, D8, am_rf X))))))) ∧ (¬ v1 = 11 ∧ ¬ v1 = 12 ∧ ¬ v1 = 13 ∧ ¬ v1 = 14 ∧ ¬ v1 = 15 → (∃ (r9 : Int64) (I9 : Nat → Nat → Int32) (L9 : Nat → Nat → Int64) (D9 : Nat → Nat → UInt64), am_Rn ext d 204 [.long (L 26 (Int32.toNatClampNeg ((I 25 3) - 2))), .long (L 26 (Int32.toNatClampNeg (((I 25 3) - 2) + 1)))] (am_uI I 25 3 ((I 25 3) - 2), L, D, am_rf X) (some (.long r9), (I9, L9, D9, am_rf X)) ∧ (∃ (r10 : Int64) (I10 : Nat → Nat → Int32) (L10 : Nat → Nat → Int64) (D10 : Nat → Nat → UInt64), am_Rn ext d 204 [.long (L 27 (Int32.toNatClampNeg ((I 25 3) - 2))), .long (L 27 (Int32.toNatClampNeg (((I 25 3) - 2) + 1)))] (I9, L9, D9, am_rf X) (some (.long r10), (I10, L10, D10, am_rf X)) ∧ (∃ (I11 : Nat → Nat → Int32) (L11 : Nat → Nat → Int64) (D11 : Nat → Nat → UInt64), am_Rn ext d 64 [.ref 25, .long r9, .long r10] (I10, L10, D10, am_rf X) (none, (I11, L11, D11, am_rf X)) ∧ (P (none, (I11, L11, D11, am_rf X)))))))))) ∧ (¬ (L 26 (Int32.toNatClampNeg (((I 25 3) - 2) + 1))) ≤ (L 27 (Int32.toNatClampNeg (((I 25 3) - 2) + 1))) → (∃ (I12 : Nat → Nat → Int32) (L12 : Nat → Nat → Int64) (D12 : Nat → Nat → UInt64), am_Rn ext d 64 [.ref 25, .long 1, .long 0] (am_uI I 25 3 ((I 25 3) - 2), L, D, am_rf X) (none, (I12, L12, D12, am_rf X)) ∧ (P (none, (I12, L12, D12, am_rf X))))))))))))))) ∧ (¬ 2 ≤ (I 25 3) → (P (none, (I, L, D, am_rf X)))))) : am_wp ext d mz_67 (0, [some (.ref 25), some (.int v1), none, none, none, none, none, none, none, none], [], (I, L, D, am_rf X)) P := by
  refine am_wpb (c' := (5, [some (.ref 25), some (.int v1), none, none, none, none, none, none, none, none], [.int 2, .int (I 25 3)], (I, L, D, am_rf X))) 3 rfl ?_
  refine am_b2_ge rfl (fun z => ?_) (fun z => ?_)
  · replace h := h.1 z
    refine am_wpb (c' := (27, [some (.ref 25), some (.int v1), none, none, none, none, none, none, none, none], [.int ((I 25 3) - 2), .ref 26], (am_uI I 25 3 ((I 25 3) - 2), L, D, am_rf X))) 10 rfl ?_
    obtain ⟨o, h⟩ := h
    refine am_wps (c' := (28, [some (.ref 25), some (.int v1), none, none, none, none, none, none, none, none], [.long (L 26 (Int32.toNatClampNeg ((I 25 3) - 2)))], (am_uI I 25 3 ((I 25 3) - 2), L, D, am_rf X))) rfl rfl (am_s_lald rfl o) ?_
    refine am_wpb (c' := (37, [some (.ref 25), some (.int v1), some (.long (L 26 (Int32.toNatClampNeg ((I 25 3) - 2)))), none, none, none, none, none, none, none], [.int ((I 25 3) - 2), .ref 27], (am_uI I 25 3 ((I 25 3) - 2), L, D, am_rf X))) 5 rfl ?_
    obtain ⟨o, h⟩ := h
    refine am_wps (c' := (38, [some (.ref 25), some (.int v1), some (.long (L 26 (Int32.toNatClampNeg ((I 25 3) - 2)))), none, none, none, none, none, none, none], [.long (L 27 (Int32.toNatClampNeg ((I 25 3) - 2)))], (am_uI I 25 3 ((I 25 3) - 2), L, D, am_rf X))) rfl rfl (am_s_lald rfl o) ?_
    refine am_wpb (c' := (50, [some (.ref 25), some (.int v1), some (.long (L 26 (Int32.toNatClampNeg ((I 25 3) - 2)))), none, some (.long (L 27 (Int32.toNatClampNeg ((I 25 3) - 2)))), none, none, none, none, none], [.int (((I 25 3) - 2) + 1), .ref 26], (am_uI I 25 3 ((I 25 3) - 2), L, D, am_rf X))) 7 rfl ?_
    obtain ⟨o, h⟩ := h
    refine am_wps (c' := (51, [some (.ref 25), some (.int v1), some (.long (L 26 (Int32.toNatClampNeg ((I 25 3) - 2)))), none, some (.long (L 27 (Int32.toNatClampNeg ((I 25 3) - 2)))), none, none, none, none, none], [.long (L 26 (Int32.toNatClampNeg (((I 25 3) - 2) + 1)))], (am_uI I 25 3 ((I 25 3) - 2), L, D, am_rf X))) rfl rfl (am_s_lald rfl o) ?_
    refine am_wpb (c' := (63, [some (.ref 25), some (.int v1), some (.long (L 26 (Int32.toNatClampNeg ((I 25 3) - 2)))), none, some (.long (L 27 (Int32.toNatClampNeg ((I 25 3) - 2)))), none, some (.long (L 26 (Int32.toNatClampNeg (((I 25 3) - 2) + 1)))), none, none, none], [.int (((I 25 3) - 2) + 1), .ref 27], (am_uI I 25 3 ((I 25 3) - 2), L, D, am_rf X))) 7 rfl ?_
    obtain ⟨o, h⟩ := h
    refine am_wps (c' := (64, [some (.ref 25), some (.int v1), some (.long (L 26 (Int32.toNatClampNeg ((I 25 3) - 2)))), none, some (.long (L 27 (Int32.toNatClampNeg ((I 25 3) - 2)))), none, some (.long (L 26 (Int32.toNatClampNeg (((I 25 3) - 2) + 1)))), none, none, none], [.long (L 27 (Int32.toNatClampNeg (((I 25 3) - 2) + 1)))], (am_uI I 25 3 ((I 25 3) - 2), L, D, am_rf X))) rfl rfl (am_s_lald rfl o) ?_
    refine am_wpb (c' := (69, [some (.ref 25), some (.int v1), some (.long (L 26 (Int32.toNatClampNeg ((I 25 3) - 2)))), none, some (.long (L 27 (Int32.toNatClampNeg ((I 25 3) - 2)))), none, some (.long (L 26 (Int32.toNatClampNeg (((I 25 3) - 2) + 1)))), none, some (.long (L 27 (Int32.toNatClampNeg (((I 25 3) - 2) + 1)))), none], [.long (L 27 (Int32.toNatClampNeg ((I 25 3) - 2))), .long (L 26 (Int32.toNatClampNeg ((I 25 3) - 2)))], (am_uI I 25 3 ((I 25 3) - 2), L, D, am_rf X))) 3 rfl ?_
    refine am_lc_gt rfl rfl (fun z => ?_) (fun z => ?_)
    · replace h := h.1 z
      refine am_wpb (c' := (84, [some (.ref 25), some (.int v1), some (.long (L 26 (Int32.toNatClampNeg ((I 25 3) - 2)))), none, some (.long (L 27 (Int32.toNatClampNeg ((I 25 3) - 2)))), none, some (.long (L 26 (Int32.toNatClampNeg (((I 25 3) - 2) + 1)))), none, some (.long (L 27 (Int32.toNatClampNeg (((I 25 3) - 2) + 1)))), none], [.long 0, .long 1, .ref 25], (am_uI I 25 3 ((I 25 3) - 2), L, D, am_rf X))) 3 rfl ?_
      obtain ⟨I1, L1, D1, hr, h⟩ := h
      refine am_wp_inv (as := [.ref 25, .long 1, .long 0]) rfl rfl rfl rfl ⟨_, hr, ?_⟩
      show am_wp ext d mz_67 (87, [some (.ref 25), some (.int v1), some (.long (L 26 (Int32.toNatClampNeg ((I 25 3) - 2)))), none, some (.long (L 27 (Int32.toNatClampNeg ((I 25 3) - 2)))), none, some (.long (L 26 (Int32.toNatClampNeg (((I 25 3) - 2) + 1)))), none, some (.long (L 27 (Int32.toNatClampNeg (((I 25 3) - 2) + 1)))), none], [], (I1, L1, D1, am_rf X)) P
      exact am_ret_v rfl rfl h
    · replace h := h.2 z
      refine am_wpb (c' := (77, [some (.ref 25), some (.int v1), some (.long (L 26 (Int32.toNatClampNeg ((I 25 3) - 2)))), none, some (.long (L 27 (Int32.toNatClampNeg ((I 25 3) - 2)))), none, some (.long (L 26 (Int32.toNatClampNeg (((I 25 3) - 2) + 1)))), none, some (.long (L 27 (Int32.toNatClampNeg (((I 25 3) - 2) + 1)))), none], [.long (L 27 (Int32.toNatClampNeg (((I 25 3) - 2) + 1))), .long (L 26 (Int32.toNatClampNeg (((I 25 3) - 2) + 1)))], (am_uI I 25 3 ((I 25 3) - 2), L, D, am_rf X))) 2 rfl ?_
      refine am_lc_le rfl rfl (fun z => ?_) (fun z => ?_)
      · replace h := h.1 z
        refine am_wpb (c' := (89, [some (.ref 25), some (.int v1), some (.long (L 26 (Int32.toNatClampNeg ((I 25 3) - 2)))), none, some (.long (L 27 (Int32.toNatClampNeg ((I 25 3) - 2)))), none, some (.long (L 26 (Int32.toNatClampNeg (((I 25 3) - 2) + 1)))), none, some (.long (L 27 (Int32.toNatClampNeg (((I 25 3) - 2) + 1)))), none], [.int v1], (am_uI I 25 3 ((I 25 3) - 2), L, D, am_rf X))) 1 rfl ?_
        have hsw := am_swc v1 11 4
        by_cases c0 : v1 = 11
        · replace h := h.1 c0
          have e := c0
          refine am_ts_in 0 rfl (by rw [e]; rfl) (by decide) rfl ?_
          refine am_wpb (c' := (134, [some (.ref 25), some (.int v1), some (.long (L 26 (Int32.toNatClampNeg ((I 25 3) - 2)))), none, some (.long (L 27 (Int32.toNatClampNeg ((I 25 3) - 2)))), none, some (.long (L 26 (Int32.toNatClampNeg (((I 25 3) - 2) + 1)))), none, some (.long (L 27 (Int32.toNatClampNeg (((I 25 3) - 2) + 1)))), none], [.long ((L 27 (Int32.toNatClampNeg ((I 25 3) - 2))) + (L 27 (Int32.toNatClampNeg (((I 25 3) - 2) + 1)))), .long ((L 26 (Int32.toNatClampNeg ((I 25 3) - 2))) + (L 26 (Int32.toNatClampNeg (((I 25 3) - 2) + 1)))), .ref 25], (am_uI I 25 3 ((I 25 3) - 2), L, D, am_rf X))) 7 rfl ?_
          obtain ⟨I2, L2, D2, hr, h⟩ := h
          refine am_wp_inv (as := [.ref 25, .long ((L 26 (Int32.toNatClampNeg ((I 25 3) - 2))) + (L 26 (Int32.toNatClampNeg (((I 25 3) - 2) + 1)))), .long ((L 27 (Int32.toNatClampNeg ((I 25 3) - 2))) + (L 27 (Int32.toNatClampNeg (((I 25 3) - 2) + 1))))]) rfl rfl rfl rfl ⟨_, hr, ?_⟩
          show am_wp ext d mz_67 (137, [some (.ref 25), some (.int v1), some (.long (L 26 (Int32.toNatClampNeg ((I 25 3) - 2)))), none, some (.long (L 27 (Int32.toNatClampNeg ((I 25 3) - 2)))), none, some (.long (L 26 (Int32.toNatClampNeg (((I 25 3) - 2) + 1)))), none, some (.long (L 27 (Int32.toNatClampNeg (((I 25 3) - 2) + 1)))), none], [], (I2, L2, D2, am_rf X)) P
          refine am_wpb (c' := (221, [some (.ref 25), some (.int v1), some (.long (L 26 (Int32.toNatClampNeg ((I 25 3) - 2)))), none, some (.long (L 27 (Int32.toNatClampNeg ((I 25 3) - 2)))), none, some (.long (L 26 (Int32.toNatClampNeg (((I 25 3) - 2) + 1)))), none, some (.long (L 27 (Int32.toNatClampNeg (((I 25 3) - 2) + 1)))), none], [], (I2, L2, D2, am_rf X))) 1 rfl ?_
          exact am_ret_v rfl rfl h
        by_cases c1 : v1 = 12
        · replace h := h.2.1 c1
          have e := c1
          refine am_ts_in 1 rfl (by rw [e]; rfl) (by decide) rfl ?_
          refine am_wpb (c' := (150, [some (.ref 25), some (.int v1), some (.long (L 26 (Int32.toNatClampNeg ((I 25 3) - 2)))), none, some (.long (L 27 (Int32.toNatClampNeg ((I 25 3) - 2)))), none, some (.long (L 26 (Int32.toNatClampNeg (((I 25 3) - 2) + 1)))), none, some (.long (L 27 (Int32.toNatClampNeg (((I 25 3) - 2) + 1)))), none], [.long ((L 27 (Int32.toNatClampNeg ((I 25 3) - 2))) - (L 26 (Int32.toNatClampNeg (((I 25 3) - 2) + 1)))), .long ((L 26 (Int32.toNatClampNeg ((I 25 3) - 2))) - (L 27 (Int32.toNatClampNeg (((I 25 3) - 2) + 1)))), .ref 25], (am_uI I 25 3 ((I 25 3) - 2), L, D, am_rf X))) 7 rfl ?_
          obtain ⟨I3, L3, D3, hr, h⟩ := h
          refine am_wp_inv (as := [.ref 25, .long ((L 26 (Int32.toNatClampNeg ((I 25 3) - 2))) - (L 27 (Int32.toNatClampNeg (((I 25 3) - 2) + 1)))), .long ((L 27 (Int32.toNatClampNeg ((I 25 3) - 2))) - (L 26 (Int32.toNatClampNeg (((I 25 3) - 2) + 1))))]) rfl rfl rfl rfl ⟨_, hr, ?_⟩
          show am_wp ext d mz_67 (153, [some (.ref 25), some (.int v1), some (.long (L 26 (Int32.toNatClampNeg ((I 25 3) - 2)))), none, some (.long (L 27 (Int32.toNatClampNeg ((I 25 3) - 2)))), none, some (.long (L 26 (Int32.toNatClampNeg (((I 25 3) - 2) + 1)))), none, some (.long (L 27 (Int32.toNatClampNeg (((I 25 3) - 2) + 1)))), none], [], (I3, L3, D3, am_rf X)) P
          refine am_wpb (c' := (221, [some (.ref 25), some (.int v1), some (.long (L 26 (Int32.toNatClampNeg ((I 25 3) - 2)))), none, some (.long (L 27 (Int32.toNatClampNeg ((I 25 3) - 2)))), none, some (.long (L 26 (Int32.toNatClampNeg (((I 25 3) - 2) + 1)))), none, some (.long (L 27 (Int32.toNatClampNeg (((I 25 3) - 2) + 1)))), none], [], (I3, L3, D3, am_rf X))) 1 rfl ?_
          exact am_ret_v rfl rfl h
        by_cases c2 : v1 = 13
        · replace h := h.2.2.1 c2
          have e := c2
          refine am_ts_in 2 rfl (by rw [e]; rfl) (by decide) rfl ?_
          refine am_wpb (c' := (164, [some (.ref 25), some (.int v1), some (.long (L 26 (Int32.toNatClampNeg ((I 25 3) - 2)))), none, some (.long (L 27 (Int32.toNatClampNeg ((I 25 3) - 2)))), none, some (.long (L 26 (Int32.toNatClampNeg (((I 25 3) - 2) + 1)))), none, some (.long (L 27 (Int32.toNatClampNeg (((I 25 3) - 2) + 1)))), none], [.long (L 27 (Int32.toNatClampNeg (((I 25 3) - 2) + 1))), .long (L 26 (Int32.toNatClampNeg (((I 25 3) - 2) + 1))), .long (L 27 (Int32.toNatClampNeg ((I 25 3) - 2))), .long (L 26 (Int32.toNatClampNeg ((I 25 3) - 2))), .ref 25], (am_uI I 25 3 ((I 25 3) - 2), L, D, am_rf X))) 5 rfl ?_
          obtain ⟨I4, L4, D4, hr, h⟩ := h
          refine am_wp_inv (as := [.ref 25, .long (L 26 (Int32.toNatClampNeg ((I 25 3) - 2))), .long (L 27 (Int32.toNatClampNeg ((I 25 3) - 2))), .long (L 26 (Int32.toNatClampNeg (((I 25 3) - 2) + 1))), .long (L 27 (Int32.toNatClampNeg (((I 25 3) - 2) + 1)))]) rfl rfl rfl rfl ⟨_, hr, ?_⟩
          show am_wp ext d mz_67 (167, [some (.ref 25), some (.int v1), some (.long (L 26 (Int32.toNatClampNeg ((I 25 3) - 2)))), none, some (.long (L 27 (Int32.toNatClampNeg ((I 25 3) - 2)))), none, some (.long (L 26 (Int32.toNatClampNeg (((I 25 3) - 2) + 1)))), none, some (.long (L 27 (Int32.toNatClampNeg (((I 25 3) - 2) + 1)))), none], [], (I4, L4, D4, am_rf X)) P
          refine am_wpb (c' := (221, [some (.ref 25), some (.int v1), some (.long (L 26 (Int32.toNatClampNeg ((I 25 3) - 2)))), none, some (.long (L 27 (Int32.toNatClampNeg ((I 25 3) - 2)))), none, some (.long (L 26 (Int32.toNatClampNeg (((I 25 3) - 2) + 1)))), none, some (.long (L 27 (Int32.toNatClampNeg (((I 25 3) - 2) + 1)))), none], [], (I4, L4, D4, am_rf X))) 1 rfl ?_
          exact am_ret_v rfl rfl h
        by_cases c3 : v1 = 14
        · replace h := h.2.2.2.1 c3
          have e := c3
          refine am_ts_in 3 rfl (by rw [e]; rfl) (by decide) rfl ?_
          refine am_wpb (c' := (178, [some (.ref 25), some (.int v1), some (.long (L 26 (Int32.toNatClampNeg ((I 25 3) - 2)))), none, some (.long (L 27 (Int32.toNatClampNeg ((I 25 3) - 2)))), none, some (.long (L 26 (Int32.toNatClampNeg (((I 25 3) - 2) + 1)))), none, some (.long (L 27 (Int32.toNatClampNeg (((I 25 3) - 2) + 1)))), none], [.long (L 27 (Int32.toNatClampNeg (((I 25 3) - 2) + 1))), .long (L 26 (Int32.toNatClampNeg (((I 25 3) - 2) + 1))), .long (L 27 (Int32.toNatClampNeg ((I 25 3) - 2))), .long (L 26 (Int32.toNatClampNeg ((I 25 3) - 2))), .ref 25], (am_uI I 25 3 ((I 25 3) - 2), L, D, am_rf X))) 5 rfl ?_
          obtain ⟨I5, L5, D5, hr, h⟩ := h
          refine am_wp_inv (as := [.ref 25, .long (L 26 (Int32.toNatClampNeg ((I 25 3) - 2))), .long (L 27 (Int32.toNatClampNeg ((I 25 3) - 2))), .long (L 26 (Int32.toNatClampNeg (((I 25 3) - 2) + 1))), .long (L 27 (Int32.toNatClampNeg (((I 25 3) - 2) + 1)))]) rfl rfl rfl rfl ⟨_, hr, ?_⟩
          show am_wp ext d mz_67 (181, [some (.ref 25), some (.int v1), some (.long (L 26 (Int32.toNatClampNeg ((I 25 3) - 2)))), none, some (.long (L 27 (Int32.toNatClampNeg ((I 25 3) - 2)))), none, some (.long (L 26 (Int32.toNatClampNeg (((I 25 3) - 2) + 1)))), none, some (.long (L 27 (Int32.toNatClampNeg (((I 25 3) - 2) + 1)))), none], [], (I5, L5, D5, am_rf X)) P
          refine am_wpb (c' := (221, [some (.ref 25), some (.int v1), some (.long (L 26 (Int32.toNatClampNeg ((I 25 3) - 2)))), none, some (.long (L 27 (Int32.toNatClampNeg ((I 25 3) - 2)))), none, some (.long (L 26 (Int32.toNatClampNeg (((I 25 3) - 2) + 1)))), none, some (.long (L 27 (Int32.toNatClampNeg (((I 25 3) - 2) + 1)))), none], [], (I5, L5, D5, am_rf X))) 1 rfl ?_
          exact am_ret_v rfl rfl h
        by_cases c4 : v1 = 15
        · replace h := h.2.2.2.2.1 c4
          have e := c4
          refine am_ts_in 4 rfl (by rw [e]; rfl) (by decide) rfl ?_
          refine am_wpb (c' := (188, [some (.ref 25), some (.int v1), some (.long (L 26 (Int32.toNatClampNeg ((I 25 3) - 2)))), none, some (.long (L 27 (Int32.toNatClampNeg ((I 25 3) - 2)))), none, some (.long (L 26 (Int32.toNatClampNeg (((I 25 3) - 2) + 1)))), none, some (.long (L 27 (Int32.toNatClampNeg (((I 25 3) - 2) + 1)))), none], [.long (L 26 (Int32.toNatClampNeg (((I 25 3) - 2) + 1))), .long (L 26 (Int32.toNatClampNeg ((I 25 3) - 2))), .ref 25], (am_uI I 25 3 ((I 25 3) - 2), L, D, am_rf X))) 3 rfl ?_
          obtain ⟨r6, I6, L6, D6, hr, h⟩ := h
          refine am_wp_inv (as := [.long (L 26 (Int32.toNatClampNeg ((I 25 3) - 2))), .long (L 26 (Int32.toNatClampNeg (((I 25 3) - 2) + 1)))]) rfl rfl rfl rfl ⟨_, hr, ?_⟩
          show am_wp ext d mz_67 (191, [some (.ref 25), some (.int v1), some (.long (L 26 (Int32.toNatClampNeg ((I 25 3) - 2)))), none, some (.long (L 27 (Int32.toNatClampNeg ((I 25 3) - 2)))), none, some (.long (L 26 (Int32.toNatClampNeg (((I 25 3) - 2) + 1)))), none, some (.long (L 27 (Int32.toNatClampNeg (((I 25 3) - 2) + 1)))), none], [.long r6, .ref 25], (I6, L6, D6, am_rf X)) P
          refine am_wpb (c' := (195, [some (.ref 25), some (.int v1), some (.long (L 26 (Int32.toNatClampNeg ((I 25 3) - 2)))), none, some (.long (L 27 (Int32.toNatClampNeg ((I 25 3) - 2)))), none, some (.long (L 26 (Int32.toNatClampNeg (((I 25 3) - 2) + 1)))), none, some (.long (L 27 (Int32.toNatClampNeg (((I 25 3) - 2) + 1)))), none], [.long (L 27 (Int32.toNatClampNeg (((I 25 3) - 2) + 1))), .long (L 27 (Int32.toNatClampNeg ((I 25 3) - 2))), .long r6, .ref 25], (I6, L6, D6, am_rf X))) 2 rfl ?_
          obtain ⟨r7, I7, L7, D7, hr, h⟩ := h
          refine am_wp_inv (as := [.long (L 27 (Int32.toNatClampNeg ((I 25 3) - 2))), .long (L 27 (Int32.toNatClampNeg (((I 25 3) - 2) + 1)))]) rfl rfl rfl rfl ⟨_, hr, ?_⟩
          show am_wp ext d mz_67 (198, [some (.ref 25), some (.int v1), some (.long (L 26 (Int32.toNatClampNeg ((I 25 3) - 2)))), none, some (.long (L 27 (Int32.toNatClampNeg ((I 25 3) - 2)))), none, some (.long (L 26 (Int32.toNatClampNeg (((I 25 3) - 2) + 1)))), none, some (.long (L 27 (Int32.toNatClampNeg (((I 25 3) - 2) + 1)))), none], [.long r7, .long r6, .ref 25], (I7, L7, D7, am_rf X)) P
          obtain ⟨I8, L8, D8, hr, h⟩ := h
          refine am_wp_inv (as := [.ref 25, .long r6, .long r7]) rfl rfl rfl rfl ⟨_, hr, ?_⟩
          show am_wp ext d mz_67 (201, [some (.ref 25), some (.int v1), some (.long (L 26 (Int32.toNatClampNeg ((I 25 3) - 2)))), none, some (.long (L 27 (Int32.toNatClampNeg ((I 25 3) - 2)))), none, some (.long (L 26 (Int32.toNatClampNeg (((I 25 3) - 2) + 1)))), none, some (.long (L 27 (Int32.toNatClampNeg (((I 25 3) - 2) + 1)))), none], [], (I8, L8, D8, am_rf X)) P
          refine am_wpb (c' := (221, [some (.ref 25), some (.int v1), some (.long (L 26 (Int32.toNatClampNeg ((I 25 3) - 2)))), none, some (.long (L 27 (Int32.toNatClampNeg ((I 25 3) - 2)))), none, some (.long (L 26 (Int32.toNatClampNeg (((I 25 3) - 2) + 1)))), none, some (.long (L 27 (Int32.toNatClampNeg (((I 25 3) - 2) + 1)))), none], [], (I8, L8, D8, am_rf X))) 1 rfl ?_
          exact am_ret_v rfl rfl h
        replace h := h.2.2.2.2.2 ⟨fun e => c0 (e), fun e => c1 (e), fun e => c2 (e), fun e => c3 (e), fun e => c4 (e)⟩
        rcases hsw with hsw | ⟨k, hk, hsw⟩
        · refine am_ts_out rfl hsw ?_
          refine am_wpb (c' := (208, [some (.ref 25), some (.int v1), some (.long (L 26 (Int32.toNatClampNeg ((I 25 3) - 2)))), none, some (.long (L 27 (Int32.toNatClampNeg ((I 25 3) - 2)))), none, some (.long (L 26 (Int32.toNatClampNeg (((I 25 3) - 2) + 1)))), none, some (.long (L 27 (Int32.toNatClampNeg (((I 25 3) - 2) + 1)))), none], [.long (L 26 (Int32.toNatClampNeg (((I 25 3) - 2) + 1))), .long (L 26 (Int32.toNatClampNeg ((I 25 3) - 2))), .ref 25], (am_uI I 25 3 ((I 25 3) - 2), L, D, am_rf X))) 3 rfl ?_
          obtain ⟨r9, I9, L9, D9, hr, h⟩ := h
          refine am_wp_inv (as := [.long (L 26 (Int32.toNatClampNeg ((I 25 3) - 2))), .long (L 26 (Int32.toNatClampNeg (((I 25 3) - 2) + 1)))]) rfl rfl rfl rfl ⟨_, hr, ?_⟩
          show am_wp ext d mz_67 (211, [some (.ref 25), some (.int v1), some (.long (L 26 (Int32.toNatClampNeg ((I 25 3) - 2)))), none, some (.long (L 27 (Int32.toNatClampNeg ((I 25 3) - 2)))), none, some (.long (L 26 (Int32.toNatClampNeg (((I 25 3) - 2) + 1)))), none, some (.long (L 27 (Int32.toNatClampNeg (((I 25 3) - 2) + 1)))), none], [.long r9, .ref 25], (I9, L9, D9, am_rf X)) P
          refine am_wpb (c' := (215, [some (.ref 25), some (.int v1), some (.long (L 26 (Int32.toNatClampNeg ((I 25 3) - 2)))), none, some (.long (L 27 (Int32.toNatClampNeg ((I 25 3) - 2)))), none, some (.long (L 26 (Int32.toNatClampNeg (((I 25 3) - 2) + 1)))), none, some (.long (L 27 (Int32.toNatClampNeg (((I 25 3) - 2) + 1)))), none], [.long (L 27 (Int32.toNatClampNeg (((I 25 3) - 2) + 1))), .long (L 27 (Int32.toNatClampNeg ((I 25 3) - 2))), .long r9, .ref 25], (I9, L9, D9, am_rf X))) 2 rfl ?_
          obtain ⟨r10, I10, L10, D10, hr, h⟩ := h
          refine am_wp_inv (as := [.long (L 27 (Int32.toNatClampNeg ((I 25 3) - 2))), .long (L 27 (Int32.toNatClampNeg (((I 25 3) - 2) + 1)))]) rfl rfl rfl rfl ⟨_, hr, ?_⟩
          show am_wp ext d mz_67 (218, [some (.ref 25), some (.int v1), some (.long (L 26 (Int32.toNatClampNeg ((I 25 3) - 2)))), none, some (.long (L 27 (Int32.toNatClampNeg ((I 25 3) - 2)))), none, some (.long (L 26 (Int32.toNatClampNeg (((I 25 3) - 2) + 1)))), none, some (.long (L 27 (Int32.toNatClampNeg (((I 25 3) - 2) + 1)))), none], [.long r10, .long r9, .ref 25], (I10, L10, D10, am_rf X)) P
          obtain ⟨I11, L11, D11, hr, h⟩ := h
          refine am_wp_inv (as := [.ref 25, .long r9, .long r10]) rfl rfl rfl rfl ⟨_, hr, ?_⟩
          show am_wp ext d mz_67 (221, [some (.ref 25), some (.int v1), some (.long (L 26 (Int32.toNatClampNeg ((I 25 3) - 2)))), none, some (.long (L 27 (Int32.toNatClampNeg ((I 25 3) - 2)))), none, some (.long (L 26 (Int32.toNatClampNeg (((I 25 3) - 2) + 1)))), none, some (.long (L 27 (Int32.toNatClampNeg (((I 25 3) - 2) + 1)))), none], [], (I11, L11, D11, am_rf X)) P
          exact am_ret_v rfl rfl h
        · refine am_ts_in (t := 204) k rfl hsw (by omega) ?_ ?_
          · refine am_sw_d (bad := [0, 1, 2, 3, 4]) hk (by decide) (fun hm => ?_)
            simp only [List.mem_cons, List.not_mem_nil, or_false] at hm
            rcases hm with e | e | e | e | e
            · exact c0 (am_i32 (v := 11) (by rw [hsw, e]; rfl))
            · exact c1 (am_i32 (v := 12) (by rw [hsw, e]; rfl))
            · exact c2 (am_i32 (v := 13) (by rw [hsw, e]; rfl))
            · exact c3 (am_i32 (v := 14) (by rw [hsw, e]; rfl))
            · exact c4 (am_i32 (v := 15) (by rw [hsw, e]; rfl))
          · skip
            refine am_wpb (c' := (208, [some (.ref 25), some (.int v1), some (.long (L 26 (Int32.toNatClampNeg ((I 25 3) - 2)))), none, some (.long (L 27 (Int32.toNatClampNeg ((I 25 3) - 2)))), none, some (.long (L 26 (Int32.toNatClampNeg (((I 25 3) - 2) + 1)))), none, some (.long (L 27 (Int32.toNatClampNeg (((I 25 3) - 2) + 1)))), none], [.long (L 26 (Int32.toNatClampNeg (((I 25 3) - 2) + 1))), .long (L 26 (Int32.toNatClampNeg ((I 25 3) - 2))), .ref 25], (am_uI I 25 3 ((I 25 3) - 2), L, D, am_rf X))) 3 rfl ?_
            obtain ⟨r9, I9, L9, D9, hr, h⟩ := h
            refine am_wp_inv (as := [.long (L 26 (Int32.toNatClampNeg ((I 25 3) - 2))), .long (L 26 (Int32.toNatClampNeg (((I 25 3) - 2) + 1)))]) rfl rfl rfl rfl ⟨_, hr, ?_⟩
            show am_wp ext d mz_67 (211, [some (.ref 25), some (.int v1), some (.long (L 26 (Int32.toNatClampNeg ((I 25 3) - 2)))), none, some (.long (L 27 (Int32.toNatClampNeg ((I 25 3) - 2)))), none, some (.long (L 26 (Int32.toNatClampNeg (((I 25 3) - 2) + 1)))), none, some (.long (L 27 (Int32.toNatClampNeg (((I 25 3) - 2) + 1)))), none], [.long r9, .ref 25], (I9, L9, D9, am_rf X)) P
            refine am_wpb (c' := (215, [some (.ref 25), some (.int v1), some (.long (L 26 (Int32.toNatClampNeg ((I 25 3) - 2)))), none, some (.long (L 27 (Int32.toNatClampNeg ((I 25 3) - 2)))), none, some (.long (L 26 (Int32.toNatClampNeg (((I 25 3) - 2) + 1)))), none, some (.long (L 27 (Int32.toNatClampNeg (((I 25 3) - 2) + 1)))), none], [.long (L 27 (Int32.toNatClampNeg (((I 25 3) - 2) + 1))), .long (L 27 (Int32.toNatClampNeg ((I 25 3) - 2))), .long r9, .ref 25], (I9, L9, D9, am_rf X))) 2 rfl ?_
            obtain ⟨r10, I10, L10, D10, hr, h⟩ := h
            refine am_wp_inv (as := [.long (L 27 (Int32.toNatClampNeg ((I 25 3) - 2))), .long (L 27 (Int32.toNatClampNeg (((I 25 3) - 2) + 1)))]) rfl rfl rfl rfl ⟨_, hr, ?_⟩
            show am_wp ext d mz_67 (218, [some (.ref 25), some (.int v1), some (.long (L 26 (Int32.toNatClampNeg ((I 25 3) - 2)))), none, some (.long (L 27 (Int32.toNatClampNeg ((I 25 3) - 2)))), none, some (.long (L 26 (Int32.toNatClampNeg (((I 25 3) - 2) + 1)))), none, some (.long (L 27 (Int32.toNatClampNeg (((I 25 3) - 2) + 1)))), none], [.long r10, .long r9, .ref 25], (I10, L10, D10, am_rf X)) P
            obtain ⟨I11, L11, D11, hr, h⟩ := h
            refine am_wp_inv (as := [.ref 25, .long r9, .long r10]) rfl rfl rfl rfl ⟨_, hr, ?_⟩
            show am_wp ext d mz_67 (221, [some (.ref 25), some (.int v1), some (.long (L 26 (Int32.toNatClampNeg ((I 25 3) - 2)))), none, some (.long (L 27 (Int32.toNatClampNeg ((I 25 3) - 2)))), none, some (.long (L 26 (Int32.toNatClampNeg (((I 25 3) - 2) + 1)))), none, some (.long (L 27 (Int32.toNatClampNeg (((I 25 3) - 2) + 1)))), none], [], (I11, L11, D11, am_rf X)) P
            exact am_ret_v rfl rfl h
      · replace h := h.2 z
        refine am_wpb (c' := (84, [some (.ref 25), some (.int v1), some (.long (L 26 (Int32.toNatClampNeg ((I 25 3) - 2)))), none, some (.long (L 27 (Int32.toNatClampNeg ((I 25 3) - 2)))), none, some (.long (L 26 (Int32.toNatClampNeg (((I 25 3) - 2) + 1)))), none, some (.long (L 27 (Int32.toNatClampNeg (((I 25 3) - 2) + 1)))), none], [.long 0, .long 1, .ref 25], (am_uI I 25 3 ((I 25 3) - 2), L, D, am_rf X))) 3 rfl ?_
        obtain ⟨I12, L12, D12, hr, h⟩ := h
        refine am_wp_inv (as := [.ref 25, .long 1, .long 0]) rfl rfl rfl rfl ⟨_, hr, ?_⟩
        show am_wp ext d mz_67 (87, [some (.ref 25), some (.int v1), some (.long (L 26 (Int32.toNatClampNeg ((I 25 3) - 2)))), none, some (.long (L 27 (Int32.toNatClampNeg ((I 25 3) - 2)))), none, some (.long (L 26 (Int32.toNatClampNeg (((I 25 3) - 2) + 1)))), none, some (.long (L 27 (Int32.toNatClampNeg (((I 25 3) - 2) + 1)))), none], [], (I12, L12, D12, am_rf X)) P
        exact am_ret_v rfl rfl h
  · replace h := h.2 z
    exact am_ret_v rfl rfl h
/-- SureSums$Spans.pushProduct(JJJJ)V -/
def mz_68 : am_Y := (fun pc => am_q68.lookup pc, 21, 0)
theorem mh_68 : am_Ys 68 = some mz_68 := rfl
theorem w68_0 {ext : Nat → List Value → am_M → Option am_R} {d : Nat} {P : am_R → Prop} (I : Nat → Nat → Int32) (L : Nat → Nat → Int64) (D : Nat → Nat → UInt64) (X : am_Rf) (v1 : Int64) (v3 : Int64) (v5 : Int64) (v7 : Int64)
    (h : ∃ (r1 : Int64) (I1 : Nat → Nat → Int32) (L1 : Nat → Nat → Int64) (D1 : Nat → Nat → UInt64), am_Rn ext d 204 [.long (v1 * v5), .long (v1 * v7)] (I, L, D, am_rf X) (some (.long r1), (I1, L1, D1, am_rf X)) ∧ (∃ (r2 : Int64) (I2 : Nat → Nat → Int32) (L2 : Nat → Nat → Int64) (D2 : Nat → Nat → UInt64), am_Rn ext d 204 [.long (v3 * v5), .long (v3 * v7)] (I1, L1, D1, am_rf X) (some (.long r2), (I2, L2, D2, am_rf X)) ∧ (∃ (r3 : Int64) (I3 : Nat → Nat → Int32) (L3 : Nat → Nat → Int64) (D3 : Nat → Nat → UInt64), am_Rn ext d 204 [.long r1, .long r2] (I2, L2, D2, am_rf X) (some (.long r3), (I3, L3, D3, am_rf X)) ∧ (∃ (r4 : Int64) (I4 : Nat → Nat → Int32) (L4 : Nat → Nat → Int64) (D4 : Nat → Nat → UInt64), am_Rn ext d 203 [.long (v1 * v5), .long (v1 * v7)] (I3, L3, D3, am_rf X) (some (.long r4), (I4, L4, D4, am_rf X)) ∧ (∃ (r5 : Int64) (I5 : Nat → Nat → Int32) (L5 : Nat → Nat → Int64) (D5 : Nat → Nat → UInt64), am_Rn ext d 203 [.long (v3 * v5), .long (v3 * v7)] (I4, L4, D4, am_rf X) (some (.long r5), (I5, L5, D5, am_rf X)) ∧ (∃ (r6 : Int64) (I6 : Nat → Nat → Int32) (L6 : Nat → Nat → Int64) (D6 : Nat → Nat → UInt64), am_Rn ext d 203 [.long r4, .long r5] (I5, L5, D5, am_rf X) (some (.long r6), (I6, L6, D6, am_rf X)) ∧ (∃ (r7 : Int64) (I7 : Nat → Nat → Int32) (L7 : Nat → Nat → Int64) (D7 : Nat → Nat → UInt64), am_Rn ext d 70 [.ref 25, .long r3] (I6, L6, D6, am_rf X) (some (.long r7), (I7, L7, D7, am_rf X)) ∧ (∃ (r8 : Int64) (I8 : Nat → Nat → Int32) (L8 : Nat → Nat → Int64) (D8 : Nat → Nat → UInt64), am_Rn ext d 71 [.ref 25, .long r6] (I7, L7, D7, am_rf X) (some (.long r8), (I8, L8, D8, am_rf X)) ∧ (∃ (I9 : Nat → Nat → Int32) (L9 : Nat → Nat → Int64) (D9 : Nat → Nat → UInt64), am_Rn ext d 64 [.ref 25, .long r7, .long r8] (I8, L8, D8, am_rf X) (none, (I9, L9, D9, am_rf X)) ∧ (P (none, (I9, L9, D9, am_rf X)))))))))))) : am_wp ext d mz_68 (0, [some (.ref 25), some (.long v1), none, some (.long v3), none, some (.long v5), none, some (.long v7), none, none, none, none, none, none, none, none, none, none, none, none, none], [], (I, L, D, am_rf X)) P := by
  refine am_wpb (c' := (28, [some (.ref 25), some (.long v1), none, some (.long v3), none, some (.long v5), none, some (.long v7), none, some (.long (v1 * v5)), none, some (.long (v1 * v7)), none, some (.long (v3 * v5)), none, some (.long (v3 * v7)), none, none, none, none, none], [.long (v1 * v7), .long (v1 * v5)], (I, L, D, am_rf X))) 18 rfl ?_
  obtain ⟨r1, I1, L1, D1, hr, h⟩ := h
  refine am_wp_inv (as := [.long (v1 * v5), .long (v1 * v7)]) rfl rfl rfl rfl ⟨_, hr, ?_⟩
  show am_wp ext d mz_68 (31, [some (.ref 25), some (.long v1), none, some (.long v3), none, some (.long v5), none, some (.long v7), none, some (.long (v1 * v5)), none, some (.long (v1 * v7)), none, some (.long (v3 * v5)), none, some (.long (v3 * v7)), none, none, none, none, none], [.long r1], (I1, L1, D1, am_rf X)) P
  refine am_wpb (c' := (35, [some (.ref 25), some (.long v1), none, some (.long v3), none, some (.long v5), none, some (.long v7), none, some (.long (v1 * v5)), none, some (.long (v1 * v7)), none, some (.long (v3 * v5)), none, some (.long (v3 * v7)), none, none, none, none, none], [.long (v3 * v7), .long (v3 * v5), .long r1], (I1, L1, D1, am_rf X))) 2 rfl ?_
  obtain ⟨r2, I2, L2, D2, hr, h⟩ := h
  refine am_wp_inv (as := [.long (v3 * v5), .long (v3 * v7)]) rfl rfl rfl rfl ⟨_, hr, ?_⟩
  show am_wp ext d mz_68 (38, [some (.ref 25), some (.long v1), none, some (.long v3), none, some (.long v5), none, some (.long v7), none, some (.long (v1 * v5)), none, some (.long (v1 * v7)), none, some (.long (v3 * v5)), none, some (.long (v3 * v7)), none, none, none, none, none], [.long r2, .long r1], (I2, L2, D2, am_rf X)) P
  obtain ⟨r3, I3, L3, D3, hr, h⟩ := h
  refine am_wp_inv (as := [.long r1, .long r2]) rfl rfl rfl rfl ⟨_, hr, ?_⟩
  show am_wp ext d mz_68 (41, [some (.ref 25), some (.long v1), none, some (.long v3), none, some (.long v5), none, some (.long v7), none, some (.long (v1 * v5)), none, some (.long (v1 * v7)), none, some (.long (v3 * v5)), none, some (.long (v3 * v7)), none, none, none, none, none], [.long r3], (I3, L3, D3, am_rf X)) P
  refine am_wpb (c' := (47, [some (.ref 25), some (.long v1), none, some (.long v3), none, some (.long v5), none, some (.long v7), none, some (.long (v1 * v5)), none, some (.long (v1 * v7)), none, some (.long (v3 * v5)), none, some (.long (v3 * v7)), none, some (.long r3), none, none, none], [.long (v1 * v7), .long (v1 * v5)], (I3, L3, D3, am_rf X))) 3 rfl ?_
  obtain ⟨r4, I4, L4, D4, hr, h⟩ := h
  refine am_wp_inv (as := [.long (v1 * v5), .long (v1 * v7)]) rfl rfl rfl rfl ⟨_, hr, ?_⟩
  show am_wp ext d mz_68 (50, [some (.ref 25), some (.long v1), none, some (.long v3), none, some (.long v5), none, some (.long v7), none, some (.long (v1 * v5)), none, some (.long (v1 * v7)), none, some (.long (v3 * v5)), none, some (.long (v3 * v7)), none, some (.long r3), none, none, none], [.long r4], (I4, L4, D4, am_rf X)) P
  refine am_wpb (c' := (54, [some (.ref 25), some (.long v1), none, some (.long v3), none, some (.long v5), none, some (.long v7), none, some (.long (v1 * v5)), none, some (.long (v1 * v7)), none, some (.long (v3 * v5)), none, some (.long (v3 * v7)), none, some (.long r3), none, none, none], [.long (v3 * v7), .long (v3 * v5), .long r4], (I4, L4, D4, am_rf X))) 2 rfl ?_
  obtain ⟨r5, I5, L5, D5, hr, h⟩ := h
  refine am_wp_inv (as := [.long (v3 * v5), .long (v3 * v7)]) rfl rfl rfl rfl ⟨_, hr, ?_⟩
  show am_wp ext d mz_68 (57, [some (.ref 25), some (.long v1), none, some (.long v3), none, some (.long v5), none, some (.long v7), none, some (.long (v1 * v5)), none, some (.long (v1 * v7)), none, some (.long (v3 * v5)), none, some (.long (v3 * v7)), none, some (.long r3), none, none, none], [.long r5, .long r4], (I5, L5, D5, am_rf X)) P
  obtain ⟨r6, I6, L6, D6, hr, h⟩ := h
  refine am_wp_inv (as := [.long r4, .long r5]) rfl rfl rfl rfl ⟨_, hr, ?_⟩
  show am_wp ext d mz_68 (60, [some (.ref 25), some (.long v1), none, some (.long v3), none, some (.long v5), none, some (.long v7), none, some (.long (v1 * v5)), none, some (.long (v1 * v7)), none, some (.long (v3 * v5)), none, some (.long (v3 * v7)), none, some (.long r3), none, none, none], [.long r6], (I6, L6, D6, am_rf X)) P
  refine am_wpb (c' := (66, [some (.ref 25), some (.long v1), none, some (.long v3), none, some (.long v5), none, some (.long v7), none, some (.long (v1 * v5)), none, some (.long (v1 * v7)), none, some (.long (v3 * v5)), none, some (.long (v3 * v7)), none, some (.long r3), none, some (.long r6), none], [.long r3, .ref 25, .ref 25], (I6, L6, D6, am_rf X))) 4 rfl ?_
  obtain ⟨r7, I7, L7, D7, hr, h⟩ := h
  refine am_wp_inv (as := [.ref 25, .long r3]) rfl rfl rfl rfl ⟨_, hr, ?_⟩
  show am_wp ext d mz_68 (69, [some (.ref 25), some (.long v1), none, some (.long v3), none, some (.long v5), none, some (.long v7), none, some (.long (v1 * v5)), none, some (.long (v1 * v7)), none, some (.long (v3 * v5)), none, some (.long (v3 * v7)), none, some (.long r3), none, some (.long r6), none], [.long r7, .ref 25], (I7, L7, D7, am_rf X)) P
  refine am_wpb (c' := (72, [some (.ref 25), some (.long v1), none, some (.long v3), none, some (.long v5), none, some (.long v7), none, some (.long (v1 * v5)), none, some (.long (v1 * v7)), none, some (.long (v3 * v5)), none, some (.long (v3 * v7)), none, some (.long r3), none, some (.long r6), none], [.long r6, .ref 25, .long r7, .ref 25], (I7, L7, D7, am_rf X))) 2 rfl ?_
  obtain ⟨r8, I8, L8, D8, hr, h⟩ := h
  refine am_wp_inv (as := [.ref 25, .long r6]) rfl rfl rfl rfl ⟨_, hr, ?_⟩
  show am_wp ext d mz_68 (75, [some (.ref 25), some (.long v1), none, some (.long v3), none, some (.long v5), none, some (.long v7), none, some (.long (v1 * v5)), none, some (.long (v1 * v7)), none, some (.long (v3 * v5)), none, some (.long (v3 * v7)), none, some (.long r3), none, some (.long r6), none], [.long r8, .long r7, .ref 25], (I8, L8, D8, am_rf X)) P
  obtain ⟨I9, L9, D9, hr, h⟩ := h
  refine am_wp_inv (as := [.ref 25, .long r7, .long r8]) rfl rfl rfl rfl ⟨_, hr, ?_⟩
  show am_wp ext d mz_68 (78, [some (.ref 25), some (.long v1), none, some (.long v3), none, some (.long v5), none, some (.long v7), none, some (.long (v1 * v5)), none, some (.long (v1 * v7)), none, some (.long (v3 * v5)), none, some (.long (v3 * v7)), none, some (.long r3), none, some (.long r6), none], [], (I9, L9, D9, am_rf X)) P
  exact am_ret_v rfl rfl h
/-- SureSums$Spans.pushQuotient(JJJJ)V -/
def mz_69 : am_Y := (fun pc => am_q69.lookup pc, 21, 0)
theorem mh_69 : am_Ys 69 = some mz_69 := rfl
theorem w69_0 {ext : Nat → List Value → am_M → Option am_R} {d : Nat} {P : am_R → Prop} (I : Nat → Nat → Int32) (L : Nat → Nat → Int64) (D : Nat → Nat → UInt64) (X : am_Rf) (v1 : Int64) (v3 : Int64) (v5 : Int64) (v7 : Int64)
    (h : ((0 < v5 → (am_wp ext d mz_69 (21, [some (.ref 25), some (.long v1), none, some (.long v3), none, some (.long v5), none, some (.long v7), none, none, none, none, none, none, none, none, none, none, none, none, none], [], (I, L, D, am_rf X)) P)) ∧ (¬ 0 < v5 → (((v7 < 0 → (am_wp ext d mz_69 (21, [some (.ref 25), some (.long v1), none, some (.long v3), none, some (.long v5), none, some (.long v7), none, none, none, none, none, none, none, none, none, none, none, none, none], [], (I, L, D, am_rf X)) P)) ∧ (¬ v7 < 0 → (∃ (I1 : Nat → Nat → Int32) (L1 : Nat → Nat → Int64) (D1 : Nat → Nat → UInt64), am_Rn ext d 64 [.ref 25, .long 1, .long 0] (I, L, D, am_rf X) (none, (I1, L1, D1, am_rf X)) ∧ (P (none, (I1, L1, D1, am_rf X)))))))))) : am_wp ext d mz_69 (0, [some (.ref 25), some (.long v1), none, some (.long v3), none, some (.long v5), none, some (.long v7), none, none, none, none, none, none, none, none, none, none, none, none, none], [], (I, L, D, am_rf X)) P := by
  refine am_wpb (c' := (3, [some (.ref 25), some (.long v1), none, some (.long v3), none, some (.long v5), none, some (.long v7), none, none, none, none, none, none, none, none, none, none, none, none, none], [.long 0, .long v5], (I, L, D, am_rf X))) 2 rfl ?_
  refine am_lc_gt rfl rfl (fun z => ?_) (fun z => ?_)
  · replace h := h.1 z
    exact h
  · replace h := h.2 z
    refine am_wpb (c' := (10, [some (.ref 25), some (.long v1), none, some (.long v3), none, some (.long v5), none, some (.long v7), none, none, none, none, none, none, none, none, none, none, none, none, none], [.long 0, .long v7], (I, L, D, am_rf X))) 2 rfl ?_
    refine am_lc_lt rfl rfl (fun z => ?_) (fun z => ?_)
    · replace h := h.1 z
      exact h
    · replace h := h.2 z
      refine am_wpb (c' := (17, [some (.ref 25), some (.long v1), none, some (.long v3), none, some (.long v5), none, some (.long v7), none, none, none, none, none, none, none, none, none, none, none, none, none], [.long 0, .long 1, .ref 25], (I, L, D, am_rf X))) 3 rfl ?_
      obtain ⟨I1, L1, D1, hr, h⟩ := h
      refine am_wp_inv (as := [.ref 25, .long 1, .long 0]) rfl rfl rfl rfl ⟨_, hr, ?_⟩
      show am_wp ext d mz_69 (20, [some (.ref 25), some (.long v1), none, some (.long v3), none, some (.long v5), none, some (.long v7), none, none, none, none, none, none, none, none, none, none, none, none, none], [], (I1, L1, D1, am_rf X)) P
      exact am_ret_v rfl rfl h
theorem w69_21 {ext : Nat → List Value → am_M → Option am_R} {d : Nat} {P : am_R → Prop} (I : Nat → Nat → Int32) (L : Nat → Nat → Int64) (D : Nat → Nat → UInt64) (X : am_Rf) (v1 : Int64) (v3 : Int64) (v5 : Int64) (v7 : Int64)
    (h : ∃ (r1 : Int64) (I1 : Nat → Nat → Int32) (L1 : Nat → Nat → Int64) (D1 : Nat → Nat → UInt64), am_Rn ext d 72 [.long (v1 <<< ((Int32.toInt64 (I 25 6)) &&& 63)), .long v5] (I, L, D, am_rf X) (some (.long r1), (I1, L1, D1, am_rf X)) ∧ (∃ (r2 : Int64) (I2 : Nat → Nat → Int32) (L2 : Nat → Nat → Int64) (D2 : Nat → Nat → UInt64), am_Rn ext d 72 [.long (v1 <<< ((Int32.toInt64 (I 25 6)) &&& 63)), .long v7] (I1, L1, D1, am_rf X) (some (.long r2), (I2, L2, D2, am_rf X)) ∧ (∃ (r3 : Int64) (I3 : Nat → Nat → Int32) (L3 : Nat → Nat → Int64) (D3 : Nat → Nat → UInt64), am_Rn ext d 204 [.long r1, .long r2] (I2, L2, D2, am_rf X) (some (.long r3), (I3, L3, D3, am_rf X)) ∧ (∃ (r4 : Int64) (I4 : Nat → Nat → Int32) (L4 : Nat → Nat → Int64) (D4 : Nat → Nat → UInt64), am_Rn ext d 72 [.long (v3 <<< ((Int32.toInt64 (I 25 6)) &&& 63)), .long v5] (I3, L3, D3, am_rf X) (some (.long r4), (I4, L4, D4, am_rf X)) ∧ (∃ (r5 : Int64) (I5 : Nat → Nat → Int32) (L5 : Nat → Nat → Int64) (D5 : Nat → Nat → UInt64), am_Rn ext d 72 [.long (v3 <<< ((Int32.toInt64 (I 25 6)) &&& 63)), .long v7] (I4, L4, D4, am_rf X) (some (.long r5), (I5, L5, D5, am_rf X)) ∧ (∃ (r6 : Int64) (I6 : Nat → Nat → Int32) (L6 : Nat → Nat → Int64) (D6 : Nat → Nat → UInt64), am_Rn ext d 204 [.long r4, .long r5] (I5, L5, D5, am_rf X) (some (.long r6), (I6, L6, D6, am_rf X)) ∧ (∃ (r7 : Int64) (I7 : Nat → Nat → Int32) (L7 : Nat → Nat → Int64) (D7 : Nat → Nat → UInt64), am_Rn ext d 73 [.long (v1 <<< ((Int32.toInt64 (I 25 6)) &&& 63)), .long v5] (I6, L6, D6, am_rf X) (some (.long r7), (I7, L7, D7, am_rf X)) ∧ (∃ (r8 : Int64) (I8 : Nat → Nat → Int32) (L8 : Nat → Nat → Int64) (D8 : Nat → Nat → UInt64), am_Rn ext d 73 [.long (v1 <<< ((Int32.toInt64 (I 25 6)) &&& 63)), .long v7] (I7, L7, D7, am_rf X) (some (.long r8), (I8, L8, D8, am_rf X)) ∧ (∃ (r9 : Int64) (I9 : Nat → Nat → Int32) (L9 : Nat → Nat → Int64) (D9 : Nat → Nat → UInt64), am_Rn ext d 203 [.long r7, .long r8] (I8, L8, D8, am_rf X) (some (.long r9), (I9, L9, D9, am_rf X)) ∧ (∃ (r10 : Int64) (I10 : Nat → Nat → Int32) (L10 : Nat → Nat → Int64) (D10 : Nat → Nat → UInt64), am_Rn ext d 73 [.long (v3 <<< ((Int32.toInt64 (I 25 6)) &&& 63)), .long v5] (I9, L9, D9, am_rf X) (some (.long r10), (I10, L10, D10, am_rf X)) ∧ (∃ (r11 : Int64) (I11 : Nat → Nat → Int32) (L11 : Nat → Nat → Int64) (D11 : Nat → Nat → UInt64), am_Rn ext d 73 [.long (v3 <<< ((Int32.toInt64 (I 25 6)) &&& 63)), .long v7] (I10, L10, D10, am_rf X) (some (.long r11), (I11, L11, D11, am_rf X)) ∧ (∃ (r12 : Int64) (I12 : Nat → Nat → Int32) (L12 : Nat → Nat → Int64) (D12 : Nat → Nat → UInt64), am_Rn ext d 203 [.long r10, .long r11] (I11, L11, D11, am_rf X) (some (.long r12), (I12, L12, D12, am_rf X)) ∧ (∃ (r13 : Int64) (I13 : Nat → Nat → Int32) (L13 : Nat → Nat → Int64) (D13 : Nat → Nat → UInt64), am_Rn ext d 204 [.long r3, .long r6] (I12, L12, D12, am_rf X) (some (.long r13), (I13, L13, D13, am_rf X)) ∧ (∃ (r14 : Int64) (I14 : Nat → Nat → Int32) (L14 : Nat → Nat → Int64) (D14 : Nat → Nat → UInt64), am_Rn ext d 203 [.long r9, .long r12] (I13, L13, D13, am_rf X) (some (.long r14), (I14, L14, D14, am_rf X)) ∧ (∃ (I15 : Nat → Nat → Int32) (L15 : Nat → Nat → Int64) (D15 : Nat → Nat → UInt64), am_Rn ext d 64 [.ref 25, .long r13, .long r14] (I14, L14, D14, am_rf X) (none, (I15, L15, D15, am_rf X)) ∧ (P (none, (I15, L15, D15, am_rf X)))))))))))))))))) : am_wp ext d mz_69 (21, [some (.ref 25), some (.long v1), none, some (.long v3), none, some (.long v5), none, some (.long v7), none, none, none, none, none, none, none, none, none, none, none, none, none], [], (I, L, D, am_rf X)) P := by
  refine am_wpb (c' := (41, [some (.ref 25), some (.long v1), none, some (.long v3), none, some (.long v5), none, some (.long v7), none, some (.long (v1 <<< ((Int32.toInt64 (I 25 6)) &&& 63))), none, some (.long (v3 <<< ((Int32.toInt64 (I 25 6)) &&& 63))), none, none, none, none, none, none, none, none, none], [.long v5, .long (v1 <<< ((Int32.toInt64 (I 25 6)) &&& 63))], (I, L, D, am_rf X))) 12 rfl ?_
  obtain ⟨r1, I1, L1, D1, hr, h⟩ := h
  refine am_wp_inv (as := [.long (v1 <<< ((Int32.toInt64 (I 25 6)) &&& 63)), .long v5]) rfl rfl rfl rfl ⟨_, hr, ?_⟩
  show am_wp ext d mz_69 (44, [some (.ref 25), some (.long v1), none, some (.long v3), none, some (.long v5), none, some (.long v7), none, some (.long (v1 <<< ((Int32.toInt64 (I 25 6)) &&& 63))), none, some (.long (v3 <<< ((Int32.toInt64 (I 25 6)) &&& 63))), none, none, none, none, none, none, none, none, none], [.long r1], (I1, L1, D1, am_rf X)) P
  refine am_wpb (c' := (48, [some (.ref 25), some (.long v1), none, some (.long v3), none, some (.long v5), none, some (.long v7), none, some (.long (v1 <<< ((Int32.toInt64 (I 25 6)) &&& 63))), none, some (.long (v3 <<< ((Int32.toInt64 (I 25 6)) &&& 63))), none, none, none, none, none, none, none, none, none], [.long v7, .long (v1 <<< ((Int32.toInt64 (I 25 6)) &&& 63)), .long r1], (I1, L1, D1, am_rf X))) 2 rfl ?_
  obtain ⟨r2, I2, L2, D2, hr, h⟩ := h
  refine am_wp_inv (as := [.long (v1 <<< ((Int32.toInt64 (I 25 6)) &&& 63)), .long v7]) rfl rfl rfl rfl ⟨_, hr, ?_⟩
  show am_wp ext d mz_69 (51, [some (.ref 25), some (.long v1), none, some (.long v3), none, some (.long v5), none, some (.long v7), none, some (.long (v1 <<< ((Int32.toInt64 (I 25 6)) &&& 63))), none, some (.long (v3 <<< ((Int32.toInt64 (I 25 6)) &&& 63))), none, none, none, none, none, none, none, none, none], [.long r2, .long r1], (I2, L2, D2, am_rf X)) P
  obtain ⟨r3, I3, L3, D3, hr, h⟩ := h
  refine am_wp_inv (as := [.long r1, .long r2]) rfl rfl rfl rfl ⟨_, hr, ?_⟩
  show am_wp ext d mz_69 (54, [some (.ref 25), some (.long v1), none, some (.long v3), none, some (.long v5), none, some (.long v7), none, some (.long (v1 <<< ((Int32.toInt64 (I 25 6)) &&& 63))), none, some (.long (v3 <<< ((Int32.toInt64 (I 25 6)) &&& 63))), none, none, none, none, none, none, none, none, none], [.long r3], (I3, L3, D3, am_rf X)) P
  refine am_wpb (c' := (60, [some (.ref 25), some (.long v1), none, some (.long v3), none, some (.long v5), none, some (.long v7), none, some (.long (v1 <<< ((Int32.toInt64 (I 25 6)) &&& 63))), none, some (.long (v3 <<< ((Int32.toInt64 (I 25 6)) &&& 63))), none, some (.long r3), none, none, none, none, none, none, none], [.long v5, .long (v3 <<< ((Int32.toInt64 (I 25 6)) &&& 63))], (I3, L3, D3, am_rf X))) 3 rfl ?_
  obtain ⟨r4, I4, L4, D4, hr, h⟩ := h
  refine am_wp_inv (as := [.long (v3 <<< ((Int32.toInt64 (I 25 6)) &&& 63)), .long v5]) rfl rfl rfl rfl ⟨_, hr, ?_⟩
  show am_wp ext d mz_69 (63, [some (.ref 25), some (.long v1), none, some (.long v3), none, some (.long v5), none, some (.long v7), none, some (.long (v1 <<< ((Int32.toInt64 (I 25 6)) &&& 63))), none, some (.long (v3 <<< ((Int32.toInt64 (I 25 6)) &&& 63))), none, some (.long r3), none, none, none, none, none, none, none], [.long r4], (I4, L4, D4, am_rf X)) P
  refine am_wpb (c' := (67, [some (.ref 25), some (.long v1), none, some (.long v3), none, some (.long v5), none, some (.long v7), none, some (.long (v1 <<< ((Int32.toInt64 (I 25 6)) &&& 63))), none, some (.long (v3 <<< ((Int32.toInt64 (I 25 6)) &&& 63))), none, some (.long r3), none, none, none, none, none, none, none], [.long v7, .long (v3 <<< ((Int32.toInt64 (I 25 6)) &&& 63)), .long r4], (I4, L4, D4, am_rf X))) 2 rfl ?_
  obtain ⟨r5, I5, L5, D5, hr, h⟩ := h
  refine am_wp_inv (as := [.long (v3 <<< ((Int32.toInt64 (I 25 6)) &&& 63)), .long v7]) rfl rfl rfl rfl ⟨_, hr, ?_⟩
  show am_wp ext d mz_69 (70, [some (.ref 25), some (.long v1), none, some (.long v3), none, some (.long v5), none, some (.long v7), none, some (.long (v1 <<< ((Int32.toInt64 (I 25 6)) &&& 63))), none, some (.long (v3 <<< ((Int32.toInt64 (I 25 6)) &&& 63))), none, some (.long r3), none, none, none, none, none, none, none], [.long r5, .long r4], (I5, L5, D5, am_rf X)) P
  obtain ⟨r6, I6, L6, D6, hr, h⟩ := h
  refine am_wp_inv (as := [.long r4, .long r5]) rfl rfl rfl rfl ⟨_, hr, ?_⟩
  show am_wp ext d mz_69 (73, [some (.ref 25), some (.long v1), none, some (.long v3), none, some (.long v5), none, some (.long v7), none, some (.long (v1 <<< ((Int32.toInt64 (I 25 6)) &&& 63))), none, some (.long (v3 <<< ((Int32.toInt64 (I 25 6)) &&& 63))), none, some (.long r3), none, none, none, none, none, none, none], [.long r6], (I6, L6, D6, am_rf X)) P
  refine am_wpb (c' := (79, [some (.ref 25), some (.long v1), none, some (.long v3), none, some (.long v5), none, some (.long v7), none, some (.long (v1 <<< ((Int32.toInt64 (I 25 6)) &&& 63))), none, some (.long (v3 <<< ((Int32.toInt64 (I 25 6)) &&& 63))), none, some (.long r3), none, some (.long r6), none, none, none, none, none], [.long v5, .long (v1 <<< ((Int32.toInt64 (I 25 6)) &&& 63))], (I6, L6, D6, am_rf X))) 3 rfl ?_
  obtain ⟨r7, I7, L7, D7, hr, h⟩ := h
  refine am_wp_inv (as := [.long (v1 <<< ((Int32.toInt64 (I 25 6)) &&& 63)), .long v5]) rfl rfl rfl rfl ⟨_, hr, ?_⟩
  show am_wp ext d mz_69 (82, [some (.ref 25), some (.long v1), none, some (.long v3), none, some (.long v5), none, some (.long v7), none, some (.long (v1 <<< ((Int32.toInt64 (I 25 6)) &&& 63))), none, some (.long (v3 <<< ((Int32.toInt64 (I 25 6)) &&& 63))), none, some (.long r3), none, some (.long r6), none, none, none, none, none], [.long r7], (I7, L7, D7, am_rf X)) P
  refine am_wpb (c' := (86, [some (.ref 25), some (.long v1), none, some (.long v3), none, some (.long v5), none, some (.long v7), none, some (.long (v1 <<< ((Int32.toInt64 (I 25 6)) &&& 63))), none, some (.long (v3 <<< ((Int32.toInt64 (I 25 6)) &&& 63))), none, some (.long r3), none, some (.long r6), none, none, none, none, none], [.long v7, .long (v1 <<< ((Int32.toInt64 (I 25 6)) &&& 63)), .long r7], (I7, L7, D7, am_rf X))) 2 rfl ?_
  obtain ⟨r8, I8, L8, D8, hr, h⟩ := h
  refine am_wp_inv (as := [.long (v1 <<< ((Int32.toInt64 (I 25 6)) &&& 63)), .long v7]) rfl rfl rfl rfl ⟨_, hr, ?_⟩
  show am_wp ext d mz_69 (89, [some (.ref 25), some (.long v1), none, some (.long v3), none, some (.long v5), none, some (.long v7), none, some (.long (v1 <<< ((Int32.toInt64 (I 25 6)) &&& 63))), none, some (.long (v3 <<< ((Int32.toInt64 (I 25 6)) &&& 63))), none, some (.long r3), none, some (.long r6), none, none, none, none, none], [.long r8, .long r7], (I8, L8, D8, am_rf X)) P
  obtain ⟨r9, I9, L9, D9, hr, h⟩ := h
  refine am_wp_inv (as := [.long r7, .long r8]) rfl rfl rfl rfl ⟨_, hr, ?_⟩
  show am_wp ext d mz_69 (92, [some (.ref 25), some (.long v1), none, some (.long v3), none, some (.long v5), none, some (.long v7), none, some (.long (v1 <<< ((Int32.toInt64 (I 25 6)) &&& 63))), none, some (.long (v3 <<< ((Int32.toInt64 (I 25 6)) &&& 63))), none, some (.long r3), none, some (.long r6), none, none, none, none, none], [.long r9], (I9, L9, D9, am_rf X)) P
  refine am_wpb (c' := (98, [some (.ref 25), some (.long v1), none, some (.long v3), none, some (.long v5), none, some (.long v7), none, some (.long (v1 <<< ((Int32.toInt64 (I 25 6)) &&& 63))), none, some (.long (v3 <<< ((Int32.toInt64 (I 25 6)) &&& 63))), none, some (.long r3), none, some (.long r6), none, some (.long r9), none, none, none], [.long v5, .long (v3 <<< ((Int32.toInt64 (I 25 6)) &&& 63))], (I9, L9, D9, am_rf X))) 3 rfl ?_
  obtain ⟨r10, I10, L10, D10, hr, h⟩ := h
  refine am_wp_inv (as := [.long (v3 <<< ((Int32.toInt64 (I 25 6)) &&& 63)), .long v5]) rfl rfl rfl rfl ⟨_, hr, ?_⟩
  show am_wp ext d mz_69 (101, [some (.ref 25), some (.long v1), none, some (.long v3), none, some (.long v5), none, some (.long v7), none, some (.long (v1 <<< ((Int32.toInt64 (I 25 6)) &&& 63))), none, some (.long (v3 <<< ((Int32.toInt64 (I 25 6)) &&& 63))), none, some (.long r3), none, some (.long r6), none, some (.long r9), none, none, none], [.long r10], (I10, L10, D10, am_rf X)) P
  refine am_wpb (c' := (105, [some (.ref 25), some (.long v1), none, some (.long v3), none, some (.long v5), none, some (.long v7), none, some (.long (v1 <<< ((Int32.toInt64 (I 25 6)) &&& 63))), none, some (.long (v3 <<< ((Int32.toInt64 (I 25 6)) &&& 63))), none, some (.long r3), none, some (.long r6), none, some (.long r9), none, none, none], [.long v7, .long (v3 <<< ((Int32.toInt64 (I 25 6)) &&& 63)), .long r10], (I10, L10, D10, am_rf X))) 2 rfl ?_
  obtain ⟨r11, I11, L11, D11, hr, h⟩ := h
  refine am_wp_inv (as := [.long (v3 <<< ((Int32.toInt64 (I 25 6)) &&& 63)), .long v7]) rfl rfl rfl rfl ⟨_, hr, ?_⟩
  show am_wp ext d mz_69 (108, [some (.ref 25), some (.long v1), none, some (.long v3), none, some (.long v5), none, some (.long v7), none, some (.long (v1 <<< ((Int32.toInt64 (I 25 6)) &&& 63))), none, some (.long (v3 <<< ((Int32.toInt64 (I 25 6)) &&& 63))), none, some (.long r3), none, some (.long r6), none, some (.long r9), none, none, none], [.long r11, .long r10], (I11, L11, D11, am_rf X)) P
  obtain ⟨r12, I12, L12, D12, hr, h⟩ := h
  refine am_wp_inv (as := [.long r10, .long r11]) rfl rfl rfl rfl ⟨_, hr, ?_⟩
  show am_wp ext d mz_69 (111, [some (.ref 25), some (.long v1), none, some (.long v3), none, some (.long v5), none, some (.long v7), none, some (.long (v1 <<< ((Int32.toInt64 (I 25 6)) &&& 63))), none, some (.long (v3 <<< ((Int32.toInt64 (I 25 6)) &&& 63))), none, some (.long r3), none, some (.long r6), none, some (.long r9), none, none, none], [.long r12], (I12, L12, D12, am_rf X)) P
  refine am_wpb (c' := (118, [some (.ref 25), some (.long v1), none, some (.long v3), none, some (.long v5), none, some (.long v7), none, some (.long (v1 <<< ((Int32.toInt64 (I 25 6)) &&& 63))), none, some (.long (v3 <<< ((Int32.toInt64 (I 25 6)) &&& 63))), none, some (.long r3), none, some (.long r6), none, some (.long r9), none, some (.long r12), none], [.long r6, .long r3, .ref 25], (I12, L12, D12, am_rf X))) 4 rfl ?_
  obtain ⟨r13, I13, L13, D13, hr, h⟩ := h
  refine am_wp_inv (as := [.long r3, .long r6]) rfl rfl rfl rfl ⟨_, hr, ?_⟩
  show am_wp ext d mz_69 (121, [some (.ref 25), some (.long v1), none, some (.long v3), none, some (.long v5), none, some (.long v7), none, some (.long (v1 <<< ((Int32.toInt64 (I 25 6)) &&& 63))), none, some (.long (v3 <<< ((Int32.toInt64 (I 25 6)) &&& 63))), none, some (.long r3), none, some (.long r6), none, some (.long r9), none, some (.long r12), none], [.long r13, .ref 25], (I13, L13, D13, am_rf X)) P
  refine am_wpb (c' := (125, [some (.ref 25), some (.long v1), none, some (.long v3), none, some (.long v5), none, some (.long v7), none, some (.long (v1 <<< ((Int32.toInt64 (I 25 6)) &&& 63))), none, some (.long (v3 <<< ((Int32.toInt64 (I 25 6)) &&& 63))), none, some (.long r3), none, some (.long r6), none, some (.long r9), none, some (.long r12), none], [.long r12, .long r9, .long r13, .ref 25], (I13, L13, D13, am_rf X))) 2 rfl ?_
  obtain ⟨r14, I14, L14, D14, hr, h⟩ := h
  refine am_wp_inv (as := [.long r9, .long r12]) rfl rfl rfl rfl ⟨_, hr, ?_⟩
  show am_wp ext d mz_69 (128, [some (.ref 25), some (.long v1), none, some (.long v3), none, some (.long v5), none, some (.long v7), none, some (.long (v1 <<< ((Int32.toInt64 (I 25 6)) &&& 63))), none, some (.long (v3 <<< ((Int32.toInt64 (I 25 6)) &&& 63))), none, some (.long r3), none, some (.long r6), none, some (.long r9), none, some (.long r12), none], [.long r14, .long r13, .ref 25], (I14, L14, D14, am_rf X)) P
  obtain ⟨I15, L15, D15, hr, h⟩ := h
  refine am_wp_inv (as := [.ref 25, .long r13, .long r14]) rfl rfl rfl rfl ⟨_, hr, ?_⟩
  show am_wp ext d mz_69 (131, [some (.ref 25), some (.long v1), none, some (.long v3), none, some (.long v5), none, some (.long v7), none, some (.long (v1 <<< ((Int32.toInt64 (I 25 6)) &&& 63))), none, some (.long (v3 <<< ((Int32.toInt64 (I 25 6)) &&& 63))), none, some (.long r3), none, some (.long r6), none, some (.long r9), none, some (.long r12), none], [], (I15, L15, D15, am_rf X)) P
  exact am_ret_v rfl rfl h
/-- SureSums$Spans.partsDown(J)J -/
def mz_70 : am_Y := (fun pc => am_q70.lookup pc, 3, 3)
theorem mh_70 : am_Ys 70 = some mz_70 := rfl
theorem w70_0 {ext : Nat → List Value → am_M → Option am_R} {d : Nat} {P : am_R → Prop} (I : Nat → Nat → Int32) (L : Nat → Nat → Int64) (D : Nat → Nat → UInt64) (X : am_Rf) (v1 : Int64)
    (h : P (some (.long (v1 >>> ((Int32.toInt64 (I 25 6)) &&& 63))), (I, L, D, am_rf X))) : am_wp ext d mz_70 (0, [some (.ref 25), some (.long v1), none], [], (I, L, D, am_rf X)) P := by
  refine am_wpb (c' := (6, [some (.ref 25), some (.long v1), none], [.long (v1 >>> ((Int32.toInt64 (I 25 6)) &&& 63))], (I, L, D, am_rf X))) 4 rfl ?_
  exact am_ret_l rfl rfl h
/-- SureSums$Spans.partsUp(J)J -/
def mz_71 : am_Y := (fun pc => am_q71.lookup pc, 3, 3)
theorem mh_71 : am_Ys 71 = some mz_71 := rfl
theorem w71_0 {ext : Nat → List Value → am_M → Option am_R} {d : Nat} {P : am_R → Prop} (I : Nat → Nat → Int32) (L : Nat → Nat → Int64) (D : Nat → Nat → UInt64) (X : am_Rf) (v1 : Int64)
    (h : P (some (.long (-((-v1) >>> ((Int32.toInt64 (I 25 6)) &&& 63)))), (I, L, D, am_rf X))) : am_wp ext d mz_71 (0, [some (.ref 25), some (.long v1), none], [], (I, L, D, am_rf X)) P := by
  refine am_wpb (c' := (8, [some (.ref 25), some (.long v1), none], [.long (-((-v1) >>> ((Int32.toInt64 (I 25 6)) &&& 63)))], (I, L, D, am_rf X))) 6 rfl ?_
  exact am_ret_l rfl rfl h
/-- SureSums$Spans.quotientDown(JJ)J -/
def mz_72 : am_Y := (fun pc => am_q72.lookup pc, 4, 3)
theorem mh_72 : am_Ys 72 = some mz_72 := rfl
theorem w72_0 {ext : Nat → List Value → am_M → Option am_R} {d : Nat} {P : am_R → Prop} (I : Nat → Nat → Int32) (L : Nat → Nat → Int64) (D : Nat → Nat → UInt64) (X : am_Rf) (v0 : Int64) (v2 : Int64)
    (h : ((¬ v2 = 0 → (∃ (r1 : Int64) (I1 : Nat → Nat → Int32) (L1 : Nat → Nat → Int64) (D1 : Nat → Nat → UInt64), am_Rn ext d 206 [.long v0, .long v2] (I, L, D, am_rf X) (some (.long r1), (I1, L1, D1, am_rf X)) ∧ (P (some (.long r1), (I1, L1, D1, am_rf X))))) ∧ (v2 = 0 → (P (some (.long 0), (I, L, D, am_rf X)))))) : am_wp ext d mz_72 (0, [some (.long v0), none, some (.long v2), none], [], (I, L, D, am_rf X)) P := by
  refine am_wpb (c' := (2, [some (.long v0), none, some (.long v2), none], [.long 0, .long v2], (I, L, D, am_rf X))) 2 rfl ?_
  refine am_lc_ne rfl rfl (fun z => ?_) (fun z => ?_)
  · replace h := h.1 z
    refine am_wpb (c' := (12, [some (.long v0), none, some (.long v2), none], [.long v2, .long v0], (I, L, D, am_rf X))) 2 rfl ?_
    obtain ⟨r1, I1, L1, D1, hr, h⟩ := h
    refine am_wp_inv (as := [.long v0, .long v2]) rfl rfl rfl rfl ⟨_, hr, ?_⟩
    show am_wp ext d mz_72 (15, [some (.long v0), none, some (.long v2), none], [.long r1], (I1, L1, D1, am_rf X)) P
    exact am_ret_l rfl rfl h
  · replace h := h.2 z
    refine am_wpb (c' := (15, [some (.long v0), none, some (.long v2), none], [.long 0], (I, L, D, am_rf X))) 2 rfl ?_
    exact am_ret_l rfl rfl h
/-- SureSums$Spans.quotientUp(JJ)J -/
def mz_73 : am_Y := (fun pc => am_q73.lookup pc, 4, 3)
theorem mh_73 : am_Ys 73 = some mz_73 := rfl
theorem w73_0 {ext : Nat → List Value → am_M → Option am_R} {d : Nat} {P : am_R → Prop} (I : Nat → Nat → Int32) (L : Nat → Nat → Int64) (D : Nat → Nat → UInt64) (X : am_Rf) (v0 : Int64) (v2 : Int64)
    (h : ((¬ v2 = 0 → (∃ (r1 : Int64) (I1 : Nat → Nat → Int32) (L1 : Nat → Nat → Int64) (D1 : Nat → Nat → UInt64), am_Rn ext d 206 [.long (-v0), .long v2] (I, L, D, am_rf X) (some (.long r1), (I1, L1, D1, am_rf X)) ∧ (P (some (.long (-r1)), (I1, L1, D1, am_rf X))))) ∧ (v2 = 0 → (P (some (.long 0), (I, L, D, am_rf X)))))) : am_wp ext d mz_73 (0, [some (.long v0), none, some (.long v2), none], [], (I, L, D, am_rf X)) P := by
  refine am_wpb (c' := (2, [some (.long v0), none, some (.long v2), none], [.long 0, .long v2], (I, L, D, am_rf X))) 2 rfl ?_
  refine am_lc_ne rfl rfl (fun z => ?_) (fun z => ?_)
  · replace h := h.1 z
    refine am_wpb (c' := (13, [some (.long v0), none, some (.long v2), none], [.long v2, .long (-v0)], (I, L, D, am_rf X))) 3 rfl ?_
    obtain ⟨r1, I1, L1, D1, hr, h⟩ := h
    refine am_wp_inv (as := [.long (-v0), .long v2]) rfl rfl rfl rfl ⟨_, hr, ?_⟩
    show am_wp ext d mz_73 (16, [some (.long v0), none, some (.long v2), none], [.long r1], (I1, L1, D1, am_rf X)) P
    refine am_wpb (c' := (17, [some (.long v0), none, some (.long v2), none], [.long (-r1)], (I1, L1, D1, am_rf X))) 1 rfl ?_
    exact am_ret_l rfl rfl h
  · replace h := h.2 z
    refine am_wpb (c' := (17, [some (.long v0), none, some (.long v2), none], [.long 0], (I, L, D, am_rf X))) 2 rfl ?_
    exact am_ret_l rfl rfl h
/-- SureSums$Spans.rootDown(J)J -/
def mz_74 : am_Y := (fun pc => am_q74.lookup pc, 7, 3)
theorem mh_74 : am_Ys 74 = some mz_74 := rfl
theorem w74_0 {ext : Nat → List Value → am_M → Option am_R} {d : Nat} {P : am_R → Prop} (I : Nat → Nat → Int32) (L : Nat → Nat → Int64) (D : Nat → Nat → UInt64) (X : am_Rf) (v0 : Int64)
    (h : am_wp ext d mz_74 (6, [some (.long v0), none, some (.long 0), none, some (.int 26), none, none], [], (I, L, D, am_rf X)) P) : am_wp ext d mz_74 (0, [some (.long v0), none, none, none, none, none, none], [], (I, L, D, am_rf X)) P := by
  refine am_wpb (c' := (6, [some (.long v0), none, some (.long 0), none, some (.int 26), none, none], [], (I, L, D, am_rf X))) 4 rfl ?_
  exact h
theorem w74_6 {ext : Nat → List Value → am_M → Option am_R} {d : Nat} {P : am_R → Prop} (I : Nat → Nat → Int32) (L : Nat → Nat → Int64) (D : Nat → Nat → UInt64) (X : am_Rf) (v0 : Int64) (v2 : Int64) (v4 : Int32)
    (h : ((v4 < 0 → (P (some (.long v2), (I, L, D, am_rf X)))) ∧ (¬ v4 < 0 → (((v0 < ((v2 + (1 <<< ((Int32.toInt64 v4) &&& 63))) * (v2 + (1 <<< ((Int32.toInt64 v4) &&& 63)))) → (am_wp ext d mz_74 (6, [some (.long v0), none, some (.long v2), none, some (.int (v4 + (-1))), none, none], [], (I, L, D, am_rf X)) P)) ∧ (¬ v0 < ((v2 + (1 <<< ((Int32.toInt64 v4) &&& 63))) * (v2 + (1 <<< ((Int32.toInt64 v4) &&& 63)))) → (am_wp ext d mz_74 (6, [some (.long v0), none, some (.long (v2 + (1 <<< ((Int32.toInt64 v4) &&& 63)))), none, some (.int (v4 + (-1))), none, none], [], (I, L, D, am_rf X)) P))))))) : am_wp ext d mz_74 (6, [some (.long v0), none, some (.long v2), none, some (.int v4), none, none], [], (I, L, D, am_rf X)) P := by
  refine am_wpb (c' := (8, [some (.long v0), none, some (.long v2), none, some (.int v4), none, none], [.int v4], (I, L, D, am_rf X))) 1 rfl ?_
  refine am_b1_lt rfl (fun z => ?_) (fun z => ?_)
  · replace h := h.1 z
    refine am_wpb (c' := (39, [some (.long v0), none, some (.long v2), none, some (.int v4), none, none], [.long v2], (I, L, D, am_rf X))) 1 rfl ?_
    exact am_ret_l rfl rfl h
  · replace h := h.2 z
    refine am_wpb (c' := (25, [some (.long v0), none, some (.long v2), none, some (.int v4), some (.long (v2 + (1 <<< ((Int32.toInt64 v4) &&& 63)))), none], [.long v0, .long ((v2 + (1 <<< ((Int32.toInt64 v4) &&& 63))) * (v2 + (1 <<< ((Int32.toInt64 v4) &&& 63))))], (I, L, D, am_rf X))) 10 rfl ?_
    refine am_lc_gt rfl rfl (fun z => ?_) (fun z => ?_)
    · replace h := h.1 z
      refine am_wpb (c' := (6, [some (.long v0), none, some (.long v2), none, some (.int (v4 + (-1))), some (.long (v2 + (1 <<< ((Int32.toInt64 v4) &&& 63)))), none], [], (I, L, D, am_rf X))) 2 rfl ?_
      exact am_fgt (l := [some (.long v0), none, some (.long v2), none, some (.int (v4 + (-1))), none, none]) (am_le_of (am_leS (am_leN (am_leS (am_leN (am_leS (am_leN (am_leN (am_leZ))))))))) h
    · replace h := h.2 z
      refine am_wpb (c' := (6, [some (.long v0), none, some (.long (v2 + (1 <<< ((Int32.toInt64 v4) &&& 63)))), none, some (.int (v4 + (-1))), some (.long (v2 + (1 <<< ((Int32.toInt64 v4) &&& 63)))), none], [], (I, L, D, am_rf X))) 4 rfl ?_
      exact am_fgt (l := [some (.long v0), none, some (.long (v2 + (1 <<< ((Int32.toInt64 v4) &&& 63)))), none, some (.int (v4 + (-1))), none, none]) (am_le_of (am_leS (am_leN (am_leS (am_leN (am_leS (am_leN (am_leN (am_leZ))))))))) h
