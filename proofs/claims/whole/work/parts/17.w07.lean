/-- SureSums$Tokens.byteAt([II)I -/
def mz_88 : am_Y := (fun pc => am_q88.lookup pc, 2, 1)
theorem mh_88 : am_Ys 88 = some mz_88 := rfl
theorem w88_0 {ext : Nat → List Value → am_M → Option am_R} {d : Nat} {P : am_R → Prop} (I : Nat → Nat → Int32) (L : Nat → Nat → Int64) (D : Nat → Nat → UInt64) (X : am_Rf) (v1 : Int32)
    (h : ((v1 < 0 → (P (some (.int 0), (I, L, D, am_rf X)))) ∧ (¬ v1 < 0 → (((500 ≤ v1 → (P (some (.int 0), (I, L, D, am_rf X)))) ∧ (¬ 500 ≤ v1 → (am_inb v1 500 = true ∧ (P (some (.int (I 1 (Int32.toNatClampNeg v1))), (I, L, D, am_rf X)))))))))) : am_wp ext d mz_88 (0, [some (.ref 1), some (.int v1)], [], (I, L, D, am_rf X)) P := by
  refine am_wpb (c' := (1, [some (.ref 1), some (.int v1)], [.int v1], (I, L, D, am_rf X))) 1 rfl ?_
  refine am_b1_lt rfl (fun z => ?_) (fun z => ?_)
  · replace h := h.1 z
    refine am_wpb (c' := (17, [some (.ref 1), some (.int v1)], [.int 0], (I, L, D, am_rf X))) 1 rfl ?_
    exact am_ret_i rfl rfl h
  · replace h := h.2 z
    refine am_wpb (c' := (7, [some (.ref 1), some (.int v1)], [.int 500, .int v1], (I, L, D, am_rf X))) 3 rfl ?_
    refine am_b2_ge rfl (fun z => ?_) (fun z => ?_)
    · replace h := h.1 z
      refine am_wpb (c' := (17, [some (.ref 1), some (.int v1)], [.int 0], (I, L, D, am_rf X))) 1 rfl ?_
      exact am_ret_i rfl rfl h
    · replace h := h.2 z
      refine am_wpb (c' := (12, [some (.ref 1), some (.int v1)], [.int v1, .ref 1], (I, L, D, am_rf X))) 2 rfl ?_
      obtain ⟨o, h⟩ := h
      refine am_wps (c' := (13, [some (.ref 1), some (.int v1)], [.int (I 1 (Int32.toNatClampNeg v1))], (I, L, D, am_rf X))) rfl rfl (am_s_iald rfl o) ?_
      refine am_wpb (c' := (17, [some (.ref 1), some (.int v1)], [.int (I 1 (Int32.toNatClampNeg v1))], (I, L, D, am_rf X))) 1 rfl ?_
      exact am_ret_i rfl rfl h
/-- SureSums$Tokens.isDigit(I)Z -/
def mz_89 : am_Y := (fun pc => am_q89.lookup pc, 1, 2)
theorem mh_89 : am_Ys 89 = some mz_89 := rfl
theorem w89_0 {ext : Nat → List Value → am_M → Option am_R} {d : Nat} {P : am_R → Prop} (I : Nat → Nat → Int32) (L : Nat → Nat → Int64) (D : Nat → Nat → UInt64) (X : am_Rf) (v0 : Int32)
    (h : ((v0 < 48 → (P (some (.int 0), (I, L, D, am_rf X)))) ∧ (¬ v0 < 48 → (((57 < v0 → (P (some (.int 0), (I, L, D, am_rf X)))) ∧ (¬ 57 < v0 → (P (some (.int 1), (I, L, D, am_rf X))))))))) : am_wp ext d mz_89 (0, [some (.int v0)], [], (I, L, D, am_rf X)) P := by
  refine am_wpb (c' := (3, [some (.int v0)], [.int 48, .int v0], (I, L, D, am_rf X))) 2 rfl ?_
  refine am_b2_lt rfl (fun z => ?_) (fun z => ?_)
  · replace h := h.1 z
    refine am_wpb (c' := (17, [some (.int v0)], [.int 0], (I, L, D, am_rf X))) 1 rfl ?_
    exact am_ret_z rfl rfl (Or.inl rfl) h
  · replace h := h.2 z
    refine am_wpb (c' := (9, [some (.int v0)], [.int 57, .int v0], (I, L, D, am_rf X))) 2 rfl ?_
    refine am_b2_gt rfl (fun z => ?_) (fun z => ?_)
    · replace h := h.1 z
      refine am_wpb (c' := (17, [some (.int v0)], [.int 0], (I, L, D, am_rf X))) 1 rfl ?_
      exact am_ret_z rfl rfl (Or.inl rfl) h
    · replace h := h.2 z
      refine am_wpb (c' := (17, [some (.int v0)], [.int 1], (I, L, D, am_rf X))) 2 rfl ?_
      exact am_ret_z rfl rfl (Or.inr rfl) h
/-- SureSums$Tokens.isSmall(I)Z -/
def mz_90 : am_Y := (fun pc => am_q90.lookup pc, 1, 2)
theorem mh_90 : am_Ys 90 = some mz_90 := rfl
theorem w90_0 {ext : Nat → List Value → am_M → Option am_R} {d : Nat} {P : am_R → Prop} (I : Nat → Nat → Int32) (L : Nat → Nat → Int64) (D : Nat → Nat → UInt64) (X : am_Rf) (v0 : Int32)
    (h : ((v0 < 97 → (P (some (.int 0), (I, L, D, am_rf X)))) ∧ (¬ v0 < 97 → (((122 < v0 → (P (some (.int 0), (I, L, D, am_rf X)))) ∧ (¬ 122 < v0 → (P (some (.int 1), (I, L, D, am_rf X))))))))) : am_wp ext d mz_90 (0, [some (.int v0)], [], (I, L, D, am_rf X)) P := by
  refine am_wpb (c' := (3, [some (.int v0)], [.int 97, .int v0], (I, L, D, am_rf X))) 2 rfl ?_
  refine am_b2_lt rfl (fun z => ?_) (fun z => ?_)
  · replace h := h.1 z
    refine am_wpb (c' := (17, [some (.int v0)], [.int 0], (I, L, D, am_rf X))) 1 rfl ?_
    exact am_ret_z rfl rfl (Or.inl rfl) h
  · replace h := h.2 z
    refine am_wpb (c' := (9, [some (.int v0)], [.int 122, .int v0], (I, L, D, am_rf X))) 2 rfl ?_
    refine am_b2_gt rfl (fun z => ?_) (fun z => ?_)
    · replace h := h.1 z
      refine am_wpb (c' := (17, [some (.int v0)], [.int 0], (I, L, D, am_rf X))) 1 rfl ?_
      exact am_ret_z rfl rfl (Or.inl rfl) h
    · replace h := h.2 z
      refine am_wpb (c' := (17, [some (.int v0)], [.int 1], (I, L, D, am_rf X))) 2 rfl ?_
      exact am_ret_z rfl rfl (Or.inr rfl) h
/-- SureSums$Tokens.isSign(I)Z -/
def mz_91 : am_Y := (fun pc => am_q91.lookup pc, 1, 2)
theorem mh_91 : am_Ys 91 = some mz_91 := rfl
theorem w91_0 {ext : Nat → List Value → am_M → Option am_R} {d : Nat} {P : am_R → Prop} (I : Nat → Nat → Int32) (L : Nat → Nat → Int64) (D : Nat → Nat → UInt64) (X : am_Rf) (v0 : Int32)
    (h : ((v0 = 40 ∨ v0 = 41 ∨ v0 = 42 ∨ v0 = 43 ∨ v0 = 44 ∨ v0 = 45 ∨ v0 = 47 ∨ v0 = 59 ∨ v0 = 60 ∨ v0 = 61 ∨ v0 = 62 → (P (some (.int 1), (I, L, D, am_rf X)))) ∧ (¬ v0 = 40 ∧ ¬ v0 = 41 ∧ ¬ v0 = 42 ∧ ¬ v0 = 43 ∧ ¬ v0 = 44 ∧ ¬ v0 = 45 ∧ ¬ v0 = 47 ∧ ¬ v0 = 59 ∧ ¬ v0 = 60 ∧ ¬ v0 = 61 ∧ ¬ v0 = 62 → (P (some (.int 0), (I, L, D, am_rf X)))))) : am_wp ext d mz_91 (0, [some (.int v0)], [], (I, L, D, am_rf X)) P := by
  refine am_wpb (c' := (1, [some (.int v0)], [.int v0], (I, L, D, am_rf X))) 1 rfl ?_
  have hsw := am_swc v0 40 22
  by_cases c0 : v0 = 40 ∨ v0 = 41 ∨ v0 = 42 ∨ v0 = 43 ∨ v0 = 44 ∨ v0 = 45 ∨ v0 = 47 ∨ v0 = 59 ∨ v0 = 60 ∨ v0 = 61 ∨ v0 = 62
  · replace h := h.1 c0
    rcases c0 with e | e | e | e | e | e | e | e | e | e | e
    · refine am_ts_in 0 rfl (by rw [e]; rfl) (by decide) rfl ?_
      refine am_wpb (c' := (109, [some (.int v0)], [.int 1], (I, L, D, am_rf X))) 1 rfl ?_
      exact am_ret_z rfl rfl (Or.inr rfl) h
    · refine am_ts_in 1 rfl (by rw [e]; rfl) (by decide) rfl ?_
      refine am_wpb (c' := (109, [some (.int v0)], [.int 1], (I, L, D, am_rf X))) 1 rfl ?_
      exact am_ret_z rfl rfl (Or.inr rfl) h
    · refine am_ts_in 2 rfl (by rw [e]; rfl) (by decide) rfl ?_
      refine am_wpb (c' := (109, [some (.int v0)], [.int 1], (I, L, D, am_rf X))) 1 rfl ?_
      exact am_ret_z rfl rfl (Or.inr rfl) h
    · refine am_ts_in 3 rfl (by rw [e]; rfl) (by decide) rfl ?_
      refine am_wpb (c' := (109, [some (.int v0)], [.int 1], (I, L, D, am_rf X))) 1 rfl ?_
      exact am_ret_z rfl rfl (Or.inr rfl) h
    · refine am_ts_in 4 rfl (by rw [e]; rfl) (by decide) rfl ?_
      refine am_wpb (c' := (109, [some (.int v0)], [.int 1], (I, L, D, am_rf X))) 1 rfl ?_
      exact am_ret_z rfl rfl (Or.inr rfl) h
    · refine am_ts_in 5 rfl (by rw [e]; rfl) (by decide) rfl ?_
      refine am_wpb (c' := (109, [some (.int v0)], [.int 1], (I, L, D, am_rf X))) 1 rfl ?_
      exact am_ret_z rfl rfl (Or.inr rfl) h
    · refine am_ts_in 7 rfl (by rw [e]; rfl) (by decide) rfl ?_
      refine am_wpb (c' := (109, [some (.int v0)], [.int 1], (I, L, D, am_rf X))) 1 rfl ?_
      exact am_ret_z rfl rfl (Or.inr rfl) h
    · refine am_ts_in 19 rfl (by rw [e]; rfl) (by decide) rfl ?_
      refine am_wpb (c' := (109, [some (.int v0)], [.int 1], (I, L, D, am_rf X))) 1 rfl ?_
      exact am_ret_z rfl rfl (Or.inr rfl) h
    · refine am_ts_in 20 rfl (by rw [e]; rfl) (by decide) rfl ?_
      refine am_wpb (c' := (109, [some (.int v0)], [.int 1], (I, L, D, am_rf X))) 1 rfl ?_
      exact am_ret_z rfl rfl (Or.inr rfl) h
    · refine am_ts_in 21 rfl (by rw [e]; rfl) (by decide) rfl ?_
      refine am_wpb (c' := (109, [some (.int v0)], [.int 1], (I, L, D, am_rf X))) 1 rfl ?_
      exact am_ret_z rfl rfl (Or.inr rfl) h
    · refine am_ts_in 22 rfl (by rw [e]; rfl) (by decide) rfl ?_
      refine am_wpb (c' := (109, [some (.int v0)], [.int 1], (I, L, D, am_rf X))) 1 rfl ?_
      exact am_ret_z rfl rfl (Or.inr rfl) h
  replace h := h.2 ⟨fun e => c0 (Or.inl e), fun e => c0 (Or.inr (Or.inl e)), fun e => c0 (Or.inr (Or.inr (Or.inl e))), fun e => c0 (Or.inr (Or.inr (Or.inr (Or.inl e)))), fun e => c0 (Or.inr (Or.inr (Or.inr (Or.inr (Or.inl e))))), fun e => c0 (Or.inr (Or.inr (Or.inr (Or.inr (Or.inr (Or.inl e)))))), fun e => c0 (Or.inr (Or.inr (Or.inr (Or.inr (Or.inr (Or.inr (Or.inl e))))))), fun e => c0 (Or.inr (Or.inr (Or.inr (Or.inr (Or.inr (Or.inr (Or.inr (Or.inl e)))))))), fun e => c0 (Or.inr (Or.inr (Or.inr (Or.inr (Or.inr (Or.inr (Or.inr (Or.inr (Or.inl e))))))))), fun e => c0 (Or.inr (Or.inr (Or.inr (Or.inr (Or.inr (Or.inr (Or.inr (Or.inr (Or.inr (Or.inl e)))))))))), fun e => c0 (Or.inr (Or.inr (Or.inr (Or.inr (Or.inr (Or.inr (Or.inr (Or.inr (Or.inr (Or.inr (e)))))))))))⟩
  rcases hsw with hsw | ⟨k, hk, hsw⟩
  · refine am_ts_out rfl hsw ?_
    refine am_wpb (c' := (111, [some (.int v0)], [.int 0], (I, L, D, am_rf X))) 1 rfl ?_
    exact am_ret_z rfl rfl (Or.inl rfl) h
  · refine am_ts_in (t := 110) k rfl hsw (by omega) ?_ ?_
    · refine am_sw_d (bad := [0, 1, 2, 3, 4, 5, 7, 19, 20, 21, 22]) hk (by decide) (fun hm => ?_)
      simp only [List.mem_cons, List.not_mem_nil, or_false] at hm
      rcases hm with e | e | e | e | e | e | e | e | e | e | e
      · exact c0 (Or.inl (am_i32 (v := 40) (by rw [hsw, e]; rfl)))
      · exact c0 (Or.inr (Or.inl (am_i32 (v := 41) (by rw [hsw, e]; rfl))))
      · exact c0 (Or.inr (Or.inr (Or.inl (am_i32 (v := 42) (by rw [hsw, e]; rfl)))))
      · exact c0 (Or.inr (Or.inr (Or.inr (Or.inl (am_i32 (v := 43) (by rw [hsw, e]; rfl))))))
      · exact c0 (Or.inr (Or.inr (Or.inr (Or.inr (Or.inl (am_i32 (v := 44) (by rw [hsw, e]; rfl)))))))
      · exact c0 (Or.inr (Or.inr (Or.inr (Or.inr (Or.inr (Or.inl (am_i32 (v := 45) (by rw [hsw, e]; rfl))))))))
      · exact c0 (Or.inr (Or.inr (Or.inr (Or.inr (Or.inr (Or.inr (Or.inl (am_i32 (v := 47) (by rw [hsw, e]; rfl)))))))))
      · exact c0 (Or.inr (Or.inr (Or.inr (Or.inr (Or.inr (Or.inr (Or.inr (Or.inl (am_i32 (v := 59) (by rw [hsw, e]; rfl))))))))))
      · exact c0 (Or.inr (Or.inr (Or.inr (Or.inr (Or.inr (Or.inr (Or.inr (Or.inr (Or.inl (am_i32 (v := 60) (by rw [hsw, e]; rfl)))))))))))
      · exact c0 (Or.inr (Or.inr (Or.inr (Or.inr (Or.inr (Or.inr (Or.inr (Or.inr (Or.inr (Or.inl (am_i32 (v := 61) (by rw [hsw, e]; rfl))))))))))))
      · exact c0 (Or.inr (Or.inr (Or.inr (Or.inr (Or.inr (Or.inr (Or.inr (Or.inr (Or.inr (Or.inr (am_i32 (v := 62) (by rw [hsw, e]; rfl))))))))))))
    · skip
      refine am_wpb (c' := (111, [some (.int v0)], [.int 0], (I, L, D, am_rf X))) 1 rfl ?_
      exact am_ret_z rfl rfl (Or.inl rfl) h
/-- SureSums.feed(IIIII)I -/
def mz_92 : am_Y := (fun pc => am_q92.lookup pc, 6, 1)
theorem mh_92 : am_Ys 92 = some mz_92 := rfl
theorem w92_0 {ext : Nat → List Value → am_M → Option am_R} {d : Nat} {P : am_R → Prop} (I : Nat → Nat → Int32) (L : Nat → Nat → Int64) (D : Nat → Nat → UInt64) (X : am_Rf) (v1 : Int32) (v2 : Int32) (v3 : Int32) (v4 : Int32) (v5 : Int32)
    (h : ((((I 0 8) + 20) ≤ 500 → (∃ (I1 : Nat → Nat → Int32) (L1 : Nat → Nat → Int64) (D1 : Nat → Nat → UInt64), am_Rn ext d 93 [.ref 0, .int v1] (I, L, D, am_rf X) (none, (I1, L1, D1, am_rf X)) ∧ (∃ (I2 : Nat → Nat → Int32) (L2 : Nat → Nat → Int64) (D2 : Nat → Nat → UInt64), am_Rn ext d 93 [.ref 0, .int v2] (I1, L1, D1, am_rf X) (none, (I2, L2, D2, am_rf X)) ∧ (∃ (I3 : Nat → Nat → Int32) (L3 : Nat → Nat → Int64) (D3 : Nat → Nat → UInt64), am_Rn ext d 93 [.ref 0, .int v3] (I2, L2, D2, am_rf X) (none, (I3, L3, D3, am_rf X)) ∧ (∃ (I4 : Nat → Nat → Int32) (L4 : Nat → Nat → Int64) (D4 : Nat → Nat → UInt64), am_Rn ext d 93 [.ref 0, .int v4] (I3, L3, D3, am_rf X) (none, (I4, L4, D4, am_rf X)) ∧ (∃ (I5 : Nat → Nat → Int32) (L5 : Nat → Nat → Int64) (D5 : Nat → Nat → UInt64), am_Rn ext d 93 [.ref 0, .int v5] (I4, L4, D4, am_rf X) (none, (I5, L5, D5, am_rf X)) ∧ (P (some (.int (I5 0 8)), (I5, L5, D5, am_rf X))))))))) ∧ (¬ ((I 0 8) + 20) ≤ 500 → (P (some (.int (-1)), (I, L, D, am_rf X)))))) : am_wp ext d mz_92 (0, [some (.ref 0), some (.int v1), some (.int v2), some (.int v3), some (.int v4), some (.int v5)], [], (I, L, D, am_rf X)) P := by
  refine am_wpb (c' := (10, [some (.ref 0), some (.int v1), some (.int v2), some (.int v3), some (.int v4), some (.int v5)], [.int 500, .int ((I 0 8) + 20)], (I, L, D, am_rf X))) 5 rfl ?_
  refine am_b2_le rfl (fun z => ?_) (fun z => ?_)
  · replace h := h.1 z
    refine am_wpb (c' := (17, [some (.ref 0), some (.int v1), some (.int v2), some (.int v3), some (.int v4), some (.int v5)], [.int v1, .ref 0], (I, L, D, am_rf X))) 2 rfl ?_
    obtain ⟨I1, L1, D1, hr, h⟩ := h
    refine am_wp_inv (as := [.ref 0, .int v1]) rfl rfl rfl rfl ⟨_, hr, ?_⟩
    show am_wp ext d mz_92 (20, [some (.ref 0), some (.int v1), some (.int v2), some (.int v3), some (.int v4), some (.int v5)], [], (I1, L1, D1, am_rf X)) P
    refine am_wpb (c' := (22, [some (.ref 0), some (.int v1), some (.int v2), some (.int v3), some (.int v4), some (.int v5)], [.int v2, .ref 0], (I1, L1, D1, am_rf X))) 2 rfl ?_
    obtain ⟨I2, L2, D2, hr, h⟩ := h
    refine am_wp_inv (as := [.ref 0, .int v2]) rfl rfl rfl rfl ⟨_, hr, ?_⟩
    show am_wp ext d mz_92 (25, [some (.ref 0), some (.int v1), some (.int v2), some (.int v3), some (.int v4), some (.int v5)], [], (I2, L2, D2, am_rf X)) P
    refine am_wpb (c' := (27, [some (.ref 0), some (.int v1), some (.int v2), some (.int v3), some (.int v4), some (.int v5)], [.int v3, .ref 0], (I2, L2, D2, am_rf X))) 2 rfl ?_
    obtain ⟨I3, L3, D3, hr, h⟩ := h
    refine am_wp_inv (as := [.ref 0, .int v3]) rfl rfl rfl rfl ⟨_, hr, ?_⟩
    show am_wp ext d mz_92 (30, [some (.ref 0), some (.int v1), some (.int v2), some (.int v3), some (.int v4), some (.int v5)], [], (I3, L3, D3, am_rf X)) P
    refine am_wpb (c' := (33, [some (.ref 0), some (.int v1), some (.int v2), some (.int v3), some (.int v4), some (.int v5)], [.int v4, .ref 0], (I3, L3, D3, am_rf X))) 2 rfl ?_
    obtain ⟨I4, L4, D4, hr, h⟩ := h
    refine am_wp_inv (as := [.ref 0, .int v4]) rfl rfl rfl rfl ⟨_, hr, ?_⟩
    show am_wp ext d mz_92 (36, [some (.ref 0), some (.int v1), some (.int v2), some (.int v3), some (.int v4), some (.int v5)], [], (I4, L4, D4, am_rf X)) P
    refine am_wpb (c' := (39, [some (.ref 0), some (.int v1), some (.int v2), some (.int v3), some (.int v4), some (.int v5)], [.int v5, .ref 0], (I4, L4, D4, am_rf X))) 2 rfl ?_
    obtain ⟨I5, L5, D5, hr, h⟩ := h
    refine am_wp_inv (as := [.ref 0, .int v5]) rfl rfl rfl rfl ⟨_, hr, ?_⟩
    show am_wp ext d mz_92 (42, [some (.ref 0), some (.int v1), some (.int v2), some (.int v3), some (.int v4), some (.int v5)], [], (I5, L5, D5, am_rf X)) P
    refine am_wpb (c' := (46, [some (.ref 0), some (.int v1), some (.int v2), some (.int v3), some (.int v4), some (.int v5)], [.int (I5 0 8)], (I5, L5, D5, am_rf X))) 2 rfl ?_
    exact am_ret_i rfl rfl h
  · replace h := h.2 z
    refine am_wpb (c' := (14, [some (.ref 0), some (.int v1), some (.int v2), some (.int v3), some (.int v4), some (.int v5)], [.int (-1)], (I, L, D, am_rf X))) 1 rfl ?_
    exact am_ret_i rfl rfl h
/-- SureSums.tapeNumber(I)V -/
def mz_93 : am_Y := (fun pc => am_q93.lookup pc, 3, 0)
theorem mh_93 : am_Ys 93 = some mz_93 := rfl
theorem w93_0 {ext : Nat → List Value → am_M → Option am_R} {d : Nat} {P : am_R → Prop} (I : Nat → Nat → Int32) (L : Nat → Nat → Int64) (D : Nat → Nat → UInt64) (X : am_Rf) (v1 : Int32)
    (h : am_wp ext d mz_93 (3, [some (.ref 0), some (.int v1), some (.int 24)], [], (I, L, D, am_rf X)) P) : am_wp ext d mz_93 (0, [some (.ref 0), some (.int v1), none], [], (I, L, D, am_rf X)) P := by
  refine am_wpb (c' := (3, [some (.ref 0), some (.int v1), some (.int 24)], [], (I, L, D, am_rf X))) 2 rfl ?_
  exact h
theorem w93_3 {ext : Nat → List Value → am_M → Option am_R} {d : Nat} {P : am_R → Prop} (I : Nat → Nat → Int32) (L : Nat → Nat → Int64) (D : Nat → Nat → UInt64) (X : am_Rf) (v1 : Int32) (v2 : Int32)
    (h : ((v2 < 0 → (P (none, (I, L, D, am_rf X)))) ∧ (¬ v2 < 0 → (((500 ≤ (I 0 8) → (P (none, (I, L, D, am_rf X)))) ∧ (¬ 500 ≤ (I 0 8) → (am_inb (I 0 8) 500 = true ∧ (am_wp ext d mz_93 (3, [some (.ref 0), some (.int v1), some (.int (v2 + (-8)))], [], (am_uI (am_uI I 1 (Int32.toNatClampNeg (I 0 8)) ((v1 >>> (v2 &&& 31)) &&& 255)) 0 8 ((I 0 8) + 1), L, D, am_rf X)) P)))))))) : am_wp ext d mz_93 (3, [some (.ref 0), some (.int v1), some (.int v2)], [], (I, L, D, am_rf X)) P := by
  refine am_wpb (c' := (4, [some (.ref 0), some (.int v1), some (.int v2)], [.int v2], (I, L, D, am_rf X))) 1 rfl ?_
  refine am_b1_lt rfl (fun z => ?_) (fun z => ?_)
  · replace h := h.1 z
    exact am_ret_v rfl rfl h
  · replace h := h.2 z
    refine am_wpb (c' := (14, [some (.ref 0), some (.int v1), some (.int v2)], [.int 500, .int (I 0 8)], (I, L, D, am_rf X))) 3 rfl ?_
    refine am_b2_ge rfl (fun z => ?_) (fun z => ?_)
    · replace h := h.1 z
      exact am_ret_v rfl rfl h
    · replace h := h.2 z
      refine am_wpb (c' := (32, [some (.ref 0), some (.int v1), some (.int v2)], [.int ((v1 >>> (v2 &&& 31)) &&& 255), .int (I 0 8), .ref 1], (I, L, D, am_rf X))) 9 rfl ?_
      obtain ⟨o, h⟩ := h
      refine am_wps (c' := (33, [some (.ref 0), some (.int v1), some (.int v2)], [], (am_uI I 1 (Int32.toNatClampNeg (I 0 8)) ((v1 >>> (v2 &&& 31)) &&& 255), L, D, am_rf X))) rfl rfl (am_s_iast rfl o) ?_
      refine am_wpb (c' := (3, [some (.ref 0), some (.int v1), some (.int (v2 + (-8)))], [], (am_uI (am_uI I 1 (Int32.toNatClampNeg (I 0 8)) ((v1 >>> (v2 &&& 31)) &&& 255)) 0 8 ((I 0 8) + 1), L, D, am_rf X))) 8 rfl ?_
      exact h
/-- SureSums.text(I)I -/
def mz_94 : am_Y := (fun pc => am_q94.lookup pc, 4, 1)
theorem mh_94 : am_Ys 94 = some mz_94 := rfl
theorem w94_0 {ext : Nat → List Value → am_M → Option am_R} {d : Nat} {P : am_R → Prop} (I : Nat → Nat → Int32) (L : Nat → Nat → Int64) (D : Nat → Nat → UInt64) (xc : Nat) (xi : Nat) (xp : Nat) (xu : Nat) (v1 : Int32)
    (h : ((v1 < 0 → (P (some (.int (-2)), (I, L, D, am_rf (2, 11, xi, xp, xu, xc))))) ∧ (¬ v1 < 0 → (((v1 ≤ (I 0 8) → (∃ (r1 : Int32) (I1 : Nat → Nat → Int32) (L1 : Nat → Nat → Int64) (D1 : Nat → Nat → UInt64), am_Rn ext d 40 [.ref 20, .ref 1, .int v1, .ref 11] (am_uI I 0 8 0, L, D, am_rf (2, 11, xi, xp, xu, xc)) (some (.int r1), (I1, L1, D1, am_rf (2, 11, 11, xp, xu, xc))) ∧ (((¬ r1 = 0 → (∃ (I2 : Nat → Nat → Int32) (L2 : Nat → Nat → Int64) (D2 : Nat → Nat → UInt64), am_Rn ext d 25 [.ref 29, .ref 11] (am_uI (am_uI I1 0 9 (I1 20 8)) 0 10 (I1 20 9), L1, D1, am_rf (11, 2, 11, xp, xu, xc)) (none, (I2, L2, D2, am_rf (11, 2, 11, xp, xu, xc))) ∧ (∃ (I3 : Nat → Nat → Int32) (L3 : Nat → Nat → Int64) (D3 : Nat → Nat → UInt64), am_Rn ext d 3 [.ref 34, .ref 11] (I2, L2, D2, am_rf (11, 2, 11, xp, xu, xc)) (none, (I3, L3, D3, am_rf (11, 2, 11, xp, 11, xc))) ∧ (P (some (.int (I3 11 9)), (I3, L3, D3, am_rf (11, 2, 11, xp, 11, xc))))))) ∧ (r1 = 0 → (P (some (.int (-1)), (am_uI (am_uI I1 0 9 (I1 20 8)) 0 10 (I1 20 9), L1, D1, am_rf (2, 11, 11, xp, xu, xc))))))))) ∧ (¬ v1 ≤ (I 0 8) → (P (some (.int (-2)), (I, L, D, am_rf (2, 11, xi, xp, xu, xc)))))))))) : am_wp ext d mz_94 (0, [some (.ref 0), some (.int v1), none, none], [], (I, L, D, am_rf (2, 11, xi, xp, xu, xc))) P := by
  refine am_wpb (c' := (1, [some (.ref 0), some (.int v1), none, none], [.int v1], (I, L, D, am_rf (2, 11, xi, xp, xu, xc)))) 1 rfl ?_
  refine am_b1_lt rfl (fun z => ?_) (fun z => ?_)
  · replace h := h.1 z
    refine am_wpb (c' := (14, [some (.ref 0), some (.int v1), none, none], [.int (-2)], (I, L, D, am_rf (2, 11, xi, xp, xu, xc)))) 1 rfl ?_
    exact am_ret_i rfl rfl h
  · replace h := h.2 z
    refine am_wpb (c' := (9, [some (.ref 0), some (.int v1), none, none], [.int (I 0 8), .int v1], (I, L, D, am_rf (2, 11, xi, xp, xu, xc)))) 3 rfl ?_
    refine am_b2_le rfl (fun z => ?_) (fun z => ?_)
    · replace h := h.1 z
      refine am_wpb (c' := (33, [some (.ref 0), some (.int v1), none, none], [.ref 11, .int v1, .ref 1, .ref 20], (am_uI I 0 8 0, L, D, am_rf (2, 11, xi, xp, xu, xc)))) 10 rfl ?_
      obtain ⟨r1, I1, L1, D1, hr, h⟩ := h
      refine am_wp_inv (as := [.ref 20, .ref 1, .int v1, .ref 11]) rfl rfl rfl rfl ⟨_, hr, ?_⟩
      show am_wp ext d mz_94 (36, [some (.ref 0), some (.int v1), none, none], [.int r1], (I1, L1, D1, am_rf (2, 11, 11, xp, xu, xc))) P
      refine am_wpb (c' := (60, [some (.ref 0), some (.int v1), some (.int r1), none], [.int r1], (am_uI (am_uI I1 0 9 (I1 20 8)) 0 10 (I1 20 9), L1, D1, am_rf (2, 11, 11, xp, xu, xc)))) 12 rfl ?_
      refine am_b1_ne rfl (fun z => ?_) (fun z => ?_)
      · replace h := h.1 z
        refine am_wpb (c' := (75, [some (.ref 0), some (.int v1), some (.int r1), some (.ref 2)], [.ref 11, .ref 0], (am_uI (am_uI I1 0 9 (I1 20 8)) 0 10 (I1 20 9), L1, D1, am_rf (2, 11, 11, xp, xu, xc)))) 6 rfl ?_
        refine am_wps (c' := (78, [some (.ref 0), some (.int v1), some (.int r1), some (.ref 2)], [], (am_uI (am_uI I1 0 9 (I1 20 8)) 0 10 (I1 20 9), L1, D1, am_rf (11, 11, 11, xp, xu, xc)))) rfl rfl (am_s_rput rfl rfl (am_rf_w0 _ _ _ _ _ _ _ _ _ _)) ?_
        refine am_wpb (c' := (80, [some (.ref 0), some (.int v1), some (.int r1), some (.ref 2)], [.ref 2, .ref 0], (am_uI (am_uI I1 0 9 (I1 20 8)) 0 10 (I1 20 9), L1, D1, am_rf (11, 11, 11, xp, xu, xc)))) 2 rfl ?_
        refine am_wps (c' := (83, [some (.ref 0), some (.int v1), some (.int r1), some (.ref 2)], [], (am_uI (am_uI I1 0 9 (I1 20 8)) 0 10 (I1 20 9), L1, D1, am_rf (11, 2, 11, xp, xu, xc)))) rfl rfl (am_s_rput rfl rfl (am_rf_w1 _ _ _ _ _ _ _ _ _ _)) ?_
        refine am_wpb (c' := (91, [some (.ref 0), some (.int v1), some (.int r1), some (.ref 2)], [.ref 11, .ref 29], (am_uI (am_uI I1 0 9 (I1 20 8)) 0 10 (I1 20 9), L1, D1, am_rf (11, 2, 11, xp, xu, xc)))) 4 rfl ?_
        obtain ⟨I2, L2, D2, hr, h⟩ := h
        refine am_wp_inv (as := [.ref 29, .ref 11]) rfl rfl rfl rfl ⟨_, hr, ?_⟩
        show am_wp ext d mz_94 (94, [some (.ref 0), some (.int v1), some (.int r1), some (.ref 2)], [], (I2, L2, D2, am_rf (11, 2, 11, xp, xu, xc))) P
        refine am_wpb (c' := (102, [some (.ref 0), some (.int v1), some (.int r1), some (.ref 2)], [.ref 11, .ref 34], (I2, L2, D2, am_rf (11, 2, 11, xp, xu, xc)))) 4 rfl ?_
        obtain ⟨I3, L3, D3, hr, h⟩ := h
        refine am_wp_inv (as := [.ref 34, .ref 11]) rfl rfl rfl rfl ⟨_, hr, ?_⟩
        show am_wp ext d mz_94 (105, [some (.ref 0), some (.int v1), some (.int r1), some (.ref 2)], [], (I3, L3, D3, am_rf (11, 2, 11, xp, 11, xc))) P
        refine am_wpb (c' := (112, [some (.ref 0), some (.int v1), some (.int r1), some (.ref 2)], [.int (I3 11 9)], (I3, L3, D3, am_rf (11, 2, 11, xp, 11, xc)))) 3 rfl ?_
        exact am_ret_i rfl rfl h
      · replace h := h.2 z
        refine am_wpb (c' := (64, [some (.ref 0), some (.int v1), some (.int r1), none], [.int (-1)], (am_uI (am_uI I1 0 9 (I1 20 8)) 0 10 (I1 20 9), L1, D1, am_rf (2, 11, 11, xp, xu, xc)))) 1 rfl ?_
        exact am_ret_i rfl rfl h
    · replace h := h.2 z
      refine am_wpb (c' := (14, [some (.ref 0), some (.int v1), none, none], [.int (-2)], (I, L, D, am_rf (2, 11, xi, xp, xu, xc)))) 1 rfl ?_
      exact am_ret_i rfl rfl h
/-- SureSums.fault(I)I -/
def mz_95 : am_Y := (fun pc => am_q95.lookup pc, 2, 1)
theorem mh_95 : am_Ys 95 = some mz_95 := rfl
theorem w95_0 {ext : Nat → List Value → am_M → Option am_R} {d : Nat} {P : am_R → Prop} (I : Nat → Nat → Int32) (L : Nat → Nat → Int64) (D : Nat → Nat → UInt64) (X : am_Rf) (v1 : Int32)
    (h : ((¬ v1 = 0 → (((¬ v1 = 1 → (P (some (.int (-1)), (I, L, D, am_rf X)))) ∧ (v1 = 1 → (P (some (.int (I 0 10)), (I, L, D, am_rf X))))))) ∧ (v1 = 0 → (P (some (.int (I 0 9)), (I, L, D, am_rf X)))))) : am_wp ext d mz_95 (0, [some (.ref 0), some (.int v1)], [], (I, L, D, am_rf X)) P := by
  refine am_wpb (c' := (1, [some (.ref 0), some (.int v1)], [.int v1], (I, L, D, am_rf X))) 1 rfl ?_
  refine am_b1_ne rfl (fun z => ?_) (fun z => ?_)
  · replace h := h.1 z
    refine am_wpb (c' := (11, [some (.ref 0), some (.int v1)], [.int 1, .int v1], (I, L, D, am_rf X))) 2 rfl ?_
    refine am_b2_ne rfl (fun z => ?_) (fun z => ?_)
    · replace h := h.1 z
      refine am_wpb (c' := (22, [some (.ref 0), some (.int v1)], [.int (-1)], (I, L, D, am_rf X))) 1 rfl ?_
      exact am_ret_i rfl rfl h
    · replace h := h.2 z
      refine am_wpb (c' := (22, [some (.ref 0), some (.int v1)], [.int (I 0 10)], (I, L, D, am_rf X))) 3 rfl ?_
      exact am_ret_i rfl rfl h
  · replace h := h.2 z
    refine am_wpb (c' := (8, [some (.ref 0), some (.int v1)], [.int (I 0 9)], (I, L, D, am_rf X))) 2 rfl ?_
    exact am_ret_i rfl rfl h
/-- SureSums.kind(I)I -/
def mz_96 : am_Y := (fun pc => am_q96.lookup pc, 2, 1)
theorem mh_96 : am_Ys 96 = some mz_96 := rfl
theorem w96_0 {ext : Nat → List Value → am_M → Option am_R} {d : Nat} {P : am_R → Prop} (I : Nat → Nat → Int32) (L : Nat → Nat → Int64) (D : Nat → Nat → UInt64) (X : am_Rf) (v1 : Int32)
    (h : ((v1 < 0 → (P (some (.int (-1)), (I, L, D, am_rf X)))) ∧ (¬ v1 < 0 → (((v1 < 26 → (∃ (r1 : Int32) (I1 : Nat → Nat → Int32) (L1 : Nat → Nat → Int64) (D1 : Nat → Nat → UInt64), am_Rn ext d 111 [.ref 0, .int v1] (I, L, D, am_rf X) (some (.int r1), (I1, L1, D1, am_rf X)) ∧ (((r1 < 0 → (∃ (r2 : Int32) (I2 : Nat → Nat → Int32) (L2 : Nat → Nat → Int64) (D2 : Nat → Nat → UInt64), am_Rn ext d 112 [.ref 0, .int v1] (I1, L1, D1, am_rf X) (some (.int r2), (I2, L2, D2, am_rf X)) ∧ (((r2 < 0 → (P (some (.int 0), (I2, L2, D2, am_rf X)))) ∧ (¬ r2 < 0 → (P (some (.int 2), (I2, L2, D2, am_rf X)))))))) ∧ (¬ r1 < 0 → (P (some (.int 1), (I1, L1, D1, am_rf X)))))))) ∧ (¬ v1 < 26 → (P (some (.int (-1)), (I, L, D, am_rf X))))))))) : am_wp ext d mz_96 (0, [some (.ref 0), some (.int v1)], [], (I, L, D, am_rf X)) P := by
  refine am_wpb (c' := (1, [some (.ref 0), some (.int v1)], [.int v1], (I, L, D, am_rf X))) 1 rfl ?_
  refine am_b1_lt rfl (fun z => ?_) (fun z => ?_)
  · replace h := h.1 z
    refine am_wpb (c' := (11, [some (.ref 0), some (.int v1)], [.int (-1)], (I, L, D, am_rf X))) 1 rfl ?_
    exact am_ret_i rfl rfl h
  · replace h := h.2 z
    refine am_wpb (c' := (7, [some (.ref 0), some (.int v1)], [.int 26, .int v1], (I, L, D, am_rf X))) 2 rfl ?_
    refine am_b2_lt rfl (fun z => ?_) (fun z => ?_)
    · replace h := h.1 z
      refine am_wpb (c' := (14, [some (.ref 0), some (.int v1)], [.int v1, .ref 0], (I, L, D, am_rf X))) 2 rfl ?_
      obtain ⟨r1, I1, L1, D1, hr, h⟩ := h
      refine am_wp_inv (as := [.ref 0, .int v1]) rfl rfl rfl rfl ⟨_, hr, ?_⟩
      show am_wp ext d mz_96 (17, [some (.ref 0), some (.int v1)], [.int r1], (I1, L1, D1, am_rf X)) P
      refine am_b1_lt rfl (fun z => ?_) (fun z => ?_)
      · replace h := h.1 z
        refine am_wpb (c' := (24, [some (.ref 0), some (.int v1)], [.int v1, .ref 0], (I1, L1, D1, am_rf X))) 2 rfl ?_
        obtain ⟨r2, I2, L2, D2, hr, h⟩ := h
        refine am_wp_inv (as := [.ref 0, .int v1]) rfl rfl rfl rfl ⟨_, hr, ?_⟩
        show am_wp ext d mz_96 (27, [some (.ref 0), some (.int v1)], [.int r2], (I2, L2, D2, am_rf X)) P
        refine am_b1_lt rfl (fun z => ?_) (fun z => ?_)
        · replace h := h.1 z
          refine am_wpb (c' := (35, [some (.ref 0), some (.int v1)], [.int 0], (I2, L2, D2, am_rf X))) 1 rfl ?_
          exact am_ret_i rfl rfl h
        · replace h := h.2 z
          refine am_wpb (c' := (35, [some (.ref 0), some (.int v1)], [.int 2], (I2, L2, D2, am_rf X))) 2 rfl ?_
          exact am_ret_i rfl rfl h
      · replace h := h.2 z
        refine am_wpb (c' := (21, [some (.ref 0), some (.int v1)], [.int 1], (I1, L1, D1, am_rf X))) 1 rfl ?_
        exact am_ret_i rfl rfl h
    · replace h := h.2 z
      refine am_wpb (c' := (11, [some (.ref 0), some (.int v1)], [.int (-1)], (I, L, D, am_rf X))) 1 rfl ?_
      exact am_ret_i rfl rfl h
/-- SureSums.span(III)J -/
def mz_97 : am_Y := (fun pc => am_q97.lookup pc, 6, 3)
theorem mh_97 : am_Ys 97 = some mz_97 := rfl
theorem w97_0 {ext : Nat → List Value → am_M → Option am_R} {d : Nat} {P : am_R → Prop} (I : Nat → Nat → Int32) (L : Nat → Nat → Int64) (D : Nat → Nat → UInt64) (xc : Nat) (xi : Nat) (xp : Nat) (xs : Nat) (xt : Nat) (xu : Nat) (v1 : Int32) (v2 : Int32) (v3 : Int32)
    (h : ∃ (r1 : Int32) (I1 : Nat → Nat → Int32) (L1 : Nat → Nat → Int64) (D1 : Nat → Nat → UInt64), am_Rn ext d 111 [.ref 0, .int v1] (I, L, D, am_rf (xt, xs, xi, xp, xu, xc)) (some (.int r1), (I1, L1, D1, am_rf (xt, xs, xi, xp, xu, xc))) ∧ (((r1 < 0 → (P (some (.long (-9223372036854775808)), (I1, L1, D1, am_rf (xt, xs, xi, xp, xu, xc))))) ∧ (¬ r1 < 0 → (∃ (r2 : Int32) (I2 : Nat → Nat → Int32) (L2 : Nat → Nat → Int64) (D2 : Nat → Nat → UInt64), am_Rn ext d 113 [.int v2] (I1, L1, D1, am_rf (xt, xs, xi, xp, xu, xc)) (some (.int r2), (I2, L2, D2, am_rf (xt, xs, xi, xp, xu, xc))) ∧ (((r2 = 0 → (P (some (.long (-9223372036854775808)), (I2, L2, D2, am_rf (xt, xs, xi, xp, xu, xc))))) ∧ (¬ r2 = 0 → (((v3 < 0 → (P (some (.long (-9223372036854775808)), (I2, L2, D2, am_rf (xt, xs, xi, xp, xu, xc))))) ∧ (¬ v3 < 0 → (((v3 ≤ 2 → (∃ (r3 : Int32) (I3 : Nat → Nat → Int32) (L3 : Nat → Nat → Int64) (D3 : Nat → Nat → UInt64), am_Rn ext d 60 [.ref 25, .ref xt, .int r1, .long 0, .long 0, .int v2] (I2, L2, D2, am_rf (xt, xs, xi, xp, xu, xc)) (some (.int r3), (I3, L3, D3, am_rf (xt, xs, xi, xt, xu, xc))) ∧ (∃ (r4 : Int64) (I4 : Nat → Nat → Int32) (L4 : Nat → Nat → Int64) (D4 : Nat → Nat → UInt64), am_Rn ext d 99 [.ref 0, .int r3, .int v3] (I3, L3, D3, am_rf (xt, xs, xi, xt, xu, xc)) (some (.long r4), (I4, L4, D4, am_rf (xt, xs, xi, xt, xu, xc))) ∧ (P (some (.long r4), (I4, L4, D4, am_rf (xt, xs, xi, xt, xu, xc))))))) ∧ (¬ v3 ≤ 2 → (P (some (.long (-9223372036854775808)), (I2, L2, D2, am_rf (xt, xs, xi, xp, xu, xc)))))))))))))))))) : am_wp ext d mz_97 (0, [some (.ref 0), some (.int v1), some (.int v2), some (.int v3), none, none], [], (I, L, D, am_rf (xt, xs, xi, xp, xu, xc))) P := by
  refine am_wpb (c' := (2, [some (.ref 0), some (.int v1), some (.int v2), some (.int v3), none, none], [.int v1, .ref 0], (I, L, D, am_rf (xt, xs, xi, xp, xu, xc)))) 2 rfl ?_
  obtain ⟨r1, I1, L1, D1, hr, h⟩ := h
  refine am_wp_inv (as := [.ref 0, .int v1]) rfl rfl rfl rfl ⟨_, hr, ?_⟩
  show am_wp ext d mz_97 (5, [some (.ref 0), some (.int v1), some (.int v2), some (.int v3), none, none], [.int r1], (I1, L1, D1, am_rf (xt, xs, xi, xp, xu, xc))) P
  refine am_wpb (c' := (9, [some (.ref 0), some (.int v1), some (.int v2), some (.int v3), some (.int r1), none], [.int r1], (I1, L1, D1, am_rf (xt, xs, xi, xp, xu, xc)))) 2 rfl ?_
  refine am_b1_lt rfl (fun z => ?_) (fun z => ?_)
  · replace h := h.1 z
    refine am_wpb (c' := (31, [some (.ref 0), some (.int v1), some (.int v2), some (.int v3), some (.int r1), none], [.long (-9223372036854775808)], (I1, L1, D1, am_rf (xt, xs, xi, xp, xu, xc)))) 1 rfl ?_
    exact am_ret_l rfl rfl h
  · replace h := h.2 z
    refine am_wpb (c' := (13, [some (.ref 0), some (.int v1), some (.int v2), some (.int v3), some (.int r1), none], [.int v2], (I1, L1, D1, am_rf (xt, xs, xi, xp, xu, xc)))) 1 rfl ?_
    obtain ⟨r2, I2, L2, D2, hr, h⟩ := h
    refine am_wp_inv (as := [.int v2]) rfl rfl rfl rfl ⟨_, hr, ?_⟩
    show am_wp ext d mz_97 (16, [some (.ref 0), some (.int v1), some (.int v2), some (.int v3), some (.int r1), none], [.int r2], (I2, L2, D2, am_rf (xt, xs, xi, xp, xu, xc))) P
    refine am_b1_eq rfl (fun z => ?_) (fun z => ?_)
    · replace h := h.1 z
      refine am_wpb (c' := (31, [some (.ref 0), some (.int v1), some (.int v2), some (.int v3), some (.int r1), none], [.long (-9223372036854775808)], (I2, L2, D2, am_rf (xt, xs, xi, xp, xu, xc)))) 1 rfl ?_
      exact am_ret_l rfl rfl h
    · replace h := h.2 z
      refine am_wpb (c' := (20, [some (.ref 0), some (.int v1), some (.int v2), some (.int v3), some (.int r1), none], [.int v3], (I2, L2, D2, am_rf (xt, xs, xi, xp, xu, xc)))) 1 rfl ?_
      refine am_b1_lt rfl (fun z => ?_) (fun z => ?_)
      · replace h := h.1 z
        refine am_wpb (c' := (31, [some (.ref 0), some (.int v1), some (.int v2), some (.int v3), some (.int r1), none], [.long (-9223372036854775808)], (I2, L2, D2, am_rf (xt, xs, xi, xp, xu, xc)))) 1 rfl ?_
        exact am_ret_l rfl rfl h
      · replace h := h.2 z
        refine am_wpb (c' := (25, [some (.ref 0), some (.int v1), some (.int v2), some (.int v3), some (.int r1), none], [.int 2, .int v3], (I2, L2, D2, am_rf (xt, xs, xi, xp, xu, xc)))) 2 rfl ?_
        refine am_b2_le rfl (fun z => ?_) (fun z => ?_)
        · replace h := h.1 z
          refine am_wpb (c' := (45, [some (.ref 0), some (.int v1), some (.int v2), some (.int v3), some (.int r1), none], [.int v2, .long 0, .long 0, .int r1, .ref xt, .ref 25], (I2, L2, D2, am_rf (xt, xs, xi, xp, xu, xc)))) 8 rfl ?_
          obtain ⟨r3, I3, L3, D3, hr, h⟩ := h
          refine am_wp_inv (as := [.ref 25, .ref xt, .int r1, .long 0, .long 0, .int v2]) rfl rfl rfl rfl ⟨_, hr, ?_⟩
          show am_wp ext d mz_97 (48, [some (.ref 0), some (.int v1), some (.int v2), some (.int v3), some (.int r1), none], [.int r3], (I3, L3, D3, am_rf (xt, xs, xi, xt, xu, xc))) P
          refine am_wpb (c' := (54, [some (.ref 0), some (.int v1), some (.int v2), some (.int v3), some (.int r1), some (.int r3)], [.int v3, .int r3, .ref 0], (I3, L3, D3, am_rf (xt, xs, xi, xt, xu, xc)))) 4 rfl ?_
          obtain ⟨r4, I4, L4, D4, hr, h⟩ := h
          refine am_wp_inv (as := [.ref 0, .int r3, .int v3]) rfl rfl rfl rfl ⟨_, hr, ?_⟩
          show am_wp ext d mz_97 (57, [some (.ref 0), some (.int v1), some (.int v2), some (.int v3), some (.int r1), some (.int r3)], [.long r4], (I4, L4, D4, am_rf (xt, xs, xi, xt, xu, xc))) P
          exact am_ret_l rfl rfl h
        · replace h := h.2 z
          refine am_wpb (c' := (31, [some (.ref 0), some (.int v1), some (.int v2), some (.int v3), some (.int r1), none], [.long (-9223372036854775808)], (I2, L2, D2, am_rf (xt, xs, xi, xp, xu, xc)))) 1 rfl ?_
          exact am_ret_l rfl rfl h
/-- SureSums.at(IIIII)J -/
def mz_98 : am_Y := (fun pc => am_q98.lookup pc, 8, 3)
theorem mh_98 : am_Ys 98 = some mz_98 := rfl
theorem w98_0 {ext : Nat → List Value → am_M → Option am_R} {d : Nat} {P : am_R → Prop} (I : Nat → Nat → Int32) (L : Nat → Nat → Int64) (D : Nat → Nat → UInt64) (xc : Nat) (xi : Nat) (xp : Nat) (xs : Nat) (xt : Nat) (xu : Nat) (v1 : Int32) (v2 : Int32) (v3 : Int32) (v4 : Int32) (v5 : Int32)
    (h : ∃ (r1 : Int32) (I1 : Nat → Nat → Int32) (L1 : Nat → Nat → Int64) (D1 : Nat → Nat → UInt64), am_Rn ext d 112 [.ref 0, .int v1] (I, L, D, am_rf (xt, xs, xi, xp, xu, xc)) (some (.int r1), (I1, L1, D1, am_rf (xt, xs, xi, xp, xu, xc))) ∧ (((r1 < 0 → (P (some (.long (-9223372036854775808)), (I1, L1, D1, am_rf (xt, xs, xi, xp, xu, xc))))) ∧ (¬ r1 < 0 → (∃ (r2 : Int32) (I2 : Nat → Nat → Int32) (L2 : Nat → Nat → Int64) (D2 : Nat → Nat → UInt64), am_Rn ext d 113 [.int v4] (I1, L1, D1, am_rf (xt, xs, xi, xp, xu, xc)) (some (.int r2), (I2, L2, D2, am_rf (xt, xs, xi, xp, xu, xc))) ∧ (((r2 = 0 → (P (some (.long (-9223372036854775808)), (I2, L2, D2, am_rf (xt, xs, xi, xp, xu, xc))))) ∧ (¬ r2 = 0 → (((v5 < 0 → (P (some (.long (-9223372036854775808)), (I2, L2, D2, am_rf (xt, xs, xi, xp, xu, xc))))) ∧ (¬ v5 < 0 → (((v5 ≤ 2 → (((v2 < (-64) → (P (some (.long (-9223372036854775808)), (I2, L2, D2, am_rf (xt, xs, xi, xp, xu, xc))))) ∧ (¬ v2 < (-64) → (((64 < v3 → (P (some (.long (-9223372036854775808)), (I2, L2, D2, am_rf (xt, xs, xi, xp, xu, xc))))) ∧ (¬ 64 < v3 → (((v2 ≤ v3 → (∃ (r3 : Int32) (I3 : Nat → Nat → Int32) (L3 : Nat → Nat → Int64) (D3 : Nat → Nat → UInt64), am_Rn ext d 60 [.ref 25, .ref xt, .int r1, .long ((Int32.toInt64 v2) <<< ((Int32.toInt64 v4) &&& 63)), .long ((Int32.toInt64 v3) <<< ((Int32.toInt64 v4) &&& 63)), .int v4] (I2, L2, D2, am_rf (xt, xs, xi, xp, xu, xc)) (some (.int r3), (I3, L3, D3, am_rf (xt, xs, xi, xt, xu, xc))) ∧ (∃ (r4 : Int64) (I4 : Nat → Nat → Int32) (L4 : Nat → Nat → Int64) (D4 : Nat → Nat → UInt64), am_Rn ext d 99 [.ref 0, .int r3, .int v5] (I3, L3, D3, am_rf (xt, xs, xi, xt, xu, xc)) (some (.long r4), (I4, L4, D4, am_rf (xt, xs, xi, xt, xu, xc))) ∧ (P (some (.long r4), (I4, L4, D4, am_rf (xt, xs, xi, xt, xu, xc))))))) ∧ (¬ v2 ≤ v3 → (P (some (.long (-9223372036854775808)), (I2, L2, D2, am_rf (xt, xs, xi, xp, xu, xc)))))))))))))) ∧ (¬ v5 ≤ 2 → (P (some (.long (-9223372036854775808)), (I2, L2, D2, am_rf (xt, xs, xi, xp, xu, xc)))))))))))))))))) : am_wp ext d mz_98 (0, [some (.ref 0), some (.int v1), some (.int v2), some (.int v3), some (.int v4), some (.int v5), none, none], [], (I, L, D, am_rf (xt, xs, xi, xp, xu, xc))) P := by
  refine am_wpb (c' := (2, [some (.ref 0), some (.int v1), some (.int v2), some (.int v3), some (.int v4), some (.int v5), none, none], [.int v1, .ref 0], (I, L, D, am_rf (xt, xs, xi, xp, xu, xc)))) 2 rfl ?_
  obtain ⟨r1, I1, L1, D1, hr, h⟩ := h
  refine am_wp_inv (as := [.ref 0, .int v1]) rfl rfl rfl rfl ⟨_, hr, ?_⟩
  show am_wp ext d mz_98 (5, [some (.ref 0), some (.int v1), some (.int v2), some (.int v3), some (.int v4), some (.int v5), none, none], [.int r1], (I1, L1, D1, am_rf (xt, xs, xi, xp, xu, xc))) P
  refine am_wpb (c' := (9, [some (.ref 0), some (.int v1), some (.int v2), some (.int v3), some (.int v4), some (.int v5), some (.int r1), none], [.int r1], (I1, L1, D1, am_rf (xt, xs, xi, xp, xu, xc)))) 2 rfl ?_
  refine am_b1_lt rfl (fun z => ?_) (fun z => ?_)
  · replace h := h.1 z
    refine am_wpb (c' := (34, [some (.ref 0), some (.int v1), some (.int v2), some (.int v3), some (.int v4), some (.int v5), some (.int r1), none], [.long (-9223372036854775808)], (I1, L1, D1, am_rf (xt, xs, xi, xp, xu, xc)))) 1 rfl ?_
    exact am_ret_l rfl rfl h
  · replace h := h.2 z
    refine am_wpb (c' := (14, [some (.ref 0), some (.int v1), some (.int v2), some (.int v3), some (.int v4), some (.int v5), some (.int r1), none], [.int v4], (I1, L1, D1, am_rf (xt, xs, xi, xp, xu, xc)))) 1 rfl ?_
    obtain ⟨r2, I2, L2, D2, hr, h⟩ := h
    refine am_wp_inv (as := [.int v4]) rfl rfl rfl rfl ⟨_, hr, ?_⟩
    show am_wp ext d mz_98 (17, [some (.ref 0), some (.int v1), some (.int v2), some (.int v3), some (.int v4), some (.int v5), some (.int r1), none], [.int r2], (I2, L2, D2, am_rf (xt, xs, xi, xp, xu, xc))) P
    refine am_b1_eq rfl (fun z => ?_) (fun z => ?_)
    · replace h := h.1 z
      refine am_wpb (c' := (34, [some (.ref 0), some (.int v1), some (.int v2), some (.int v3), some (.int v4), some (.int v5), some (.int r1), none], [.long (-9223372036854775808)], (I2, L2, D2, am_rf (xt, xs, xi, xp, xu, xc)))) 1 rfl ?_
      exact am_ret_l rfl rfl h
    · replace h := h.2 z
      refine am_wpb (c' := (22, [some (.ref 0), some (.int v1), some (.int v2), some (.int v3), some (.int v4), some (.int v5), some (.int r1), none], [.int v5], (I2, L2, D2, am_rf (xt, xs, xi, xp, xu, xc)))) 1 rfl ?_
      refine am_b1_lt rfl (fun z => ?_) (fun z => ?_)
      · replace h := h.1 z
        refine am_wpb (c' := (34, [some (.ref 0), some (.int v1), some (.int v2), some (.int v3), some (.int v4), some (.int v5), some (.int r1), none], [.long (-9223372036854775808)], (I2, L2, D2, am_rf (xt, xs, xi, xp, xu, xc)))) 1 rfl ?_
        exact am_ret_l rfl rfl h
      · replace h := h.2 z
        refine am_wpb (c' := (28, [some (.ref 0), some (.int v1), some (.int v2), some (.int v3), some (.int v4), some (.int v5), some (.int r1), none], [.int 2, .int v5], (I2, L2, D2, am_rf (xt, xs, xi, xp, xu, xc)))) 2 rfl ?_
        refine am_b2_le rfl (fun z => ?_) (fun z => ?_)
        · replace h := h.1 z
          refine am_wpb (c' := (38, [some (.ref 0), some (.int v1), some (.int v2), some (.int v3), some (.int v4), some (.int v5), some (.int r1), none], [.int (-64), .int v2], (I2, L2, D2, am_rf (xt, xs, xi, xp, xu, xc)))) 2 rfl ?_
          refine am_b2_lt rfl (fun z => ?_) (fun z => ?_)
          · replace h := h.1 z
            refine am_wpb (c' := (55, [some (.ref 0), some (.int v1), some (.int v2), some (.int v3), some (.int v4), some (.int v5), some (.int r1), none], [.long (-9223372036854775808)], (I2, L2, D2, am_rf (xt, xs, xi, xp, xu, xc)))) 1 rfl ?_
            exact am_ret_l rfl rfl h
          · replace h := h.2 z
            refine am_wpb (c' := (44, [some (.ref 0), some (.int v1), some (.int v2), some (.int v3), some (.int v4), some (.int v5), some (.int r1), none], [.int 64, .int v3], (I2, L2, D2, am_rf (xt, xs, xi, xp, xu, xc)))) 2 rfl ?_
            refine am_b2_gt rfl (fun z => ?_) (fun z => ?_)
            · replace h := h.1 z
              refine am_wpb (c' := (55, [some (.ref 0), some (.int v1), some (.int v2), some (.int v3), some (.int v4), some (.int v5), some (.int r1), none], [.long (-9223372036854775808)], (I2, L2, D2, am_rf (xt, xs, xi, xp, xu, xc)))) 1 rfl ?_
              exact am_ret_l rfl rfl h
            · replace h := h.2 z
              refine am_wpb (c' := (49, [some (.ref 0), some (.int v1), some (.int v2), some (.int v3), some (.int v4), some (.int v5), some (.int r1), none], [.int v3, .int v2], (I2, L2, D2, am_rf (xt, xs, xi, xp, xu, xc)))) 2 rfl ?_
              refine am_b2_le rfl (fun z => ?_) (fun z => ?_)
              · replace h := h.1 z
                refine am_wpb (c' := (78, [some (.ref 0), some (.int v1), some (.int v2), some (.int v3), some (.int v4), some (.int v5), some (.int r1), none], [.int v4, .long ((Int32.toInt64 v3) <<< ((Int32.toInt64 v4) &&& 63)), .long ((Int32.toInt64 v2) <<< ((Int32.toInt64 v4) &&& 63)), .int r1, .ref xt, .ref 25], (I2, L2, D2, am_rf (xt, xs, xi, xp, xu, xc)))) 14 rfl ?_
                obtain ⟨r3, I3, L3, D3, hr, h⟩ := h
                refine am_wp_inv (as := [.ref 25, .ref xt, .int r1, .long ((Int32.toInt64 v2) <<< ((Int32.toInt64 v4) &&& 63)), .long ((Int32.toInt64 v3) <<< ((Int32.toInt64 v4) &&& 63)), .int v4]) rfl rfl rfl rfl ⟨_, hr, ?_⟩
                show am_wp ext d mz_98 (81, [some (.ref 0), some (.int v1), some (.int v2), some (.int v3), some (.int v4), some (.int v5), some (.int r1), none], [.int r3], (I3, L3, D3, am_rf (xt, xs, xi, xt, xu, xc))) P
                refine am_wpb (c' := (88, [some (.ref 0), some (.int v1), some (.int v2), some (.int v3), some (.int v4), some (.int v5), some (.int r1), some (.int r3)], [.int v5, .int r3, .ref 0], (I3, L3, D3, am_rf (xt, xs, xi, xt, xu, xc)))) 4 rfl ?_
                obtain ⟨r4, I4, L4, D4, hr, h⟩ := h
                refine am_wp_inv (as := [.ref 0, .int r3, .int v5]) rfl rfl rfl rfl ⟨_, hr, ?_⟩
                show am_wp ext d mz_98 (91, [some (.ref 0), some (.int v1), some (.int v2), some (.int v3), some (.int v4), some (.int v5), some (.int r1), some (.int r3)], [.long r4], (I4, L4, D4, am_rf (xt, xs, xi, xt, xu, xc))) P
                exact am_ret_l rfl rfl h
              · replace h := h.2 z
                refine am_wpb (c' := (55, [some (.ref 0), some (.int v1), some (.int v2), some (.int v3), some (.int v4), some (.int v5), some (.int r1), none], [.long (-9223372036854775808)], (I2, L2, D2, am_rf (xt, xs, xi, xp, xu, xc)))) 1 rfl ?_
                exact am_ret_l rfl rfl h
        · replace h := h.2 z
          refine am_wpb (c' := (34, [some (.ref 0), some (.int v1), some (.int v2), some (.int v3), some (.int v4), some (.int v5), some (.int r1), none], [.long (-9223372036854775808)], (I2, L2, D2, am_rf (xt, xs, xi, xp, xu, xc)))) 1 rfl ?_
          exact am_ret_l rfl rfl h
/-- SureSums.partOfSpan(ZI)J -/
def mz_99 : am_Y := (fun pc => am_q99.lookup pc, 3, 3)
theorem mh_99 : am_Ys 99 = some mz_99 := rfl
theorem w99_0 {ext : Nat → List Value → am_M → Option am_R} {d : Nat} {P : am_R → Prop} (I : Nat → Nat → Int32) (L : Nat → Nat → Int64) (D : Nat → Nat → UInt64) (X : am_Rf) (v1 : Int32) (v2 : Int32)
    (h : ((¬ v2 = 2 → (((¬ v1 = 0 → (((¬ v2 = 0 → (P (some (.long (L 25 10)), (I, L, D, am_rf X)))) ∧ (v2 = 0 → (P (some (.long (L 25 9)), (I, L, D, am_rf X))))))) ∧ (v1 = 0 → (P (some (.long (-9223372036854775808)), (I, L, D, am_rf X))))))) ∧ (v2 = 2 → (P (some (.long (Int32.toInt64 (I 25 8))), (I, L, D, am_rf X)))))) : am_wp ext d mz_99 (0, [some (.ref 0), some (.int v1), some (.int v2)], [], (I, L, D, am_rf X)) P := by
  refine am_wpb (c' := (2, [some (.ref 0), some (.int v1), some (.int v2)], [.int 2, .int v2], (I, L, D, am_rf X))) 2 rfl ?_
  refine am_b2_ne rfl (fun z => ?_) (fun z => ?_)
  · replace h := h.1 z
    refine am_wpb (c' := (15, [some (.ref 0), some (.int v1), some (.int v2)], [.int v1], (I, L, D, am_rf X))) 1 rfl ?_
    refine am_b1_ne rfl (fun z => ?_) (fun z => ?_)
    · replace h := h.1 z
      refine am_wpb (c' := (23, [some (.ref 0), some (.int v1), some (.int v2)], [.int v2], (I, L, D, am_rf X))) 1 rfl ?_
      refine am_b1_ne rfl (fun z => ?_) (fun z => ?_)
      · replace h := h.1 z
        refine am_wpb (c' := (43, [some (.ref 0), some (.int v1), some (.int v2)], [.long (L 25 10)], (I, L, D, am_rf X))) 3 rfl ?_
        exact am_ret_l rfl rfl h
      · replace h := h.2 z
        refine am_wpb (c' := (43, [some (.ref 0), some (.int v1), some (.int v2)], [.long (L 25 9)], (I, L, D, am_rf X))) 4 rfl ?_
        exact am_ret_l rfl rfl h
    · replace h := h.2 z
      refine am_wpb (c' := (21, [some (.ref 0), some (.int v1), some (.int v2)], [.long (-9223372036854775808)], (I, L, D, am_rf X))) 1 rfl ?_
      exact am_ret_l rfl rfl h
  · replace h := h.2 z
    refine am_wpb (c' := (13, [some (.ref 0), some (.int v1), some (.int v2)], [.long (Int32.toInt64 (I 25 8))], (I, L, D, am_rf X))) 4 rfl ?_
    exact am_ret_l rfl rfl h
/-- SureSums.ask(III)J -/
def mz_100 : am_Y := (fun pc => am_q100.lookup pc, 13, 3)
theorem mh_100 : am_Ys 100 = some mz_100 := rfl
theorem w100_0 {ext : Nat → List Value → am_M → Option am_R} {d : Nat} {P : am_R → Prop} (I : Nat → Nat → Int32) (L : Nat → Nat → Int64) (D : Nat → Nat → UInt64) (xc : Nat) (xi : Nat) (xp : Nat) (xs : Nat) (xt : Nat) (xu : Nat) (v1 : Int32) (v2 : Int32) (v3 : Int32)
    (h : ∃ (r1 : Int32) (I1 : Nat → Nat → Int32) (L1 : Nat → Nat → Int64) (D1 : Nat → Nat → UInt64), am_Rn ext d 111 [.ref 0, .int v1] (I, L, D, am_rf (xt, xs, xi, xp, xu, xc)) (some (.int r1), (I1, L1, D1, am_rf (xt, xs, xi, xp, xu, xc))) ∧ (((r1 < 0 → (P (some (.long (-9223372036854775808)), (I1, L1, D1, am_rf (xt, xs, xi, xp, xu, xc))))) ∧ (¬ r1 < 0 → (((v2 < 0 → (P (some (.long (-9223372036854775808)), (I1, L1, D1, am_rf (xt, xs, xi, xp, xu, xc))))) ∧ (¬ v2 < 0 → (((16 < v2 → (P (some (.long (-9223372036854775808)), (I1, L1, D1, am_rf (xt, xs, xi, xp, xu, xc))))) ∧ (¬ 16 < v2 → (((v3 < 0 → (P (some (.long (-9223372036854775808)), (I1, L1, D1, am_rf (xt, xs, xi, xp, xu, xc))))) ∧ (¬ v3 < 0 → (((v3 ≤ 2 → (am_wp ext d mz_100 (52, [some (.ref 0), none, some (.int v2), some (.int v3), some (.int r1), some (.long (-1)), none, some (.int 0), some (.long 0), none, some (.long 0), none, some (.int 4)], [], (I1, L1, D1, am_rf (xt, xs, xi, xp, xu, xc))) P)) ∧ (¬ v3 ≤ 2 → (P (some (.long (-9223372036854775808)), (I1, L1, D1, am_rf (xt, xs, xi, xp, xu, xc)))))))))))))))))))) : am_wp ext d mz_100 (0, [some (.ref 0), some (.int v1), some (.int v2), some (.int v3), none, none, none, none, none, none, none, none, none], [], (I, L, D, am_rf (xt, xs, xi, xp, xu, xc))) P := by
  refine am_wpb (c' := (2, [some (.ref 0), some (.int v1), some (.int v2), some (.int v3), none, none, none, none, none, none, none, none, none], [.int v1, .ref 0], (I, L, D, am_rf (xt, xs, xi, xp, xu, xc)))) 2 rfl ?_
  obtain ⟨r1, I1, L1, D1, hr, h⟩ := h
  refine am_wp_inv (as := [.ref 0, .int v1]) rfl rfl rfl rfl ⟨_, hr, ?_⟩
  show am_wp ext d mz_100 (5, [some (.ref 0), some (.int v1), some (.int v2), some (.int v3), none, none, none, none, none, none, none, none, none], [.int r1], (I1, L1, D1, am_rf (xt, xs, xi, xp, xu, xc))) P
  refine am_wpb (c' := (9, [some (.ref 0), some (.int v1), some (.int v2), some (.int v3), some (.int r1), none, none, none, none, none, none, none, none], [.int r1], (I1, L1, D1, am_rf (xt, xs, xi, xp, xu, xc)))) 2 rfl ?_
  refine am_b1_lt rfl (fun z => ?_) (fun z => ?_)
  · replace h := h.1 z
    refine am_wpb (c' := (34, [some (.ref 0), some (.int v1), some (.int v2), some (.int v3), some (.int r1), none, none, none, none, none, none, none, none], [.long (-9223372036854775808)], (I1, L1, D1, am_rf (xt, xs, xi, xp, xu, xc)))) 1 rfl ?_
    exact am_ret_l rfl rfl h
  · replace h := h.2 z
    refine am_wpb (c' := (13, [some (.ref 0), some (.int v1), some (.int v2), some (.int v3), some (.int r1), none, none, none, none, none, none, none, none], [.int v2], (I1, L1, D1, am_rf (xt, xs, xi, xp, xu, xc)))) 1 rfl ?_
    refine am_b1_lt rfl (fun z => ?_) (fun z => ?_)
    · replace h := h.1 z
      refine am_wpb (c' := (34, [some (.ref 0), some (.int v1), some (.int v2), some (.int v3), some (.int r1), none, none, none, none, none, none, none, none], [.long (-9223372036854775808)], (I1, L1, D1, am_rf (xt, xs, xi, xp, xu, xc)))) 1 rfl ?_
      exact am_ret_l rfl rfl h
    · replace h := h.2 z
      refine am_wpb (c' := (19, [some (.ref 0), some (.int v1), some (.int v2), some (.int v3), some (.int r1), none, none, none, none, none, none, none, none], [.int 16, .int v2], (I1, L1, D1, am_rf (xt, xs, xi, xp, xu, xc)))) 2 rfl ?_
      refine am_b2_gt rfl (fun z => ?_) (fun z => ?_)
      · replace h := h.1 z
        refine am_wpb (c' := (34, [some (.ref 0), some (.int v1), some (.int v2), some (.int v3), some (.int r1), none, none, none, none, none, none, none, none], [.long (-9223372036854775808)], (I1, L1, D1, am_rf (xt, xs, xi, xp, xu, xc)))) 1 rfl ?_
        exact am_ret_l rfl rfl h
      · replace h := h.2 z
        refine am_wpb (c' := (23, [some (.ref 0), some (.int v1), some (.int v2), some (.int v3), some (.int r1), none, none, none, none, none, none, none, none], [.int v3], (I1, L1, D1, am_rf (xt, xs, xi, xp, xu, xc)))) 1 rfl ?_
        refine am_b1_lt rfl (fun z => ?_) (fun z => ?_)
        · replace h := h.1 z
          refine am_wpb (c' := (34, [some (.ref 0), some (.int v1), some (.int v2), some (.int v3), some (.int r1), none, none, none, none, none, none, none, none], [.long (-9223372036854775808)], (I1, L1, D1, am_rf (xt, xs, xi, xp, xu, xc)))) 1 rfl ?_
          exact am_ret_l rfl rfl h
        · replace h := h.2 z
          refine am_wpb (c' := (28, [some (.ref 0), some (.int v1), some (.int v2), some (.int v3), some (.int r1), none, none, none, none, none, none, none, none], [.int 2, .int v3], (I1, L1, D1, am_rf (xt, xs, xi, xp, xu, xc)))) 2 rfl ?_
          refine am_b2_le rfl (fun z => ?_) (fun z => ?_)
          · replace h := h.1 z
            refine am_wpb (c' := (52, [some (.ref 0), some (.int v1), some (.int v2), some (.int v3), some (.int r1), some (.long (-1)), none, some (.int 0), some (.long 0), none, some (.long 0), none, some (.int 4)], [], (I1, L1, D1, am_rf (xt, xs, xi, xp, xu, xc)))) 10 rfl ?_
            exact am_fgt (l := [some (.ref 0), none, some (.int v2), some (.int v3), some (.int r1), some (.long (-1)), none, some (.int 0), some (.long 0), none, some (.long 0), none, some (.int 4)]) (am_le_of (am_leS (am_leN (am_leS (am_leS (am_leS (am_leS (am_leN (am_leS (am_leS (am_leN (am_leS (am_leN (am_leS (am_leZ))))))))))))))) h
          · replace h := h.2 z
            refine am_wpb (c' := (34, [some (.ref 0), some (.int v1), some (.int v2), some (.int v3), some (.int r1), none, none, none, none, none, none, none, none], [.long (-9223372036854775808)], (I1, L1, D1, am_rf (xt, xs, xi, xp, xu, xc)))) 1 rfl ?_
            exact am_ret_l rfl rfl h
theorem w100_52 {ext : Nat → List Value → am_M → Option am_R} {d : Nat} {P : am_R → Prop} (I : Nat → Nat → Int32) (L : Nat → Nat → Int64) (D : Nat → Nat → UInt64) (xc : Nat) (xi : Nat) (xp : Nat) (xs : Nat) (xt : Nat) (xu : Nat) (v2 : Int32) (v3 : Int32) (v4 : Int32) (v5 : Int64) (v7 : Int32) (v8 : Int64) (v10 : Int64) (v12 : Int32)
    (h : ((20 < v12 → (am_wp ext d mz_100 (147, [none, none, none, some (.int v3), none, some (.long v5), none, some (.int v7), some (.long v8), none, some (.long v10), none, none], [], (I, L, D, am_rf (xt, xs, xi, xp, xu, xc))) P)) ∧ (¬ 20 < v12 → (((¬ v5 = (-1) → (am_wp ext d mz_100 (147, [none, none, none, some (.int v3), none, some (.long v5), none, some (.int v7), some (.long v8), none, some (.long v10), none, none], [], (I, L, D, am_rf (xt, xs, xi, xp, xu, xc))) P)) ∧ (v5 = (-1) → (((v12 < v2 → (am_wp ext d mz_100 (52, [some (.ref 0), none, some (.int v2), some (.int v3), some (.int v4), some (.long v5), none, some (.int v7), some (.long v8), none, some (.long v10), none, some (.int (v12 + 4))], [], (I, L, D, am_rf (xt, xs, xi, xp, xu, xc))) P)) ∧ (¬ v12 < v2 → (∃ (r1 : Int32) (I1 : Nat → Nat → Int32) (L1 : Nat → Nat → Int64) (D1 : Nat → Nat → UInt64), am_Rn ext d 60 [.ref 25, .ref xt, .int v4, .long 0, .long 0, .int v12] (I, L, D, am_rf (xt, xs, xi, xp, xu, xc)) (some (.int r1), (I1, L1, D1, am_rf (xt, xs, xi, xt, xu, xc))) ∧ (((r1 = 0 → (am_wp ext d mz_100 (52, [some (.ref 0), none, some (.int v2), some (.int v3), some (.int v4), some (.long v5), none, some (.int v7), some (.long v8), none, some (.long v10), none, some (.int (v12 + 4))], [], (I1, L1, D1, am_rf (xt, xs, xi, xt, xu, xc))) P)) ∧ (¬ r1 = 0 → ((((1 <<< ((Int32.toInt64 (v12 - v2)) &&& 63)) < ((L1 25 10) - (L1 25 9)) → (am_wp ext d mz_100 (52, [some (.ref 0), none, some (.int v2), some (.int v3), some (.int v4), some (.long (-1)), none, some (.int 1), some (.long (L1 25 9)), none, some (.long (L1 25 10)), none, some (.int (v12 + 4))], [], (I1, L1, D1, am_rf (xt, xs, xi, xt, xu, xc))) P)) ∧ (¬ (1 <<< ((Int32.toInt64 (v12 - v2)) &&& 63)) < ((L1 25 10) - (L1 25 9)) → (am_wp ext d mz_100 (52, [some (.ref 0), none, some (.int v2), some (.int v3), some (.int v4), some (.long (Int32.toInt64 v12)), none, some (.int 1), some (.long (L1 25 9)), none, some (.long (L1 25 10)), none, some (.int (v12 + 4))], [], (I1, L1, D1, am_rf (xt, xs, xi, xt, xu, xc))) P))))))))))))))))) : am_wp ext d mz_100 (52, [some (.ref 0), none, some (.int v2), some (.int v3), some (.int v4), some (.long v5), none, some (.int v7), some (.long v8), none, some (.long v10), none, some (.int v12)], [], (I, L, D, am_rf (xt, xs, xi, xp, xu, xc))) P := by
  refine am_wpb (c' := (56, [some (.ref 0), none, some (.int v2), some (.int v3), some (.int v4), some (.long v5), none, some (.int v7), some (.long v8), none, some (.long v10), none, some (.int v12)], [.int 20, .int v12], (I, L, D, am_rf (xt, xs, xi, xp, xu, xc)))) 2 rfl ?_
  refine am_b2_gt rfl (fun z => ?_) (fun z => ?_)
  · replace h := h.1 z
    exact am_fgt (l := [none, none, none, some (.int v3), none, some (.long v5), none, some (.int v7), some (.long v8), none, some (.long v10), none, none]) (am_le_of (am_leN (am_leN (am_leN (am_leS (am_leN (am_leS (am_leN (am_leS (am_leS (am_leN (am_leS (am_leN (am_leN (am_leZ))))))))))))))) h
  · replace h := h.2 z
    refine am_wpb (c' := (64, [some (.ref 0), none, some (.int v2), some (.int v3), some (.int v4), some (.long v5), none, some (.int v7), some (.long v8), none, some (.long v10), none, some (.int v12)], [.long (-1), .long v5], (I, L, D, am_rf (xt, xs, xi, xp, xu, xc)))) 2 rfl ?_
    refine am_lc_ne rfl rfl (fun z => ?_) (fun z => ?_)
    · replace h := h.1 z
      exact am_fgt (l := [none, none, none, some (.int v3), none, some (.long v5), none, some (.int v7), some (.long v8), none, some (.long v10), none, none]) (am_le_of (am_leN (am_leN (am_leN (am_leS (am_leN (am_leS (am_leN (am_leS (am_leS (am_leN (am_leS (am_leN (am_leN (am_leZ))))))))))))))) h
    · replace h := h.2 z
      refine am_wpb (c' := (71, [some (.ref 0), none, some (.int v2), some (.int v3), some (.int v4), some (.long v5), none, some (.int v7), some (.long v8), none, some (.long v10), none, some (.int v12)], [.int v2, .int v12], (I, L, D, am_rf (xt, xs, xi, xp, xu, xc)))) 2 rfl ?_
      refine am_b2_lt rfl (fun z => ?_) (fun z => ?_)
      · replace h := h.1 z
        refine am_wpb (c' := (52, [some (.ref 0), none, some (.int v2), some (.int v3), some (.int v4), some (.long v5), none, some (.int v7), some (.long v8), none, some (.long v10), none, some (.int (v12 + 4))], [], (I, L, D, am_rf (xt, xs, xi, xp, xu, xc)))) 2 rfl ?_
        exact h
      · replace h := h.2 z
        refine am_wpb (c' := (88, [some (.ref 0), none, some (.int v2), some (.int v3), some (.int v4), some (.long v5), none, some (.int v7), some (.long v8), none, some (.long v10), none, some (.int v12)], [.int v12, .long 0, .long 0, .int v4, .ref xt, .ref 25], (I, L, D, am_rf (xt, xs, xi, xp, xu, xc)))) 8 rfl ?_
        obtain ⟨r1, I1, L1, D1, hr, h⟩ := h
        refine am_wp_inv (as := [.ref 25, .ref xt, .int v4, .long 0, .long 0, .int v12]) rfl rfl rfl rfl ⟨_, hr, ?_⟩
        show am_wp ext d mz_100 (91, [some (.ref 0), none, some (.int v2), some (.int v3), some (.int v4), some (.long v5), none, some (.int v7), some (.long v8), none, some (.long v10), none, some (.int v12)], [.int r1], (I1, L1, D1, am_rf (xt, xs, xi, xt, xu, xc))) P
        refine am_b1_eq rfl (fun z => ?_) (fun z => ?_)
        · replace h := h.1 z
          refine am_wpb (c' := (52, [some (.ref 0), none, some (.int v2), some (.int v3), some (.int v4), some (.long v5), none, some (.int v7), some (.long v8), none, some (.long v10), none, some (.int (v12 + 4))], [], (I1, L1, D1, am_rf (xt, xs, xi, xt, xu, xc)))) 2 rfl ?_
          exact h
        · replace h := h.2 z
          refine am_wpb (c' := (126, [some (.ref 0), none, some (.int v2), some (.int v3), some (.int v4), some (.long v5), none, some (.int 1), some (.long (L1 25 9)), none, some (.long (L1 25 10)), none, some (.int v12)], [.long (1 <<< ((Int32.toInt64 (v12 - v2)) &&& 63)), .long ((L1 25 10) - (L1 25 9))], (I1, L1, D1, am_rf (xt, xs, xi, xt, xu, xc)))) 18 rfl ?_
          refine am_lc_gt rfl rfl (fun z => ?_) (fun z => ?_)
          · replace h := h.1 z
            refine am_wpb (c' := (52, [some (.ref 0), none, some (.int v2), some (.int v3), some (.int v4), some (.long (-1)), none, some (.int 1), some (.long (L1 25 9)), none, some (.long (L1 25 10)), none, some (.int (v12 + 4))], [], (I1, L1, D1, am_rf (xt, xs, xi, xt, xu, xc)))) 4 rfl ?_
            exact h
          · replace h := h.2 z
            refine am_wpb (c' := (52, [some (.ref 0), none, some (.int v2), some (.int v3), some (.int v4), some (.long (Int32.toInt64 v12)), none, some (.int 1), some (.long (L1 25 9)), none, some (.long (L1 25 10)), none, some (.int (v12 + 4))], [], (I1, L1, D1, am_rf (xt, xs, xi, xt, xu, xc)))) 6 rfl ?_
            exact h
theorem w100_147 {ext : Nat → List Value → am_M → Option am_R} {d : Nat} {P : am_R → Prop} (I : Nat → Nat → Int32) (L : Nat → Nat → Int64) (D : Nat → Nat → UInt64) (xc : Nat) (xi : Nat) (xp : Nat) (xs : Nat) (xt : Nat) (xu : Nat) (v3 : Int32) (v5 : Int64) (v7 : Int32) (v8 : Int64) (v10 : Int64)
    (h : ((¬ v3 = 0 → (((¬ v7 = 0 → (((¬ v3 = 1 → (P (some (.long v10), (I, L, D, am_rf (xt, xs, xi, xp, xu, xc))))) ∧ (v3 = 1 → (P (some (.long v8), (I, L, D, am_rf (xt, xs, xi, xp, xu, xc)))))))) ∧ (v7 = 0 → (P (some (.long (-9223372036854775808)), (I, L, D, am_rf (xt, xs, xi, xp, xu, xc)))))))) ∧ (v3 = 0 → (P (some (.long v5), (I, L, D, am_rf (xt, xs, xi, xp, xu, xc))))))) : am_wp ext d mz_100 (147, [none, none, none, some (.int v3), none, some (.long v5), none, some (.int v7), some (.long v8), none, some (.long v10), none, none], [], (I, L, D, am_rf (xt, xs, xi, xp, xu, xc))) P := by
  refine am_wpb (c' := (148, [none, none, none, some (.int v3), none, some (.long v5), none, some (.int v7), some (.long v8), none, some (.long v10), none, none], [.int v3], (I, L, D, am_rf (xt, xs, xi, xp, xu, xc)))) 1 rfl ?_
  refine am_b1_ne rfl (fun z => ?_) (fun z => ?_)
  · replace h := h.1 z
    refine am_wpb (c' := (156, [none, none, none, some (.int v3), none, some (.long v5), none, some (.int v7), some (.long v8), none, some (.long v10), none, none], [.int v7], (I, L, D, am_rf (xt, xs, xi, xp, xu, xc)))) 1 rfl ?_
    refine am_b1_ne rfl (fun z => ?_) (fun z => ?_)
    · replace h := h.1 z
      refine am_wpb (c' := (165, [none, none, none, some (.int v3), none, some (.long v5), none, some (.int v7), some (.long v8), none, some (.long v10), none, none], [.int 1, .int v3], (I, L, D, am_rf (xt, xs, xi, xp, xu, xc)))) 2 rfl ?_
      refine am_b2_ne rfl (fun z => ?_) (fun z => ?_)
      · replace h := h.1 z
        refine am_wpb (c' := (175, [none, none, none, some (.int v3), none, some (.long v5), none, some (.int v7), some (.long v8), none, some (.long v10), none, none], [.long v10], (I, L, D, am_rf (xt, xs, xi, xp, xu, xc)))) 1 rfl ?_
        exact am_ret_l rfl rfl h
      · replace h := h.2 z
        refine am_wpb (c' := (175, [none, none, none, some (.int v3), none, some (.long v5), none, some (.int v7), some (.long v8), none, some (.long v10), none, none], [.long v8], (I, L, D, am_rf (xt, xs, xi, xp, xu, xc)))) 2 rfl ?_
        exact am_ret_l rfl rfl h
    · replace h := h.2 z
      refine am_wpb (c' := (162, [none, none, none, some (.int v3), none, some (.long v5), none, some (.int v7), some (.long v8), none, some (.long v10), none, none], [.long (-9223372036854775808)], (I, L, D, am_rf (xt, xs, xi, xp, xu, xc)))) 1 rfl ?_
      exact am_ret_l rfl rfl h
  · replace h := h.2 z
    refine am_wpb (c' := (153, [none, none, none, some (.int v3), none, some (.long v5), none, some (.int v7), some (.long v8), none, some (.long v10), none, none], [.long v5], (I, L, D, am_rf (xt, xs, xi, xp, xu, xc)))) 1 rfl ?_
    exact am_ret_l rfl rfl h
/-- SureSums.digits(I)I -/
def mz_101 : am_Y := (fun pc => am_q101.lookup pc, 9, 1)
theorem mh_101 : am_Ys 101 = some mz_101 := rfl
theorem w101_0 {ext : Nat → List Value → am_M → Option am_R} {d : Nat} {P : am_R → Prop} (I : Nat → Nat → Int32) (L : Nat → Nat → Int64) (D : Nat → Nat → UInt64) (xc : Nat) (xi : Nat) (xp : Nat) (xs : Nat) (xt : Nat) (xu : Nat) (v1 : Int32)
    (h : ∃ (r1 : Int32) (I1 : Nat → Nat → Int32) (L1 : Nat → Nat → Int64) (D1 : Nat → Nat → UInt64), am_Rn ext d 111 [.ref 0, .int v1] (I, L, D, am_rf (xt, xs, xi, xp, xu, xc)) (some (.int r1), (I1, L1, D1, am_rf (xt, xs, xi, xp, xu, xc))) ∧ (((0 ≤ r1 → (∃ (r2 : Int32) (I2 : Nat → Nat → Int32) (L2 : Nat → Nat → Int64) (D2 : Nat → Nat → UInt64), am_Rn ext d 60 [.ref 25, .ref xt, .int r1, .long 0, .long 0, .int 20] (I1, L1, D1, am_rf (xt, xs, xi, xp, xu, xc)) (some (.int r2), (I2, L2, D2, am_rf (xt, xs, xi, xt, xu, xc))) ∧ (((¬ r2 = 0 → (am_wp ext d mz_101 (57, [none, none, none, some (.long (L2 25 9)), none, some (.long (L2 25 10)), none, some (.int (-1)), some (.int 0)], [], (I2, L2, D2, am_rf (xt, xs, xi, xt, xu, xc))) P)) ∧ (r2 = 0 → (P (some (.int (-2)), (I2, L2, D2, am_rf (xt, xs, xi, xt, xu, xc))))))))) ∧ (¬ 0 ≤ r1 → (P (some (.int (-1)), (I1, L1, D1, am_rf (xt, xs, xi, xp, xu, xc)))))))) : am_wp ext d mz_101 (0, [some (.ref 0), some (.int v1), none, none, none, none, none, none, none], [], (I, L, D, am_rf (xt, xs, xi, xp, xu, xc))) P := by
  refine am_wpb (c' := (2, [some (.ref 0), some (.int v1), none, none, none, none, none, none, none], [.int v1, .ref 0], (I, L, D, am_rf (xt, xs, xi, xp, xu, xc)))) 2 rfl ?_
  obtain ⟨r1, I1, L1, D1, hr, h⟩ := h
  refine am_wp_inv (as := [.ref 0, .int v1]) rfl rfl rfl rfl ⟨_, hr, ?_⟩
  show am_wp ext d mz_101 (5, [some (.ref 0), some (.int v1), none, none, none, none, none, none, none], [.int r1], (I1, L1, D1, am_rf (xt, xs, xi, xp, xu, xc))) P
  refine am_wpb (c' := (7, [some (.ref 0), some (.int v1), some (.int r1), none, none, none, none, none, none], [.int r1], (I1, L1, D1, am_rf (xt, xs, xi, xp, xu, xc)))) 2 rfl ?_
  refine am_b1_ge rfl (fun z => ?_) (fun z => ?_)
  · replace h := h.1 z
    refine am_wpb (c' := (25, [some (.ref 0), some (.int v1), some (.int r1), none, none, none, none, none, none], [.int 20, .long 0, .long 0, .int r1, .ref xt, .ref 25], (I1, L1, D1, am_rf (xt, xs, xi, xp, xu, xc)))) 8 rfl ?_
    obtain ⟨r2, I2, L2, D2, hr, h⟩ := h
    refine am_wp_inv (as := [.ref 25, .ref xt, .int r1, .long 0, .long 0, .int 20]) rfl rfl rfl rfl ⟨_, hr, ?_⟩
    show am_wp ext d mz_101 (28, [some (.ref 0), some (.int v1), some (.int r1), none, none, none, none, none, none], [.int r2], (I2, L2, D2, am_rf (xt, xs, xi, xt, xu, xc))) P
    refine am_b1_ne rfl (fun z => ?_) (fun z => ?_)
    · replace h := h.1 z
      refine am_wpb (c' := (57, [some (.ref 0), some (.int v1), some (.int r1), some (.long (L2 25 9)), none, some (.long (L2 25 10)), none, some (.int (-1)), some (.int 0)], [], (I2, L2, D2, am_rf (xt, xs, xi, xt, xu, xc)))) 12 rfl ?_
      exact am_fgt (l := [none, none, none, some (.long (L2 25 9)), none, some (.long (L2 25 10)), none, some (.int (-1)), some (.int 0)]) (am_le_of (am_leN (am_leN (am_leN (am_leS (am_leN (am_leS (am_leN (am_leS (am_leS (am_leZ))))))))))) h
    · replace h := h.2 z
      refine am_wpb (c' := (33, [some (.ref 0), some (.int v1), some (.int r1), none, none, none, none, none, none], [.int (-2)], (I2, L2, D2, am_rf (xt, xs, xi, xt, xu, xc)))) 1 rfl ?_
      exact am_ret_i rfl rfl h
  · replace h := h.2 z
    refine am_wpb (c' := (11, [some (.ref 0), some (.int v1), some (.int r1), none, none, none, none, none, none], [.int (-1)], (I1, L1, D1, am_rf (xt, xs, xi, xp, xu, xc)))) 1 rfl ?_
    exact am_ret_i rfl rfl h
theorem w101_57 {ext : Nat → List Value → am_M → Option am_R} {d : Nat} {P : am_R → Prop} (I : Nat → Nat → Int32) (L : Nat → Nat → Int64) (D : Nat → Nat → UInt64) (xc : Nat) (xi : Nat) (xs : Nat) (xt : Nat) (xu : Nat) (v3 : Int64) (v5 : Int64) (v7 : Int32) (v8 : Int32)
    (h : ((5 < v8 → (P (some (.int v7), (I, L, D, am_rf (xt, xs, xi, xt, xu, xc))))) ∧ (¬ 5 < v8 → (((¬ (v3 >>> ((Int32.toInt64 20) &&& 63)) = (v5 >>> ((Int32.toInt64 20) &&& 63)) → (am_wp ext d mz_101 (57, [none, none, none, some (.long (v3 * 10)), none, some (.long (v5 * 10)), none, some (.int v7), some (.int (v8 + 1))], [], (I, L, D, am_rf (xt, xs, xi, xt, xu, xc))) P)) ∧ ((v3 >>> ((Int32.toInt64 20) &&& 63)) = (v5 >>> ((Int32.toInt64 20) &&& 63)) → (am_wp ext d mz_101 (57, [none, none, none, some (.long (v3 * 10)), none, some (.long (v5 * 10)), none, some (.int v8), some (.int (v8 + 1))], [], (I, L, D, am_rf (xt, xs, xi, xt, xu, xc))) P))))))) : am_wp ext d mz_101 (57, [none, none, none, some (.long v3), none, some (.long v5), none, some (.int v7), some (.int v8)], [], (I, L, D, am_rf (xt, xs, xi, xt, xu, xc))) P := by
  refine am_wpb (c' := (60, [none, none, none, some (.long v3), none, some (.long v5), none, some (.int v7), some (.int v8)], [.int 5, .int v8], (I, L, D, am_rf (xt, xs, xi, xt, xu, xc)))) 2 rfl ?_
  refine am_b2_gt rfl (fun z => ?_) (fun z => ?_)
  · replace h := h.1 z
    refine am_wpb (c' := (102, [none, none, none, some (.long v3), none, some (.long v5), none, some (.int v7), some (.int v8)], [.int v7], (I, L, D, am_rf (xt, xs, xi, xt, xu, xc)))) 1 rfl ?_
    exact am_ret_i rfl rfl h
  · replace h := h.2 z
    refine am_wpb (c' := (72, [none, none, none, some (.long v3), none, some (.long v5), none, some (.int v7), some (.int v8)], [.long (v5 >>> ((Int32.toInt64 20) &&& 63)), .long (v3 >>> ((Int32.toInt64 20) &&& 63))], (I, L, D, am_rf (xt, xs, xi, xt, xu, xc)))) 6 rfl ?_
    refine am_lc_ne rfl rfl (fun z => ?_) (fun z => ?_)
    · replace h := h.1 z
      refine am_wpb (c' := (57, [none, none, none, some (.long (v3 * 10)), none, some (.long (v5 * 10)), none, some (.int v7), some (.int (v8 + 1))], [], (I, L, D, am_rf (xt, xs, xi, xt, xu, xc)))) 10 rfl ?_
      exact h
    · replace h := h.2 z
      refine am_wpb (c' := (57, [none, none, none, some (.long (v3 * 10)), none, some (.long (v5 * 10)), none, some (.int v8), some (.int (v8 + 1))], [], (I, L, D, am_rf (xt, xs, xi, xt, xu, xc)))) 12 rfl ?_
      exact h
/-- SureSums.exact(II)J -/
def mz_102 : am_Y := (fun pc => am_q102.lookup pc, 4, 3)
theorem mh_102 : am_Ys 102 = some mz_102 := rfl
theorem w102_0 {ext : Nat → List Value → am_M → Option am_R} {d : Nat} {P : am_R → Prop} (I : Nat → Nat → Int32) (L : Nat → Nat → Int64) (D : Nat → Nat → UInt64) (X : am_Rf) (v1 : Int32) (v2 : Int32)
    (h : ∃ (r1 : Int32) (I1 : Nat → Nat → Int32) (L1 : Nat → Nat → Int64) (D1 : Nat → Nat → UInt64), am_Rn ext d 111 [.ref 0, .int v1] (I, L, D, am_rf X) (some (.int r1), (I1, L1, D1, am_rf X)) ∧ (((r1 < 0 → (P (some (.long (-9223372036854775808)), (I1, L1, D1, am_rf X)))) ∧ (¬ r1 < 0 → (((v2 < 0 → (P (some (.long (-9223372036854775808)), (I1, L1, D1, am_rf X)))) ∧ (¬ v2 < 0 → (((1 < v2 → (P (some (.long (-9223372036854775808)), (I1, L1, D1, am_rf X)))) ∧ (¬ 1 < v2 → (∃ (r2 : Int32) (I2 : Nat → Nat → Int32) (L2 : Nat → Nat → Int64) (D2 : Nat → Nat → UInt64), am_Rn ext d 21 [.ref 29, .int r1] (I1, L1, D1, am_rf X) (some (.int r2), (I2, L2, D2, am_rf X)) ∧ (((¬ r2 = 0 → (((¬ v2 = 0 → (∃ (r3 : Int64) (I3 : Nat → Nat → Int32) (L3 : Nat → Nat → Int64) (D3 : Nat → Nat → UInt64), am_Rn ext d 23 [.ref 29, .int r1] (I2, L2, D2, am_rf X) (some (.long r3), (I3, L3, D3, am_rf X)) ∧ (P (some (.long r3), (I3, L3, D3, am_rf X))))) ∧ (v2 = 0 → (∃ (r4 : Int64) (I4 : Nat → Nat → Int32) (L4 : Nat → Nat → Int64) (D4 : Nat → Nat → UInt64), am_Rn ext d 22 [.ref 29, .int r1] (I2, L2, D2, am_rf X) (some (.long r4), (I4, L4, D4, am_rf X)) ∧ (P (some (.long r4), (I4, L4, D4, am_rf X)))))))) ∧ (r2 = 0 → (P (some (.long (-9223372036854775808)), (I2, L2, D2, am_rf X))))))))))))))))) : am_wp ext d mz_102 (0, [some (.ref 0), some (.int v1), some (.int v2), none], [], (I, L, D, am_rf X)) P := by
  refine am_wpb (c' := (2, [some (.ref 0), some (.int v1), some (.int v2), none], [.int v1, .ref 0], (I, L, D, am_rf X))) 2 rfl ?_
  obtain ⟨r1, I1, L1, D1, hr, h⟩ := h
  refine am_wp_inv (as := [.ref 0, .int v1]) rfl rfl rfl rfl ⟨_, hr, ?_⟩
  show am_wp ext d mz_102 (5, [some (.ref 0), some (.int v1), some (.int v2), none], [.int r1], (I1, L1, D1, am_rf X)) P
  refine am_wpb (c' := (7, [some (.ref 0), some (.int v1), some (.int v2), some (.int r1)], [.int r1], (I1, L1, D1, am_rf X))) 2 rfl ?_
  refine am_b1_lt rfl (fun z => ?_) (fun z => ?_)
  · replace h := h.1 z
    refine am_wpb (c' := (33, [some (.ref 0), some (.int v1), some (.int v2), some (.int r1)], [.long (-9223372036854775808)], (I1, L1, D1, am_rf X))) 1 rfl ?_
    exact am_ret_l rfl rfl h
  · replace h := h.2 z
    refine am_wpb (c' := (11, [some (.ref 0), some (.int v1), some (.int v2), some (.int r1)], [.int v2], (I1, L1, D1, am_rf X))) 1 rfl ?_
    refine am_b1_lt rfl (fun z => ?_) (fun z => ?_)
    · replace h := h.1 z
      refine am_wpb (c' := (33, [some (.ref 0), some (.int v1), some (.int v2), some (.int r1)], [.long (-9223372036854775808)], (I1, L1, D1, am_rf X))) 1 rfl ?_
      exact am_ret_l rfl rfl h
    · replace h := h.2 z
      refine am_wpb (c' := (16, [some (.ref 0), some (.int v1), some (.int v2), some (.int r1)], [.int 1, .int v2], (I1, L1, D1, am_rf X))) 2 rfl ?_
      refine am_b2_gt rfl (fun z => ?_) (fun z => ?_)
      · replace h := h.1 z
        refine am_wpb (c' := (33, [some (.ref 0), some (.int v1), some (.int v2), some (.int r1)], [.long (-9223372036854775808)], (I1, L1, D1, am_rf X))) 1 rfl ?_
        exact am_ret_l rfl rfl h
      · replace h := h.2 z
        refine am_wpb (c' := (24, [some (.ref 0), some (.int v1), some (.int v2), some (.int r1)], [.int r1, .ref 29], (I1, L1, D1, am_rf X))) 3 rfl ?_
        obtain ⟨r2, I2, L2, D2, hr, h⟩ := h
        refine am_wp_inv (as := [.ref 29, .int r1]) rfl rfl rfl rfl ⟨_, hr, ?_⟩
        show am_wp ext d mz_102 (27, [some (.ref 0), some (.int v1), some (.int v2), some (.int r1)], [.int r2], (I2, L2, D2, am_rf X)) P
        refine am_b1_ne rfl (fun z => ?_) (fun z => ?_)
        · replace h := h.1 z
          refine am_wpb (c' := (35, [some (.ref 0), some (.int v1), some (.int v2), some (.int r1)], [.int v2], (I2, L2, D2, am_rf X))) 1 rfl ?_
          refine am_b1_ne rfl (fun z => ?_) (fun z => ?_)
          · replace h := h.1 z
            refine am_wpb (c' := (54, [some (.ref 0), some (.int v1), some (.int v2), some (.int r1)], [.int r1, .ref 29], (I2, L2, D2, am_rf X))) 3 rfl ?_
            obtain ⟨r3, I3, L3, D3, hr, h⟩ := h
            refine am_wp_inv (as := [.ref 29, .int r1]) rfl rfl rfl rfl ⟨_, hr, ?_⟩
            show am_wp ext d mz_102 (57, [some (.ref 0), some (.int v1), some (.int v2), some (.int r1)], [.long r3], (I3, L3, D3, am_rf X)) P
            exact am_ret_l rfl rfl h
          · replace h := h.2 z
            refine am_wpb (c' := (43, [some (.ref 0), some (.int v1), some (.int v2), some (.int r1)], [.int r1, .ref 29], (I2, L2, D2, am_rf X))) 3 rfl ?_
            obtain ⟨r4, I4, L4, D4, hr, h⟩ := h
            refine am_wp_inv (as := [.ref 29, .int r1]) rfl rfl rfl rfl ⟨_, hr, ?_⟩
            show am_wp ext d mz_102 (46, [some (.ref 0), some (.int v1), some (.int v2), some (.int r1)], [.long r4], (I4, L4, D4, am_rf X)) P
            refine am_wpb (c' := (57, [some (.ref 0), some (.int v1), some (.int v2), some (.int r1)], [.long r4], (I4, L4, D4, am_rf X))) 1 rfl ?_
            exact am_ret_l rfl rfl h
        · replace h := h.2 z
          refine am_wpb (c' := (33, [some (.ref 0), some (.int v1), some (.int v2), some (.int r1)], [.long (-9223372036854775808)], (I2, L2, D2, am_rf X))) 1 rfl ?_
          exact am_ret_l rfl rfl h
/-- SureSums.compare(II)I -/
def mz_103 : am_Y := (fun pc => am_q103.lookup pc, 7, 1)
theorem mh_103 : am_Ys 103 = some mz_103 := rfl
theorem w103_0 {ext : Nat → List Value → am_M → Option am_R} {d : Nat} {P : am_R → Prop} (I : Nat → Nat → Int32) (L : Nat → Nat → Int64) (D : Nat → Nat → UInt64) (xc : Nat) (xi : Nat) (xp : Nat) (xs : Nat) (xt : Nat) (xu : Nat) (v1 : Int32) (v2 : Int32)
    (h : ∃ (r1 : Int32) (I1 : Nat → Nat → Int32) (L1 : Nat → Nat → Int64) (D1 : Nat → Nat → UInt64), am_Rn ext d 111 [.ref 0, .int v1] (I, L, D, am_rf (xt, xs, xi, xp, xu, xc)) (some (.int r1), (I1, L1, D1, am_rf (xt, xs, xi, xp, xu, xc))) ∧ (∃ (r2 : Int32) (I2 : Nat → Nat → Int32) (L2 : Nat → Nat → Int64) (D2 : Nat → Nat → UInt64), am_Rn ext d 111 [.ref 0, .int v2] (I1, L1, D1, am_rf (xt, xs, xi, xp, xu, xc)) (some (.int r2), (I2, L2, D2, am_rf (xt, xs, xi, xp, xu, xc))) ∧ (((r1 < 0 → (P (some (.int (-2147483648)), (I2, L2, D2, am_rf (xt, xs, xi, xp, xu, xc))))) ∧ (¬ r1 < 0 → (((0 ≤ r2 → (am_wp ext d mz_103 (28, [some (.ref 0), none, none, some (.int r1), some (.int r2), some (.int 4), none], [], (I2, L2, D2, am_rf (xt, xs, xi, xp, xu, xc))) P)) ∧ (¬ 0 ≤ r2 → (P (some (.int (-2147483648)), (I2, L2, D2, am_rf (xt, xs, xi, xp, xu, xc)))))))))))) : am_wp ext d mz_103 (0, [some (.ref 0), some (.int v1), some (.int v2), none, none, none, none], [], (I, L, D, am_rf (xt, xs, xi, xp, xu, xc))) P := by
  refine am_wpb (c' := (2, [some (.ref 0), some (.int v1), some (.int v2), none, none, none, none], [.int v1, .ref 0], (I, L, D, am_rf (xt, xs, xi, xp, xu, xc)))) 2 rfl ?_
  obtain ⟨r1, I1, L1, D1, hr, h⟩ := h
  refine am_wp_inv (as := [.ref 0, .int v1]) rfl rfl rfl rfl ⟨_, hr, ?_⟩
  show am_wp ext d mz_103 (5, [some (.ref 0), some (.int v1), some (.int v2), none, none, none, none], [.int r1], (I1, L1, D1, am_rf (xt, xs, xi, xp, xu, xc))) P
  refine am_wpb (c' := (8, [some (.ref 0), some (.int v1), some (.int v2), some (.int r1), none, none, none], [.int v2, .ref 0], (I1, L1, D1, am_rf (xt, xs, xi, xp, xu, xc)))) 3 rfl ?_
  obtain ⟨r2, I2, L2, D2, hr, h⟩ := h
  refine am_wp_inv (as := [.ref 0, .int v2]) rfl rfl rfl rfl ⟨_, hr, ?_⟩
  show am_wp ext d mz_103 (11, [some (.ref 0), some (.int v1), some (.int v2), some (.int r1), none, none, none], [.int r2], (I2, L2, D2, am_rf (xt, xs, xi, xp, xu, xc))) P
  refine am_wpb (c' := (14, [some (.ref 0), some (.int v1), some (.int v2), some (.int r1), some (.int r2), none, none], [.int r1], (I2, L2, D2, am_rf (xt, xs, xi, xp, xu, xc)))) 2 rfl ?_
  refine am_b1_lt rfl (fun z => ?_) (fun z => ?_)
  · replace h := h.1 z
    refine am_wpb (c' := (24, [some (.ref 0), some (.int v1), some (.int v2), some (.int r1), some (.int r2), none, none], [.int (-2147483648)], (I2, L2, D2, am_rf (xt, xs, xi, xp, xu, xc)))) 1 rfl ?_
    exact am_ret_i rfl rfl h
  · replace h := h.2 z
    refine am_wpb (c' := (19, [some (.ref 0), some (.int v1), some (.int v2), some (.int r1), some (.int r2), none, none], [.int r2], (I2, L2, D2, am_rf (xt, xs, xi, xp, xu, xc)))) 1 rfl ?_
    refine am_b1_ge rfl (fun z => ?_) (fun z => ?_)
    · replace h := h.1 z
      refine am_wpb (c' := (28, [some (.ref 0), some (.int v1), some (.int v2), some (.int r1), some (.int r2), some (.int 4), none], [], (I2, L2, D2, am_rf (xt, xs, xi, xp, xu, xc)))) 2 rfl ?_
      exact am_fgt (l := [some (.ref 0), none, none, some (.int r1), some (.int r2), some (.int 4), none]) (am_le_of (am_leS (am_leN (am_leN (am_leS (am_leS (am_leS (am_leN (am_leZ))))))))) h
    · replace h := h.2 z
      refine am_wpb (c' := (24, [some (.ref 0), some (.int v1), some (.int v2), some (.int r1), some (.int r2), none, none], [.int (-2147483648)], (I2, L2, D2, am_rf (xt, xs, xi, xp, xu, xc)))) 1 rfl ?_
      exact am_ret_i rfl rfl h
theorem w103_28 {ext : Nat → List Value → am_M → Option am_R} {d : Nat} {P : am_R → Prop} (I : Nat → Nat → Int32) (L : Nat → Nat → Int64) (D : Nat → Nat → UInt64) (xc : Nat) (xi : Nat) (xp : Nat) (xs : Nat) (xt : Nat) (xu : Nat) (v3 : Int32) (v4 : Int32) (v5 : Int32)
    (h : ((20 < v5 → (∃ (r1 : Int32) (I1 : Nat → Nat → Int32) (L1 : Nat → Nat → Int64) (D1 : Nat → Nat → UInt64), am_Rn ext d 24 [.ref 29, .int v3, .int v4] (I, L, D, am_rf (xt, xs, xi, xp, xu, xc)) (some (.int r1), (I1, L1, D1, am_rf (xt, xs, xi, xp, xu, xc))) ∧ (((r1 = 0 → (((¬ v3 = v4 → ((((0 : Int32) = 0 → (P (some (.int 1), (I1, L1, D1, am_rf (xt, xs, xi, xp, xu, xc))))) ∧ (¬ (0 : Int32) = 0 → (P (some (.int 0), (I1, L1, D1, am_rf (xt, xs, xi, xp, xu, xc)))))))) ∧ (v3 = v4 → (∃ (r2 : Int32) (I2 : Nat → Nat → Int32) (L2 : Nat → Nat → Int64) (D2 : Nat → Nat → UInt64), am_Rn ext d 60 [.ref 25, .ref xt, .int v3, .long 0, .long 0, .int 20] (I1, L1, D1, am_rf (xt, xs, xi, xp, xu, xc)) (some (.int r2), (I2, L2, D2, am_rf (xt, xs, xi, xt, xu, xc))) ∧ (((r2 = 0 → ((((0 : Int32) = 0 → (P (some (.int 1), (I2, L2, D2, am_rf (xt, xs, xi, xt, xu, xc))))) ∧ (¬ (0 : Int32) = 0 → (P (some (.int 0), (I2, L2, D2, am_rf (xt, xs, xi, xt, xu, xc)))))))) ∧ (¬ r2 = 0 → ((((1 : Int32) = 0 → (P (some (.int 1), (I2, L2, D2, am_rf (xt, xs, xi, xt, xu, xc))))) ∧ (¬ (1 : Int32) = 0 → (P (some (.int 0), (I2, L2, D2, am_rf (xt, xs, xi, xt, xu, xc))))))))))))))) ∧ (¬ r1 = 0 → (P (some (.int 0), (I1, L1, D1, am_rf (xt, xs, xi, xp, xu, xc))))))))) ∧ (¬ 20 < v5 → (∃ (xp3 : Nat) (r4 : Int32) (I4 : Nat → Nat → Int32) (L4 : Nat → Nat → Int64) (D4 : Nat → Nat → UInt64), am_Rn ext d 104 [.ref 0, .int v3, .int v4, .int v5] (I, L, D, am_rf (xt, xs, xi, xp, xu, xc)) (some (.int r4), (I4, L4, D4, am_rf (xt, xs, xi, xp3, xu, xc))) ∧ (((r4 = 0 → (am_wp ext d mz_103 (28, [some (.ref 0), none, none, some (.int v3), some (.int v4), some (.int (v5 + 4)), none], [], (I4, L4, D4, am_rf (xt, xs, xi, xp3, xu, xc))) P)) ∧ (¬ r4 = 0 → (P (some (.int r4), (I4, L4, D4, am_rf (xt, xs, xi, xp3, xu, xc))))))))))) : am_wp ext d mz_103 (28, [some (.ref 0), none, none, some (.int v3), some (.int v4), some (.int v5), none], [], (I, L, D, am_rf (xt, xs, xi, xp, xu, xc))) P := by
  refine am_wpb (c' := (32, [some (.ref 0), none, none, some (.int v3), some (.int v4), some (.int v5), none], [.int 20, .int v5], (I, L, D, am_rf (xt, xs, xi, xp, xu, xc)))) 2 rfl ?_
  refine am_b2_gt rfl (fun z => ?_) (fun z => ?_)
  · replace h := h.1 z
    refine am_wpb (c' := (67, [some (.ref 0), none, none, some (.int v3), some (.int v4), some (.int v5), none], [.int v4, .int v3, .ref 29], (I, L, D, am_rf (xt, xs, xi, xp, xu, xc)))) 4 rfl ?_
    obtain ⟨r1, I1, L1, D1, hr, h⟩ := h
    refine am_wp_inv (as := [.ref 29, .int v3, .int v4]) rfl rfl rfl rfl ⟨_, hr, ?_⟩
    show am_wp ext d mz_103 (70, [some (.ref 0), none, none, some (.int v3), some (.int v4), some (.int v5), none], [.int r1], (I1, L1, D1, am_rf (xt, xs, xi, xp, xu, xc))) P
    refine am_b1_eq rfl (fun z => ?_) (fun z => ?_)
    · replace h := h.1 z
      refine am_wpb (c' := (78, [some (.ref 0), none, none, some (.int v3), some (.int v4), some (.int v5), none], [.int v4, .int v3], (I1, L1, D1, am_rf (xt, xs, xi, xp, xu, xc)))) 2 rfl ?_
      refine am_b2_ne rfl (fun z => ?_) (fun z => ?_)
      · replace h := h.1 z
        refine am_wpb (c' := (109, [some (.ref 0), none, none, some (.int v3), some (.int v4), some (.int 0), none], [.int 0], (I1, L1, D1, am_rf (xt, xs, xi, xp, xu, xc)))) 3 rfl ?_
        refine am_b1_eq rfl (fun z => ?_) (fun z => ?_)
        · replace h := h.1 z
          refine am_wpb (c' := (117, [some (.ref 0), none, none, some (.int v3), some (.int v4), some (.int 0), none], [.int 1], (I1, L1, D1, am_rf (xt, xs, xi, xp, xu, xc)))) 1 rfl ?_
          exact am_ret_i rfl rfl h
        · replace h := h.2 z
          refine am_wpb (c' := (117, [some (.ref 0), none, none, some (.int v3), some (.int v4), some (.int 0), none], [.int 0], (I1, L1, D1, am_rf (xt, xs, xi, xp, xu, xc)))) 2 rfl ?_
          exact am_ret_i rfl rfl h
      · replace h := h.2 z
        refine am_wpb (c' := (94, [some (.ref 0), none, none, some (.int v3), some (.int v4), some (.int v5), none], [.int 20, .long 0, .long 0, .int v3, .ref xt, .ref 25], (I1, L1, D1, am_rf (xt, xs, xi, xp, xu, xc)))) 8 rfl ?_
        obtain ⟨r2, I2, L2, D2, hr, h⟩ := h
        refine am_wp_inv (as := [.ref 25, .ref xt, .int v3, .long 0, .long 0, .int 20]) rfl rfl rfl rfl ⟨_, hr, ?_⟩
        show am_wp ext d mz_103 (97, [some (.ref 0), none, none, some (.int v3), some (.int v4), some (.int v5), none], [.int r2], (I2, L2, D2, am_rf (xt, xs, xi, xt, xu, xc))) P
        refine am_b1_eq rfl (fun z => ?_) (fun z => ?_)
        · replace h := h.1 z
          refine am_wpb (c' := (109, [some (.ref 0), none, none, some (.int v3), some (.int v4), some (.int 0), none], [.int 0], (I2, L2, D2, am_rf (xt, xs, xi, xt, xu, xc)))) 3 rfl ?_
          refine am_b1_eq rfl (fun z => ?_) (fun z => ?_)
          · replace h := h.1 z
            refine am_wpb (c' := (117, [some (.ref 0), none, none, some (.int v3), some (.int v4), some (.int 0), none], [.int 1], (I2, L2, D2, am_rf (xt, xs, xi, xt, xu, xc)))) 1 rfl ?_
            exact am_ret_i rfl rfl h
          · replace h := h.2 z
            refine am_wpb (c' := (117, [some (.ref 0), none, none, some (.int v3), some (.int v4), some (.int 0), none], [.int 0], (I2, L2, D2, am_rf (xt, xs, xi, xt, xu, xc)))) 2 rfl ?_
            exact am_ret_i rfl rfl h
        · replace h := h.2 z
          refine am_wpb (c' := (109, [some (.ref 0), none, none, some (.int v3), some (.int v4), some (.int 1), none], [.int 1], (I2, L2, D2, am_rf (xt, xs, xi, xt, xu, xc)))) 4 rfl ?_
          refine am_b1_eq rfl (fun z => ?_) (fun z => ?_)
          · replace h := h.1 z
            refine am_wpb (c' := (117, [some (.ref 0), none, none, some (.int v3), some (.int v4), some (.int 1), none], [.int 1], (I2, L2, D2, am_rf (xt, xs, xi, xt, xu, xc)))) 1 rfl ?_
            exact am_ret_i rfl rfl h
          · replace h := h.2 z
            refine am_wpb (c' := (117, [some (.ref 0), none, none, some (.int v3), some (.int v4), some (.int 1), none], [.int 0], (I2, L2, D2, am_rf (xt, xs, xi, xt, xu, xc)))) 2 rfl ?_
            exact am_ret_i rfl rfl h
    · replace h := h.2 z
      refine am_wpb (c' := (74, [some (.ref 0), none, none, some (.int v3), some (.int v4), some (.int v5), none], [.int 0], (I1, L1, D1, am_rf (xt, xs, xi, xp, xu, xc)))) 1 rfl ?_
      exact am_ret_i rfl rfl h
  · replace h := h.2 z
    refine am_wpb (c' := (41, [some (.ref 0), none, none, some (.int v3), some (.int v4), some (.int v5), none], [.int v5, .int v4, .int v3, .ref 0], (I, L, D, am_rf (xt, xs, xi, xp, xu, xc)))) 4 rfl ?_
    obtain ⟨xp3, r4, I4, L4, D4, hr, h⟩ := h
    refine am_wp_inv (as := [.ref 0, .int v3, .int v4, .int v5]) rfl rfl rfl rfl ⟨_, hr, ?_⟩
    show am_wp ext d mz_103 (44, [some (.ref 0), none, none, some (.int v3), some (.int v4), some (.int v5), none], [.int r4], (I4, L4, D4, am_rf (xt, xs, xi, xp3, xu, xc))) P
    refine am_wpb (c' := (48, [some (.ref 0), none, none, some (.int v3), some (.int v4), some (.int v5), some (.int r4)], [.int r4], (I4, L4, D4, am_rf (xt, xs, xi, xp3, xu, xc)))) 2 rfl ?_
    refine am_b1_eq rfl (fun z => ?_) (fun z => ?_)
    · replace h := h.1 z
      refine am_wpb (c' := (28, [some (.ref 0), none, none, some (.int v3), some (.int v4), some (.int (v5 + 4)), some (.int r4)], [], (I4, L4, D4, am_rf (xt, xs, xi, xp3, xu, xc)))) 2 rfl ?_
      exact am_fgt (l := [some (.ref 0), none, none, some (.int v3), some (.int v4), some (.int (v5 + 4)), none]) (am_le_of (am_leS (am_leN (am_leN (am_leS (am_leS (am_leS (am_leN (am_leZ))))))))) h
    · replace h := h.2 z
      refine am_wpb (c' := (53, [some (.ref 0), none, none, some (.int v3), some (.int v4), some (.int v5), some (.int r4)], [.int r4], (I4, L4, D4, am_rf (xt, xs, xi, xp3, xu, xc)))) 1 rfl ?_
      exact am_ret_i rfl rfl h
/-- SureSums.apartBy(III)I -/
def mz_104 : am_Y := (fun pc => am_q104.lookup pc, 8, 1)
theorem mh_104 : am_Ys 104 = some mz_104 := rfl
theorem w104_0 {ext : Nat → List Value → am_M → Option am_R} {d : Nat} {P : am_R → Prop} (I : Nat → Nat → Int32) (L : Nat → Nat → Int64) (D : Nat → Nat → UInt64) (xc : Nat) (xi : Nat) (xp : Nat) (xs : Nat) (xt : Nat) (xu : Nat) (v1 : Int32) (v2 : Int32) (v3 : Int32)
    (h : ((v1 = v2 → (P (some (.int 0), (I, L, D, am_rf (xt, xs, xi, xp, xu, xc))))) ∧ (¬ v1 = v2 → (∃ (r1 : Int32) (I1 : Nat → Nat → Int32) (L1 : Nat → Nat → Int64) (D1 : Nat → Nat → UInt64), am_Rn ext d 60 [.ref 25, .ref xt, .int v1, .long 0, .long 0, .int v3] (I, L, D, am_rf (xt, xs, xi, xp, xu, xc)) (some (.int r1), (I1, L1, D1, am_rf (xt, xs, xi, xt, xu, xc))) ∧ (((¬ r1 = 0 → (∃ (r2 : Int32) (I2 : Nat → Nat → Int32) (L2 : Nat → Nat → Int64) (D2 : Nat → Nat → UInt64), am_Rn ext d 60 [.ref 25, .ref xt, .int v2, .long 0, .long 0, .int v3] (I1, L1, D1, am_rf (xt, xs, xi, xt, xu, xc)) (some (.int r2), (I2, L2, D2, am_rf (xt, xs, xi, xt, xu, xc))) ∧ (((¬ r2 = 0 → ((((L2 25 9) ≤ (L1 25 10) → ((((L1 25 9) ≤ (L2 25 10) → (P (some (.int 0), (I2, L2, D2, am_rf (xt, xs, xi, xt, xu, xc))))) ∧ (¬ (L1 25 9) ≤ (L2 25 10) → (P (some (.int (-v3)), (I2, L2, D2, am_rf (xt, xs, xi, xt, xu, xc)))))))) ∧ (¬ (L2 25 9) ≤ (L1 25 10) → (P (some (.int v3), (I2, L2, D2, am_rf (xt, xs, xi, xt, xu, xc)))))))) ∧ (r2 = 0 → (P (some (.int 0), (I2, L2, D2, am_rf (xt, xs, xi, xt, xu, xc))))))))) ∧ (r1 = 0 → (P (some (.int 0), (I1, L1, D1, am_rf (xt, xs, xi, xt, xu, xc))))))))))) : am_wp ext d mz_104 (0, [some (.ref 0), some (.int v1), some (.int v2), some (.int v3), none, none, none, none], [], (I, L, D, am_rf (xt, xs, xi, xp, xu, xc))) P := by
  refine am_wpb (c' := (2, [some (.ref 0), some (.int v1), some (.int v2), some (.int v3), none, none, none, none], [.int v2, .int v1], (I, L, D, am_rf (xt, xs, xi, xp, xu, xc)))) 2 rfl ?_
  refine am_b2_eq rfl (fun z => ?_) (fun z => ?_)
  · replace h := h.1 z
    refine am_wpb (c' := (24, [some (.ref 0), some (.int v1), some (.int v2), some (.int v3), none, none, none, none], [.int 0], (I, L, D, am_rf (xt, xs, xi, xp, xu, xc)))) 1 rfl ?_
    exact am_ret_i rfl rfl h
  · replace h := h.2 z
    refine am_wpb (c' := (17, [some (.ref 0), some (.int v1), some (.int v2), some (.int v3), none, none, none, none], [.int v3, .long 0, .long 0, .int v1, .ref xt, .ref 25], (I, L, D, am_rf (xt, xs, xi, xp, xu, xc)))) 8 rfl ?_
    obtain ⟨r1, I1, L1, D1, hr, h⟩ := h
    refine am_wp_inv (as := [.ref 25, .ref xt, .int v1, .long 0, .long 0, .int v3]) rfl rfl rfl rfl ⟨_, hr, ?_⟩
    show am_wp ext d mz_104 (20, [some (.ref 0), some (.int v1), some (.int v2), some (.int v3), none, none, none, none], [.int r1], (I1, L1, D1, am_rf (xt, xs, xi, xt, xu, xc))) P
    refine am_b1_ne rfl (fun z => ?_) (fun z => ?_)
    · replace h := h.1 z
      refine am_wpb (c' := (55, [some (.ref 0), some (.int v1), some (.int v2), some (.int v3), some (.long (L1 25 9)), none, some (.long (L1 25 10)), none], [.int v3, .long 0, .long 0, .int v2, .ref xt, .ref 25], (I1, L1, D1, am_rf (xt, xs, xi, xt, xu, xc)))) 16 rfl ?_
      obtain ⟨r2, I2, L2, D2, hr, h⟩ := h
      refine am_wp_inv (as := [.ref 25, .ref xt, .int v2, .long 0, .long 0, .int v3]) rfl rfl rfl rfl ⟨_, hr, ?_⟩
      show am_wp ext d mz_104 (58, [some (.ref 0), some (.int v1), some (.int v2), some (.int v3), some (.long (L1 25 9)), none, some (.long (L1 25 10)), none], [.int r2], (I2, L2, D2, am_rf (xt, xs, xi, xt, xu, xc))) P
      refine am_b1_ne rfl (fun z => ?_) (fun z => ?_)
      · replace h := h.1 z
        refine am_wpb (c' := (72, [some (.ref 0), some (.int v1), some (.int v2), some (.int v3), some (.long (L1 25 9)), none, some (.long (L1 25 10)), none], [.long (L2 25 9), .long (L1 25 10)], (I2, L2, D2, am_rf (xt, xs, xi, xt, xu, xc)))) 4 rfl ?_
        refine am_lc_ge rfl rfl (fun z => ?_) (fun z => ?_)
        · replace h := h.1 z
          refine am_wpb (c' := (87, [some (.ref 0), some (.int v1), some (.int v2), some (.int v3), some (.long (L1 25 9)), none, some (.long (L1 25 10)), none], [.long (L1 25 9), .long (L2 25 10)], (I2, L2, D2, am_rf (xt, xs, xi, xt, xu, xc)))) 4 rfl ?_
          refine am_lc_ge rfl rfl (fun z => ?_) (fun z => ?_)
          · replace h := h.1 z
            refine am_wpb (c' := (97, [some (.ref 0), some (.int v1), some (.int v2), some (.int v3), some (.long (L1 25 9)), none, some (.long (L1 25 10)), none], [.int 0], (I2, L2, D2, am_rf (xt, xs, xi, xt, xu, xc)))) 1 rfl ?_
            exact am_ret_i rfl rfl h
          · replace h := h.2 z
            refine am_wpb (c' := (97, [some (.ref 0), some (.int v1), some (.int v2), some (.int v3), some (.long (L1 25 9)), none, some (.long (L1 25 10)), none], [.int (-v3)], (I2, L2, D2, am_rf (xt, xs, xi, xt, xu, xc)))) 3 rfl ?_
            exact am_ret_i rfl rfl h
        · replace h := h.2 z
          refine am_wpb (c' := (77, [some (.ref 0), some (.int v1), some (.int v2), some (.int v3), some (.long (L1 25 9)), none, some (.long (L1 25 10)), none], [.int v3], (I2, L2, D2, am_rf (xt, xs, xi, xt, xu, xc)))) 1 rfl ?_
          exact am_ret_i rfl rfl h
      · replace h := h.2 z
        refine am_wpb (c' := (62, [some (.ref 0), some (.int v1), some (.int v2), some (.int v3), some (.long (L1 25 9)), none, some (.long (L1 25 10)), none], [.int 0], (I2, L2, D2, am_rf (xt, xs, xi, xt, xu, xc)))) 1 rfl ?_
        exact am_ret_i rfl rfl h
    · replace h := h.2 z
      refine am_wpb (c' := (24, [some (.ref 0), some (.int v1), some (.int v2), some (.int v3), none, none, none, none], [.int 0], (I1, L1, D1, am_rf (xt, xs, xi, xt, xu, xc)))) 1 rfl ?_
      exact am_ret_i rfl rfl h
/-- SureSums.where(III)I -/
def mz_105 : am_Y := (fun pc => am_q105.lookup pc, 5, 1)
theorem mh_105 : am_Ys 105 = some mz_105 := rfl
theorem w105_0 {ext : Nat → List Value → am_M → Option am_R} {d : Nat} {P : am_R → Prop} (I : Nat → Nat → Int32) (L : Nat → Nat → Int64) (D : Nat → Nat → UInt64) (xc : Nat) (xi : Nat) (xp : Nat) (xs : Nat) (xt : Nat) (xu : Nat) (v1 : Int32) (v2 : Int32) (v3 : Int32)
    (h : ∃ (r1 : Int32) (I1 : Nat → Nat → Int32) (L1 : Nat → Nat → Int64) (D1 : Nat → Nat → UInt64), am_Rn ext d 112 [.ref 0, .int v1] (I, L, D, am_rf (xt, xs, xi, xp, xu, xc)) (some (.int r1), (I1, L1, D1, am_rf (xt, xs, xi, xp, xu, xc))) ∧ (((r1 < 0 → (P (some (.int 0), (I1, L1, D1, am_rf (xt, xs, xi, xp, xu, xc))))) ∧ (¬ r1 < 0 → (((v2 < (-64) → (P (some (.int 0), (I1, L1, D1, am_rf (xt, xs, xi, xp, xu, xc))))) ∧ (¬ v2 < (-64) → (((64 < v3 → (P (some (.int 0), (I1, L1, D1, am_rf (xt, xs, xi, xp, xu, xc))))) ∧ (¬ 64 < v3 → (((v2 < v3 → (∃ (r2 : Int32) (I2 : Nat → Nat → Int32) (L2 : Nat → Nat → Int64) (D2 : Nat → Nat → UInt64), am_Rn ext d 0 [.ref 39, .ref xt, .int r1, .int v2, .int v3] (I1, L1, D1, am_rf (xt, xs, xi, xp, xu, xc)) (some (.int r2), (I2, L2, D2, am_rf (xt, xs, xi, xt, xu, xc))) ∧ (P (some (.int r2), (I2, L2, D2, am_rf (xt, xs, xi, xt, xu, xc)))))) ∧ (¬ v2 < v3 → (P (some (.int 0), (I1, L1, D1, am_rf (xt, xs, xi, xp, xu, xc))))))))))))))))) : am_wp ext d mz_105 (0, [some (.ref 0), some (.int v1), some (.int v2), some (.int v3), none], [], (I, L, D, am_rf (xt, xs, xi, xp, xu, xc))) P := by
  refine am_wpb (c' := (2, [some (.ref 0), some (.int v1), some (.int v2), some (.int v3), none], [.int v1, .ref 0], (I, L, D, am_rf (xt, xs, xi, xp, xu, xc)))) 2 rfl ?_
  obtain ⟨r1, I1, L1, D1, hr, h⟩ := h
  refine am_wp_inv (as := [.ref 0, .int v1]) rfl rfl rfl rfl ⟨_, hr, ?_⟩
  show am_wp ext d mz_105 (5, [some (.ref 0), some (.int v1), some (.int v2), some (.int v3), none], [.int r1], (I1, L1, D1, am_rf (xt, xs, xi, xp, xu, xc))) P
  refine am_wpb (c' := (9, [some (.ref 0), some (.int v1), some (.int v2), some (.int v3), some (.int r1)], [.int r1], (I1, L1, D1, am_rf (xt, xs, xi, xp, xu, xc)))) 2 rfl ?_
  refine am_b1_lt rfl (fun z => ?_) (fun z => ?_)
  · replace h := h.1 z
    refine am_wpb (c' := (30, [some (.ref 0), some (.int v1), some (.int v2), some (.int v3), some (.int r1)], [.int 0], (I1, L1, D1, am_rf (xt, xs, xi, xp, xu, xc)))) 1 rfl ?_
    exact am_ret_i rfl rfl h
  · replace h := h.2 z
    refine am_wpb (c' := (15, [some (.ref 0), some (.int v1), some (.int v2), some (.int v3), some (.int r1)], [.int (-64), .int v2], (I1, L1, D1, am_rf (xt, xs, xi, xp, xu, xc)))) 2 rfl ?_
    refine am_b2_lt rfl (fun z => ?_) (fun z => ?_)
    · replace h := h.1 z
      refine am_wpb (c' := (30, [some (.ref 0), some (.int v1), some (.int v2), some (.int v3), some (.int r1)], [.int 0], (I1, L1, D1, am_rf (xt, xs, xi, xp, xu, xc)))) 1 rfl ?_
      exact am_ret_i rfl rfl h
    · replace h := h.2 z
      refine am_wpb (c' := (21, [some (.ref 0), some (.int v1), some (.int v2), some (.int v3), some (.int r1)], [.int 64, .int v3], (I1, L1, D1, am_rf (xt, xs, xi, xp, xu, xc)))) 2 rfl ?_
      refine am_b2_gt rfl (fun z => ?_) (fun z => ?_)
      · replace h := h.1 z
        refine am_wpb (c' := (30, [some (.ref 0), some (.int v1), some (.int v2), some (.int v3), some (.int r1)], [.int 0], (I1, L1, D1, am_rf (xt, xs, xi, xp, xu, xc)))) 1 rfl ?_
        exact am_ret_i rfl rfl h
      · replace h := h.2 z
        refine am_wpb (c' := (26, [some (.ref 0), some (.int v1), some (.int v2), some (.int v3), some (.int r1)], [.int v3, .int v2], (I1, L1, D1, am_rf (xt, xs, xi, xp, xu, xc)))) 2 rfl ?_
        refine am_b2_lt rfl (fun z => ?_) (fun z => ?_)
        · replace h := h.1 z
          refine am_wpb (c' := (43, [some (.ref 0), some (.int v1), some (.int v2), some (.int v3), some (.int r1)], [.int v3, .int v2, .int r1, .ref xt, .ref 39], (I1, L1, D1, am_rf (xt, xs, xi, xp, xu, xc)))) 7 rfl ?_
          obtain ⟨r2, I2, L2, D2, hr, h⟩ := h
          refine am_wp_inv (as := [.ref 39, .ref xt, .int r1, .int v2, .int v3]) rfl rfl rfl rfl ⟨_, hr, ?_⟩
          show am_wp ext d mz_105 (46, [some (.ref 0), some (.int v1), some (.int v2), some (.int v3), some (.int r1)], [.int r2], (I2, L2, D2, am_rf (xt, xs, xi, xt, xu, xc))) P
          exact am_ret_i rfl rfl h
        · replace h := h.2 z
          refine am_wpb (c' := (30, [some (.ref 0), some (.int v1), some (.int v2), some (.int v3), some (.int r1)], [.int 0], (I1, L1, D1, am_rf (xt, xs, xi, xp, xu, xc)))) 1 rfl ?_
          exact am_ret_i rfl rfl h
/-- SureSums.dot(III)I -/
def mz_106 : am_Y := (fun pc => am_q106.lookup pc, 5, 1)
theorem mh_106 : am_Ys 106 = some mz_106 := rfl
theorem w106_0 {ext : Nat → List Value → am_M → Option am_R} {d : Nat} {P : am_R → Prop} (I : Nat → Nat → Int32) (L : Nat → Nat → Int64) (D : Nat → Nat → UInt64) (xc : Nat) (xi : Nat) (xp : Nat) (xs : Nat) (xt : Nat) (xu : Nat) (v1 : Int32) (v2 : Int32) (v3 : Int32)
    (h : ∃ (r1 : Int32) (I1 : Nat → Nat → Int32) (L1 : Nat → Nat → Int64) (D1 : Nat → Nat → UInt64), am_Rn ext d 112 [.ref 0, .int v1] (I, L, D, am_rf (xt, xs, xi, xp, xu, xc)) (some (.int r1), (I1, L1, D1, am_rf (xt, xs, xi, xp, xu, xc))) ∧ (((r1 < 0 → (P (some (.int (-1)), (I1, L1, D1, am_rf (xt, xs, xi, xp, xu, xc))))) ∧ (¬ r1 < 0 → (∃ (r2 : Int32) (I2 : Nat → Nat → Int32) (L2 : Nat → Nat → Int64) (D2 : Nat → Nat → UInt64), am_Rn ext d 114 [.int v2] (I1, L1, D1, am_rf (xt, xs, xi, xp, xu, xc)) (some (.int r2), (I2, L2, D2, am_rf (xt, xs, xi, xp, xu, xc))) ∧ (((r2 = 0 → (P (some (.int (-1)), (I2, L2, D2, am_rf (xt, xs, xi, xp, xu, xc))))) ∧ (¬ r2 = 0 → (∃ (r3 : Int32) (I3 : Nat → Nat → Int32) (L3 : Nat → Nat → Int64) (D3 : Nat → Nat → UInt64), am_Rn ext d 114 [.int v3] (I2, L2, D2, am_rf (xt, xs, xi, xp, xu, xc)) (some (.int r3), (I3, L3, D3, am_rf (xt, xs, xi, xp, xu, xc))) ∧ (((¬ r3 = 0 → (∃ (I4 : Nat → Nat → Int32) (L4 : Nat → Nat → Int64) (D4 : Nat → Nat → UInt64), am_Rn ext d 1 [.ref 39, .ref xt, .int r1, .int v2] (I3, L3, D3, am_rf (xt, xs, xi, xp, xu, xc)) (none, (I4, L4, D4, am_rf (xt, xs, xi, xt, xu, xt))) ∧ (∃ (r5 : Int32) (I5 : Nat → Nat → Int32) (L5 : Nat → Nat → Int64) (D5 : Nat → Nat → UInt64), am_Rn ext d 2 [.ref 39, .int v3] (I4, L4, D4, am_rf (xt, xs, xi, xt, xu, xt)) (some (.int r5), (I5, L5, D5, am_rf (xt, xs, xi, 2, xu, xt))) ∧ (P (some (.int r5), (I5, L5, D5, am_rf (xt, xs, xi, 2, xu, xt))))))) ∧ (r3 = 0 → (P (some (.int (-1)), (I3, L3, D3, am_rf (xt, xs, xi, xp, xu, xc)))))))))))))))) : am_wp ext d mz_106 (0, [some (.ref 0), some (.int v1), some (.int v2), some (.int v3), none], [], (I, L, D, am_rf (xt, xs, xi, xp, xu, xc))) P := by
  refine am_wpb (c' := (2, [some (.ref 0), some (.int v1), some (.int v2), some (.int v3), none], [.int v1, .ref 0], (I, L, D, am_rf (xt, xs, xi, xp, xu, xc)))) 2 rfl ?_
  obtain ⟨r1, I1, L1, D1, hr, h⟩ := h
  refine am_wp_inv (as := [.ref 0, .int v1]) rfl rfl rfl rfl ⟨_, hr, ?_⟩
  show am_wp ext d mz_106 (5, [some (.ref 0), some (.int v1), some (.int v2), some (.int v3), none], [.int r1], (I1, L1, D1, am_rf (xt, xs, xi, xp, xu, xc))) P
  refine am_wpb (c' := (9, [some (.ref 0), some (.int v1), some (.int v2), some (.int v3), some (.int r1)], [.int r1], (I1, L1, D1, am_rf (xt, xs, xi, xp, xu, xc)))) 2 rfl ?_
  refine am_b1_lt rfl (fun z => ?_) (fun z => ?_)
  · replace h := h.1 z
    refine am_wpb (c' := (27, [some (.ref 0), some (.int v1), some (.int v2), some (.int v3), some (.int r1)], [.int (-1)], (I1, L1, D1, am_rf (xt, xs, xi, xp, xu, xc)))) 1 rfl ?_
    exact am_ret_i rfl rfl h
  · replace h := h.2 z
    refine am_wpb (c' := (13, [some (.ref 0), some (.int v1), some (.int v2), some (.int v3), some (.int r1)], [.int v2], (I1, L1, D1, am_rf (xt, xs, xi, xp, xu, xc)))) 1 rfl ?_
    obtain ⟨r2, I2, L2, D2, hr, h⟩ := h
    refine am_wp_inv (as := [.int v2]) rfl rfl rfl rfl ⟨_, hr, ?_⟩
    show am_wp ext d mz_106 (16, [some (.ref 0), some (.int v1), some (.int v2), some (.int v3), some (.int r1)], [.int r2], (I2, L2, D2, am_rf (xt, xs, xi, xp, xu, xc))) P
    refine am_b1_eq rfl (fun z => ?_) (fun z => ?_)
    · replace h := h.1 z
      refine am_wpb (c' := (27, [some (.ref 0), some (.int v1), some (.int v2), some (.int v3), some (.int r1)], [.int (-1)], (I2, L2, D2, am_rf (xt, xs, xi, xp, xu, xc)))) 1 rfl ?_
      exact am_ret_i rfl rfl h
    · replace h := h.2 z
      refine am_wpb (c' := (20, [some (.ref 0), some (.int v1), some (.int v2), some (.int v3), some (.int r1)], [.int v3], (I2, L2, D2, am_rf (xt, xs, xi, xp, xu, xc)))) 1 rfl ?_
      obtain ⟨r3, I3, L3, D3, hr, h⟩ := h
      refine am_wp_inv (as := [.int v3]) rfl rfl rfl rfl ⟨_, hr, ?_⟩
      show am_wp ext d mz_106 (23, [some (.ref 0), some (.int v1), some (.int v2), some (.int v3), some (.int r1)], [.int r3], (I3, L3, D3, am_rf (xt, xs, xi, xp, xu, xc))) P
      refine am_b1_ne rfl (fun z => ?_) (fun z => ?_)
      · replace h := h.1 z
        refine am_wpb (c' := (39, [some (.ref 0), some (.int v1), some (.int v2), some (.int v3), some (.int r1)], [.int v2, .int r1, .ref xt, .ref 39], (I3, L3, D3, am_rf (xt, xs, xi, xp, xu, xc)))) 6 rfl ?_
        obtain ⟨I4, L4, D4, hr, h⟩ := h
        refine am_wp_inv (as := [.ref 39, .ref xt, .int r1, .int v2]) rfl rfl rfl rfl ⟨_, hr, ?_⟩
        show am_wp ext d mz_106 (42, [some (.ref 0), some (.int v1), some (.int v2), some (.int v3), some (.int r1)], [], (I4, L4, D4, am_rf (xt, xs, xi, xt, xu, xt))) P
        refine am_wpb (c' := (47, [some (.ref 0), some (.int v1), some (.int v2), some (.int v3), some (.int r1)], [.int v3, .ref 39], (I4, L4, D4, am_rf (xt, xs, xi, xt, xu, xt)))) 3 rfl ?_
        obtain ⟨r5, I5, L5, D5, hr, h⟩ := h
        refine am_wp_inv (as := [.ref 39, .int v3]) rfl rfl rfl rfl ⟨_, hr, ?_⟩
        show am_wp ext d mz_106 (50, [some (.ref 0), some (.int v1), some (.int v2), some (.int v3), some (.int r1)], [.int r5], (I5, L5, D5, am_rf (xt, xs, xi, 2, xu, xt))) P
        exact am_ret_i rfl rfl h
      · replace h := h.2 z
        refine am_wpb (c' := (27, [some (.ref 0), some (.int v1), some (.int v2), some (.int v3), some (.int r1)], [.int (-1)], (I3, L3, D3, am_rf (xt, xs, xi, xp, xu, xc)))) 1 rfl ?_
        exact am_ret_i rfl rfl h
/-- SureSums.dots(IIIII)I -/
def mz_107 : am_Y := (fun pc => am_q107.lookup pc, 10, 1)
theorem mh_107 : am_Ys 107 = some mz_107 := rfl
theorem w107_0 {ext : Nat → List Value → am_M → Option am_R} {d : Nat} {P : am_R → Prop} (I : Nat → Nat → Int32) (L : Nat → Nat → Int64) (D : Nat → Nat → UInt64) (xc : Nat) (xi : Nat) (xp : Nat) (xs : Nat) (xt : Nat) (xu : Nat) (v1 : Int32) (v2 : Int32) (v3 : Int32) (v4 : Int32) (v5 : Int32)
    (h : ∃ (r1 : Int32) (I1 : Nat → Nat → Int32) (L1 : Nat → Nat → Int64) (D1 : Nat → Nat → UInt64), am_Rn ext d 112 [.ref 0, .int v1] (I, L, D, am_rf (xt, xs, xi, xp, xu, xc)) (some (.int r1), (I1, L1, D1, am_rf (xt, xs, xi, xp, xu, xc))) ∧ (((r1 < 0 → (P (some (.int (-1)), (I1, L1, D1, am_rf (xt, xs, xi, xp, xu, xc))))) ∧ (¬ r1 < 0 → (∃ (r2 : Int32) (I2 : Nat → Nat → Int32) (L2 : Nat → Nat → Int64) (D2 : Nat → Nat → UInt64), am_Rn ext d 114 [.int v2] (I1, L1, D1, am_rf (xt, xs, xi, xp, xu, xc)) (some (.int r2), (I2, L2, D2, am_rf (xt, xs, xi, xp, xu, xc))) ∧ (((r2 = 0 → (P (some (.int (-1)), (I2, L2, D2, am_rf (xt, xs, xi, xp, xu, xc))))) ∧ (¬ r2 = 0 → (∃ (r3 : Int32) (I3 : Nat → Nat → Int32) (L3 : Nat → Nat → Int64) (D3 : Nat → Nat → UInt64), am_Rn ext d 114 [.int v3] (I2, L2, D2, am_rf (xt, xs, xi, xp, xu, xc)) (some (.int r3), (I3, L3, D3, am_rf (xt, xs, xi, xp, xu, xc))) ∧ (((¬ r3 = 0 → (((v4 < 1 → (P (some (.int (-1)), (I3, L3, D3, am_rf (xt, xs, xi, xp, xu, xc))))) ∧ (¬ v4 < 1 → (((16 < v4 → (P (some (.int (-1)), (I3, L3, D3, am_rf (xt, xs, xi, xp, xu, xc))))) ∧ (¬ 16 < v4 → (((v5 < 0 → (P (some (.int (-1)), (I3, L3, D3, am_rf (xt, xs, xi, xp, xu, xc))))) ∧ (¬ v5 < 0 → (((v5 ≤ 2 → (am_wp ext d mz_107 (60, [some (.ref 0), none, some (.int v2), some (.int v3), some (.int v4), some (.int v5), some (.int r1), some (.int 0), some (.int 0), none], [], (I3, L3, D3, am_rf (xt, xs, xi, xp, xu, xc))) P)) ∧ (¬ v5 ≤ 2 → (P (some (.int (-1)), (I3, L3, D3, am_rf (xt, xs, xi, xp, xu, xc))))))))))))))))) ∧ (r3 = 0 → (P (some (.int (-1)), (I3, L3, D3, am_rf (xt, xs, xi, xp, xu, xc)))))))))))))))) : am_wp ext d mz_107 (0, [some (.ref 0), some (.int v1), some (.int v2), some (.int v3), some (.int v4), some (.int v5), none, none, none, none], [], (I, L, D, am_rf (xt, xs, xi, xp, xu, xc))) P := by
  refine am_wpb (c' := (2, [some (.ref 0), some (.int v1), some (.int v2), some (.int v3), some (.int v4), some (.int v5), none, none, none, none], [.int v1, .ref 0], (I, L, D, am_rf (xt, xs, xi, xp, xu, xc)))) 2 rfl ?_
  obtain ⟨r1, I1, L1, D1, hr, h⟩ := h
  refine am_wp_inv (as := [.ref 0, .int v1]) rfl rfl rfl rfl ⟨_, hr, ?_⟩
  show am_wp ext d mz_107 (5, [some (.ref 0), some (.int v1), some (.int v2), some (.int v3), some (.int v4), some (.int v5), none, none, none, none], [.int r1], (I1, L1, D1, am_rf (xt, xs, xi, xp, xu, xc))) P
  refine am_wpb (c' := (9, [some (.ref 0), some (.int v1), some (.int v2), some (.int v3), some (.int v4), some (.int v5), some (.int r1), none, none, none], [.int r1], (I1, L1, D1, am_rf (xt, xs, xi, xp, xu, xc)))) 2 rfl ?_
  refine am_b1_lt rfl (fun z => ?_) (fun z => ?_)
  · replace h := h.1 z
    refine am_wpb (c' := (27, [some (.ref 0), some (.int v1), some (.int v2), some (.int v3), some (.int v4), some (.int v5), some (.int r1), none, none, none], [.int (-1)], (I1, L1, D1, am_rf (xt, xs, xi, xp, xu, xc)))) 1 rfl ?_
    exact am_ret_i rfl rfl h
  · replace h := h.2 z
    refine am_wpb (c' := (13, [some (.ref 0), some (.int v1), some (.int v2), some (.int v3), some (.int v4), some (.int v5), some (.int r1), none, none, none], [.int v2], (I1, L1, D1, am_rf (xt, xs, xi, xp, xu, xc)))) 1 rfl ?_
    obtain ⟨r2, I2, L2, D2, hr, h⟩ := h
    refine am_wp_inv (as := [.int v2]) rfl rfl rfl rfl ⟨_, hr, ?_⟩
    show am_wp ext d mz_107 (16, [some (.ref 0), some (.int v1), some (.int v2), some (.int v3), some (.int v4), some (.int v5), some (.int r1), none, none, none], [.int r2], (I2, L2, D2, am_rf (xt, xs, xi, xp, xu, xc))) P
    refine am_b1_eq rfl (fun z => ?_) (fun z => ?_)
    · replace h := h.1 z
      refine am_wpb (c' := (27, [some (.ref 0), some (.int v1), some (.int v2), some (.int v3), some (.int v4), some (.int v5), some (.int r1), none, none, none], [.int (-1)], (I2, L2, D2, am_rf (xt, xs, xi, xp, xu, xc)))) 1 rfl ?_
      exact am_ret_i rfl rfl h
    · replace h := h.2 z
      refine am_wpb (c' := (20, [some (.ref 0), some (.int v1), some (.int v2), some (.int v3), some (.int v4), some (.int v5), some (.int r1), none, none, none], [.int v3], (I2, L2, D2, am_rf (xt, xs, xi, xp, xu, xc)))) 1 rfl ?_
      obtain ⟨r3, I3, L3, D3, hr, h⟩ := h
      refine am_wp_inv (as := [.int v3]) rfl rfl rfl rfl ⟨_, hr, ?_⟩
      show am_wp ext d mz_107 (23, [some (.ref 0), some (.int v1), some (.int v2), some (.int v3), some (.int v4), some (.int v5), some (.int r1), none, none, none], [.int r3], (I3, L3, D3, am_rf (xt, xs, xi, xp, xu, xc))) P
      refine am_b1_ne rfl (fun z => ?_) (fun z => ?_)
      · replace h := h.1 z
        refine am_wpb (c' := (31, [some (.ref 0), some (.int v1), some (.int v2), some (.int v3), some (.int v4), some (.int v5), some (.int r1), none, none, none], [.int 1, .int v4], (I3, L3, D3, am_rf (xt, xs, xi, xp, xu, xc)))) 2 rfl ?_
        refine am_b2_lt rfl (fun z => ?_) (fun z => ?_)
        · replace h := h.1 z
          refine am_wpb (c' := (53, [some (.ref 0), some (.int v1), some (.int v2), some (.int v3), some (.int v4), some (.int v5), some (.int r1), none, none, none], [.int (-1)], (I3, L3, D3, am_rf (xt, xs, xi, xp, xu, xc)))) 1 rfl ?_
          exact am_ret_i rfl rfl h
        · replace h := h.2 z
          refine am_wpb (c' := (38, [some (.ref 0), some (.int v1), some (.int v2), some (.int v3), some (.int v4), some (.int v5), some (.int r1), none, none, none], [.int 16, .int v4], (I3, L3, D3, am_rf (xt, xs, xi, xp, xu, xc)))) 2 rfl ?_
          refine am_b2_gt rfl (fun z => ?_) (fun z => ?_)
          · replace h := h.1 z
            refine am_wpb (c' := (53, [some (.ref 0), some (.int v1), some (.int v2), some (.int v3), some (.int v4), some (.int v5), some (.int r1), none, none, none], [.int (-1)], (I3, L3, D3, am_rf (xt, xs, xi, xp, xu, xc)))) 1 rfl ?_
            exact am_ret_i rfl rfl h
          · replace h := h.2 z
            refine am_wpb (c' := (43, [some (.ref 0), some (.int v1), some (.int v2), some (.int v3), some (.int v4), some (.int v5), some (.int r1), none, none, none], [.int v5], (I3, L3, D3, am_rf (xt, xs, xi, xp, xu, xc)))) 1 rfl ?_
            refine am_b1_lt rfl (fun z => ?_) (fun z => ?_)
            · replace h := h.1 z
              refine am_wpb (c' := (53, [some (.ref 0), some (.int v1), some (.int v2), some (.int v3), some (.int v4), some (.int v5), some (.int r1), none, none, none], [.int (-1)], (I3, L3, D3, am_rf (xt, xs, xi, xp, xu, xc)))) 1 rfl ?_
              exact am_ret_i rfl rfl h
            · replace h := h.2 z
              refine am_wpb (c' := (49, [some (.ref 0), some (.int v1), some (.int v2), some (.int v3), some (.int v4), some (.int v5), some (.int r1), none, none, none], [.int 2, .int v5], (I3, L3, D3, am_rf (xt, xs, xi, xp, xu, xc)))) 2 rfl ?_
              refine am_b2_le rfl (fun z => ?_) (fun z => ?_)
              · replace h := h.1 z
                refine am_wpb (c' := (60, [some (.ref 0), some (.int v1), some (.int v2), some (.int v3), some (.int v4), some (.int v5), some (.int r1), some (.int 0), some (.int 0), none], [], (I3, L3, D3, am_rf (xt, xs, xi, xp, xu, xc)))) 4 rfl ?_
                exact am_fgt (l := [some (.ref 0), none, some (.int v2), some (.int v3), some (.int v4), some (.int v5), some (.int r1), some (.int 0), some (.int 0), none]) (am_le_of (am_leS (am_leN (am_leS (am_leS (am_leS (am_leS (am_leS (am_leS (am_leS (am_leN (am_leZ)))))))))))) h
              · replace h := h.2 z
                refine am_wpb (c' := (53, [some (.ref 0), some (.int v1), some (.int v2), some (.int v3), some (.int v4), some (.int v5), some (.int r1), none, none, none], [.int (-1)], (I3, L3, D3, am_rf (xt, xs, xi, xp, xu, xc)))) 1 rfl ?_
                exact am_ret_i rfl rfl h
      · replace h := h.2 z
        refine am_wpb (c' := (27, [some (.ref 0), some (.int v1), some (.int v2), some (.int v3), some (.int v4), some (.int v5), some (.int r1), none, none, none], [.int (-1)], (I3, L3, D3, am_rf (xt, xs, xi, xp, xu, xc)))) 1 rfl ?_
        exact am_ret_i rfl rfl h
theorem w107_60 {ext : Nat → List Value → am_M → Option am_R} {d : Nat} {P : am_R → Prop} (I : Nat → Nat → Int32) (L : Nat → Nat → Int64) (D : Nat → Nat → UInt64) (xc : Nat) (xi : Nat) (xp : Nat) (xs : Nat) (xt : Nat) (xu : Nat) (v2 : Int32) (v3 : Int32) (v4 : Int32) (v5 : Int32) (v6 : Int32) (v7 : Int32) (v8 : Int32)
    (h : ((16 ≤ v8 → (P (some (.int v7), (I, L, D, am_rf (xt, xs, xi, xp, xu, xc))))) ∧ (¬ 16 ≤ v8 → (((63 < (v2 + v8) → (P (some (.int v7), (I, L, D, am_rf (xt, xs, xi, xp, xu, xc))))) ∧ (¬ 63 < (v2 + v8) → (∃ (I1 : Nat → Nat → Int32) (L1 : Nat → Nat → Int64) (D1 : Nat → Nat → UInt64), am_Rn ext d 1 [.ref 39, .ref xt, .int v6, .int (v2 + v8)] (I, L, D, am_rf (xt, xs, xi, xp, xu, xc)) (none, (I1, L1, D1, am_rf (xt, xs, xi, xt, xu, xt))) ∧ (am_wp ext d mz_107 (96, [some (.ref 0), none, some (.int v2), some (.int v3), some (.int v4), some (.int v5), some (.int v6), some (.int v7), some (.int v8), some (.int 0)], [], (I1, L1, D1, am_rf (xt, xs, xi, xt, xu, xt))) P)))))))) : am_wp ext d mz_107 (60, [some (.ref 0), none, some (.int v2), some (.int v3), some (.int v4), some (.int v5), some (.int v6), some (.int v7), some (.int v8), none], [], (I, L, D, am_rf (xt, xs, xi, xp, xu, xc))) P := by
  refine am_wpb (c' := (64, [some (.ref 0), none, some (.int v2), some (.int v3), some (.int v4), some (.int v5), some (.int v6), some (.int v7), some (.int v8), none], [.int 16, .int v8], (I, L, D, am_rf (xt, xs, xi, xp, xu, xc)))) 2 rfl ?_
  refine am_b2_ge rfl (fun z => ?_) (fun z => ?_)
  · replace h := h.1 z
    refine am_wpb (c' := (152, [some (.ref 0), none, some (.int v2), some (.int v3), some (.int v4), some (.int v5), some (.int v6), some (.int v7), some (.int v8), none], [.int v7], (I, L, D, am_rf (xt, xs, xi, xp, xu, xc)))) 1 rfl ?_
    exact am_ret_i rfl rfl h
  · replace h := h.2 z
    refine am_wpb (c' := (73, [some (.ref 0), none, some (.int v2), some (.int v3), some (.int v4), some (.int v5), some (.int v6), some (.int v7), some (.int v8), none], [.int 63, .int (v2 + v8)], (I, L, D, am_rf (xt, xs, xi, xp, xu, xc)))) 4 rfl ?_
    refine am_b2_gt rfl (fun z => ?_) (fun z => ?_)
    · replace h := h.1 z
      refine am_wpb (c' := (152, [some (.ref 0), none, some (.int v2), some (.int v3), some (.int v4), some (.int v5), some (.int v6), some (.int v7), some (.int v8), none], [.int v7], (I, L, D, am_rf (xt, xs, xi, xp, xu, xc)))) 1 rfl ?_
      exact am_ret_i rfl rfl h
    · replace h := h.2 z
      refine am_wpb (c' := (90, [some (.ref 0), none, some (.int v2), some (.int v3), some (.int v4), some (.int v5), some (.int v6), some (.int v7), some (.int v8), none], [.int (v2 + v8), .int v6, .ref xt, .ref 39], (I, L, D, am_rf (xt, xs, xi, xp, xu, xc)))) 8 rfl ?_
      obtain ⟨I1, L1, D1, hr, h⟩ := h
      refine am_wp_inv (as := [.ref 39, .ref xt, .int v6, .int (v2 + v8)]) rfl rfl rfl rfl ⟨_, hr, ?_⟩
      show am_wp ext d mz_107 (93, [some (.ref 0), none, some (.int v2), some (.int v3), some (.int v4), some (.int v5), some (.int v6), some (.int v7), some (.int v8), none], [], (I1, L1, D1, am_rf (xt, xs, xi, xt, xu, xt))) P
      refine am_wpb (c' := (96, [some (.ref 0), none, some (.int v2), some (.int v3), some (.int v4), some (.int v5), some (.int v6), some (.int v7), some (.int v8), some (.int 0)], [], (I1, L1, D1, am_rf (xt, xs, xi, xt, xu, xt)))) 2 rfl ?_
      exact h
theorem w107_96 {ext : Nat → List Value → am_M → Option am_R} {d : Nat} {P : am_R → Prop} (I : Nat → Nat → Int32) (L : Nat → Nat → Int64) (D : Nat → Nat → UInt64) (xi : Nat) (xp : Nat) (xs : Nat) (xt : Nat) (xu : Nat) (v2 : Int32) (v3 : Int32) (v4 : Int32) (v5 : Int32) (v6 : Int32) (v7 : Int32) (v8 : Int32) (v9 : Int32)
    (h : ((v4 ≤ v9 → (am_wp ext d mz_107 (60, [some (.ref 0), none, some (.int v2), some (.int v3), some (.int v4), some (.int v5), some (.int v6), some (.int v7), some (.int (v8 + 1)), none], [], (I, L, D, am_rf (xt, xs, xi, xp, xu, xt))) P)) ∧ (¬ v4 ≤ v9 → (((63 < (v3 + v9) → (am_wp ext d mz_107 (60, [some (.ref 0), none, some (.int v2), some (.int v3), some (.int v4), some (.int v5), some (.int v6), some (.int v7), some (.int (v8 + 1)), none], [], (I, L, D, am_rf (xt, xs, xi, xp, xu, xt))) P)) ∧ (¬ 63 < (v3 + v9) → (∃ (r1 : Int32) (I1 : Nat → Nat → Int32) (L1 : Nat → Nat → Int64) (D1 : Nat → Nat → UInt64), am_Rn ext d 2 [.ref 39, .int (v3 + v9)] (I, L, D, am_rf (xt, xs, xi, xp, xu, xt)) (some (.int r1), (I1, L1, D1, am_rf (xt, xs, xi, 2, xu, xt))) ∧ (((¬ r1 = v5 → (am_wp ext d mz_107 (96, [some (.ref 0), none, some (.int v2), some (.int v3), some (.int v4), some (.int v5), some (.int v6), some (.int (v7 + 0)), some (.int v8), some (.int (v9 + 1))], [], (I1, L1, D1, am_rf (xt, xs, xi, 2, xu, xt))) P)) ∧ (r1 = v5 → (am_wp ext d mz_107 (96, [some (.ref 0), none, some (.int v2), some (.int v3), some (.int v4), some (.int v5), some (.int v6), some (.int (v7 + 1)), some (.int v8), some (.int (v9 + 1))], [], (I1, L1, D1, am_rf (xt, xs, xi, 2, xu, xt))) P))))))))))) : am_wp ext d mz_107 (96, [some (.ref 0), none, some (.int v2), some (.int v3), some (.int v4), some (.int v5), some (.int v6), some (.int v7), some (.int v8), some (.int v9)], [], (I, L, D, am_rf (xt, xs, xi, xp, xu, xt))) P := by
  refine am_wpb (c' := (100, [some (.ref 0), none, some (.int v2), some (.int v3), some (.int v4), some (.int v5), some (.int v6), some (.int v7), some (.int v8), some (.int v9)], [.int v4, .int v9], (I, L, D, am_rf (xt, xs, xi, xp, xu, xt)))) 2 rfl ?_
  refine am_b2_ge rfl (fun z => ?_) (fun z => ?_)
  · replace h := h.1 z
    refine am_wpb (c' := (60, [some (.ref 0), none, some (.int v2), some (.int v3), some (.int v4), some (.int v5), some (.int v6), some (.int v7), some (.int (v8 + 1)), some (.int v9)], [], (I, L, D, am_rf (xt, xs, xi, xp, xu, xt)))) 2 rfl ?_
    exact am_fgt (l := [some (.ref 0), none, some (.int v2), some (.int v3), some (.int v4), some (.int v5), some (.int v6), some (.int v7), some (.int (v8 + 1)), none]) (am_le_of (am_leS (am_leN (am_leS (am_leS (am_leS (am_leS (am_leS (am_leS (am_leS (am_leN (am_leZ)))))))))))) h
  · replace h := h.2 z
    refine am_wpb (c' := (109, [some (.ref 0), none, some (.int v2), some (.int v3), some (.int v4), some (.int v5), some (.int v6), some (.int v7), some (.int v8), some (.int v9)], [.int 63, .int (v3 + v9)], (I, L, D, am_rf (xt, xs, xi, xp, xu, xt)))) 4 rfl ?_
    refine am_b2_gt rfl (fun z => ?_) (fun z => ?_)
    · replace h := h.1 z
      refine am_wpb (c' := (60, [some (.ref 0), none, some (.int v2), some (.int v3), some (.int v4), some (.int v5), some (.int v6), some (.int v7), some (.int (v8 + 1)), some (.int v9)], [], (I, L, D, am_rf (xt, xs, xi, xp, xu, xt)))) 2 rfl ?_
      exact am_fgt (l := [some (.ref 0), none, some (.int v2), some (.int v3), some (.int v4), some (.int v5), some (.int v6), some (.int v7), some (.int (v8 + 1)), none]) (am_le_of (am_leS (am_leN (am_leS (am_leS (am_leS (am_leS (am_leS (am_leS (am_leS (am_leN (am_leZ)))))))))))) h
    · replace h := h.2 z
      refine am_wpb (c' := (122, [some (.ref 0), none, some (.int v2), some (.int v3), some (.int v4), some (.int v5), some (.int v6), some (.int v7), some (.int v8), some (.int v9)], [.int (v3 + v9), .ref 39, .int v7], (I, L, D, am_rf (xt, xs, xi, xp, xu, xt)))) 6 rfl ?_
      obtain ⟨r1, I1, L1, D1, hr, h⟩ := h
      refine am_wp_inv (as := [.ref 39, .int (v3 + v9)]) rfl rfl rfl rfl ⟨_, hr, ?_⟩
      show am_wp ext d mz_107 (125, [some (.ref 0), none, some (.int v2), some (.int v3), some (.int v4), some (.int v5), some (.int v6), some (.int v7), some (.int v8), some (.int v9)], [.int r1, .int v7], (I1, L1, D1, am_rf (xt, xs, xi, 2, xu, xt))) P
      refine am_wpb (c' := (127, [some (.ref 0), none, some (.int v2), some (.int v3), some (.int v4), some (.int v5), some (.int v6), some (.int v7), some (.int v8), some (.int v9)], [.int v5, .int r1, .int v7], (I1, L1, D1, am_rf (xt, xs, xi, 2, xu, xt)))) 1 rfl ?_
      refine am_b2_ne rfl (fun z => ?_) (fun z => ?_)
      · replace h := h.1 z
        refine am_wpb (c' := (96, [some (.ref 0), none, some (.int v2), some (.int v3), some (.int v4), some (.int v5), some (.int v6), some (.int (v7 + 0)), some (.int v8), some (.int (v9 + 1))], [], (I1, L1, D1, am_rf (xt, xs, xi, 2, xu, xt)))) 5 rfl ?_
        exact h
      · replace h := h.2 z
        refine am_wpb (c' := (96, [some (.ref 0), none, some (.int v2), some (.int v3), some (.int v4), some (.int v5), some (.int v6), some (.int (v7 + 1)), some (.int v8), some (.int (v9 + 1))], [], (I1, L1, D1, am_rf (xt, xs, xi, 2, xu, xt)))) 6 rfl ?_
        exact h
