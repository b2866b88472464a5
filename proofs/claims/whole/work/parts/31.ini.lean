/-- what the tables say of the classes and array classes, at the law's entry -/
theorem lw_known {s : State} {args : Array Value} (hts : ∀ w ∈ am_U, w.before args s = true) : ∃ (D : va_G) (cy : Nat → ClassId), va_K D am_cl (am_tys cy) s := by
  obtain ⟨c0, i0, h0⟩ := u_known (C := RX0) (T := TX0) (N := 10) (n := 10) hts am_u0 (hts (.instantiable RX0 10) (an_mem_ok (by decide +kernel)))
  obtain ⟨c1, i1, h1⟩ := u_known (C := RX1) (T := TX1) (N := 7) (n := 7) hts am_u1 (hts (.instantiable RX1 7) (an_mem_ok (by decide +kernel)))
  obtain ⟨c2, i2, h2⟩ := u_known (C := RX2) (T := TX2) (N := 5) (n := 5) hts am_u2 (hts (.instantiable RX2 5) (an_mem_ok (by decide +kernel)))
  obtain ⟨c3, i3, h3⟩ := u_known (C := RX3) (T := TX3) (N := 13) (n := 13) hts am_u3 (hts (.instantiable RX3 13) (an_mem_ok (by decide +kernel)))
  obtain ⟨c4, i4, h4⟩ := u_known (C := RX4) (T := TX4) (N := 10) (n := 10) hts am_u4 (hts (.instantiable RX4 10) (an_mem_ok (by decide +kernel)))
  obtain ⟨c5, i5, h5⟩ := u_known (C := RX5) (T := TX5) (N := 11) (n := 11) hts am_u5 (hts (.instantiable RX5 11) (an_mem_ok (by decide +kernel)))
  obtain ⟨c6, i6, h6⟩ := u_known (C := RX6) (T := TX6) (N := 4) (n := 4) hts am_u6 (hts (.instantiable RX6 4) (an_mem_ok (by decide +kernel)))
  obtain ⟨c7, i7, h7⟩ := u_known (C := RX7) (T := TX7) (N := 11) (n := 11) hts am_u7 (hts (.instantiable RX7 11) (an_mem_ok (by decide +kernel)))
  obtain ⟨c8, i8, h8⟩ := u_known (C := RX8) (T := TX8) (N := 69) (n := 69) hts am_u8 (hts (.instantiable RX8 69) (an_mem_ok (by decide +kernel)))
  obtain ⟨a_int, k_int, p_int, f_int, g_int, q_int⟩ := Cond.arrayClass_spec (hts (.arrayClass .int) (an_mem_ok (by decide +kernel)))
  obtain ⟨a_long, k_long, p_long, f_long, g_long, q_long⟩ := Cond.arrayClass_spec (hts (.arrayClass .long) (an_mem_ok (by decide +kernel)))
  obtain ⟨a_double, k_double, p_double, f_double, g_double, q_double⟩ := Cond.arrayClass_spec (hts (.arrayClass .double) (an_mem_ok (by decide +kernel)))
  obtain ⟨a_boolean, k_boolean, p_boolean, f_boolean, g_boolean, q_boolean⟩ := Cond.arrayClass_spec (hts (.arrayClass .boolean) (an_mem_ok (by decide +kernel)))
  refine ⟨(fun k => match k with | 0 => c0 | 1 => c1 | 2 => c2 | 3 => c3 | 4 => c4 | 5 => c5 | 6 => c6 | 7 => c7 | _ => c8, fun k => match k with | 0 => i0 | 1 => i1 | 2 => i2 | 3 => i3 | 4 => i4 | 5 => i5 | 6 => i6 | 7 => i7 | _ => i8), fun k => match k with | 0 => a_int | 1 => a_long | 2 => a_double | _ => a_boolean, ?_, ?_⟩
  · intro k q hq
    match k, hq with
    | 0, hq => cases hq; exact h0
    | 1, hq => cases hq; exact h1
    | 2, hq => cases hq; exact h2
    | 3, hq => cases hq; exact h3
    | 4, hq => cases hq; exact h4
    | 5, hq => cases hq; exact h5
    | 6, hq => cases hq; exact h6
    | 7, hq => cases hq; exact h7
    | 8, hq => cases hq; exact h8
    | k + 9, hq => simp [am_cl] at hq
  · intro k q hq
    match k, hq with
    | 0, hq => cases hq; exact ⟨fun n z => ⟨fun k h => (by cases h), k_int, g_int, p_int, q_int⟩, f_int⟩
    | 1, hq => cases hq; exact ⟨fun n z => ⟨fun k h => (by cases h), k_long, g_long, p_long, q_long⟩, f_long⟩
    | 2, hq => cases hq; exact ⟨fun n z => ⟨fun k h => (by cases h), k_double, g_double, p_double, q_double⟩, f_double⟩
    | 3, hq => cases hq; exact ⟨fun n z => ⟨fun k h => (by cases h), k_boolean, g_boolean, p_boolean, q_boolean⟩, f_boolean⟩
    | k + 4, hq => simp [am_tys] at hq
/-- what new SureSumsModel() makes behind it -/
def an_y : Option an_R := match an_x with
  | some r => an_ex an_Yc am_Ys 1000 2 8 [.ref 42] (r.1 ++ [.inl (8, am_ks 8)]) (am_new r.2 42)
  | none => none
/-- the memory with which the law's loop begins -/
def an_mi : am_M := match an_y with
  | some r => am_new r.2 81
  | none => an_m0
/-- the references are those of am_rf -/
def an_req (m : am_M) (X : am_Rf) : Bool := (List.range 82).all (fun a => match am_SH[a]? with
  | some (.inl o) => (List.range o.2.length).all (fun j => bif o.2.getD j 0 == 3 then decide (m.2.2.2 a j = am_rf X a j) else true)
  | _ => true)
def an_wf1 (sh : am_Sh) (mem : am_M) : Bool := (List.range sh.length).all (fun k => an_cb sh.length mem k (sh.getD k (.inr (0, 0))))
set_option maxRecDepth 100000 in
theorem an_y_ok : (match an_x with | some r => decide (r.1 = am_SH.take 42) && an_wf1 r.1 r.2 | none => false) = true ∧ (match an_y with | some r => decide (r.1 = am_SH.take 81) && an_wf1 r.1 r.2 | none => false) = true ∧ an_req an_mi (2, 11, 11, 2, 2, 2) = true := by decide +kernel
