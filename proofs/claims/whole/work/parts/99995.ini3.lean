/-- what is asked of the first memory -/
def ini_b (m : am_M) : Bool := decide (m.1 0 8 = 0 ∧ m.1 42 1 = 0 ∧ m.1 0 9 = m.1 42 4 ∧ m.1 0 10 = m.1 42 5 ∧ m.1 2 9 = 0 ∧ m.1 2 10 = 0 ∧ m.1 2 11 = 0 ∧ m.1 2 8 = 0 ∧ m.1 2 12 = 0 ∧ m.1 42 24 = 0 ∧ m.1 42 25 = 0 ∧ m.1 42 21 = 0 ∧ m.1 42 17 = 0 ∧ m.1 42 59 = 0 ∧ m.1 42 60 = 0) && ((List.range 600).all (fun i => decide (m.1 1 i = m.1 43 i)) && ((List.range 51).all (fun i => decide (m.1 44 i = (pu_flat pu_words).getD i 0)) && ((List.range 26).all (fun i => decide (m.1 3 i = -1) && decide (m.1 51 i = 0)) && (List.range 18).all (fun i => decide (m.2.1 31 i = 0)))))
set_option maxRecDepth 100000 in
theorem ini_mi : ini_b an_mi = true := by decide +kernel
theorem ini_of {m : am_M} (h : ini_b m = true) : ini_ok m := by
  unfold ini_b at h
  simp only [Bool.and_eq_true] at h
  obtain ⟨h1, h2, h3, h4, h5⟩ := h
  refine ⟨of_decide_eq_true h1, fun i hi => of_decide_eq_true (List.all_eq_true.mp h2 i (List.mem_range.mpr hi)), fun i hi => of_decide_eq_true (List.all_eq_true.mp h3 i (List.mem_range.mpr hi)), fun i hi => ?_, fun i hi => of_decide_eq_true (List.all_eq_true.mp h5 i (List.mem_range.mpr hi))⟩
  have h := List.all_eq_true.mp h4 i (List.mem_range.mpr hi)
  rw [Bool.and_eq_true] at h
  exact ⟨of_decide_eq_true h.1, of_decide_eq_true h.2⟩
