def an_m0 : am_M := (fun _ _ => 0, fun _ _ => 0, fun _ _ => 0, fun _ _ => none)
/-- what new SureSums() makes in an empty world -/
def an_x : Option an_R := an_ex an_Yc am_Ys 1000 4 7 [.ref 0] [.inl (7, am_k7)] (am_new an_m0 0)
set_option maxRecDepth 100000 in
theorem an_x_sh : (match an_x with | some r => decide (r.1 = am_SH.take 42) | none => false) = true := by decide +kernel
