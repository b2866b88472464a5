theorem ini_cong {m m' : am_M} (h1 : m'.1 = m.1) (h2 : m'.2.1 = m.2.1) (h : ini_ok m) : ini_ok m' := by
  unfold ini_ok at h ⊢
  rw [h1, h2]
  exact h
theorem lw_m0_1 : lw_m0.1 = an_mi.1 := by simp only [lw_m0]
theorem lw_m0_2 : lw_m0.2.1 = an_mi.2.1 := by simp only [lw_m0]
theorem lw_m0_r : lw_m0.2.2.2 = am_rf (2, 11, 11, 2, 2, 2) := by simp only [lw_m0]
theorem ini_m0 : ini_ok lw_m0 := ini_cong lw_m0_1 lw_m0_2 (ini_of ini_mi)
theorem iv_m1 : iv (Cc2 Cm) (am_lo lw_m0) := iv_ini (xi := 11) (xp := 2) (xc := 2) ini_m0 lw_m0_r
