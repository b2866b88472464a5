/-! ===== what is found is in order: products, quotients ===== -/
theorem mul_b {x y : Int} (h1 : -2147483648 ≤ x) (h2 : x ≤ 2147483648) (h3 : -2147483648 ≤ y) (h4 : y ≤ 2147483648) : -4611686018427387904 ≤ x * y ∧ x * y ≤ 4611686018427387904 := by
  have e := Int.natAbs_mul x y
  have b : x.natAbs * y.natAbs ≤ 2147483648 * 2147483648 := Nat.mul_le_mul (by omega) (by omega)
  omega
theorem sp_2_gd8 {w : Nat} (hw : w ≤ 20) {a b c e : Int64} (h : gd2 w a b) (g : gd2 w c e) : gd w (sp_2 w 8 a b c e) := by
  have h1 := gd_b hw h
  have h2 := gd_b hw g
  rw [sp_2_8]
  have m := mul_b (x := a.toInt) (y := c.toInt) (by omega) (by omega) (by omega) (by omega)
  have em : (a * c).toInt = a.toInt * c.toInt := i64_mul (by omega) (by omega)
  have q1 := mn_i (a * c) (a * e)
  have q2 := mn_i (sp_mn (a * c) (a * e)) (sp_mn (b * c) (b * e))
  have q3 := mx_i (a * c) (a * e)
  have q4 := mx_i (sp_mx (a * c) (a * e)) (sp_mx (b * c) (b * e))
  exact sp_k_gd hw (sp_r_up hw (by omega) (by omega))
theorem fl_b {x c : Int64} (hc : ¬ c = 0) (h1 : -1152921504606846976 ≤ x.toInt) (h2 : x.toInt ≤ 1152921504606846976) : ((sp_fl x c).toInt = x.toInt.tdiv c.toInt ∨ (sp_fl x c).toInt = x.toInt.tdiv c.toInt - 1) ∧ -1152921504606846976 ≤ x.toInt.tdiv c.toInt ∧ x.toInt.tdiv c.toInt ≤ 1152921504606846976 := by
  have hq : (x.toInt.tdiv c.toInt).natAbs ≤ x.toInt.natAbs := by rw [Int.natAbs_tdiv]; exact Nat.div_le_self _ _
  have b1 : -1152921504606846976 ≤ x.toInt.tdiv c.toInt := by omega
  have b2 : x.toInt.tdiv c.toInt ≤ 1152921504606846976 := by omega
  have ed : (x / c).toInt = x.toInt.tdiv c.toInt := by rw [Int64.toInt_div, Int.bmod_eq_of_le (by omega) (by omega)]
  have o : (1 : Int64).toInt = 1 := rfl
  refine ⟨?_, b1, b2⟩
  unfold sp_fl
  rw [if_neg hc]
  split
  · exact Or.inl ed
  · split
    · exact Or.inl ed
    · refine Or.inr ?_
      rw [i64_sub (by rw [ed, o]; omega) (by rw [ed, o]; omega), ed, o]
theorem fl_ce {x c : Int64} (h1 : -1152921504606846976 ≤ x.toInt) (h2 : x.toInt ≤ 1152921504606846976) : (sp_fl x c).toInt ≤ (sp_ce x c).toInt := by
  by_cases hc : c = 0
  · unfold sp_fl sp_ce
    rw [if_pos hc, if_pos hc]
    exact Int.le_refl _
  · have en : (-x).toInt = -x.toInt := i64_neg (by omega)
    obtain ⟨f1, f2, f3⟩ := fl_b hc h1 h2
    obtain ⟨g1, g2, g3⟩ := fl_b (x := -x) hc (by omega) (by omega)
    rw [en, Int.neg_tdiv] at g1 g2 g3
    unfold sp_ce
    rw [if_neg hc, i64_neg (by omega)]
    omega
theorem sp_2_gd9 {w : Nat} (hw : w ≤ 20) {a b c e : Int64} (h : gd2 w a b) : gd w (sp_2 w 9 a b c e) := by
  have h1 := gd_b hw h
  unfold sp_2
  rw [if_neg (by omega), if_neg (by omega), if_neg (by omega), if_pos rfl]
  split
  · intro p hp; cases hp
  · obtain ⟨p1, p2⟩ := p2_le hw
    have ea := sp_l_i a hw (by omega) (by omega)
    have m := mul_b (x := a.toInt) (y := 2 ^ w) (by omega) (by omega) (by omega) (by omega)
    have s1 : -2147483648 * 2 ^ w ≤ a.toInt * 2 ^ w := Int.mul_le_mul_of_nonneg_right (by omega) (by omega)
    have s2 : a.toInt * 2 ^ w ≤ 2147483648 * 2 ^ w := Int.mul_le_mul_of_nonneg_right (by omega) (by omega)
    have f := fl_ce (x := sp_l w a) (c := c) (by omega) (by omega)
    have q1 := mn_i (sp_fl (sp_l w a) c) (sp_fl (sp_l w a) e)
    have q2 := mn_i (sp_mn (sp_fl (sp_l w a) c) (sp_fl (sp_l w a) e)) (sp_mn (sp_fl (sp_l w b) c) (sp_fl (sp_l w b) e))
    have q3 := mx_i (sp_ce (sp_l w a) c) (sp_ce (sp_l w a) e)
    have q4 := mx_i (sp_mx (sp_ce (sp_l w a) c) (sp_ce (sp_l w a) e)) (sp_mx (sp_ce (sp_l w b) c) (sp_ce (sp_l w b) e))
    exact sp_k_gd hw (by omega)
