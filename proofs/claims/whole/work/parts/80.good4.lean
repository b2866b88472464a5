/-! ===== what is found is in order: area ===== -/
theorem pe_64 {w k : Nat} {i j : Int} (hw : w ≤ 20) (h1 : -64 ≤ i) (h2 : i < j) (h3 : j ≤ 64) (hk : k < 2 ^ (w / 4)) : (sp_pe w i j k).toInt ≤ (sp_pe w i j (k + 1)).toInt ∧ -64 * 2 ^ w ≤ (sp_pe w i j k).toInt ∧ (sp_pe w i j (k + 1)).toInt ≤ 64 * 2 ^ w := by
  obtain ⟨p1, p2⟩ := p2_le hw
  have q3 : (0 : Int) < 2 ^ (w / 4) := Int.pow_pos (by omega)
  have hk' : ((k : Nat) : Int) + 1 ≤ 2 ^ (w / 4) := by
    have : ((2 ^ (w / 4) : Nat) : Int) = (2 : Int) ^ (w / 4) := by rw [Int.natCast_pow]; rfl
    omega
  have f1 : -64 * 2 ^ w ≤ i * 2 ^ w := Int.mul_le_mul_of_nonneg_right h1 (by omega)
  have f2 : j * 2 ^ w ≤ 64 * 2 ^ w := Int.mul_le_mul_of_nonneg_right h3 (by omega)
  have c1 : 0 ≤ (j - i) * k * 2 ^ w := Int.mul_nonneg (Int.mul_nonneg (by omega) (by omega)) (by omega)
  have d1 : 0 ≤ ((j - i) * k * 2 ^ w) / 2 ^ (w / 4) := Int.ediv_nonneg c1 (by omega)
  have d3 : ((j - i) * ((k + 1 : Nat) : Int) * 2 ^ w) / 2 ^ (w / 4) ≤ (j - i) * 2 ^ w := by
    refine Int.ediv_le_of_le_mul q3 ?_
    rw [Int.mul_assoc, Int.mul_assoc, Int.mul_comm ((k + 1 : Nat) : Int) (2 ^ w)]
    refine Int.mul_le_mul_of_nonneg_left (Int.mul_le_mul_of_nonneg_left (by omega) (by omega)) (by omega)
  have d4 : (j - i) * 2 ^ w = j * 2 ^ w - i * 2 ^ w := Int.sub_mul ..
  refine ⟨(pe_gd hw h1 h2 h3 hk).1, ?_, ?_⟩
  · rw [pe_i hw h1 h2 h3 (by omega)]; omega
  · rw [pe_i hw h1 h2 h3 (by omega)]; omega
/-- a piece's share: v of w bits times a width -/
theorem ar_b {w : Nat} (hw : w ≤ 20) {v D : Int} (h1 : -(2048 * 2 ^ w) ≤ v) (h2 : v ≤ 2048 * 2 ^ w) (h3 : 0 ≤ D) (h4 : D ≤ 134217728) : -274877906944 ≤ v * D / 2 ^ w ∧ v * D / 2 ^ w ≤ 274877906944 := by
  obtain ⟨p1, p2⟩ := p2_le hw
  have a1 : v * D ≤ 2048 * 2 ^ w * D := Int.mul_le_mul_of_nonneg_right h2 h3
  have a2 : -(2048 * 2 ^ w) * D ≤ v * D := Int.mul_le_mul_of_nonneg_right h1 h3
  have e1 : 2048 * 2 ^ w * D = 2048 * D * 2 ^ w := by rw [Int.mul_assoc, Int.mul_comm (2 ^ w) D, Int.mul_assoc]
  have e2 : -(2048 * 2 ^ w) * D = -(2048 * D) * 2 ^ w := by rw [Int.neg_mul, Int.neg_mul, e1]
  have b1 : v * D / 2 ^ w ≤ 2048 * D := Int.ediv_le_of_le_mul (by omega) (by rw [← e1]; exact a1)
  have b2 : -(2048 * D) ≤ v * D / 2 ^ w := Int.le_ediv_of_mul_le (by omega) (by rw [← e2]; exact a2)
  omega
