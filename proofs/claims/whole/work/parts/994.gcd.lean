/-! ===== the greatest common part ===== -/
theorem rem_i {a b : Int64} (ha : 0 ≤ a.toInt) (hb : 0 < b.toInt) : (a - a / b * b).toInt = a.toInt % b.toInt := by
  have h1 := a.toInt_lt
  have d0 : 0 ≤ a.toInt / b.toInt := Int.ediv_nonneg ha (by omega)
  have d1 : a.toInt / b.toInt ≤ a.toInt := Int.ediv_le_self _ ha
  have ed : (a / b).toInt = a.toInt / b.toInt := by rw [Int64.toInt_div, Int.tdiv_eq_ediv_of_nonneg ha, Int.bmod_eq_of_le (by omega) (by omega)]
  have m0 : 0 ≤ a.toInt / b.toInt * b.toInt := Int.mul_nonneg d0 (by omega)
  have m1 : a.toInt / b.toInt * b.toInt ≤ a.toInt := Int.ediv_mul_le _ (by omega)
  have em : (a / b * b).toInt = a.toInt / b.toInt * b.toInt := by rw [i64_mul (by rw [ed]; omega) (by rw [ed]; omega), ed]
  rw [i64_sub (by rw [em]; omega) (by rw [em]; omega), em, Int.emod_def, Int.mul_comm]
theorem gc_0 (k : Nat) (a : Int64) : gc k a 0 = a := by
  cases k with
  | zero => rfl
  | succ k => rw [gc, if_pos rfl]
theorem gc_nat : ∀ (j k : Nat) (a b : Int64), 0 ≤ a.toInt → 0 ≤ b.toInt → b.toInt < 2 ^ j → 2 * j ≤ k → (gc k a b).toInt = (Nat.gcd a.toInt.toNat b.toInt.toNat : Nat)
  | 0, k, a, b, ha, hb, hj, _ => by
    have z : (0 : Int64).toInt = 0 := rfl
    have e : b = 0 := by rw [← Int64.toInt_inj, z]; have : (2 : Int) ^ 0 = 1 := rfl; omega
    subst e
    rw [gc_0, z, Int.toNat_zero, Nat.gcd_zero_right]
    omega
  | j + 1, k, a, b, ha, hb, hj, hk => by
    have z : (0 : Int64).toInt = 0 := rfl
    obtain ⟨k', rfl⟩ : ∃ k', k = k' + 2 := ⟨k - 2, by omega⟩
    by_cases hb0 : b = 0
    · subst hb0
      rw [gc_0, z, Int.toNat_zero, Nat.gcd_zero_right]
      omega
    · have bp : 0 < b.toInt := by rw [← Int64.toInt_inj, z] at hb0; omega
      have er := rem_i ha bp
      have r0 : 0 ≤ a.toInt % b.toInt := Int.emod_nonneg _ (by omega)
      have r1 : a.toInt % b.toInt < b.toInt := Int.emod_lt_of_pos _ bp
      rw [gc, if_neg hb0]
      have eg : Nat.gcd a.toInt.toNat b.toInt.toNat = Nat.gcd b.toInt.toNat (a.toInt % b.toInt).toNat := by
        rw [Nat.gcd_comm, Nat.gcd_rec, Nat.gcd_comm]
        congr 1
        rw [Int.toNat_emod ha hb]
      rw [eg]
      by_cases hr0 : a - a / b * b = 0
      · rw [hr0, gc_0]
        rw [← Int64.toInt_inj, er, z] at hr0
        rw [hr0, Int.toNat_zero, Nat.gcd_zero_right]
        omega
      · have rp : 0 < (a - a / b * b).toInt := by rw [← Int64.toInt_inj, z] at hr0; omega
        rw [gc, if_neg hr0]
        have e2 := rem_i (a := b) (b := a - a / b * b) (by omega) rp
        have s0 : 0 ≤ b.toInt % (a - a / b * b).toInt := Int.emod_nonneg _ (by omega)
        have s1 : b.toInt % (a - a / b * b).toInt < (a - a / b * b).toInt := Int.emod_lt_of_pos _ rp
        have p2 : (2 : Int) ^ (j + 1) = 2 ^ j * 2 := Int.pow_succ ..
        have s2 : b.toInt % (a - a / b * b).toInt < 2 ^ j := by
          have ed := Int.mul_ediv_add_emod b.toInt (a - a / b * b).toInt
          have q1 : 1 ≤ b.toInt / (a - a / b * b).toInt := Int.le_ediv_of_mul_le rp (by omega)
          have q2 : (a - a / b * b).toInt * 1 ≤ (a - a / b * b).toInt * (b.toInt / (a - a / b * b).toInt) := Int.mul_le_mul_of_nonneg_left q1 (by omega)
          omega
        have := gc_nat j k' (a - a / b * b) (b - b / (a - a / b * b) * (a - a / b * b)) (by omega) (by omega) (by omega) (by omega)
        rw [this, e2, er]
        have : Nat.gcd b.toInt.toNat (a.toInt % b.toInt).toNat = Nat.gcd (a.toInt % b.toInt).toNat (b.toInt % (a.toInt % b.toInt)).toNat := by
          rw [Nat.gcd_comm, Nat.gcd_rec, Nat.gcd_comm]
          congr 1
          rw [Int.toNat_emod hb r0]
        rw [this]
/-- the greatest common part of u and l -/
theorem gc_i {u l : Int64} (h1 : -4611686018427387904 < u.toInt) (h2 : u.toInt < 4611686018427387904) (h3 : -4611686018427387904 < l.toInt) (h4 : l.toInt < 4611686018427387904) : (gc 128 (sp_ab u) (sp_ab l)).toInt = (Nat.gcd u.toInt.natAbs l.toInt.natAbs : Nat) := by
  have ab : ∀ x : Int64, -4611686018427387904 < x.toInt → x.toInt < 4611686018427387904 → (sp_ab x).toInt = x.toInt.natAbs := by
    intro x g1 g2
    have z : (0 : Int64).toInt = 0 := rfl
    unfold sp_ab
    split
    · rename_i h
      rw [Int64.le_iff_toInt_le, z] at h
      omega
    · rename_i h
      rw [Int64.le_iff_toInt_le, z] at h
      rw [i64_neg (by omega)]
      omega
  have eu := ab u h1 h2
  have el := ab l h3 h4
  have p : (2 : Int) ^ 62 = 4611686018427387904 := by decide
  rw [gc_nat 62 128 _ _ (by omega) (by omega) (by omega) (by omega), eu, el]
  simp
