/-! ===== spans: the arithmetic of 64 bits ===== -/
theorem sh_e : ∀ w : Fin 64, sp_sh w.val = Int64.ofNat w.val := by decide
theorem sh_m : ∀ w : Fin 64, (Int64.ofNat w.val).toBitVec.smod 64 = BitVec.ofNat 64 w.val := by decide
theorem sh_r (x : Int64) {w : Nat} (hw : w < 64) : (x >>> sp_sh w).toInt = x.toInt / 2 ^ w := by
  rw [sh_e ⟨w, hw⟩]
  show (x.toBitVec.sshiftRight' ((Int64.ofNat w).toBitVec.smod 64)).toInt = _
  rw [sh_m ⟨w, hw⟩, BitVec.sshiftRight', BitVec.toInt_sshiftRight, BitVec.toNat_ofNat, Nat.mod_eq_of_lt (by omega), Int.shiftRight_eq_div_pow]
  rfl
theorem sh_l (x : Int64) {w : Nat} (hw : w < 64) : (x <<< sp_sh w).toInt = (x.toInt * 2 ^ w).bmod (2 ^ 64) := by
  rw [sh_e ⟨w, hw⟩]
  show (x.toBitVec <<< ((Int64.ofNat w).toBitVec.smod 64)).toInt = _
  rw [sh_m ⟨w, hw⟩, BitVec.shiftLeft_eq', BitVec.toNat_ofNat, Nat.mod_eq_of_lt (by omega), BitVec.toInt_shiftLeft]
  have e : x.toInt = ((x.toBitVec.toNat : Nat) : Int).bmod (2 ^ 64) := BitVec.toInt_eq_toNat_bmod _
  rw [e, Nat.shiftLeft_eq, Int.natCast_mul, Int.bmod_mul_bmod, Int.natCast_pow]
  rfl
/-- 2 to the w, and what w is -/
theorem p2_le {w : Nat} (hw : w ≤ 20) : (1 : Int) ≤ 2 ^ w ∧ (2 : Int) ^ w ≤ 1048576 := by
  have h1 : (1 : Nat) ≤ 2 ^ w := Nat.one_le_two_pow
  have h2 : (2 : Nat) ^ w ≤ 2 ^ 20 := Nat.pow_le_pow_right (by omega) hw
  have e : ((2 ^ w : Nat) : Int) = (2 : Int) ^ w := by rw [Int.natCast_pow]; rfl
  rw [← e]
  omega
theorem sp_l_i (x : Int64) {w : Nat} (hw : w ≤ 20) (h1 : -4294967296 ≤ x.toInt) (h2 : x.toInt ≤ 4294967296) : (sp_l w x).toInt = x.toInt * 2 ^ w := by
  unfold sp_l
  rw [sh_l x (by omega)]
  obtain ⟨p1, p2⟩ := p2_le hw
  generalize (2 : Int) ^ w = k at *
  have q1 : x.toInt * k ≤ 4294967296 * k := Int.mul_le_mul_of_nonneg_right h2 (by omega)
  have q2 : -4294967296 * k ≤ x.toInt * k := Int.mul_le_mul_of_nonneg_right h1 (by omega)
  rw [Int.bmod_eq_of_le (by omega) (by omega)]
theorem sp_lim_i {w : Nat} (hw : w ≤ 20) : (sp_lim w).toInt = 2048 * 2 ^ w := sp_l_i 2048 hw (by decide) (by decide)
theorem i64_add {x y : Int64} (h1 : -9223372036854775808 ≤ x.toInt + y.toInt) (h2 : x.toInt + y.toInt ≤ 9223372036854775807) : (x + y).toInt = x.toInt + y.toInt := by rw [Int64.toInt_add, Int.bmod_eq_of_le (by omega) (by omega)]
theorem i64_sub {x y : Int64} (h1 : -9223372036854775808 ≤ x.toInt - y.toInt) (h2 : x.toInt - y.toInt ≤ 9223372036854775807) : (x - y).toInt = x.toInt - y.toInt := by rw [Int64.toInt_sub, Int.bmod_eq_of_le (by omega) (by omega)]
theorem i64_mul {x y : Int64} (h1 : -9223372036854775808 ≤ x.toInt * y.toInt) (h2 : x.toInt * y.toInt ≤ 9223372036854775807) : (x * y).toInt = x.toInt * y.toInt := by rw [Int64.toInt_mul, Int.bmod_eq_of_le (by omega) (by omega)]
theorem i64_neg {x : Int64} (h1 : -9223372036854775807 ≤ x.toInt) : (-x).toInt = -x.toInt := by
  have := x.toInt_lt
  rw [Int64.toInt_neg, Int.bmod_eq_of_le (by omega) (by omega)]
/-- what is kept lies within the limit -/
theorem sp_k_gd {w : Nat} (hw : w ≤ 20) {lo hi : Int64} (h : lo.toInt ≤ hi.toInt) : gd w (sp_k w lo hi) := by
  obtain ⟨p1, p2⟩ := p2_le hw
  have el := sp_lim_i hw
  intro p hp
  unfold sp_k at hp
  split at hp
  · cases hp
  · rename_i h1
    split at hp
    · cases hp
    · rename_i h2
      cases hp
      rw [Int64.lt_iff_toInt_lt, i64_neg (by omega), el] at h1
      rw [Int64.lt_iff_toInt_lt, el] at h2
      exact ⟨h, by show _ ≤ lo.toInt; omega, by show hi.toInt ≤ _; omega⟩
theorem mid_i {w : Nat} (hw : w ≤ 20) {l r : Int64} (h : gd2 w l r) : l.toInt ≤ ((l + r) >>> sp_sh 1).toInt ∧ ((l + r) >>> sp_sh 1).toInt ≤ r.toInt := by
  obtain ⟨p1, p2⟩ := p2_le hw
  obtain ⟨h1, h2, h3⟩ := h
  rw [sh_r _ (by omega), i64_add (by omega) (by omega)]
  constructor
  · omega
  · omega
