/-! ===== the roots of doubles, digit by digit ===== -/
def dg (sq k : Nat) : Nat := if k < 27 then 0 else sq / 4 ^ (k - 27) % 4
def wr (sq : Nat) : Nat → Nat → Nat → Nat
  | 0, R, _ => R
  | k + 1, R, Q => if 4 * Q + dg sq k < 4 * R + 1 then wr sq k (2 * R) (4 * Q + dg sq k) else wr sq k (2 * R + 1) (4 * Q + dg sq k - (4 * R + 1))
theorem dg_lt (sq k : Nat) : dg sq k < 4 := by
  unfold dg
  split
  · omega
  · exact Nat.mod_lt _ (by omega)
theorem wr_lt (sq : Nat) : ∀ (k R Q : Nat), wr sq k R Q + 1 ≤ 2 ^ k * (R + 1)
  | 0, R, Q => by rw [wr, Nat.pow_zero, Nat.one_mul]; exact Nat.le_refl _
  | k + 1, R, Q => by
    have e : 2 ^ (k + 1) * (R + 1) = 2 ^ k * (2 * R + 1 + 1) := by rw [Nat.pow_succ, Nat.mul_assoc, show 2 * (R + 1) = 2 * R + 1 + 1 by omega]
    rw [wr, e]
    split
    · exact Nat.le_trans (wr_lt sq k (2 * R) _) (Nat.mul_le_mul_left _ (by omega))
    · exact wr_lt sq k (2 * R + 1) _
theorem wr_s (sq k R Q : Nat) : wr sq (k + 1) R Q = if 4 * Q + dg sq k < 4 * R + 1 then wr sq k (2 * R) (4 * Q + dg sq k) else wr sq k (2 * R + 1) (4 * Q + dg sq k - (4 * R + 1)) := rfl
def kp (sq : Nat) : Nat := (wr sq 54 0 0 + 1) / 2
theorem kp_le (sq : Nat) : kp sq ≤ 2 ^ 53 := by
  have h := wr_lt sq 54 0 0
  have e : (2 : Nat) ^ 54 * (0 + 1) = 2 * 2 ^ 53 := rfl
  unfold kp
  generalize wr sq 54 0 0 = w at *
  omega
theorem tn {x : Int64} (h : 0 ≤ x.toInt) : (x.toBitVec.toNat : Int) = x.toInt := by
  have e : x.toInt = x.toBitVec.toInt := rfl
  have l := x.toBitVec.isLt
  have c := BitVec.toInt_eq_toNat_cond x.toBitVec
  split at c <;> omega
theorem ti {x : Int64} {n : Nat} (h : x.toBitVec.toNat = n) (hn : n < 9223372036854775808) : x.toInt = (n : Int) := by
  have e : x.toInt = x.toBitVec.toInt := rfl
  have c := BitVec.toInt_eq_toNat_cond x.toBitVec
  split at c <;> omega
theorem and3 {y : Int64} {Y : Nat} (h : y.toInt = (Y : Int)) : (y &&& 3).toInt = ((Y % 4 : Nat) : Int) := by
  have t := tn (x := y) (by omega)
  refine ti ?_ (by omega)
  show (y.toBitVec &&& (3 : Int64).toBitVec).toNat = _
  rw [BitVec.toNat_and, show (3 : Int64).toBitVec.toNat = 2 ^ 2 - 1 from rfl, Nat.and_two_pow_sub_one_eq_mod]
  omega
theorem and1 {y : Int64} {Y : Nat} (h : y.toInt = (Y : Int)) : (y &&& 1).toInt = ((Y % 2 : Nat) : Int) := by
  have t := tn (x := y) (by omega)
  refine ti ?_ (by omega)
  show (y.toBitVec &&& (1 : Int64).toBitVec).toNat = _
  rw [BitVec.toNat_and, show (1 : Int64).toBitVec.toNat = 2 ^ 1 - 1 from rfl, Nat.and_two_pow_sub_one_eq_mod]
  omega
theorem or2 {y s : Int64} {Y S : Nat} (hy : y.toInt = (Y : Int)) (hs : s.toInt = (S : Int)) (h4 : S < 4) (hX : Y < 2 ^ 60) : ((y <<< sp_sh 2) ||| s).toInt = ((4 * Y + S : Nat) : Int) := by
  have e1 : (y <<< sp_sh 2).toInt = ((4 * Y : Nat) : Int) := by
    rw [sh_l y (by omega), hy]
    rw [Int.bmod_eq_of_le (by omega) (by omega)]
    omega
  have t1 := tn (x := y <<< sp_sh 2) (by omega)
  have t2 := tn (x := s) (by omega)
  refine ti ?_ (by omega)
  show ((y <<< sp_sh 2).toBitVec ||| s.toBitVec).toNat = _
  rw [BitVec.toNat_or, show (y <<< sp_sh 2).toBitVec.toNat = Y <<< 2 by rw [Nat.shiftLeft_eq]; omega, show s.toBitVec.toNat = S by omega, ← Nat.shiftLeft_add_eq_or_of_lt (show S < 2 ^ 2 by omega), Nat.shiftLeft_eq]
  omega
theorem sh2 {y : Int64} {Y : Nat} (hy : y.toInt = (Y : Int)) (hX : Y < 2 ^ 60) : (y <<< sp_sh 1).toInt = ((2 * Y : Nat) : Int) := by
  rw [sh_l y (by omega), hy]
  rw [Int.bmod_eq_of_le (by omega) (by omega)]
  omega
/-- a pair of digits -/
theorem dg_i {y : Int64} {Y k : Nat} (hy : y.toInt = (Y : Int)) (hk : 27 ≤ k) (hk2 : k < 58) : ((y >>> sp_sh (2 * (k - 27))) &&& 3).toInt = ((dg Y k : Nat) : Int) := by
  have e : (y >>> sp_sh (2 * (k - 27))).toInt = ((Y / 4 ^ (k - 27) : Nat) : Int) := by
    have e0 : 4 ^ (k - 27) = 2 ^ (2 * (k - 27)) := by rw [Nat.pow_mul]
    rw [sh_r y (by omega), hy, e0, Int.natCast_ediv, Int.natCast_pow]
    rfl
  rw [and3 e]
  unfold dg
  rw [if_neg (by omega)]
theorem i32_dec {x : Int32} (h : -100000 ≤ x.toInt) (h2 : x.toInt ≤ 100000) : (x + (-1)).toInt = x.toInt - 1 := by
  rw [Int32.toInt_add, show (-1 : Int32).toInt = -1 from rfl, Int.bmod_eq_of_le (by omega) (by omega)]
  omega
theorem i32_inc {x : Int32} (h : -100000 ≤ x.toInt) (h2 : x.toInt ≤ 100000) : (x + 1).toInt = x.toInt + 1 := by
  rw [Int32.toInt_add, show (1 : Int32).toInt = 1 from rfl, Int.bmod_eq_of_le (by omega) (by omega)]
def kpl (sq : Nat) : Int64 := Int64.ofInt ((kp sq : Nat) : Int)
theorem kpl_i (sq : Nat) : (kpl sq).toInt = ((kp sq : Nat) : Int) := by
  have := kp_le sq
  unfold kpl
  rw [Int64.toInt_ofInt, show Int64.size = 18446744073709551616 from rfl, Int.bmod_eq_of_le (by omega) (by omega)]
