/-! ===== the roots of doubles, digit by digit ===== -/
def dg (sq k : Nat) : Nat := if k < 27 then 0 else sq / 4 ^ (k - 27) % 4
def wr (sq : Nat) : Nat → Nat → Nat → Nat
  | 0, R, _ => R
  | k + 1, R, Q => if 4 * Q + dg sq k < 4 * R + 1 then wr sq k (2 * R) (4 * Q + dg sq k) else wr sq k (2 * R + 1) (4 * Q + dg sq k - (4 * R + 1))
theorem dg_lt (sq k : Nat) : dg sq k < 4 := by
  unfold dg
  split
  · omega
  · exact Nat.mod_lt _ (by omega)
theorem wr_lt (sq : Nat) : ∀ (k R Q : Nat), wr sq k R Q + 1 ≤ 2 ^ k * (R + 1)
  | 0, R, Q => by rw [wr, Nat.pow_zero, Nat.one_mul]; exact Nat.le_refl _
  | k + 1, R, Q => by
    have e : 2 ^ (k + 1) * (R + 1) = 2 ^ k * (2 * R + 1 + 1) := by rw [Nat.pow_succ, Nat.mul_assoc]; congr 1; omega
    rw [wr, e]
    split
    · exact Nat.le_trans (wr_lt sq k (2 * R) _) (Nat.mul_le_mul_left _ (by omega))
    · exact wr_lt sq k (2 * R + 1) _
def kp (sq : Nat) : Nat := (wr sq 54 0 0 + 1) / 2
theorem kp_le (sq : Nat) : kp sq ≤ 2 ^ 53 := by
  have h := wr_lt sq 54 0 0
  have e : (2 : Nat) ^ 54 * (0 + 1) = 2 * 2 ^ 53 := rfl
  unfold kp
  omega
theorem tn {x : Int64} (h : 0 ≤ x.toInt) : (x.toBitVec.toNat : Int) = x.toInt := by
  have e : x.toInt = x.toBitVec.toInt := rfl
  have l := x.toBitVec.isLt
  have c := BitVec.toInt_eq_toNat_cond x.toBitVec
  split at c <;> omega
theorem ti {x : Int64} {n : Nat} (h : x.toBitVec.toNat = n) (hn : n < 9223372036854775808) : x.toInt = (n : Int) := by
  have e : x.toInt = x.toBitVec.toInt := rfl
  have c := BitVec.toInt_eq_toNat_cond x.toBitVec
  split at c <;> omega
theorem and3 {y : Int64} {Y : Nat} (h : y.toInt = (Y : Int)) : (y &&& 3).toInt = ((Y % 4 : Nat) : Int) := by
  have t := tn (x := y) (by omega)
  refine ti ?_ (by omega)
  show (y.toBitVec &&& (3 : Int64).toBitVec).toNat = _
  rw [BitVec.toNat_and, show (3 : Int64).toBitVec.toNat = 2 ^ 2 - 1 from rfl, Nat.and_two_pow_sub_one_eq_mod]
  omega
theorem and1 {y : Int64} {Y : Nat} (h : y.toInt = (Y : Int)) : (y &&& 1).toInt = ((Y % 2 : Nat) : Int) := by
  have t := tn (x := y) (by omega)
  refine ti ?_ (by omega)
  show (y.toBitVec &&& (1 : Int64).toBitVec).toNat = _
  rw [BitVec.toNat_and, show (1 : Int64).toBitVec.toNat = 2 ^ 1 - 1 from rfl, Nat.and_two_pow_sub_one_eq_mod]
  omega
theorem or2 {y s : Int64} {Y S : Nat} (hy : y.toInt = (Y : Int)) (hs : s.toInt = (S : Int)) (h4 : S < 4) (hX : Y < 2 ^ 60) : ((y <<< sp_sh 2) ||| s).toInt = ((4 * Y + S : Nat) : Int) := by
  have e1 : (y <<< sp_sh 2).toInt = ((4 * Y : Nat) : Int) := by
    rw [sh_l y (by omega), hy]
    rw [Int.bmod_eq_of_le (by omega) (by omega)]
    omega
  have t1 := tn (x := y <<< sp_sh 2) (by omega)
  have t2 := tn (x := s) (by omega)
  refine ti ?_ (by omega)
  show ((y <<< sp_sh 2).toBitVec ||| s.toBitVec).toNat = _
  rw [BitVec.toNat_or, show (y <<< sp_sh 2).toBitVec.toNat = Y <<< 2 by rw [Nat.shiftLeft_eq]; omega, show s.toBitVec.toNat = S by omega, ← Nat.shiftLeft_add_eq_or_of_lt (show S < 2 ^ 2 by omega), Nat.shiftLeft_eq]
  omega
theorem sh2 {y : Int64} {Y : Nat} (hy : y.toInt = (Y : Int)) (hX : Y < 2 ^ 60) : (y <<< sp_sh 1).toInt = ((2 * Y : Nat) : Int) := by
  rw [sh_l y (by omega), hy]
  rw [Int.bmod_eq_of_le (by omega) (by omega)]
  omega
/-- a pair of digits -/
theorem dg_i {y : Int64} {Y k : Nat} (hy : y.toInt = (Y : Int)) (hk : 27 ≤ k) (hk2 : k < 58) : ((y >>> sp_sh (2 * (k - 27))) &&& 3).toInt = ((dg Y k : Nat) : Int) := by
  have e : (y >>> sp_sh (2 * (k - 27))).toInt = ((Y / 4 ^ (k - 27) : Nat) : Int) := by
    have e0 : 4 ^ (k - 27) = 2 ^ (2 * (k - 27)) := by rw [Nat.pow_mul]
    rw [sh_r y (by omega), hy, e0, Int.natCast_ediv, Int.natCast_pow]
    rfl
  rw [and3 e]
  unfold dg
  rw [if_neg (by omega)]
theorem i32_dec {x : Int32} (h : -100000 ≤ x.toInt) (h2 : x.toInt ≤ 100000) : (x + (-1)).toInt = x.toInt - 1 := by
  rw [Int32.toInt_add, show (-1 : Int32).toInt = -1 from rfl, Int.bmod_eq_of_le (by omega) (by omega)]
  omega
theorem i32_inc {x : Int32} (h : -100000 ≤ x.toInt) (h2 : x.toInt ≤ 100000) : (x + 1).toInt = x.toInt + 1 := by
  rw [Int32.toInt_add, show (1 : Int32).toInt = 1 from rfl, Int.bmod_eq_of_le (by omega) (by omega)]
def kpl (sq : Nat) : Int64 := Int64.ofInt ((kp sq : Nat) : Int)
theorem kpl_i (sq : Nat) : (kpl sq).toInt = ((kp sq : Nat) : Int) := by
  have := kp_le sq
  unfold kpl
  rw [Int64.toInt_ofInt, show Int64.size = 18446744073709551616 from rfl, Int.bmod_eq_of_le (by omega) (by omega)]
section ROOT
variable {ext : Nat → List Value → am_M → Option am_R} {d : Nat} (I : Nat → Nat → Int32) (L : Nat → Nat → Int64) (D : Nat → Nat → UInt64) (X : am_Rf)
theorem c20 {v : Int64} {sq : Nat} (hv : v.toInt = (sq : Int)) : am_Rn ext (d + 1) 20 [.long v] (I, L, D, am_rf X) (some (.long (kpl sq)), (I, L, D, am_rf X)) := by
  have one : (1 : Int64).toInt = 1 := rfl
  have two : (2 : Int64).toInt = 2 := rfl
  have four : (4 : Int64).toInt = 4 := rfl
  have key : ∀ (k R Q : Nat) (r q : Int64) (v6 : Int32), k ≤ 54 → v6.toInt = (k : Int) - 28 → r.toInt = (R : Int) → q.toInt = (Q : Int) → R < 2 ^ (54 - k) → Q ≤ 2 * R → wr sq k R Q = wr sq 54 0 0 → am_wp ext d mz_20 (9, [some (.long v), none, some (.long r), none, some (.long q), none, some (.int v6), none, none], [], (I, L, D, am_rf X)) (fun x => x = (some (.long (kpl sq)), (I, L, D, am_rf X))) := by
    intro k
    induction k with
    | zero =>
      intro R Q r q v6 hk h6 hr hq hR hQ hw
      have hw' : R = wr sq 54 0 0 := hw
      have hR' : R < 2 ^ 54 := hR
      refine w20_9 I L D X v r q v6 ⟨fun _ => ?_, fun z => absurd ?_ z⟩
      · congr 3
        rw [← Int64.toInt_inj, kpl_i]
        show ((r + 1) >>> sp_sh 1).toInt = _
        rw [sh_r _ (by omega), i64_add (by omega) (by omega), hr, one]
        unfold kp
        rw [← hw']
        omega
      · rw [Int32.lt_iff_toInt_lt, h6]
        decide
    | succ k ih =>
      intro R Q r q v6 hk h6 hr hq hR hQ hw
      have hp : 2 ^ (54 - k) = 2 * 2 ^ (54 - (k + 1)) := by rw [show 54 - k = (54 - (k + 1)) + 1 by omega, Nat.pow_succ]; omega
      have h54 : 2 ^ (54 - k) ≤ 2 ^ 54 := Nat.pow_le_pow_right (by omega) (by omega)
      have hdg := dg_lt sq k
      have h7 := i32_dec (x := v6) (by omega) (by omega)
      have q4 : (q * 4).toInt = ((4 * Q : Nat) : Int) := by rw [i64_mul (by omega) (by omega), hq, four]; omega
      have r4 : (r * 4 + 1).toInt = ((4 * R + 1 : Nat) : Int) := by rw [i64_add (by rw [i64_mul (by omega) (by omega), hr, four]; omega) (by rw [i64_mul (by omega) (by omega), hr, four]; omega), i64_mul (by omega) (by omega), hr, four, one]; omega
      have r2 : (r * 2).toInt = ((2 * R : Nat) : Int) := by rw [i64_mul (by omega) (by omega), hr, two]; omega
      have r3 : (r * 2 + 1).toInt = ((2 * R + 1 : Nat) : Int) := by rw [i64_add (by rw [r2]; omega) (by rw [r2]; omega), r2, one]; omega
      have g41 : ∀ s0 : Int64, s0.toInt = ((dg sq k : Nat) : Int) → am_wp ext d mz_20 (41, [some (.long v), none, some (.long r), none, none, none, some (.int v6), none, none], [.long s0, .long (q * 4)], (I, L, D, am_rf X)) (fun x => x = (some (.long (kpl sq)), (I, L, D, am_rf X))) := by
        intro s0 hs
        have es : (q * 4 + s0).toInt = ((4 * Q + dg sq k : Nat) : Int) := by rw [i64_add (by rw [q4, hs]; omega) (by rw [q4, hs]; omega), q4, hs]; omega
        have hlt : q * 4 + s0 < r * 4 + 1 ↔ 4 * Q + dg sq k < 4 * R + 1 := by rw [Int64.lt_iff_toInt_lt, es, r4]; omega
        refine w20_41 I L D X v r v6 s0 (q * 4) ⟨fun z => ?_, fun z => ?_⟩
        · have z' := hlt.mp z
          exact ih (2 * R) (4 * Q + dg sq k) _ _ _ (by omega) (by rw [h7, h6]; omega) r2 es (by omega) (by omega) (by rw [wr, if_pos z'] at hw; exact hw)
        · have z' : ¬ 4 * Q + dg sq k < 4 * R + 1 := fun y => z (hlt.mpr y)
          have ed : (q * 4 + s0 - (r * 4 + 1)).toInt = ((4 * Q + dg sq k - (4 * R + 1) : Nat) : Int) := by rw [i64_sub (by rw [es, r4]; omega) (by rw [es, r4]; omega), es, r4]; omega
          exact ih (2 * R + 1) (4 * Q + dg sq k - (4 * R + 1)) _ _ _ (by omega) (by rw [h7, h6]; omega) r3 ed (by omega) (by omega) (by rw [wr, if_neg z'] at hw; exact hw)
      refine w20_9 I L D X v r q v6 ⟨fun z => ?_, fun _ => ⟨fun z => ?_, fun z => ?_⟩⟩
      · rw [Int32.lt_iff_toInt_lt, h6] at z
        have : (-27 : Int32).toInt = -27 := rfl
        omega
      · rw [Int32.lt_iff_toInt_lt, h6] at z
        have : (0 : Int32).toInt = 0 := rfl
        refine g41 0 ?_
        unfold dg
        rw [if_pos (by omega)]
        rfl
      · rw [Int32.lt_iff_toInt_lt, h6] at z
        have : (0 : Int32).toInt = 0 := rfl
        have e6 : 2 * v6 = nI (2 * (k - 27)) := by
          rw [← Int32.toInt_inj, Int32.toInt_mul, h6, nI_toInt (by omega), show (2 : Int32).toInt = 2 from rfl, Int.bmod_eq_of_le (by omega) (by omega)]
          omega
        refine g41 _ ?_
        rw [e6]
        exact dg_i hv (by omega) (by omega)
  exact am_rn_of mh_20 rfl (w20_0 I L D X v (key 54 0 0 0 0 26 (by omega) rfl rfl rfl (by decide) (by omega) rfl))
/-! from 2 to the 52 to 2 to the 54 -/
def tA : Nat := 2 ^ 1126
def tB : Nat := 2 ^ 1128
theorem tB_e : tB = 4 * tA := Nat.pow_add 2 2 1126
theorem tA_pos : 0 < tA := Nat.two_pow_pos _
def rtR (n : Nat) (r : UInt64) : Prop := ∃ S s t : Nat, t ≤ 563 ∧ s ≤ 600 ∧ tA ≤ S ∧ S < tB ∧ n * 4 ^ t = S * 4 ^ s ∧ dv r (kp (S / 2 ^ 1074) * 2 ^ (1048 + s - t))
theorem rt_u {n : Nat} {r r' : UInt64} (h : rtR n r) (g : rtR n r') : r = r' := by
  obtain ⟨S, s, t, h1, h2, h3, h4, h5, h6⟩ := h
  obtain ⟨S', s', t', g1, g2, g3, g4, g5, g6⟩ := g
  have e : S * 4 ^ (s + t') = S' * 4 ^ (s' + t) := by
    rw [Nat.pow_add, Nat.pow_add, ← Nat.mul_assoc, ← Nat.mul_assoc, ← h5, ← g5, Nat.mul_assoc, Nat.mul_assoc, Nat.mul_comm (4 ^ t)]
  have tb := tB_e
  have no : ∀ (A B x y : Nat), tA ≤ A → A < tB → tA ≤ B → B < tB → A * 4 ^ x = B * 4 ^ y → ¬ x < y := by
    intro A B x y a1 a2 b1 b2 e hxy
    have ey : 4 ^ y = 4 ^ (y - x - 1) * 4 * 4 ^ x := by rw [← Nat.pow_succ, ← Nat.pow_add]; congr 1; omega
    rw [ey, ← Nat.mul_assoc] at e
    have e2 := Nat.eq_of_mul_eq_mul_right (Nat.pow_pos (by omega : 0 < 4)) e
    have p : 1 ≤ 4 ^ (y - x - 1) := Nat.pow_pos (by omega)
    have : B * 4 ≤ B * (4 ^ (y - x - 1) * 4) := Nat.mul_le_mul_left _ (by omega)
    omega
  have n1 := no S S' (s + t') (s' + t) h3 h4 g3 g4 e
  have n2 := no S' S (s' + t) (s + t') g3 g4 h3 h4 e.symm
  have ex : s + t' = s' + t := by omega
  rw [ex] at e
  have eS := Nat.eq_of_mul_eq_mul_right (Nat.pow_pos (by omega : 0 < 4)) e
  subst eS
  rw [show 1048 + s' - t' = 1048 + s - t by omega] at g6
  exact dv_inj h6 g6
theorem four_dvd {a : UInt64} {n : Nat} (h : dv a n) (hn : 2 ^ 1076 ≤ n) : ∃ m, n = m * 2 ^ 2 := by
  obtain ⟨c, t, h1, h2, e⟩ := dv_rep h
  have ht : 2 ≤ t := by
    by_cases ht : 2 ≤ t
    · exact ht
    · have p1 : 2 ^ t ≤ 2 ^ 1 := Nat.pow_le_pow_right (by omega) (by omega)
      have p2 : n < 2 ^ 53 * 2 ^ 1 := by
        rw [e]
        exact Nat.lt_of_lt_of_le (Nat.mul_lt_mul_of_pos_right h1 (Nat.two_pow_pos _)) (Nat.mul_le_mul_left _ p1)
      have p3 : 2 ^ 53 * 2 ^ 1 ≤ 2 ^ 1076 := by rw [← Nat.pow_add]; exact Nat.pow_le_pow_right (by omega) (by omega)
      omega
  refine ⟨c * 2 ^ (t - 2), ?_⟩
  rw [e, Nat.mul_assoc, ← Nat.pow_add]
  congr 2
  omega
end ROOT
