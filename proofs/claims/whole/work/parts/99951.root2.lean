def wq (sq k R Q W : Nat) : Prop := wr sq k R Q = W
theorem wq_p {sq k R Q W : Nat} (h : wq sq (k + 1) R Q W) (z : 4 * Q + dg sq k < 4 * R + 1) : wq sq k (2 * R) (4 * Q + dg sq k) W := by
  unfold wq at h ⊢
  rw [wr_s, if_pos z] at h
  exact h
theorem wq_n {sq k R Q W : Nat} (h : wq sq (k + 1) R Q W) (z : ¬ 4 * Q + dg sq k < 4 * R + 1) : wq sq k (2 * R + 1) (4 * Q + dg sq k - (4 * R + 1)) W := by
  unfold wq at h ⊢
  rw [wr_s, if_neg z] at h
  exact h
theorem wq_0 {sq R Q W : Nat} (h : wq sq 0 R Q W) : R = W := h
theorem shh_1 : sp_sh 1 = (Int32.toInt64 1) &&& 63 := rfl
theorem shh_2 : sp_sh 2 = (Int32.toInt64 2) &&& 63 := rfl
section ROOT
variable {ext : Nat → List Value → am_M → Option am_R} {d : Nat} (I : Nat → Nat → Int32) (L : Nat → Nat → Int64) (D : Nat → Nat → UInt64) (X : am_Rf)
theorem c20_l {v kl : Int64} {sq W : Nat} (hv : v.toInt = (sq : Int)) (hkl : kl.toInt = (((W + 1) / 2 : Nat) : Int)) : ∀ (k R Q : Nat) (r q : Int64) (v6 : Int32), k ≤ 54 → v6.toInt = (k : Int) - 28 → r.toInt = (R : Int) → q.toInt = (Q : Int) → R < 2 ^ (54 - k) → Q ≤ 2 * R → wq sq k R Q W → am_wp ext d mz_20 (9, [some (.long v), none, some (.long r), none, some (.long q), none, some (.int v6), none, none], [], (I, L, D, am_rf X)) (fun x => x = (some (.long kl), (I, L, D, am_rf X))) := by
  have one : (1 : Int64).toInt = 1 := rfl
  have two : (2 : Int64).toInt = 2 := rfl
  have four : (4 : Int64).toInt = 4 := rfl
  intro k
  induction k with
  | zero =>
    intro R Q r q v6 hk h6 hr hq hR hQ hw
    have hw' : R = W := wq_0 hw
    have hR' : R < 2 ^ 54 := hR
    clear hw
    refine w20_9 I L D X v r q v6 ⟨fun _ => ?_, fun z => absurd ?_ z⟩
    · congr 3
      rw [← Int64.toInt_inj, hkl]
      show ((r + 1) >>> sp_sh 1).toInt = _
      rw [sh_r _ (by omega), i64_add (by rw [hr, one]; omega) (by rw [hr, one]; omega), hr, one, ← hw']
      omega
    · rw [Int32.lt_iff_toInt_lt, h6]
      decide
  | succ k ih =>
    intro R Q r q v6 hk h6 hr hq hR hQ hw
    have hp : 2 ^ (54 - k) = 2 * 2 ^ (54 - (k + 1)) := by rw [show 54 - k = (54 - (k + 1)) + 1 by omega, Nat.pow_succ]; omega
    have h54 : 2 ^ (54 - k) ≤ 2 ^ 54 := Nat.pow_le_pow_right (by omega) (by omega)
    have hdg := dg_lt sq k
    have h7 := i32_dec (x := v6) (by omega) (by omega)
    have q4 : (q * 4).toInt = ((4 * Q : Nat) : Int) := by rw [i64_mul (by rw [hq, four]; omega) (by rw [hq, four]; omega), hq, four]; omega
    have r40 : (r * 4).toInt = ((4 * R : Nat) : Int) := by rw [i64_mul (by rw [hr, four]; omega) (by rw [hr, four]; omega), hr, four]; omega
    have r4 : (r * 4 + 1).toInt = ((4 * R + 1 : Nat) : Int) := by rw [i64_add (by rw [r40, one]; omega) (by rw [r40, one]; omega), r40, one]; omega
    have r2 : (r * 2).toInt = ((2 * R : Nat) : Int) := by rw [i64_mul (by rw [hr, two]; omega) (by rw [hr, two]; omega), hr, two]; omega
    have r3 : (r * 2 + 1).toInt = ((2 * R + 1 : Nat) : Int) := by rw [i64_add (by rw [r2, one]; omega) (by rw [r2, one]; omega), r2, one]; omega
    have g41 : ∀ s0 : Int64, s0.toInt = ((dg sq k : Nat) : Int) → am_wp ext d mz_20 (41, [some (.long v), none, some (.long r), none, none, none, some (.int v6), none, none], [.long s0, .long (q * 4)], (I, L, D, am_rf X)) (fun x => x = (some (.long kl), (I, L, D, am_rf X))) := by
      intro s0 hs
      have es : (q * 4 + s0).toInt = ((4 * Q + dg sq k : Nat) : Int) := by rw [i64_add (by rw [q4, hs]; omega) (by rw [q4, hs]; omega), q4, hs]; omega
      have hlt : q * 4 + s0 < r * 4 + 1 ↔ 4 * Q + dg sq k < 4 * R + 1 := by rw [Int64.lt_iff_toInt_lt, es, r4]; omega
      refine w20_41 I L D X v r v6 s0 (q * 4) ⟨fun z => ?_, fun z => ?_⟩
      · have z' := hlt.mp z
        exact ih (2 * R) (4 * Q + dg sq k) _ _ _ (by omega) (by rw [h7, h6]; omega) r2 es (by omega) (by omega) (wq_p hw z')
      · have z' : ¬ 4 * Q + dg sq k < 4 * R + 1 := fun y => z (hlt.mpr y)
        have ed : (q * 4 + s0 - (r * 4 + 1)).toInt = ((4 * Q + dg sq k - (4 * R + 1) : Nat) : Int) := by rw [i64_sub (by rw [es, r4]; omega) (by rw [es, r4]; omega), es, r4]; omega
        exact ih (2 * R + 1) (4 * Q + dg sq k - (4 * R + 1)) _ _ _ (by omega) (by rw [h7, h6]; omega) r3 ed (by omega) (by omega) (wq_n hw z')
    refine w20_9 I L D X v r q v6 ⟨fun z => ?_, fun _ => ⟨fun z => ?_, fun z => ?_⟩⟩
    · rw [Int32.lt_iff_toInt_lt, h6] at z
      have : (-27 : Int32).toInt = -27 := rfl
      omega
    · rw [Int32.lt_iff_toInt_lt, h6] at z
      have : (0 : Int32).toInt = 0 := rfl
      refine g41 0 ?_
      unfold dg
      rw [if_pos (by omega)]
      rfl
    · rw [Int32.lt_iff_toInt_lt, h6] at z
      have : (0 : Int32).toInt = 0 := rfl
      have e6 : 2 * v6 = nI (2 * (k - 27)) := by
        rw [← Int32.toInt_inj, Int32.toInt_mul, h6, nI_toInt (n := 2 * (k - 27)) (by omega), show (2 : Int32).toInt = 2 from rfl, Int.bmod_eq_of_le (by omega) (by omega)]
        omega
      refine g41 _ ?_
      rw [e6]
      have h := dg_i (k := k) hv (by omega) (by omega)
      unfold sp_sh at h
      exact h
end ROOT
