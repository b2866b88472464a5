def wq (sq k R Q W : Nat) : Prop := wr sq k R Q = W
theorem wq_p {sq k R Q W : Nat} (h : wq sq (k + 1) R Q W) (z : 4 * Q + dg sq k < 4 * R + 1) : wq sq k (2 * R) (4 * Q + dg sq k) W := by
  unfold wq at h ⊢
  rw [wr_s, if_pos z] at h
  exact h
theorem wq_n {sq k R Q W : Nat} (h : wq sq (k + 1) R Q W) (z : ¬ 4 * Q + dg sq k < 4 * R + 1) : wq sq k (2 * R + 1) (4 * Q + dg sq k - (4 * R + 1)) W := by
  unfold wq at h ⊢
  rw [wr_s, if_neg z] at h
  exact h
theorem wq_0 {sq R Q W : Nat} (h : wq sq 0 R Q W) : R = W := h
theorem shh_1 : sp_sh 1 = (Int32.toInt64 1) &&& 63 := rfl
theorem shh_2 : sp_sh 2 = (Int32.toInt64 2) &&& 63 := rfl
theorem dig_lo {sq k : Nat} (h : k < 27) : (0 : Int64).toInt = ((dg sq k : Nat) : Int) := by
  have e : dg sq k = 0 := by unfold dg; rw [if_pos h]
  rw [e]
  rfl
theorem dig_e {k : Nat} {v6 : Int32} (h6 : v6.toInt = (k : Int) - 27) (hk : 27 ≤ k) (hk2 : k < 58) : 2 * v6 = nI (2 * (k - 27)) := by
  have e2 : (2 : Int32).toInt = 2 := rfl
  rw [← Int32.toInt_inj, Int32.toInt_mul, h6, nI_toInt (by omega), e2, Int.bmod_eq_of_le (by omega) (by omega)]
  omega
theorem dig_hi {v : Int64} {sq k : Nat} {v6 : Int32} (hv : v.toInt = (sq : Int)) (h6 : v6.toInt = (k : Int) - 27) (hk : 27 ≤ k) (hk2 : k < 58) : ((v >>> ((Int32.toInt64 (2 * v6)) &&& 63)) &&& 3).toInt = ((dg sq k : Nat) : Int) := by
  rw [dig_e h6 hk hk2]
  have h := dg_i hv hk hk2
  unfold sp_sh at h
  exact h
/-- how large the root so far and its rest are -/
def rb (k R Q : Nat) : Prop := R < 2 ^ (54 - k) ∧ Q ≤ 2 * R ∧ k ≤ 54
theorem rb_2 {k : Nat} (h : k + 1 ≤ 54) : 2 ^ (54 - k) = 2 * 2 ^ (54 - (k + 1)) := by rw [show 54 - k = (54 - (k + 1)) + 1 by omega, Nat.pow_succ]; omega
theorem rb_lt {k R Q : Nat} (h : rb k R Q) : R < 2 ^ 54 ∧ Q < 2 ^ 55 := by
  obtain ⟨h1, h2, h3⟩ := h
  have h4 : 2 ^ (54 - k) ≤ 2 ^ 54 := Nat.pow_le_pow_right (by omega) (by omega)
  generalize 2 ^ (54 - k) = x at *
  omega
theorem rb_p {k R Q g : Nat} (h : rb (k + 1) R Q) (hg : g < 4) (z : 4 * Q + g < 4 * R + 1) : rb k (2 * R) (4 * Q + g) := by
  obtain ⟨h1, h2, h3⟩ := h
  have e := rb_2 h3
  refine ⟨?_, by omega, by omega⟩
  rw [e]
  generalize 2 ^ (54 - (k + 1)) = x at *
  omega
theorem rb_n {k R Q g : Nat} (h : rb (k + 1) R Q) (hg : g < 4) (z : ¬ 4 * Q + g < 4 * R + 1) : rb k (2 * R + 1) (4 * Q + g - (4 * R + 1)) := by
  obtain ⟨h1, h2, h3⟩ := h
  have e := rb_2 h3
  refine ⟨?_, by omega, by omega⟩
  rw [e]
  generalize 2 ^ (54 - (k + 1)) = x at *
  omega
theorem nx4 {x : Int64} {X : Nat} (h : x.toInt = (X : Int)) (hX : X < 2 ^ 56) : (x * 4).toInt = ((4 * X : Nat) : Int) := by
  have four : (4 : Int64).toInt = 4 := rfl
  rw [i64_mul (by rw [h, four]; omega) (by rw [h, four]; omega), h, four]
  omega
theorem nx2 {x : Int64} {X : Nat} (h : x.toInt = (X : Int)) (hX : X < 2 ^ 56) : (x * 2).toInt = ((2 * X : Nat) : Int) := by
  have two : (2 : Int64).toInt = 2 := rfl
  rw [i64_mul (by rw [h, two]; omega) (by rw [h, two]; omega), h, two]
  omega
theorem nxa {x y : Int64} {X Y : Nat} (h : x.toInt = (X : Int)) (g : y.toInt = (Y : Int)) (hX : X + Y < 2 ^ 62) : (x + y).toInt = ((X + Y : Nat) : Int) := by
  rw [i64_add (by rw [h, g]; omega) (by rw [h, g]; omega), h, g]
  omega
theorem nxs {x y : Int64} {X Y : Nat} (h : x.toInt = (X : Int)) (g : y.toInt = (Y : Int)) (hX : X < 2 ^ 62) (hYX : Y ≤ X) : (x - y).toInt = ((X - Y : Nat) : Int) := by
  rw [i64_sub (by rw [h, g]; omega) (by rw [h, g]; omega), h, g]
  omega
theorem nxl {x y : Int64} {X Y : Nat} (h : x.toInt = (X : Int)) (g : y.toInt = (Y : Int)) : x < y ↔ X < Y := by
  rw [Int64.lt_iff_toInt_lt, h, g]
  omega
theorem nx_1 : (1 : Int64).toInt = ((1 : Nat) : Int) := rfl
theorem nxh {x : Int64} {X : Nat} (h : x.toInt = (X : Int)) (hX : X < 2 ^ 60) : ((x + 1) >>> sp_sh 1).toInt = (((X + 1) / 2 : Nat) : Int) := by
  rw [sh_r _ (by omega), nxa h nx_1 (by omega)]
  omega
theorem v6_dec {v6 : Int32} {k : Nat} (h : v6.toInt = ((k + 1 : Nat) : Int) - 28) (hk : k ≤ 54) : (v6 + (-1)).toInt = (k : Int) - 28 := by
  rw [i32_dec (by omega) (by omega), h]
  omega
theorem rb_s {k Q R g : Nat} (h : rb (k + 1) R Q) (hg : g < 4) : 4 * Q + g < 2 ^ 60 ∧ 4 * R + 1 < 2 ^ 60 ∧ Q < 2 ^ 56 ∧ R < 2 ^ 56 ∧ 2 * R + 1 < 2 ^ 62 ∧ 4 * Q + g < 2 ^ 62 := by
  obtain ⟨h1, h2⟩ := rb_lt h
  omega
section ROOT
variable {ext : Nat → List Value → am_M → Option am_R} {d : Nat} (I : Nat → Nat → Int32) (L : Nat → Nat → Int64) (D : Nat → Nat → UInt64) (X : am_Rf)
theorem c20_z {v kl : Int64} {W R : Nat} {r q : Int64} {v6 : Int32} (hkl : kl.toInt = (((W + 1) / 2 : Nat) : Int)) (hR : R < 2 ^ 54) (hw : R = W) (hr : r.toInt = (R : Int)) (h6 : v6 < -27) : am_wp ext d mz_20 (9, [some (.long v), none, some (.long r), none, some (.long q), none, some (.int v6), none, none], [], (I, L, D, am_rf X)) (fun x => x = (some (.long kl), (I, L, D, am_rf X))) := by
  have e : (r + 1) >>> ((Int32.toInt64 1) &&& 63) = kl := by
    rw [← Int64.toInt_inj, hkl, ← hw]
    exact nxh hr (by omega)
  refine w20_9 I L D X v r q v6 ⟨fun _ => ?_, fun z => absurd h6 z⟩
  rw [e]
theorem v6_lo {v6 : Int32} (h : v6.toInt = -28) : v6 < -27 := by
  have z27 : (-27 : Int32).toInt = -27 := rfl
  rw [Int32.lt_iff_toInt_lt, h, z27]
  decide
theorem v6_hi {v6 : Int32} {k : Nat} (h : v6.toInt = ((k + 1 : Nat) : Int) - 28) : ¬ v6 < -27 := by
  have z27 : (-27 : Int32).toInt = -27 := rfl
  rw [Int32.lt_iff_toInt_lt, h, z27]
  omega
theorem v6_0 {v6 : Int32} {k : Nat} (h : v6.toInt = ((k + 1 : Nat) : Int) - 28) : (v6 < 0 ↔ k < 27) ∧ v6.toInt = (k : Int) - 27 := by
  have z0 : (0 : Int32).toInt = 0 := rfl
  rw [Int32.lt_iff_toInt_lt, h, z0]
  omega
theorem c20_l {v kl : Int64} {sq W : Nat} (hv : v.toInt = (sq : Int)) (hkl : kl.toInt = (((W + 1) / 2 : Nat) : Int)) : ∀ (k R Q : Nat) (r q : Int64) (v6 : Int32), v6.toInt = (k : Int) - 28 → r.toInt = (R : Int) → q.toInt = (Q : Int) → rb k R Q → wq sq k R Q W → am_wp ext d mz_20 (9, [some (.long v), none, some (.long r), none, some (.long q), none, some (.int v6), none, none], [], (I, L, D, am_rf X)) (fun x => x = (some (.long kl), (I, L, D, am_rf X))) := by
  intro k
  induction k with
  | zero =>
    intro R Q r q v6 h6 hr hq hb hw
    exact c20_z I L D X hkl (rb_lt hb).1 (wq_0 hw) hr (v6_lo h6)
  | succ k ih =>
    intro R Q r q v6 h6 hr hq hb hw
    have hdg := dg_lt sq k
    obtain ⟨b1, b2, b3, b4, b5, b6⟩ := rb_s hb hdg
    have hk : k + 1 ≤ 54 := hb.2.2
    have h7 := v6_dec h6 (Nat.le_of_succ_le hk)
    have q4 := nx4 hq b3
    have r4 := nxa (nx4 hr b4) nx_1 (Nat.lt_trans b2 (by decide))
    have r2 := nx2 hr b4
    have r3 := nxa r2 nx_1 b5
    have g41 : ∀ s0 : Int64, s0.toInt = ((dg sq k : Nat) : Int) → am_wp ext d mz_20 (41, [some (.long v), none, some (.long r), none, none, none, some (.int v6), none, none], [.long s0, .long (q * 4)], (I, L, D, am_rf X)) (fun x => x = (some (.long kl), (I, L, D, am_rf X))) := by
      intro s0 hs
      have es := nxa q4 hs b6
      have hlt := nxl es r4
      refine w20_41 I L D X v r v6 s0 (q * 4) ⟨fun z => ?_, fun z => ?_⟩
      · exact ih (2 * R) (4 * Q + dg sq k) _ _ _ h7 r2 es (rb_p hb hdg (hlt.mp z)) (wq_p hw (hlt.mp z))
      · have z' : ¬ 4 * Q + dg sq k < 4 * R + 1 := fun y => z (hlt.mpr y)
        exact ih (2 * R + 1) (4 * Q + dg sq k - (4 * R + 1)) _ _ _ h7 r3 (nxs es r4 b6 (Nat.le_of_not_lt z')) (rb_n hb hdg z') (wq_n hw z')
    obtain ⟨i0, h6'⟩ := v6_0 h6
    refine w20_9 I L D X v r q v6 ⟨fun z => absurd z (v6_hi h6), fun _ => ⟨fun z => ?_, fun z => ?_⟩⟩
    · exact g41 0 (dig_lo (i0.mp z))
    · exact g41 _ (dig_hi hv h6' (Nat.le_of_not_lt (fun y => z (i0.mpr y))) (Nat.lt_of_lt_of_le hk (by decide)))
end ROOT
