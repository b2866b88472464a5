/-! ===== the reference's root ===== -/
def tC : Nat := 2 ^ 1074
def tD : Nat := 2 ^ 1076
theorem tD_e : tD = 4 * tC := by decide +kernel
theorem tA_C : tA = 2 ^ 52 * tC := by decide +kernel
theorem tB_D : tB = 2 ^ 52 * tD := by decide +kernel
theorem kC : dv FP.dconst1 tC := ⟨2 ^ 52, -52, FP.Core.val64_dconst1, by decide +kernel⟩
theorem kD : dv 4616189618054758400 tD := ⟨_, _, k_4, by decide +kernel⟩
theorem nxo {y t : Int64} {A B : Nat} (hy : y.toInt = (A : Int)) (hs : t.toInt = (B : Int)) (h4 : B < 4) (hX : A < 2 ^ 56) : ((y <<< ((Int32.toInt64 2) &&& 63)) ||| t).toInt = ((4 * A + B : Nat) : Int) := by
  have h := or2 hy hs h4 (by omega)
  rw [shh_2] at h
  exact h
theorem nxl2 {y : Int64} {A : Nat} (hy : y.toInt = (A : Int)) (hX : A < 2 ^ 56) : (y <<< ((Int32.toInt64 1) &&& 63)).toInt = ((2 * A : Nat) : Int) := by
  have h := sh2 hy (by omega)
  rw [shh_1] at h
  exact h
theorem nxk {r kl : Int64} {R W : Nat} (hr : r.toInt = (R : Int)) (hR : R < 2 ^ 54) (hw : R = W) (hkl : kl.toInt = (((W + 1) / 2 : Nat) : Int)) : (r >>> ((Int32.toInt64 1) &&& 63)) + (r &&& 1) = kl := by
  have h1 : (r >>> sp_sh 1).toInt = ((R / 2 : Nat) : Int) := by rw [sh_r _ (by omega), hr]; omega
  have h2 := and1 hr
  rw [← Int64.toInt_inj, hkl, ← shh_1, nxa h1 h2 (by omega), ← hw]
  omega
theorem v11_lo {v : Int32} (h : v.toInt = ((0 : Nat) : Int) - 1) : v < 0 := by
  have z : (0 : Int32).toInt = 0 := rfl
  rw [Int32.lt_iff_toInt_lt, h, z]
  decide
theorem v11_hi {v : Int32} {k : Nat} (h : v.toInt = ((k + 1 : Nat) : Int) - 1) : ¬ v < 0 := by
  have z : (0 : Int32).toInt = 0 := rfl
  rw [Int32.lt_iff_toInt_lt, h, z]
  omega
theorem v11_dec {v : Int32} {k : Nat} (h : v.toInt = ((k + 1 : Nat) : Int) - 1) (hk : k ≤ 54) : (v + (-1)).toInt = (k : Int) - 1 := by
  rw [i32_dec (by omega) (by omega), h]
  omega
theorem v11_2 {v : Int32} {k : Nat} (h : v.toInt = ((k + 1 : Nat) : Int) - 1) (hk : k + 1 ≤ 54) : (2 * v - 54).toInt = 2 * (k : Int) - 54 := by
  have e2 : (2 : Int32).toInt = 2 := rfl
  have e54 : (54 : Int32).toInt = 54 := rfl
  have e1 : (2 * v).toInt = 2 * (k : Int) := by
    rw [Int32.toInt_mul, h, e2, Int.bmod_eq_of_le (by omega) (by omega)]
    omega
  rw [Int32.toInt_sub, e1, e54, Int.bmod_eq_of_le (by omega) (by omega)]
theorem v11_0 {v : Int32} {k : Nat} (h : v.toInt = ((k + 1 : Nat) : Int) - 1) (hk : k + 1 ≤ 54) : 0 ≤ 2 * v - 54 ↔ 27 ≤ k := by
  have z : (0 : Int32).toInt = 0 := rfl
  rw [Int32.le_iff_toInt_le, v11_2 h hk, z]
  omega
theorem dig_m {v : Int64} {sq k : Nat} {v11 : Int32} (hv : v.toInt = (sq : Int)) (h : v11.toInt = ((k + 1 : Nat) : Int) - 1) (hk : 27 ≤ k) (hk2 : k + 1 ≤ 54) : ((v >>> ((Int32.toInt64 (2 * v11 - 54)) &&& 63)) &&& 3).toInt = ((dg sq k : Nat) : Int) := by
  have e : 2 * v11 - 54 = nI (2 * (k - 27)) := by
    rw [← Int32.toInt_inj, v11_2 h hk2, nI_toInt (by omega)]
    omega
  rw [e]
  have h := dg_i hv hk (by omega)
  unfold sp_sh at h
  exact h
section MROOT
variable {ext : Nat → List Value → am_M → Option am_R} {d : Nat} (I : Nat → Nat → Int32) (L : Nat → Nat → Int64) (D : Nat → Nat → UInt64) (X : am_Rf) {P : am_R → Prop}
theorem c196_20 : ∀ (f : Nat) (a : UInt64) (n t : Nat), dv a n → n < tD * 4 ^ f → t + f ≤ 600 → (∀ b n' s, s ≤ f → dv b n' → n = n' * 4 ^ s → n' < tD → am_wp ext d mz_196 (40, [none, none, some (.double b), none, some (.int (nI (t + s))), none, none, none, none, none, none, none, none, none, none, none, none], [], (I, L, D, am_rf X)) P) → am_wp ext d mz_196 (20, [none, none, some (.double a), none, some (.int (nI t)), none, none, none, none, none, none, none, none, none, none, none, none], [], (I, L, D, am_rf X)) P := by
  have tb := tD_e
  have cmp : ∀ (a : UInt64) (n : Nat), dv a n → ((Op.cmpValue (FP.dcmp a 4616189618054758400) .l) < 0 ↔ n < tD) := fun a n h => by
    rw [dcv_lt (dv_nn h) (dv_nn kD), dv_dz h, dv_dz kD]
    omega
  intro f
  induction f with
  | zero =>
    intro a n t ha hn ht K
    rw [Nat.pow_zero, Nat.mul_one] at hn
    exact w196_20 I L D X a (nI t) ⟨fun _ => K a n 0 (Nat.le_refl _) ha (by rw [Nat.pow_zero, Nat.mul_one]) hn, fun z => absurd ((cmp a n ha).mpr hn) z⟩
  | succ f ih =>
    intro a n t ha hn ht K
    refine w196_20 I L D X a (nI t) ⟨fun z => K a n 0 (Nat.zero_le _) ha (by rw [Nat.pow_zero, Nat.mul_one]) ((cmp a n ha).mp z), fun z => ?_⟩
    have hge : tD ≤ n := Nat.le_of_not_lt (fun h => z ((cmp a n ha).mpr h))
    obtain ⟨m, hm⟩ := four_dvd ha hge
    rw [hm] at ha
    have hb := dv_dn 2 k_q ha
    have hm4 : n = m * 4 := hm
    have hlt : m < tD * 4 ^ f := by
      rw [Nat.pow_succ, ← Nat.mul_assoc] at hn
      omega
    have e1 : nI t + 1 = nI (t + 1) := by rw [show (1 : Int32) = nI 1 from rfl, ni_add (by omega)]
    refine ⟨dv_am hb, ?_⟩
    rw [e1]
    refine ih _ m (t + 1) hb hlt (by omega) (fun b n' s hs h1 h2 h3 => ?_)
    have := K b n' (s + 1) (by omega) h1 (by rw [hm4, h2, Nat.pow_succ, Nat.mul_assoc]) h3
    rwa [show t + (s + 1) = t + 1 + s by omega] at this
theorem c196_76 {left kl : Int64} {sq W : Nat} (hkl : kl.toInt = (((W + 1) / 2 : Nat) : Int)) (hW : wq sq 54 0 0 W) (hv : left.toInt = (sq : Int)) (v4 : Int32) (K : am_wp ext d mz_196 (183, [none, none, none, none, some (.int v4), none, none, none, none, none, none, none, none, some (.double (FP.dmul (FP.l2d kl) 4372995238176751616)), none, some (.int 0), none], [], (I, L, D, am_rf X)) P) (hnn : am_nn (FP.dmul (FP.l2d kl) 4372995238176751616) = true) : am_wp ext d mz_196 (76, [none, none, none, none, some (.int v4), some (.long left), none, some (.long 0), none, some (.long 0), none, some (.int 53), none, none, none, none, none], [], (I, L, D, am_rf X)) P := by
  have key : ∀ (k R Q : Nat) (r q : Int64) (v11 : Int32), v11.toInt = (k : Int) - 1 → r.toInt = (R : Int) → q.toInt = (Q : Int) → rb k R Q → wq sq k R Q W → am_wp ext d mz_196 (76, [none, none, none, none, some (.int v4), some (.long left), none, some (.long r), none, some (.long q), none, some (.int v11), none, none, none, none, none], [], (I, L, D, am_rf X)) P := by
    intro k
    induction k with
    | zero =>
      intro R Q r q v11 h6 hr hq hb hw
      have ek := nxk hr (rb_lt hb).1 (wq_0 hw) hkl
      refine w196_76 I L D X v4 left r q v11 ⟨fun _ => ?_, fun z => absurd (v11_lo h6) z⟩
      rw [ek]; exact ⟨hnn, K⟩
    | succ k ih =>
      intro R Q r q v11 h6 hr hq hb hw
      have hdg := dg_lt sq k
      obtain ⟨b1, b2, b3, b4, b5, b6⟩ := rb_s hb hdg
      have hk : k + 1 ≤ 54 := hb.2.2
      have h7 := v11_dec h6 (Nat.le_of_succ_le hk)
      have r4 := nxo hr nx_1 (by decide) b4
      have r2 := nxl2 hr b4
      have r3 := nxa r2 nx_1 b5
      have g108 : ∀ s0 : Int64, s0.toInt = ((dg sq k : Nat) : Int) → am_wp ext d mz_196 (108, [none, none, none, none, some (.int v4), some (.long left), none, some (.long r), none, some (.long q), none, some (.int v11), none, none, none, none, none], [.long s0], (I, L, D, am_rf X)) P := by
        intro s0 hs
        have es := nxo hq hs hdg b3
        have hlt := nxl es r4
        refine w196_108 I L D X v4 left r q v11 s0 ⟨fun z => ?_, fun z => ?_⟩
        · exact ih (2 * R) (4 * Q + dg sq k) _ _ _ h7 r2 es (rb_p hb hdg (hlt.mp z)) (wq_p hw (hlt.mp z))
        · have z' : ¬ 4 * Q + dg sq k < 4 * R + 1 := fun y => z (hlt.mpr y)
          exact ih (2 * R + 1) (4 * Q + dg sq k - (4 * R + 1)) _ _ _ h7 r3 (nxs es r4 b6 (Nat.le_of_not_lt z')) (rb_n hb hdg z') (wq_n hw z')
      refine w196_76 I L D X v4 left r q v11 ⟨fun z => absurd z (v11_hi h6), fun _ => ⟨fun z => ?_, fun z => ?_⟩⟩
      · exact g108 _ (dig_m hv h6 ((v11_0 h6 hk).mp z) hk)
      · exact g108 0 (dig_lo (Nat.lt_of_not_le (fun y => z ((v11_0 h6 hk).mpr y))))
  exact key 54 0 0 0 0 53 rfl rfl rfl ⟨Nat.lt_of_lt_of_le Nat.zero_lt_one (Nat.le_refl _), Nat.le_refl _, Nat.le_refl _⟩ hW
theorem c196_40 {T : Int} (hT0 : 0 ≤ T) (hT1 : T ≤ 600) : ∀ (f : Nat) (a : UInt64) (n r : Nat) (v4 : Int32), dv a n → n < tD → tC ≤ n * 4 ^ f → r + f ≤ 537 → v4.toInt = T - r → (∀ n' r' (w : Int32), r' ≤ f → n' = n * 4 ^ r' → tC ≤ n' → n' < tD → w.toInt = T - (r + r' : Nat) → am_nn (FP.dmul (FP.l2d (kpl (n' * 2 ^ 52 / 2 ^ 1074))) 4372995238176751616) = true ∧ am_wp ext d mz_196 (183, [none, none, none, none, some (.int w), none, none, none, none, none, none, none, none, some (.double (FP.dmul (FP.l2d (kpl (n' * 2 ^ 52 / 2 ^ 1074))) 4372995238176751616)), none, some (.int 0), none], [], (I, L, D, am_rf X)) P) → am_wp ext d mz_196 (40, [none, none, some (.double a), none, some (.int v4), none, none, none, none, none, none, none, none, none, none, none, none], [], (I, L, D, am_rf X)) P := by
  have tb := tD_e
  have ta := tA_C
  have tb2 := tB_D
  have cmp : ∀ (a : UInt64) (n : Nat), dv a n → (0 ≤ (Op.cmpValue (FP.dcmp a FP.dconst1) .g) ↔ tC ≤ n) := fun a n h => by
    rw [dcv_ge (dv_nn h) (dv_nn kC), dv_dz h, dv_dz kC]
    omega
  have exit : ∀ (a : UInt64) (n r : Nat) (v4 : Int32), dv a n → n < tD → tC ≤ n → (∀ n' r' (w : Int32), r' ≤ 0 → n' = n * 4 ^ r' → tC ≤ n' → n' < tD → w.toInt = v4.toInt - (r' : Nat) → am_nn (FP.dmul (FP.l2d (kpl (n' * 2 ^ 52 / 2 ^ 1074))) 4372995238176751616) = true ∧ am_wp ext d mz_196 (183, [none, none, none, none, some (.int w), none, none, none, none, none, none, none, none, some (.double (FP.dmul (FP.l2d (kpl (n' * 2 ^ 52 / 2 ^ 1074))) 4372995238176751616)), none, some (.int 0), none], [], (I, L, D, am_rf X)) P) → am_nn (FP.dmul a 4841369599423283200) = true ∧ am_wp ext d mz_196 (76, [none, none, none, none, some (.int v4), some (.long (FP.d2l (FP.dmul a 4841369599423283200))), none, some (.long 0), none, some (.long 0), none, some (.int 53), none, none, none, none, none], [], (I, L, D, am_rf X)) P := by
    intro a n r v4 ha hn hC K
    have hlt : n * 2 ^ 52 < tB := by omega
    have hge : tA ≤ n * 2 ^ 52 := by omega
    have hb := dv_up 52 k_52 ha (Nat.lt_of_lt_of_le hlt (show tB ≤ 2 ^ 2098 by decide +kernel))
    obtain ⟨_, e2, _⟩ := dv_d2l hb hge hlt
    obtain ⟨k1, k2⟩ := K n 0 v4 (Nat.le_refl _) (by rw [Nat.pow_zero, Nat.mul_one]) hC hn (by omega)
    exact ⟨dv_am hb, c196_76 I L D X (kpl_i _) rfl e2 v4 k2 k1⟩
  intro f
  induction f with
  | zero =>
    intro a n r v4 ha hn hC hr h4 K
    rw [Nat.pow_zero, Nat.mul_one] at hC
    exact w196_40 I L D X a v4 ⟨fun _ => exit a n r v4 ha hn hC (fun n' r' w q1 q2 q3 q4 q5 => K n' r' w q1 q2 q3 q4 (by rw [q5, h4]; omega)), fun z => absurd ((cmp a n ha).mpr hC) z⟩
  | succ f ih =>
    intro a n r v4 ha hn hC hr h4 K
    refine w196_40 I L D X a v4 ⟨fun z => exit a n r v4 ha hn ((cmp a n ha).mp z) (fun n' r' w q1 q2 q3 q4 q5 => K n' r' w (by omega) q2 q3 q4 (by rw [q5, h4]; omega)), fun z => ?_⟩
    have hlt : n < tC := Nat.lt_of_not_le (fun h => z ((cmp a n ha).mpr h))
    have hB : n * 2 ^ 2 < 2 ^ 2098 := by
      have h1 : n * 2 ^ 2 < tD := by show n * 4 < tD; omega
      exact Nat.lt_of_lt_of_le h1 (show tD ≤ 2 ^ 2098 by decide +kernel)
    have hb := dv_up 2 k_4 ha hB
    have e3 := i32_dec (x := v4) (by omega) (by omega)
    refine ⟨dv_am hb, ?_⟩
    refine ih _ (n * 2 ^ 2) (r + 1) _ hb (by show n * 4 < tD; omega) (by rw [Nat.mul_assoc]; rw [Nat.pow_succ, Nat.mul_comm (4 ^ f)] at hC; exact hC) (by omega) (by rw [e3, h4]; omega) (fun n' r' w q1 q3 q4 q5 q6 => ?_)
    exact K n' (r' + 1) w (by omega) (q3.trans (p4s n r')) q4 q5 (by rw [q6]; omega)
theorem c196_183 {v4 : Int32} {T : Int} (hT : v4.toInt = T) (hT1 : T ≤ 600) : ∀ (f : Nat) (a : UInt64) (n : Nat) (v15 : Int32), v15.toInt + f = T → 0 ≤ v15.toInt → dv a n → n * 2 ^ f < 2 ^ 2098 → (∀ b, dv b (n * 2 ^ f) → P (some (.double b), (I, L, D, am_rf X))) → am_wp ext d mz_196 (183, [none, none, none, none, some (.int v4), none, none, none, none, none, none, none, none, some (.double a), none, some (.int v15), none], [], (I, L, D, am_rf X)) P := by
  intro f
  induction f with
  | zero =>
    intro a n v7 h7 h0 ha hb K
    refine w196_183 I L D X v4 a v7 ⟨fun _ => w196_207 I L D X v4 a 0 ⟨fun _ => K a (by rw [Nat.pow_zero, Nat.mul_one]; exact ha), fun z => absurd ?_ z⟩, fun z => absurd ?_ z⟩
    · rw [Int32.le_iff_toInt_le, show (0 : Int32).toInt = 0 from rfl]; omega
    · rw [Int32.le_iff_toInt_le]; omega
  | succ f ih =>
    intro a n v7 h7 h0 ha hb K
    have e1 : n * 2 ^ (f + 1) = n * 2 ^ 1 * 2 ^ f := by rw [Nat.mul_assoc, ← Nat.pow_add, Nat.add_comm]
    have hn1 : n * 2 ^ 1 < 2 ^ 2098 := by
      rw [e1] at hb
      exact Nat.lt_of_le_of_lt (Nat.le_mul_of_pos_right _ (Nat.two_pow_pos f)) hb
    have hc := dv_up 1 k_2 ha hn1
    have e3 := i32_inc (x := v7) (by omega) (by omega)
    refine w196_183 I L D X v4 a v7 ⟨fun z => ?_, fun _ => ⟨dv_am hc, ih _ (n * 2 ^ 1) _ (by rw [e3]; omega) (by rw [e3]; omega) hc (by rw [← e1]; exact hb) (fun b h => K b (by rw [e1]; exact h))⟩⟩
    rw [Int32.le_iff_toInt_le] at z; omega
theorem c196_207 {v4 : Int32} {T : Int} (hT : v4.toInt = T) (hT0 : -600 ≤ T) : ∀ (f : Nat) (a : UInt64) (n : Nat) (v15 : Int32), v15.toInt = T + f → v15.toInt ≤ 0 → dv a (n * 2 ^ f) → (∀ b, dv b n → P (some (.double b), (I, L, D, am_rf X))) → am_wp ext d mz_196 (207, [none, none, none, none, some (.int v4), none, none, none, none, none, none, none, none, some (.double a), none, some (.int v15), none], [], (I, L, D, am_rf X)) P := by
  intro f
  induction f with
  | zero =>
    intro a n v7 h7 h0 ha K
    rw [Nat.pow_zero, Nat.mul_one] at ha
    refine w196_207 I L D X v4 a v7 ⟨fun _ => K a ha, fun z => absurd ?_ z⟩
    rw [Int32.le_iff_toInt_le]; omega
  | succ f ih =>
    intro a n v7 h7 h0 ha K
    rw [show n * 2 ^ (f + 1) = n * 2 ^ f * 2 ^ 1 by rw [Nat.mul_assoc, ← Nat.pow_add]] at ha
    have hc := dv_dn 1 k_h ha
    have e3 := i32_dec (x := v7) (by omega) (by omega)
    refine w196_207 I L D X v4 a v7 ⟨fun z => ?_, fun _ => ⟨dv_am hc, ih _ n _ (by rw [e3]; omega) (by rw [e3]; omega) hc K⟩⟩
    rw [Int32.le_iff_toInt_le] at z; omega
theorem c193 {a : UInt64} (ha : nn a) : ∃ r : Int32, am_Rn ext (d + 1) 193 [.double a] (I, L, D, am_rf X) (some (.int r), (I, L, D, am_rf X)) ∧ (r = 0 ∨ r = 1) ∧ (r = 0 ↔ ¬ d_inf a) := by
  have k1 := dcv_gt ha nn_Mx .l
  have k2 := dcv_ge ha nn_Mn .g
  by_cases h1 : dz dMx < dz a
  · exact ⟨1, am_rn_of mh_193 rfl (w193_0 I L D X a ⟨fun _ => rfl, fun z => absurd (k1.mpr h1) z⟩), Or.inr rfl, ⟨fun z => absurd z (by decide), fun z => absurd (Or.inl h1) z⟩⟩
  · by_cases h2 : dz dMn ≤ dz a
    · refine ⟨0, am_rn_of mh_193 rfl (w193_0 I L D X a ⟨fun z => absurd (k1.mp z) h1, fun _ => ⟨fun _ => rfl, fun z => absurd (k2.mpr h2) z⟩⟩), Or.inl rfl, ⟨fun _ q => ?_, fun _ => rfl⟩⟩
      rcases q with q | q
      · exact h1 q
      · omega
    · exact ⟨1, am_rn_of mh_193 rfl (w193_0 I L D X a ⟨fun z => absurd (k1.mp z) h1, fun _ => ⟨fun z => absurd (k2.mp z) h2, fun _ => rfl⟩⟩), Or.inr rfl, ⟨fun z => absurd z (by decide), fun z => absurd (Or.inr (by omega)) z⟩⟩
theorem c196_r {a : UInt64} {n : Nat} (ha : dv a n) (h0 : 0 < n) : am_wp ext (d + 1) mz_196 (20, [none, none, some (.double a), none, some (.int (nI 0)), none, none, none, none, none, none, none, none, none, none, none, none], [], (I, L, D, am_rf X)) (fun x => ∃ r, x = (some (.double r), (I, L, D, am_rf X)) ∧ rtR n r) := by
  have tb := tD_e
  have ta := tA_C
  have tb2 := tB_D
  have hlt := rep_lt (dv_rep ha)
  have e511 : tD * 4 ^ 511 = 2 ^ 2098 := by decide +kernel
  have e537 : (4 : Nat) ^ 537 = tC := by decide +kernel
  refine c196_20 (ext := ext) I L D X 511 a n 0 ha (by rw [e511]; exact hlt) (by omega) (fun b n' s hs h1 h2 h3 => ?_)
  have hn' : 0 < n' := by
    rcases Nat.eq_zero_or_pos n' with z | z
    · rw [z, Nat.zero_mul] at h2; omega
    · exact z
  have hs0 : (nI (0 + s)).toInt = (s : Int) := by rw [Nat.zero_add, nI_toInt (by omega)]
  refine c196_40 (ext := ext) I L D X (T := (s : Int)) (by omega) (by omega) 537 b n' 0 _ h1 h3 (by rw [e537]; exact Nat.le_mul_of_pos_left _ hn') (by omega) (by rw [hs0]; omega) (fun m r' w q1 q3 q4 q5 q6 => ?_)
  have hkp := kp_le (m * 2 ^ 52 / 2 ^ 1074)
  have hl := dv_l2d (v := kpl (m * 2 ^ 52 / 2 ^ 1074)) (by rw [kpl_i]; omega) (by rw [kpl_i]; omega)
  rw [kpl_i, Int.toNat_natCast] at hl
  have hl2 : dv (FP.dmul (FP.l2d (kpl (m * 2 ^ 52 / 2 ^ 1074))) 4372995238176751616) (kp (m * 2 ^ 52 / 2 ^ 1074) * 2 ^ 1022) := by
    refine dv_dn 52 k_m52 ?_
    rw [Nat.mul_assoc, ← Nat.pow_add]
    exact hl
  refine ⟨dv_am hl2, ?_⟩
  have R : ∀ r, dv r (kp (m * 2 ^ 52 / 2 ^ 1074) * 2 ^ (1022 + s - r')) → rtR n r := fun r hr => by
    refine ⟨m * 2 ^ 52, s, r' + 26, by omega, by omega, by omega, by omega, ?_, by rw [show 1048 + s - (r' + 26) = 1022 + s - r' by omega]; exact hr⟩
    have e26 : (2 : Nat) ^ 52 = 4 ^ 26 := by rw [show (52 : Nat) = 2 * 26 from rfl, Nat.pow_mul]
    rw [e26, q3, h2, Nat.pow_add, Nat.mul_assoc, Nat.mul_comm (4 ^ s), ← Nat.mul_assoc, ← Nat.mul_assoc]
  generalize kp (m * 2 ^ 52 / 2 ^ 1074) = K at *
  by_cases hT : (s : Int) - r' ≤ 0
  · refine w196_183 I L D X w _ 0 ⟨fun _ => ?_, fun z => absurd ?_ z⟩
    · refine c196_207 (ext := ext) I L D X (T := (s : Int) - r') (by rw [q6]; omega) (by omega) (r' - s) _ (K * 2 ^ (1022 + s - r')) 0 (by rw [show (0 : Int32).toInt = 0 from rfl]; omega) (by decide) ?_ (fun b3 h3 => ⟨b3, rfl, R b3 h3⟩)
      rw [Nat.mul_assoc, ← Nat.pow_add, show 1022 + s - r' + (r' - s) = 1022 by omega]
      exact hl2
    · rw [Int32.le_iff_toInt_le, q6, show (0 : Int32).toInt = 0 from rfl]; omega
  · refine c196_183 (ext := ext) I L D X (T := (s : Int) - r') (by rw [q6]; omega) (by omega) (s - r') _ (K * 2 ^ 1022) 0 (by rw [show (0 : Int32).toInt = 0 from rfl]; omega) (by decide) hl2 ?_ (fun b3 h3 => ⟨b3, rfl, R b3 ?_⟩)
    · rw [Nat.mul_assoc, ← Nat.pow_add]
      have p1 : 2 ^ (1022 + (s - r')) ≤ 2 ^ 1700 := Nat.pow_le_pow_right (by omega) (by omega)
      have p2 : K * 2 ^ (1022 + (s - r')) ≤ 2 ^ 53 * 2 ^ 1700 := Nat.mul_le_mul hkp p1
      rw [← Nat.pow_add] at p2
      exact Nat.lt_of_le_of_lt p2 (Nat.pow_lt_pow_right (by omega) (by omega))
    · rw [Nat.mul_assoc, ← Nat.pow_add, show 1022 + (s - r') = 1022 + s - r' by omega] at h3
      exact h3
end MROOT
/-- the root, whatever is asked for it -/
noncomputable def d_rt (a : UInt64) : UInt64 := Classical.epsilon (fun r => ∃ n, dv a n ∧ rtR n r)
theorem d_rt_of {a r : UInt64} {n : Nat} (ha : dv a n) (h : rtR n r) : d_rt a = r := by
  have e : ∃ n, dv a n ∧ rtR n (d_rt a) := Classical.epsilon_spec (p := fun r => ∃ n, dv a n ∧ rtR n r) ⟨r, n, ha, h⟩
  obtain ⟨n', h1, h2⟩ := e
  have : n' = n := by
    have := (dv_dz h1).symm.trans (dv_dz ha)
    omega
  subst this
  exact rt_u h2 h
noncomputable def d_root (a : UInt64) : UInt64 := if dz a = 0 ∨ d_inf a then a else d_rt a
