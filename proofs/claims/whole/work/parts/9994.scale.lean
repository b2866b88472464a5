/-! ===== doubles above nought: multiplied by powers of two ===== -/
/-- a is n times 2 to the -1074, with the sign + -/
def dv (a : UInt64) (n : Nat) : Prop := ∃ c q, FP.Core.val64 a = .fin false c q ∧ FP.Core.inUnits c q FP.Core.b64.qmin = n
/-- what a double can hold -/
def rep (n : Nat) : Prop := ∃ c t : Nat, c < 2 ^ 53 ∧ t ≤ 2045 ∧ n = c * 2 ^ t
theorem dv_nn {a : UInt64} {n : Nat} (h : dv a n) : nn a := by
  obtain ⟨c, q, e, _⟩ := h
  unfold nn
  rw [e]
  intro z
  cases z
theorem dv_am {a : UInt64} {n : Nat} (h : dv a n) : am_nn a = true := (nn_am a).mpr (dv_nn h)
theorem dv_dz {a : UInt64} {n : Nat} (h : dv a n) : dz a = (n : Int) := by
  obtain ⟨c, q, e, hn⟩ := h
  show FP.Core.zval _ (FP.Core.val64 a) = _
  rw [e]
  show FP.Core.signed false (FP.Core.inUnits c q _) = _
  rw [hn]
  rfl
theorem dv_fit {a : UInt64} {c : Nat} {q : Int} (h : FP.Core.val64 a = .fin false c q) : c < 2 ^ 53 ∧ -1074 ≤ q ∧ q ≤ 971 := by
  have f := FP.Core.val64_fits a
  rw [h] at f
  obtain ⟨h1, h2, h3, _⟩ := f
  have e1 : FP.Core.b64.qmin = -1074 := FP.Core.qmin_b64
  have e2 : FP.Core.b64.qmax = 971 := by decide
  have e3 : FP.Core.b64.p = 53 := rfl
  rw [e1] at h2
  rw [e2] at h3
  rw [e3] at h1
  exact ⟨h1, h2, h3⟩
theorem dv_rep {a : UInt64} {n : Nat} (h : dv a n) : rep n := by
  obtain ⟨c, q, e, hn⟩ := h
  obtain ⟨h1, h2, h3⟩ := dv_fit e
  refine ⟨c, (q + 1074).toNat, h1, by omega, ?_⟩
  rw [← hn]
  unfold FP.Core.inUnits
  rw [FP.Core.qmin_b64]
  congr 3
theorem rep_lt {n : Nat} (h : rep n) : n < 2 ^ 2098 := by
  obtain ⟨c, t, h1, h2, rfl⟩ := h
  have : 2 ^ t ≤ 2 ^ 2045 := Nat.pow_le_pow_right (by omega) h2
  calc c * 2 ^ t ≤ c * 2 ^ 2045 := Nat.mul_le_mul_left _ this
    _ < 2 ^ 53 * 2 ^ 2045 := Nat.mul_lt_mul_of_pos_right h1 (Nat.two_pow_pos _)
    _ = 2 ^ 2098 := by rw [← Nat.pow_add]
theorem rep_up {n k : Nat} (h : rep n) (hk : n * 2 ^ k < 2 ^ 2098) : rep (n * 2 ^ k) := by
  obtain ⟨c, t, h1, h2, rfl⟩ := h
  by_cases h3 : t + k ≤ 2045
  · exact ⟨c, t + k, h1, h3, by rw [Nat.mul_assoc, ← Nat.pow_add]⟩
  · refine ⟨c * 2 ^ (t + k - 2045), 2045, ?_, Nat.le_refl _, ?_⟩
    · have e : c * 2 ^ (t + k - 2045) * 2 ^ 2045 = c * 2 ^ t * 2 ^ k := by
        rw [Nat.mul_assoc, ← Nat.pow_add, Nat.mul_assoc, ← Nat.pow_add, show t + k - 2045 + 2045 = t + k by omega]
      have e2 : (2 : Nat) ^ 2098 = 2 ^ 53 * 2 ^ 2045 := by rw [← Nat.pow_add]
      rw [← e, e2] at hk
      exact Nat.lt_of_mul_lt_mul_right hk
    · rw [Nat.mul_assoc, ← Nat.pow_add, Nat.mul_assoc, ← Nat.pow_add, show t + k - 2045 + 2045 = t + k by omega]
theorem rep_dn {n j : Nat} (h : rep (n * 2 ^ j)) : rep n := by
  obtain ⟨c, t, h1, h2, e⟩ := h
  by_cases h3 : j ≤ t
  · refine ⟨c, t - j, h1, by omega, ?_⟩
    have e2 : 2 ^ t = 2 ^ (t - j) * 2 ^ j := by rw [← Nat.pow_add]; congr 1; omega
    rw [e2, ← Nat.mul_assoc] at e
    exact Nat.eq_of_mul_eq_mul_right (Nat.two_pow_pos j) e
  · refine ⟨n, 0, ?_, by omega, by rw [Nat.pow_zero, Nat.mul_one]⟩
    have e2 : 2 ^ j = 2 ^ (j - t) * 2 ^ t := by rw [← Nat.pow_add]; congr 1; omega
    rw [e2, ← Nat.mul_assoc] at e
    have e3 := Nat.eq_of_mul_eq_mul_right (Nat.two_pow_pos t) e
    have : n ≤ n * 2 ^ (j - t) := Nat.le_mul_of_pos_right _ (Nat.two_pow_pos _)
    omega
/-- what can be held is rounded to itself -/
theorem rnd {A n : Nat} {e : Int} (h : rep n) (he : A * 2 ^ (e + 1074).toNat = n * 2 ^ (-1074 - e).toNat) : ∃ c q, FP.Core.roundRatio FP.Core.b64 false A 1 e = .fin false c q ∧ FP.Core.inUnits c q FP.Core.b64.qmin = n := by
  obtain ⟨c, t, h1, h2, e2⟩ := h
  have r1 : FP.Core.roundRatio FP.Core.b64 false A 1 e = FP.Core.roundRatio FP.Core.b64 false n 1 (-1074) := by
    refine FP.Core.roundRatio_congr (by decide) (by decide) ?_
    rw [Nat.mul_one, Nat.mul_one, show e - -1074 = e + 1074 by omega]
    exact he
  have r2 : FP.Core.roundRatio FP.Core.b64 false n 1 (-1074) = FP.Core.roundRatio FP.Core.b64 false c 1 ((t : Int) - 1074) := by
    refine FP.Core.roundRatio_congr (by decide) (by decide) ?_
    rw [Nat.mul_one, Nat.mul_one, e2, show ((-1074 : Int) - ((t : Int) - 1074)).toNat = 0 by omega, show (((t : Int) - 1074) - (-1074 : Int)).toNat = t by omega, Nat.pow_zero, Nat.mul_one]
  have e3 : FP.Core.b64.p = 53 := rfl
  have e4 : FP.Core.b64.qmax = 971 := by decide
  obtain ⟨c', q', r3, r4⟩ := FP.Core.round_exact FP.Core.good_b64 false (c := c) (q := (t : Int) - 1074) (by rw [e3]; exact h1) (by rw [FP.Core.qmin_b64]; omega) (by rw [e4]; omega)
  refine ⟨c', q', ?_, ?_⟩
  · rw [r1, r2]; exact r3
  · rw [r4, e2]
    unfold FP.Core.inUnits
    rw [FP.Core.qmin_b64]
    congr 2
    omega
theorem dv_mul {a w : UInt64} {c : Nat} {q k : Int} {n : Nat} (ha : FP.Core.val64 a = .fin false c q) (hw : FP.Core.val64 w = .fin false (2 ^ 52) k) (hr : rep n) (he : c * 2 ^ 52 * 2 ^ (q + k + 1074).toNat = n * 2 ^ (-1074 - (q + k)).toNat) : dv (FP.dmul a w) n := by
  have e : FP.Core.val64 (FP.dmul a w) = FP.Core.roundRatio FP.Core.b64 false (c * 2 ^ 52) 1 (q + k) := by
    show FP.Core.val64 (FP.Core.dmul a w) = _
    rw [FP.Core.val64_dmul, ha, hw]
    rfl
  obtain ⟨c', q', r1, r2⟩ := rnd hr he
  exact ⟨c', q', by rw [e, r1], r2⟩
theorem dv_up {a w : UInt64} {n : Nat} (k : Nat) (hw : FP.Core.val64 w = .fin false (2 ^ 52) ((k : Int) - 52)) (h : dv a n) (hk : n * 2 ^ k < 2 ^ 2098) : dv (FP.dmul a w) (n * 2 ^ k) := by
  have hr := rep_up (dv_rep h) hk
  obtain ⟨c, q, e, hn⟩ := h
  obtain ⟨h1, h2, h3⟩ := dv_fit e
  have hn' : n = c * 2 ^ (q + 1074).toNat := by
    rw [← hn]; unfold FP.Core.inUnits; rw [FP.Core.qmin_b64]; congr 3
  refine dv_mul e hw hr ?_
  rw [hn', Nat.mul_assoc, Nat.mul_assoc, Nat.mul_assoc, ← Nat.pow_add, ← Nat.pow_add, ← Nat.pow_add]
  congr 2
  omega
theorem dv_dn {a w : UInt64} {n : Nat} (j : Nat) (hw : FP.Core.val64 w = .fin false (2 ^ 52) (-(j : Int) - 52)) (h : dv a (n * 2 ^ j)) : dv (FP.dmul a w) n := by
  have hr := rep_dn (dv_rep h)
  obtain ⟨c, q, e, hn⟩ := h
  obtain ⟨h1, h2, h3⟩ := dv_fit e
  have hn' : n * 2 ^ j = c * 2 ^ (q + 1074).toNat := by
    rw [← hn]; unfold FP.Core.inUnits; rw [FP.Core.qmin_b64]; congr 3
  refine dv_mul e hw hr ?_
  refine Nat.eq_of_mul_eq_mul_right (Nat.two_pow_pos (j + (q + 1074).toNat)) ?_
  have a1 : c * 2 ^ 52 * 2 ^ (q + (-(j : Int) - 52) + 1074).toNat * 2 ^ (j + (q + 1074).toNat) = c * 2 ^ (q + 1074).toNat * 2 ^ (52 + (q + (-(j : Int) - 52) + 1074).toNat + j) := by
    rw [Nat.mul_assoc, Nat.mul_assoc, Nat.mul_assoc, ← Nat.pow_add, ← Nat.pow_add, ← Nat.pow_add]
    congr 2
    omega
  have a2 : n * 2 ^ (-1074 - (q + (-(j : Int) - 52))).toNat * 2 ^ (j + (q + 1074).toNat) = n * 2 ^ j * 2 ^ ((-1074 - (q + (-(j : Int) - 52))).toNat + (q + 1074).toNat) := by
    rw [Nat.mul_assoc, Nat.mul_assoc, ← Nat.pow_add, ← Nat.pow_add]
    congr 2
    omega
  rw [a1, a2, hn']
  congr 2
  omega
theorem dv_inj {a b : UInt64} {n : Nat} (h : dv a n) (g : dv b n) : a = b := by
  by_cases h0 : n = 0
  · subst h0
    have z : ∀ a, dv a 0 → FP.Core.val64 a = .fin false 0 FP.Core.b64.qmin := by
      intro a h
      obtain ⟨c, q, e, hn⟩ := h
      have hc : c = 0 := by
        unfold FP.Core.inUnits at hn
        rcases Nat.mul_eq_zero.mp hn with h | h
        · exact h
        · exact absurd h (Nat.ne_of_gt (Nat.two_pow_pos _))
      subst hc
      have f := FP.Core.val64_fits a
      rw [e] at f
      rw [e, FP.Core.fits_zero_q FP.Core.good_b64 f]
    exact FP.Core.val64_inj (dv_nn h) (by rw [z a h, z b g])
  · exact dz_inj (dv_nn h) (dv_nn g) (by rw [dv_dz h, dv_dz g]) (by rw [dv_dz g]; omega)
theorem dv_of {a : UInt64} (ha : nn a) (h : ¬ d_inf a) (h0 : 0 < dz a) : ∃ n, dv a n ∧ 0 < n := by
  obtain ⟨s, c, q, e⟩ := d_fin_of ha h
  have ez : dz a = FP.Core.signed s (FP.Core.inUnits c q FP.Core.b64.qmin) := by
    show FP.Core.zval _ (FP.Core.val64 a) = _
    rw [e]
    rfl
  rw [ez] at h0
  cases s with
  | true =>
    have : FP.Core.signed true (FP.Core.inUnits c q FP.Core.b64.qmin) = -((FP.Core.inUnits c q FP.Core.b64.qmin : Nat) : Int) := rfl
    omega
  | false =>
    have : FP.Core.signed false (FP.Core.inUnits c q FP.Core.b64.qmin) = ((FP.Core.inUnits c q FP.Core.b64.qmin : Nat) : Int) := rfl
    exact ⟨_, ⟨c, q, e, rfl⟩, by omega⟩
/-- whole numbers -/
theorem dv_l2d {v : Int64} (h0 : 0 ≤ v.toInt) (h1 : v.toInt ≤ 9007199254740992) : dv (FP.l2d v) (v.toInt.toNat * 2 ^ 1074) := by
  have hr : rep (v.toInt.toNat * 2 ^ 1074) := by
    by_cases h : v.toInt.toNat < 2 ^ 53
    · exact ⟨_, 1074, h, by omega, rfl⟩
    · refine ⟨2 ^ 52, 1075, by decide, by omega, ?_⟩
      have e : v.toInt.toNat = 2 ^ 53 := by omega
      rw [e, ← Nat.pow_add, ← Nat.pow_add]
  have e : FP.Core.val64 (FP.l2d v) = FP.Core.roundRatio FP.Core.b64 false v.toInt.toNat 1 0 := by
    show FP.Core.val64 (FP.Core.l2d v) = _
    rw [FP.Core.val64_l2d]
    unfold FP.Core.ofInt
    rw [decide_eq_false (by omega), show v.toInt.natAbs = v.toInt.toNat by omega]
    rfl
  obtain ⟨c, q, r1, r2⟩ := rnd (A := v.toInt.toNat) (e := 0) hr (by rw [show ((0 : Int) + 1074).toNat = 1074 by omega, show ((-1074 : Int) - 0).toNat = 0 by omega, Nat.pow_zero, Nat.mul_one])
  exact ⟨c, q, by rw [e, r1], r2⟩
/-- a double from 2 to the 52 on is whole -/
theorem dv_d2l {a : UInt64} {n : Nat} (h : dv a n) (h1 : 2 ^ 1126 ≤ n) (h2 : n < 2 ^ 1128) : n = (n / 2 ^ 1074) * 2 ^ 1074 ∧ (FP.d2l a).toInt = ((n / 2 ^ 1074 : Nat) : Int) ∧ n / 2 ^ 1074 < 2 ^ 54 := by
  obtain ⟨c, q, e, hn⟩ := h
  obtain ⟨f1, f2, f3⟩ := dv_fit e
  have hn' : n = c * 2 ^ (q + 1074).toNat := by
    rw [← hn]; unfold FP.Core.inUnits; rw [FP.Core.qmin_b64]; congr 3
  have hq : 0 ≤ q := by
    by_cases hq : 0 ≤ q
    · exact hq
    · have p1 : 2 ^ (q + 1074).toNat ≤ 2 ^ 1073 := Nat.pow_le_pow_right (by omega) (by omega)
      have p2 : n < 2 ^ 53 * 2 ^ 1073 := by
        rw [hn']
        exact Nat.lt_of_lt_of_le (Nat.mul_lt_mul_of_pos_right f1 (Nat.two_pow_pos _)) (Nat.mul_le_mul_left _ p1)
      rw [← Nat.pow_add] at p2
      exact absurd (Nat.lt_of_lt_of_le p2 h1) (Nat.lt_irrefl _)
  have hs : n = c * 2 ^ q.toNat * 2 ^ 1074 := by rw [hn', Nat.mul_assoc, ← Nat.pow_add]; congr 2; omega
  have hd : n / 2 ^ 1074 = c * 2 ^ q.toNat := by rw [hs, Nat.mul_div_cancel _ (Nat.two_pow_pos _)]
  have hlt : n / 2 ^ 1074 < 2 ^ 54 := by
    rw [Nat.div_lt_iff_lt_mul (Nat.two_pow_pos _), ← Nat.pow_add]
    exact h2
  refine ⟨by rw [hd]; exact hs, ?_, hlt⟩
  rw [hd] at hlt ⊢
  have w : FP.Core.Whole ((c * 2 ^ q.toNat : Nat) : Int) (FP.Core.val64 a) := by
    rw [e]
    show FP.Core.signed false (c * 2 ^ q.toNat) = _ * ((2 ^ (-q).toNat : Nat) : Int)
    rw [show (-q).toNat = 0 by omega, Nat.pow_zero]
    show ((c * 2 ^ q.toNat : Nat) : Int) = _
    simp
  have ei : (Int64.ofInt ((c * 2 ^ q.toNat : Nat) : Int)).toInt = ((c * 2 ^ q.toNat : Nat) : Int) := by
    rw [Int64.toInt_ofInt, show Int64.size = 18446744073709551616 from rfl, Int.bmod_eq_of_le (by omega) (by omega)]
  have := FP.Core.d2l_int (a := Int64.ofInt ((c * 2 ^ q.toNat : Nat) : Int)) (b := a) (by show FP.Core.Whole _ _; rw [ei]; exact w)
  show (FP.Core.d2l a).toInt = _
  rw [this, ei]
/-- the constants -/
theorem k_4 : FP.Core.val64 4616189618054758400 = .fin false (2 ^ 52) (((2 : Nat) : Int) - 52) := by decide +kernel
theorem k_q : FP.Core.val64 4598175219545276416 = .fin false (2 ^ 52) (-((2 : Nat) : Int) - 52) := by decide +kernel
theorem k_2 : FP.Core.val64 4611686018427387904 = .fin false (2 ^ 52) (((1 : Nat) : Int) - 52) := by decide +kernel
theorem k_h : FP.Core.val64 4602678819172646912 = .fin false (2 ^ 52) (-((1 : Nat) : Int) - 52) := by decide +kernel
theorem k_52 : FP.Core.val64 4841369599423283200 = .fin false (2 ^ 52) (((52 : Nat) : Int) - 52) := by decide +kernel
theorem k_m52 : FP.Core.val64 4372995238176751616 = .fin false (2 ^ 52) (-((52 : Nat) : Int) - 52) := by decide +kernel
theorem k_20 : FP.Core.val64 4697254411347427328 = .fin false (2 ^ 52) (((20 : Nat) : Int) - 52) := by decide +kernel
theorem kd_4 : dv 4616189618054758400 (2 ^ 1076) := ⟨_, _, k_4, by decide +kernel⟩
theorem kd_54 : dv 4850376798678024192 (2 ^ 1128) := ⟨2 ^ 52, 2, by decide +kernel, by decide +kernel⟩
theorem kd_52 : dv 4841369599423283200 (2 ^ 1126) := ⟨_, _, k_52, by decide +kernel⟩
theorem kd_1 : dv FP.dconst1 (2 ^ 1074) := ⟨2 ^ 52, -52, FP.Core.val64_dconst1, by decide +kernel⟩
