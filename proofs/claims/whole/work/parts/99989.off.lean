/-! ===== off ===== -/
theorem rnd_s {s : Bool} {A n : Nat} {e : Int} (h : rep n) (he : A * 2 ^ (e + 1074).toNat = n * 2 ^ (-1074 - e).toNat) : ∃ c q, FP.Core.roundRatio FP.Core.b64 s A 1 e = .fin s c q ∧ FP.Core.inUnits c q FP.Core.b64.qmin = n := by
  obtain ⟨c, q, h1, h2⟩ := rnd h he
  cases s with
  | false => exact ⟨c, q, h1, h2⟩
  | true =>
    refine ⟨c, q, ?_, h2⟩
    have := FP.Core.negate_roundRatio FP.Core.b64 false A 1 e
    rw [h1] at this
    exact this.symm
/-- a is n times 2 to the -1074, with the sign s -/
def dw (s : Bool) (a : UInt64) (n : Nat) : Prop := ∃ c q, FP.Core.val64 a = .fin s c q ∧ FP.Core.inUnits c q FP.Core.b64.qmin = n
theorem dw_nn {s : Bool} {a : UInt64} {n : Nat} (h : dw s a n) : nn a := by
  obtain ⟨c, q, e, _⟩ := h
  unfold nn
  rw [e]
  intro z
  cases z
theorem dw_dz {s : Bool} {a : UInt64} {n : Nat} (h : dw s a n) : dz a = FP.Core.signed s n := by
  obtain ⟨c, q, e, hn⟩ := h
  show FP.Core.zval _ (FP.Core.val64 a) = _
  rw [e]
  show FP.Core.signed s (FP.Core.inUnits c q _) = _
  rw [hn]
theorem dw_fit {s : Bool} {a : UInt64} {c : Nat} {q : Int} (h : FP.Core.val64 a = .fin s c q) : c < 2 ^ 53 ∧ -1074 ≤ q ∧ q ≤ 971 := by
  have f := FP.Core.val64_fits a
  rw [h] at f
  obtain ⟨h1, h2, h3, _⟩ := f
  have e1 : FP.Core.b64.qmin = -1074 := FP.Core.qmin_b64
  have e2 : FP.Core.b64.qmax = 971 := by decide
  have e3 : FP.Core.b64.p = 53 := rfl
  rw [e1] at h2
  rw [e2] at h3
  rw [e3] at h1
  exact ⟨h1, h2, h3⟩
theorem dw_un {c : Nat} {q : Int} {n : Nat} (hn : FP.Core.inUnits c q FP.Core.b64.qmin = n) : n = c * 2 ^ (q + 1074).toNat := by
  rw [← hn]; unfold FP.Core.inUnits; rw [FP.Core.qmin_b64]; congr 3
def w20 : UInt64 := 4697254411347427328
theorem kw20 : FP.Core.val64 w20 = .fin false (2 ^ 52) (((20 : Nat) : Int) - 52) := k_20
theorem bfalse (s : Bool) : (s != false) = s := by cases s <;> rfl
theorem dw_l2d {v : Int64} (h : v.toInt.natAbs < 2 ^ 53) : dw (decide (v.toInt < 0)) (FP.l2d v) (v.toInt.natAbs * 2 ^ 1074) := by
  have e : FP.Core.val64 (FP.l2d v) = FP.Core.roundRatio FP.Core.b64 (decide (v.toInt < 0)) v.toInt.natAbs 1 0 := by
    show FP.Core.val64 (FP.Core.l2d v) = _
    rw [FP.Core.val64_l2d]
    rfl
  obtain ⟨c, q, r1, r2⟩ := rnd_s (s := decide (v.toInt < 0)) (A := v.toInt.natAbs) (e := 0) (n := v.toInt.natAbs * 2 ^ 1074) ⟨_, 1074, h, by omega, rfl⟩ (by rw [show ((0 : Int) + 1074).toNat = 1074 by omega, show ((-1074 : Int) - 0).toNat = 0 by omega, Nat.pow_zero, Nat.mul_one])
  exact ⟨c, q, by rw [e, r1], r2⟩
theorem dw_div {s : Bool} {a : UInt64} {m : Nat} (hm : m < 2 ^ 53) (h : dw s a (m * 2 ^ 1074)) : dw s (FP.ddiv a w20) (m * 2 ^ 1054) := by
  obtain ⟨c, q, e, hn⟩ := h
  obtain ⟨f1, f2, f3⟩ := dw_fit e
  have hn' := dw_un hn
  have ed : FP.Core.val64 (FP.ddiv a w20) = FP.Core.roundRatio FP.Core.b64 s c (2 ^ 52) (q - (((20 : Nat) : Int) - 52)) := by
    show FP.Core.val64 (FP.Core.ddiv a w20) = _
    rw [FP.Core.val64_ddiv, e, kw20]
    show (if (2 : Nat) ^ 52 = 0 then (if c = 0 then FP.Core.Datum.nan else FP.Core.Datum.inf (s != false)) else FP.Core.roundRatio FP.Core.b64 (s != false) c (2 ^ 52) _) = _
    rw [if_neg (by decide), bfalse]
  have ec : FP.Core.roundRatio FP.Core.b64 s c (2 ^ 52) (q - (((20 : Nat) : Int) - 52)) = FP.Core.roundRatio FP.Core.b64 s (m * 2 ^ 1054) 1 (-1074) := by
    refine FP.Core.roundRatio_congr (by decide) (by decide) ?_
    have x1 : (q - (((20 : Nat) : Int) - 52) - -1074).toNat = (q + 1074).toNat + 32 := by omega
    have x2 : (-1074 - (q - (((20 : Nat) : Int) - 52))).toNat = 0 := by omega
    rw [x1, x2, Nat.mul_one, Nat.pow_add, ← Nat.mul_assoc, ← hn', Nat.pow_zero, Nat.mul_one, Nat.mul_assoc, Nat.mul_assoc, ← Nat.pow_add, ← Nat.pow_add]
  obtain ⟨c', q', r1, r2⟩ := rnd_s (s := s) (A := m * 2 ^ 1054) (e := -1074) (n := m * 2 ^ 1054) ⟨_, 1054, hm, by omega, rfl⟩ rfl
  exact ⟨c', q', by rw [ed, ec, r1], r2⟩
theorem off_val {a : UInt64} {t : Bool} {c : Nat} {q : Int} (e : FP.Core.val64 a = .fin t c q) : FP.Core.val64 (FP.dmul a w20) = FP.Core.roundRatio FP.Core.b64 t (c * 2 ^ 52) 1 (q + (((20 : Nat) : Int) - 52)) := by
  show FP.Core.val64 (FP.Core.dmul a w20) = _
  rw [FP.Core.val64_dmul, e, kw20]
  show FP.Core.roundRatio FP.Core.b64 (t != false) _ 1 _ = _
  rw [bfalse]
theorem dw_up20 {a : UInt64} {t : Bool} {n : Nat} (h : dw t a n) (hk : n * 2 ^ 20 < 2 ^ 2098) : dw t (FP.dmul a w20) (n * 2 ^ 20) := by
  obtain ⟨c, q, e, hn⟩ := h
  obtain ⟨h1, h2, h3⟩ := dw_fit e
  have hn' := dw_un hn
  have hr : rep (n * 2 ^ 20) := rep_up ⟨c, (q + 1074).toNat, h1, by omega, hn'⟩ hk
  obtain ⟨c', q', r1, r2⟩ := rnd_s (s := t) (A := c * 2 ^ 52) (e := q + (((20 : Nat) : Int) - 52)) hr (by
    rw [hn', Nat.mul_assoc, Nat.mul_assoc, Nat.mul_assoc, ← Nat.pow_add, ← Nat.pow_add, ← Nat.pow_add]
    congr 2
    omega)
  exact ⟨c', q', by rw [off_val e, r1], r2⟩
theorem dw_over {a : UInt64} {t : Bool} {n : Nat} (h : dw t a n) (hk : 2 ^ 2098 ≤ n * 2 ^ 20) : FP.Core.val64 (FP.dmul a w20) = .inf t := by
  obtain ⟨c, q, e, hn⟩ := h
  obtain ⟨h1, h2, h3⟩ := dw_fit e
  have hn' := dw_un hn
  rw [off_val e]
  refine (FP.Core.roundRatio_inf FP.Core.good_b64 (e0 := -1107) (by decide) (by decide) (by omega)).mpr ?_
  have e1 : FP.Core.inUnits (c * 2 ^ 52) (q + (((20 : Nat) : Int) - 52)) (-1107) = n * 2 ^ 20 * 2 ^ 33 := by
    unfold FP.Core.inUnits
    rw [hn', Nat.mul_assoc, Nat.mul_assoc, Nat.mul_assoc, ← Nat.pow_add, ← Nat.pow_add, ← Nat.pow_add]
    congr 2
    omega
  rw [e1]
  refine Nat.le_trans ?_ (Nat.mul_le_mul_right (2 ^ 33) hk)
  rw [Nat.mul_one]
  have e2 : (FP.Core.b64.qmax - 1 - -1107).toNat = 2077 := by decide
  have e3 : FP.Core.b64.p = 53 := rfl
  rw [e2, e3]
  refine Nat.le_trans (Nat.mul_le_mul_right _ (Nat.sub_le _ _)) ?_
  rw [← Nat.pow_add, ← Nat.pow_add]
  exact Nat.le_refl _
theorem dz_inf {a : UInt64} {t : Bool} (h : FP.Core.val64 a = .inf t) : dz a = FP.Core.signed t (2 ^ 2098) := by
  show FP.Core.zval _ (FP.Core.val64 a) = _
  rw [h]
  show FP.Core.signed t (FP.Core.b64.tails * 2 ^ (FP.Core.b64.exps - 2)) = _
  have e : FP.Core.b64.tails * 2 ^ (FP.Core.b64.exps - 2) = 2 ^ 2098 := by decide +kernel
  rw [e]
theorem sg (s : Bool) (n : Nat) : FP.Core.signed s n = if s = true then -(n : Int) else (n : Int) := by cases s <;> rfl
theorem off_ar {t s : Bool} {n N Z : Nat} (hZ : N * 1048576 < Z) : (n * 1048576 < Z → ((FP.Core.signed t n < FP.Core.signed s N ↔ FP.Core.signed t (n * 1048576) < FP.Core.signed s (N * 1048576)) ∧ (FP.Core.signed s N < FP.Core.signed t n ↔ FP.Core.signed s (N * 1048576) < FP.Core.signed t (n * 1048576)))) ∧ (Z ≤ n * 1048576 → ((FP.Core.signed t n < FP.Core.signed s N ↔ FP.Core.signed t Z < FP.Core.signed s (N * 1048576)) ∧ (FP.Core.signed s N < FP.Core.signed t n ↔ FP.Core.signed s (N * 1048576) < FP.Core.signed t Z))) := by
  simp only [sg]
  cases t <;> cases s <;> simp <;> omega
/-- what is below LOW in parts of 2 to the 20, and what is below it times 2 to the 20 -/
theorem off_cmp {a : UInt64} (ha : nn a) {v : Int64} (hv : v.toInt.natAbs ≤ 2 ^ 40) : nn (FP.ddiv (FP.l2d v) w20) ∧ nn (FP.dmul a w20) ∧ nn (FP.l2d v) ∧ (dz a < dz (FP.ddiv (FP.l2d v) w20) ↔ dz (FP.dmul a w20) < dz (FP.l2d v)) ∧ (dz (FP.ddiv (FP.l2d v) w20) < dz a ↔ dz (FP.l2d v) < dz (FP.dmul a w20)) := by
  have hm : v.toInt.natAbs < 2 ^ 53 := Nat.lt_of_le_of_lt hv (by decide)
  have l := dw_l2d hm
  have k := dw_div hm l
  have eN : v.toInt.natAbs * 2 ^ 1074 = v.toInt.natAbs * 2 ^ 1054 * 1048576 := by rw [show (1048576 : Nat) = 2 ^ 20 from rfl, Nat.mul_assoc, ← Nat.pow_add]
  rw [eN] at l
  have hZ : v.toInt.natAbs * 2 ^ 1054 * 1048576 < 2 ^ 2098 := by
    rw [← eN]
    have h1 : v.toInt.natAbs * 2 ^ 1074 ≤ 2 ^ 40 * 2 ^ 1074 := Nat.mul_le_mul_right _ hv
    rw [← Nat.pow_add] at h1
    exact Nat.lt_of_le_of_lt h1 (Nat.pow_lt_pow_right (by omega) (by omega))
  rw [dw_dz l, dw_dz k]
  refine ⟨dw_nn k, ?_⟩
  have L1 := dw_nn l
  revert hZ
  generalize v.toInt.natAbs * 2 ^ 1054 = N
  generalize decide (v.toInt < 0) = s
  intro hZ
  cases hx : FP.Core.val64 a with
  | nan => exact absurd hx ha
  | inf t =>
    have ex : FP.Core.val64 (FP.dmul a w20) = .inf t := by
      show FP.Core.val64 (FP.Core.dmul a w20) = _
      rw [FP.Core.val64_dmul, hx, kw20]
      show FP.Core.round FP.Core.b64 (if (2 : Nat) ^ 52 = 0 then FP.Core.Datum.nan else FP.Core.Datum.inf (t != false)) = _
      rw [if_neg (by decide), bfalse]
      rfl
    refine ⟨(by unfold nn; rw [ex]; intro z; cases z), L1, ?_⟩
    rw [dz_inf ex, dz_inf hx]
    have := (off_ar (t := t) (s := s) (n := 2 ^ 2098) hZ).2 (Nat.le_mul_of_pos_right _ (by omega))
    exact this
  | fin t c q =>
    have da : dw t a (FP.Core.inUnits c q FP.Core.b64.qmin) := ⟨c, q, hx, rfl⟩
    generalize FP.Core.inUnits c q FP.Core.b64.qmin = n at da
    by_cases hk : n * 1048576 < 2 ^ 2098
    · have dm := dw_up20 da hk
      refine ⟨dw_nn dm, L1, ?_⟩
      rw [dw_dz dm, dw_dz da]
      exact (off_ar (t := t) (s := s) hZ).1 hk
    · have ex := dw_over da (Nat.le_of_not_lt hk)
      refine ⟨(by unfold nn; rw [ex]; intro z; cases z), L1, ?_⟩
      rw [dz_inf ex, dw_dz da]
      exact (off_ar (t := t) (s := s) hZ).2 (Nat.le_of_not_lt hk)
/-! what is answered -/
def of_a (o : Option UInt64) (p : Option (Int64 × Int64)) : Int32 := match o, p with
  | some a, some q => if dz a < dz (FP.ddiv (FP.l2d q.1) w20) then -1 else if dz (FP.ddiv (FP.l2d q.2) w20) < dz a then 1 else 0
  | _, _ => 2
noncomputable def an_of (ls : pt_L) (v : Int32) : Int32 := if lt_k ls v = 1 then of_a (de_S ls (lt_i ls v) (some d_0)) (aq_o 20 ls (lt_i ls v) 0 0) else -1
theorem of_n (p : Option (Int64 × Int64)) : of_a none p = 2 := rfl
theorem of_sn (a : UInt64) : of_a (some a) none = 2 := rfl
theorem gd_40 {q : Int64 × Int64} (h : gd2 20 q.1 q.2) : q.1.toInt.natAbs ≤ 2 ^ 40 ∧ q.2.toInt.natAbs ≤ 2 ^ 40 := by
  obtain ⟨h1, h2, h3⟩ := h
  have e : (2 : Int) ^ 20 = 1048576 := rfl
  rw [e] at h2 h3
  omega
/-- behind off, machine -/
def fm (ls : pt_L) (I : Nat → Nat → Int32) (L : Nat → Nat → Int64) (I' : Nat → Nat → Int32) (L' : Nat → Nat → Int64) (D' : Nat → Nat → UInt64) : Prop := (∀ a b, iv_k a b → ¬ a = 36 → ¬ (a = 42 ∧ b = 60) → ¬ a = 76 → I' a b = I a b) ∧ (∀ a b, a = 30 ∨ a = 31 ∨ a = 69 ∨ a = 70 → L' a b = L a b) ∧ Cm ls I' D'
theorem fm_P {ls : pt_L} {I I' : Nat → Nat → Int32} {L L' : Nat → Nat → Int64} {D' : Nat → Nat → UInt64} (hP : iv_P ls I) (h : fm ls I L I' L' D') : iv_P ls I' := iv_P_j hP (fun a b k => h.1 a b (by unfold iv_j at k; unfold iv_k; omega) (by unfold iv_j at k; omega) (by unfold iv_j at k; omega) (by unfold iv_j at k; omega))
theorem fm_T {ls : pt_L} {I I' : Nat → Nat → Int32} {L L' : Nat → Nat → Int64} {D' : Nat → Nat → UInt64} (hT : iv_T I) (h : fm ls I L I' L' D') : iv_T I' := iv_T_j hT (fun a b k => h.1 a b (by unfold iv_j at k; unfold iv_k; omega) (by unfold iv_j at k; omega) (by unfold iv_j at k; omega) (by unfold iv_j at k; omega))
theorem fm_go {ls : pt_L} {I I' : Nat → Nat → Int32} {L L' : Nat → Nat → Int64} {D' : Nat → Nat → UInt64} {xi xp xc : Nat} (hT : iv_T I) (hP : iv_P ls I) (hx : Cx ls I L) (h : fm ls I L I' L' D') : iv (Cc2 Cm) (I', L', D', am_rf (2, 11, xi, xp, 2, xc)) :=
  ⟨I', L', D', xi, xp, xc, ls, rfl, fm_T hT h, fm_P hP h, Cx_s hx (h.1 42 59 (by unfold iv_k; omega) (by omega) (by omega) (by omega)) (fun b => h.1 71 b (by unfold iv_k; omega) (by omega) (by omega) (by omega)) h.2.1, h.2.2⟩
theorem fm_t {ls : pt_L} {I I1 I2 : Nat → Nat → Int32} {L L1 L2 : Nat → Nat → Int64} {D1 D2 : Nat → Nat → UInt64} (h : fm ls I L I1 L1 D1) (g : fm ls I1 L1 I2 L2 D2) : fm ls I L I2 L2 D2 := ⟨fun a b k q1 q2 q3 => by rw [g.1 a b k q1 q2 q3, h.1 a b k q1 q2 q3], fun a b k => by rw [g.2.1 a b k, h.2.1 a b k], g.2.2⟩
theorem fm_s {ls : pt_L} {I I' : Nat → Nat → Int32} {L L' : Nat → Nat → Int64} {D D' : Nat → Nat → UInt64} (hP : iv_P ls I) (hC : Cm ls I D) (hs : iv_s I L D I' L' D') : fm ls I L I' L' D' := ⟨fun a b k _ _ _ => hs.1 a b k, hs.2.1, Cm_ok ls I D I' D' hP (fun b => hs.1 36 b (by unfold iv_k; omega)) (hs.1 42 60 (by unfold iv_k; omega)) (fun b => hs.1 76 b (by unfold iv_k; omega)) hs.2.2 hC⟩
/-- what the reference keeps of a letter -/
theorem mw_at {ls : pt_L} {I : Nat → Nat → Int32} {D : Nat → Nat → UInt64} (hwf : pt_wf ls) (h : mw ls (pt_nn ls) I D) {v : Int32} (hl : lt_k ls v = 1) : I 76 v.toNatClampNeg = flg (de_S ls (lt_i ls v) (some d_0)) ∧ D 75 v.toNatClampNeg = dbl (de_S ls (lt_i ls v) (some d_0)) := by
  obtain ⟨_, _, _, _, b, T, q1, q2, q3⟩ := lt_x (ls := ls) (v := v) (by omega)
  have hb : b = false := by
    cases b with
    | false => rfl
    | true => rw [hl] at q3; exact absurd q3 (by decide)
  subst hb
  obtain ⟨k, hk, hx⟩ := lets_of q1 rfl
  rw [de_S_at hwf q1]
  exact h k _ hk hx
section OFF
variable {ext : Nat → List Value → am_M → Option am_R} {ls : pt_L} {I : Nat → Nat → Int32} {L : Nat → Nat → Int64} {D : Nat → Nat → UInt64}
/-- the class's reckon at a letter -/
theorem c4_at (xi xp xc : Nat) (hP : iv_P ls I) (hC : Cm ls I D) {v : Int32} (hl : lt_k ls v = 1) : ∃ I' D', am_Rn ext 94 4 [.ref 34, .int (nI (lt_i ls v))] (I, L, D, am_rf (2, 11, xi, xp, 2, xc)) (some (.int (fl1 (de_S ls (lt_i ls v) (some d_0)))), (I', L, D', am_rf (2, 11, xi, xp, 2, xc))) ∧ D' 34 6 = dbl (de_S ls (lt_i ls v) (some d_0)) ∧ fm ls I L I' L D' := by
  obtain ⟨_, _, _, _, b, T, q1, q2, q3⟩ := lt_x (ls := ls) (v := v) (by omega)
  have hb : b = false := by
    cases b with
    | false => rfl
    | true => rw [hl] at q3; exact absurd q3 (by decide)
  subst hb
  obtain ⟨I1, D1, r4, e6, M1, f1, f2⟩ := c4 (ext := ext) L 2 11 xi xp xc hP.2.2.1 hP.2.2.2.1 hP.2.2.2.2.1 q1 rfl hP.1 hC.1
  refine ⟨I1, D1, r4, e6, fun a b k q1 q2 q3 => f1 a b (by unfold iv_k at k; omega) q1 (by unfold iv_k at k; omega), fun _ _ _ => rfl, M1, ?_⟩
  rcases hC.2 with h | h
  · exact Or.inl (by rw [f1 42 60 (by omega) (by omega) (by omega)]; exact h)
  · exact Or.inr (fun j x hj hx => by rw [f1 76 _ (by omega) (by omega) (by omega), f2 75 _ (by omega)]; exact h j x hj hx)
theorem c109 (xi xp xc : Nat) (hP : iv_P ls I) (hC : Cm ls I D) (v : Int32) : ∃ I' L' D' xp', am_Rn ext 400 109 [.ref 0, .int v] (I, L, D, am_rf (2, 11, xi, xp, 2, xc)) (some (.int (an_of ls v)), (I', L', D', am_rf (2, 11, xi, xp', 2, xc))) ∧ fm ls I L I' L' D' := by
  have r1 := am_up (c111 (ext := ext) (d := 0) L D xi xp 2 xc hP.1 hP.2.2.2.1 v) (show 2 ≤ 399 by omega)
  by_cases g1 : lt_k ls v = 1
  · have ea : an_of ls v = of_a (de_S ls (lt_i ls v) (some d_0)) (aq_o 20 ls (lt_i ls v) 0 0) := by unfold an_of; rw [if_pos g1]
    obtain ⟨_, _, _, _, b, T, q1, q2, q3⟩ := lt_x (ls := ls) (v := v) (by omega)
    have h18 := hP.2.2.2.1
    have ge0 : 0 ≤ nI (lt_i ls v) := (ni_le (a := 0) (by omega) (by omega)).mpr (Nat.zero_le _)
    rw [if_pos g1] at r1
    rw [ea]
    obtain ⟨I1, D1, r4, e6, F1⟩ := c4_at (ext := ext) (L := L) xi xp xc hP hC g1
    have r4' := am_up r4 (show 94 ≤ 399 by omega)
    have hP1 := fm_P hP F1
    have og1 := de_S_og hP.2.2.1 (lt_i ls v) (some d_0) og_0
    cases ho : de_S ls (lt_i ls v) (some d_0) with
    | none =>
      rw [ho] at r4'
      exact ⟨I1, L, D1, xp, am_rn_of (d := 399) mh_109 rfl (w109_0 I L D xc xi xp 11 2 2 v ⟨_, I, L, D, r1, fun _ => ⟨_, I1, L, D1, r4', fun _ => rfl, fun z => absurd rfl z⟩, fun z => absurd ge0 z⟩), F1⟩
    | some a =>
      rw [ho] at r4' e6
      have e6' : D1 34 6 = a := e6
      have ha := og1 a ho
      obtain ⟨I2, L2, r6, K⟩ := c60 (ext := ext) (L := L) D1 2 11 xi xp 2 xc (w := 20) (a := 0) (b := 0) (by omega) hP1.2.2.1 hP1.2.2.2.1 hP1.2.2.2.2.1 q2 (gd2_0 20) hP1.1
      have r6' := am_up r6 (show 83 ≤ 399 by omega)
      have F2 := fm_t F1 (fm_s hP1 F1.2.2 (rk_iv (D := D1) K))
      cases hp : aq_o 20 ls (lt_i ls v) 0 0 with
      | none =>
        rw [hp, if_pos rfl] at r6'
        exact ⟨I2, L2, D1, 2, am_rn_of (d := 399) mh_109 rfl (w109_0 I L D xc xi xp 11 2 2 v ⟨_, I, L, D, r1, fun _ => ⟨_, I1, L, D1, r4', fun z => absurd (show (1 : Int32) = 0 from z) (by decide), fun _ => ⟨_, I2, L2, D1, r6', fun z => absurd rfl z, fun _ => rfl⟩⟩, fun z => absurd ge0 z⟩), F2⟩
      | some q =>
        rw [hp, if_neg (by intro h; cases h)] at r6'
        have k9 : L2 25 9 = q.1 := by rw [K.2.1, hp]; rfl
        have k10 : L2 25 10 = q.2 := by rw [K.2.2.1, hp]; rfl
        obtain ⟨b1, b2⟩ := gd_40 (aq_gd (by omega) hP.2.2.1 _ (gd2_0 20) q hp)
        obtain ⟨n1, n2, n3, i1, i2⟩ := off_cmp ha b1
        obtain ⟨m1, m2, m3, j1, j2⟩ := off_cmp ha b2
        have c1 := dcv_ge ha n1 .g
        have c2 := dcv_le ha m1 .l
        refine ⟨I2, L2, D1, 2, am_rn_of (d := 399) mh_109 rfl (w109_0 I L D xc xi xp 11 2 2 v ⟨_, I, L, D, r1, fun _ => ⟨_, I1, L, D1, r4', fun z => absurd (show (1 : Int32) = 0 from z) (by decide), fun _ => ⟨_, I2, L2, D1, r6', fun _ => ?_, fun z => absurd z (by decide)⟩⟩, fun z => absurd ge0 z⟩), F2⟩
        rw [k9, k10, e6']
        refine ⟨(nn_am _).mpr n1, fun z => ⟨(nn_am _).mpr m1, fun y => ?_, fun y => ?_⟩, fun z => ?_⟩
        · have z' := c1.mp z
          have y' := c2.mp y
          have : of_a (some a) (some q) = 0 := by
            show (if dz a < dz (FP.ddiv (FP.l2d q.1) w20) then (-1 : Int32) else if dz (FP.ddiv (FP.l2d q.2) w20) < dz a then 1 else 0) = 0
            rw [if_neg (Int.not_lt.mpr z'), if_neg (Int.not_lt.mpr y')]
          rw [this]
        · have z' := c1.mp z
          have y' : dz (FP.ddiv (FP.l2d q.2) w20) < dz a := Int.lt_of_not_ge (fun w => y (c2.mpr w))
          have : of_a (some a) (some q) = 1 := by
            show (if dz a < dz (FP.ddiv (FP.l2d q.1) w20) then (-1 : Int32) else if dz (FP.ddiv (FP.l2d q.2) w20) < dz a then 1 else 0) = 1
            rw [if_neg (Int.not_lt.mpr z'), if_pos y']
          rw [this]
        · have z' : dz a < dz (FP.ddiv (FP.l2d q.1) w20) := Int.lt_of_not_ge (fun w => z (c1.mpr w))
          have : of_a (some a) (some q) = -1 := by
            show (if dz a < dz (FP.ddiv (FP.l2d q.1) w20) then (-1 : Int32) else if dz (FP.ddiv (FP.l2d q.2) w20) < dz a then 1 else 0) = -1
            rw [if_pos z']
          rw [this]
  · have ea : an_of ls v = -1 := by unfold an_of; rw [if_neg g1]
    rw [ea]
    rw [if_neg g1] at r1
    exact ⟨I, L, D, xp, am_rn_of (d := 399) mh_109 rfl (w109_0 I L D xc xi xp 11 2 2 v ⟨_, I, L, D, r1, fun z => absurd z (by decide), fun _ => rfl⟩), fun _ _ _ _ _ _ => rfl, fun _ _ _ => rfl, hC⟩
/-- the reference's numbers stand -/
theorem c191_at (X : am_Rf) (hP : iv_P ls I) (hC : Cm ls I D) : ∃ I' D', am_Rn ext 7 191 [.ref 42] (I, L, D, am_rf X) (none, (I', L, D', am_rf X)) ∧ mw ls (pt_nn ls) I' D' ∧ fm ls I L I' L D' := by
  obtain ⟨I1, D1, r, f1, f2, f3⟩ := c191 (ext := ext) L X hP hC
  refine ⟨I1, D1, r, f3, fun a b k q1 q2 q3 => f1 a b (by unfold iv_k at k; omega) (by unfold iv_k at k; omega), fun _ _ _ => rfl, dm_M_of hC.1 (fun b => f1 36 b (by omega) (by omega)) (fun b => f2 35 b (by omega) (by omega)), Or.inr f3⟩
theorem c199 (X : am_Rf) (hP : iv_P ls I) (hC : Cm ls I D) (v : Int32) : ∃ I' L' D', am_Rn ext 400 199 [.ref 42, .int v] (I, L, D, am_rf X) (some (.int (an_of ls v)), (I', L', D', am_rf X)) ∧ fm ls I L I' L' D' := by
  have s2 : iv_s I L D (am_uI I 42 2 0) L D := iv_s_I (iv_2 I 0) (fun _ _ _ => rfl)
  have hP2 := iv_P_s hP s2.1
  have F0 := fm_s hP hC s2
  have r1 := am_up (c148 (ext := ext) (d := 0) (I := am_uI I 42 2 0) L D X hP2.2.1 v) (show 2 ≤ 399 by omega)
  by_cases g1 : lt_k ls v = 1
  · have ea : an_of ls v = of_a (de_S ls (lt_i ls v) (some d_0)) (aq_o 20 ls (lt_i ls v) 0 0) := by unfold an_of; rw [if_pos g1]
    obtain ⟨p1, p2, _⟩ := lt_x (ls := ls) (v := v) (by omega)
    have hb := ni_inb (n := 26) p1 (by omega)
    rw [← p2] at hb
    rw [if_pos g1] at r1
    rw [ea]
    obtain ⟨I1, D1, r2, W1, F1⟩ := c191_at (ext := ext) (L := L) X hP2 F0.2.2
    have hP1 := fm_P hP2 F1
    obtain ⟨I2, L2, r3, K⟩ := c170 (ext := ext) (d := 0) (I := I1) (L := L) D1 X hP1 (v1 := v) (w := 20) (by omega) g1
    have s3 : iv_s I1 L D1 I2 L2 D1 := iv_s_t (iv_s_I (iv_48 I1 (nI 20)) (fun _ _ _ => rfl)) (mk_iv K)
    have F2 := fm_t (fm_t F0 F1) (fm_s hP1 F1.2.2 s3)
    obtain ⟨y0, y1⟩ := mw_at hP.2.2.1 W1 g1
    rw [← s3.1 76 _ (by unfold iv_k; omega)] at y0
    have r2' := am_up r2 (show 7 ≤ 399 by omega)
    have r3' := am_up r3 (show 0 + 8 ≤ 399 by omega)
    have og1 := de_S_og hP.2.2.1 (lt_i ls v) (some d_0) og_0
    have V := K.2.1
    refine ⟨I2, L2, D1, am_rn_of (d := 399) mh_199 rfl (w199_0 I L D X v ⟨_, _, L, D, r1, fun _ => ⟨I1, L, D1, r2', I2, L2, D1, r3', hb, fun z => ?_, fun z => ⟨fun y => ?_, fun y => ?_⟩⟩, fun z => absurd z (by decide)⟩), F2⟩
    · cases ho : de_S ls (lt_i ls v) (some d_0) with
      | none => rfl
      | some a => rw [y0, ho] at z; exact absurd rfl z
    · cases ho : de_S ls (lt_i ls v) (some d_0) with
      | none => rw [y0, ho] at z; exact absurd z (by decide)
      | some a =>
        cases hp : aq_o 20 ls (lt_i ls v) 0 0 with
        | none => rw [V.1, hp, if_pos rfl] at y; exact absurd rfl y
        | some q =>
          rw [ho] at y1
          have y1' : D1 75 v.toNatClampNeg = a := y1
          have ha := og1 a ho
          obtain ⟨v1, v2⟩ := V.2 q hp
          obtain ⟨b1, b2⟩ := gd_40 (aq_gd (by omega) hP.2.2.1 _ (gd2_0 20) q hp)
          obtain ⟨n1, n2, n3, i1, i2⟩ := off_cmp ha b1
          obtain ⟨m1, m2, m3, j1, j2⟩ := off_cmp ha b2
          have c1 := dcv_ge n2 n3 .g
          have c2 := dcv_le m2 m3 .l
          rw [y1', v1, v2]
          refine ⟨hb, (nn_am _).mpr n2, fun x => ⟨fun u => ?_, fun u => ?_⟩, fun x => ?_⟩
          · have x' := c1.mp x
            have u' := c2.mp u
            have : of_a (some a) (some q) = 0 := by
              show (if dz a < dz (FP.ddiv (FP.l2d q.1) w20) then (-1 : Int32) else if dz (FP.ddiv (FP.l2d q.2) w20) < dz a then 1 else 0) = 0
              rw [if_neg (fun w => Int.not_lt.mpr x' (i1.mp w)), if_neg (fun w => Int.not_lt.mpr u' (j2.mp w))]
            rw [this]
          · have x' := c1.mp x
            have u' : dz (FP.l2d q.2) < dz (FP.dmul a w20) := Int.lt_of_not_ge (fun w => u (c2.mpr w))
            have : of_a (some a) (some q) = 1 := by
              show (if dz a < dz (FP.ddiv (FP.l2d q.1) w20) then (-1 : Int32) else if dz (FP.ddiv (FP.l2d q.2) w20) < dz a then 1 else 0) = 1
              rw [if_neg (fun w => Int.not_lt.mpr x' (i1.mp w)), if_pos (j2.mpr u')]
            rw [this]
          · have x' : dz (FP.dmul a w20) < dz (FP.l2d q.1) := Int.lt_of_not_ge (fun w => x (c1.mpr w))
            have : of_a (some a) (some q) = -1 := by
              show (if dz a < dz (FP.ddiv (FP.l2d q.1) w20) then (-1 : Int32) else if dz (FP.ddiv (FP.l2d q.2) w20) < dz a then 1 else 0) = -1
              rw [if_pos (i1.mpr x')]
            rw [this]
    · cases ho : de_S ls (lt_i ls v) (some d_0) with
      | none => rfl
      | some a =>
        cases hp : aq_o 20 ls (lt_i ls v) 0 0 with
        | none => rfl
        | some q => rw [V.1, hp, if_neg (by intro h; cases h)] at y; exact absurd y (by decide)
  · have ea : an_of ls v = -1 := by unfold an_of; rw [if_neg g1]
    rw [ea]
    rw [if_neg g1] at r1
    exact ⟨_, L, D, am_rn_of (d := 399) mh_199 rfl (w199_0 I L D X v ⟨_, _, L, D, r1, fun z => absurd rfl z, fun _ => rfl⟩), F0⟩
theorem ow_14 : lw_t14 ext (iv (Cc2 Cm)) := by
  intro v m hm
  obtain ⟨I, L, D, xi, xp, xc, ls, rfl, hT, hP, hc⟩ := hm
  obtain ⟨I1, L1, D1, xp', r1, F1⟩ := c109 (ext := ext) (L := L) xi xp xc hP hc.2 v
  have hP1 := fm_P hP F1
  obtain ⟨I2, L2, D2, r2, F2⟩ := c199 (ext := ext) (L := L1) (2, 11, xi, xp', 2, xc) hP1 F1.2.2 v
  exact ⟨_, _, _, r1, r2, Or.inl (fm_go hT hP hc.1 (fm_t F1 F2))⟩
end OFF
