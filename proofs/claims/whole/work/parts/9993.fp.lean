/-! ===== doubles: what is compared, where no NaN comes ===== -/
abbrev dz (a : UInt64) : Int := FP.Core.zval FP.Core.b64 (FP.Core.val64 a)
def nn (a : UInt64) : Prop := FP.Core.val64 a ≠ .nan
theorem nn_am (a : UInt64) : am_nn a = true ↔ nn a := by
  unfold am_nn nn
  rw [FP.Core.ne_nan, decide_eq_true_iff, UInt64.le_iff_toNat_le, FP.Core.mask_toNat]
  rfl
theorem nn_is {a : UInt64} (h : FP.Core.dIsNaN a = false) : nn a := (FP.Core.notNaN_iff a).mp h
theorem is_nn {a : UInt64} (h : nn a) : FP.Core.dIsNaN a = false := (FP.Core.notNaN_iff a).mpr h
theorem dcv {a b : UInt64} (ha : nn a) (hb : nn b) (op : CmpOp) : Op.cmpValue (FP.dcmp a b) op = if dz a < dz b then -1 else if dz a = dz b then 0 else 1 := by
  have e : FP.dcmp a b = some (compare (dz a) (dz b)) := FP.Core.dcmp_zval ha hb
  rw [e, FP.Core.compare_ite]
  split
  · rfl
  · split <;> rfl
theorem dcv_lt {a b : UInt64} (ha : nn a) (hb : nn b) (op : CmpOp) : Op.cmpValue (FP.dcmp a b) op < 0 ↔ dz a < dz b := by
  rw [dcv ha hb]
  split
  · rename_i h; exact ⟨fun _ => h, fun _ => by decide⟩
  · rename_i h
    refine ⟨fun z => ?_, fun z => absurd z h⟩
    split at z <;> exact absurd z (by decide)
theorem dcv_le {a b : UInt64} (ha : nn a) (hb : nn b) (op : CmpOp) : Op.cmpValue (FP.dcmp a b) op ≤ 0 ↔ dz a ≤ dz b := by
  rw [dcv ha hb]
  split
  · rename_i h; exact ⟨fun _ => by omega, fun _ => by decide⟩
  · rename_i h
    split
    · rename_i h1; exact ⟨fun _ => by omega, fun _ => by decide⟩
    · rename_i h1; exact ⟨fun z => absurd z (by decide), fun z => by omega⟩
theorem dcv_ge {a b : UInt64} (ha : nn a) (hb : nn b) (op : CmpOp) : 0 ≤ Op.cmpValue (FP.dcmp a b) op ↔ dz b ≤ dz a := by
  rw [dcv ha hb]
  split
  · rename_i h; exact ⟨fun z => absurd z (by decide), fun z => by omega⟩
  · rename_i h
    split
    · exact ⟨fun _ => by omega, fun _ => by decide⟩
    · exact ⟨fun _ => by omega, fun _ => by decide⟩
theorem dcv_gt {a b : UInt64} (ha : nn a) (hb : nn b) (op : CmpOp) : 0 < Op.cmpValue (FP.dcmp a b) op ↔ dz b < dz a := by
  rw [dcv ha hb]
  split
  · rename_i h; exact ⟨fun z => absurd z (by decide), fun z => by omega⟩
  · rename_i h
    split
    · rename_i h1; exact ⟨fun z => absurd z (by decide), fun z => by omega⟩
    · exact ⟨fun _ => by omega, fun _ => by decide⟩
theorem dcv_eq {a b : UInt64} (ha : nn a) (hb : nn b) (op : CmpOp) : Op.cmpValue (FP.dcmp a b) op = 0 ↔ dz a = dz b := by
  rw [dcv ha hb]
  split
  · rename_i h; exact ⟨fun z => absurd z (by decide), fun z => by omega⟩
  · rename_i h
    split
    · rename_i h1; exact ⟨fun _ => h1, fun _ => rfl⟩
    · rename_i h1; exact ⟨fun z => absurd z (by decide), fun z => absurd z h1⟩
theorem nn_0 : nn FP.dconst0 := (nn_am _).mp (by decide)
theorem dz_0 : dz FP.dconst0 = 0 := by
  have e : FP.Core.val64 FP.dconst0 = .fin false 0 FP.Core.b64.qmin := FP.Core.val64_dconst0
  show FP.Core.zval FP.Core.b64 (FP.Core.val64 FP.dconst0) = 0
  rw [e]
  show FP.Core.signed false (FP.Core.inUnits 0 _ _) = 0
  unfold FP.Core.inUnits
  rw [Nat.zero_mul]
  rfl
theorem dz_zero {a : UInt64} (ha : nn a) : dz a = 0 ↔ FP.Core.DZero a := by
  rw [FP.Core.zero_bits2, ← FP.Core.zval_eq_zero ha]
/-- equal ones other than nought have the same bits -/
theorem dz_inj {a b : UInt64} (ha : nn a) (hb : nn b) (h : dz a = dz b) (h0 : ¬ dz b = 0) : a = b := by
  refine FP.Core.eq_bits (fun z => h0 ((dz_zero hb).mpr z)) ?_
  have h' : FP.Core.zval FP.Core.b64 (FP.Core.val64 a) = FP.Core.zval FP.Core.b64 (FP.Core.val64 b) := h
  rw [FP.Core.dcmp_zval ha hb, h', FP.Core.compare_self_int]
/-- infinite -/
def dMx : UInt64 := 9218868437227405311
def dMn : UInt64 := 18442240474082181119
theorem nn_Mx : nn dMx := (nn_am _).mp (by decide)
theorem nn_Mn : nn dMn := (nn_am _).mp (by decide)
abbrev d_inf (a : UInt64) : Prop := dz dMx < dz a ∨ dz a < dz dMn
theorem zinf_t : FP.Core.zval FP.Core.b64 (.inf true) < dz dMn := by decide +kernel
theorem zinf_f : dz dMx < FP.Core.zval FP.Core.b64 (.inf false) := by decide +kernel
theorem d_inf_of {a : UInt64} {s : Bool} (h : FP.Core.val64 a = .inf s) : d_inf a ∧ (0 < dz a ↔ s = false) := by
  have e : dz a = FP.Core.zval FP.Core.b64 (.inf s) := by show FP.Core.zval FP.Core.b64 (FP.Core.val64 a) = _; rw [h]
  unfold d_inf
  rw [e]
  cases s with
  | true => exact ⟨Or.inr zinf_t, ⟨fun z => absurd z (by decide +kernel), fun z => absurd z (by decide)⟩⟩
  | false => exact ⟨Or.inl zinf_f, ⟨fun _ => rfl, fun _ => by decide +kernel⟩⟩
theorem d_fin_of {a : UInt64} (ha : nn a) (h : ¬ d_inf a) : FP.Core.DFin a := by
  unfold FP.Core.DFin
  cases hv : FP.Core.val64 a with
  | nan => exact absurd hv ha
  | inf s => exact absurd (d_inf_of hv).1 h
  | fin s c q => exact ⟨s, c, q, rfl⟩
/-- where the machine would give no number for two -/
def d_lz (kd : Nat) (a b : UInt64) : Prop :=
  if kd = 6 then d_inf a ∧ d_inf b ∧ ¬ (0 < dz a ↔ 0 < dz b) else if kd = 7 then d_inf a ∧ d_inf b ∧ (0 < dz a ↔ 0 < dz b)
  else if kd = 8 then (d_inf a ∧ dz b = 0) ∨ (dz a = 0 ∧ d_inf b) else if kd = 9 then (d_inf a ∧ d_inf b) ∨ (dz a = 0 ∧ dz b = 0) else False
theorem nn_add {a b : UInt64} (ha : nn a) (hb : nn b) (h : ¬ d_lz 6 a b) : nn (FP.dadd a b) := by
  refine nn_is (FP.Core.not_true (FP.Core.dadd_nan_iff a b) (fun z => ?_))
  rcases z with z | z | ⟨s, z1, z2⟩
  · exact ha z
  · exact hb z
  · refine h ?_
    show d_inf a ∧ d_inf b ∧ ¬ (0 < dz a ↔ 0 < dz b)
    refine ⟨(d_inf_of z1).1, (d_inf_of z2).1, fun e => ?_⟩
    rw [(d_inf_of z1).2, (d_inf_of z2).2] at e
    cases s <;> simp at e
theorem nn_sub {a b : UInt64} (ha : nn a) (hb : nn b) (h : ¬ d_lz 7 a b) : nn (FP.dsub a b) := by
  refine nn_is (FP.Core.not_true (FP.Core.dsub_nan_iff a b) (fun z => ?_))
  rcases z with z | z | ⟨s, z1, z2⟩
  · exact ha z
  · exact hb z
  · refine h ?_
    show d_inf a ∧ d_inf b ∧ (0 < dz a ↔ 0 < dz b)
    refine ⟨(d_inf_of z1).1, (d_inf_of z2).1, ?_⟩
    rw [(d_inf_of z1).2, (d_inf_of z2).2]
theorem nn_mul {a b : UInt64} (ha : nn a) (hb : nn b) (h : ¬ d_lz 8 a b) : nn (FP.dmul a b) := by
  refine nn_is (FP.Core.not_true (FP.Core.dmul_nan_iff a b) (fun z => ?_))
  rcases z with z | z | ⟨s, z1, z2⟩ | ⟨s, z1, z2⟩
  · exact ha z
  · exact hb z
  · exact h (Or.inl ⟨(d_inf_of z1).1, (dz_zero hb).mpr z2⟩)
  · exact h (Or.inr ⟨(dz_zero ha).mpr z1, (d_inf_of z2).1⟩)
theorem nn_div {a b : UInt64} (ha : nn a) (hb : nn b) (h : ¬ d_lz 9 a b) : nn (FP.ddiv a b) := by
  refine nn_is (FP.Core.not_true (FP.Core.ddiv_nan_iff a b) (fun z => ?_))
  rcases z with z | z | ⟨s, t, z1, z2⟩ | ⟨z1, z2⟩
  · exact ha z
  · exact hb z
  · exact h (Or.inl ⟨(d_inf_of z1).1, (d_inf_of z2).1⟩)
  · exact h (Or.inr ⟨(dz_zero ha).mpr z1, (dz_zero hb).mpr z2⟩)
theorem nn_neg {a : UInt64} (ha : nn a) : nn (FP.dneg a) := by
  unfold nn
  rw [FP.val64_dneg]
  exact FP.Core.negate_ne_nan ha
theorem dz_neg {a : UInt64} : dz (FP.dneg a) = -dz a := by
  show FP.Core.zval _ (FP.Core.val64 (FP.dneg a)) = _
  rw [FP.val64_dneg, FP.Core.zval_negate]
theorem neg_neg {a : UInt64} : FP.dneg (FP.dneg a) = a := by
  unfold FP.dneg
  rw [UInt64.xor_assoc, UInt64.xor_self, UInt64.xor_zero]
theorem nn_i2d (v : Int32) : nn (FP.i2d v) := by
  unfold nn
  show FP.Core.val64 (FP.Core.i2d v) ≠ .nan
  rw [FP.Core.val64_i2d]
  intro z
  rw [FP.Core.round_nan] at z
  cases z
/-- the greater, the lesser one -/
def d_max (a b : UInt64) : UInt64 := if dz a = 0 ∧ dz b = 0 then FP.dadd a b else if dz a < dz b then b else a
theorem nn_max {a b : UInt64} (ha : nn a) (hb : nn b) : nn (d_max a b) ∧ (dz a = 0 ∧ dz b = 0 → nn (FP.dadd a b)) := by
  have h : dz a = 0 ∧ dz b = 0 → nn (FP.dadd a b) := fun h => by
    refine nn_add ha hb (fun z => ?_)
    have z' : d_inf a ∧ d_inf b ∧ ¬ (0 < dz a ↔ 0 < dz b) := z
    exact z'.2.2 (by rw [h.1, h.2])
  refine ⟨?_, h⟩
  unfold d_max
  split
  · rename_i h0; exact h h0
  · split
    · exact hb
    · exact ha
def d_min (a b : UInt64) : UInt64 := FP.dneg (d_max (FP.dneg a) (FP.dneg b))
/-- the reference's form of the lesser one -/
theorem d_min_0 {a b : UInt64} (hb : nn b) (h : dz a = 0 ∧ dz b = 0) : d_min a b = FP.dneg (FP.dsub (FP.dneg a) b) := by
  unfold d_min d_max
  rw [if_pos (by rw [dz_neg, dz_neg]; omega)]
  congr 1
  show FP.Core.dadd _ _ = FP.Core.dsub _ _
  rw [FP.Core.dsub_eq, FP.dneg_core (is_nn hb)]
theorem d_min_n {a b : UInt64} (ha : nn a) (hb : nn b) (h : ¬ (dz a = 0 ∧ dz b = 0)) : d_min a b = if dz a < dz b then a else b := by
  unfold d_min d_max
  rw [if_neg (by rw [dz_neg, dz_neg]; omega), dz_neg, dz_neg]
  split
  · rename_i h1; rw [neg_neg, if_neg (by omega)]
  · rename_i h1
    rw [neg_neg]
    split
    · rfl
    · exact dz_inj ha hb (by omega) (by omega)
theorem d_max_n {a b : UInt64} (ha : nn a) (hb : nn b) (h : ¬ (dz a = 0 ∧ dz b = 0)) : d_max a b = if dz a ≤ dz b then b else a := by
  unfold d_max
  rw [if_neg h]
  split
  · rename_i h1; rw [if_pos (by omega)]
  · rename_i h1
    split
    · exact dz_inj ha hb (by omega) (by omega)
    · rfl
def d_abs (a : UInt64) : UInt64 := if 0 < dz a then a else FP.dsub FP.dconst0 a
theorem nn_abs {a : UInt64} (ha : nn a) : nn (FP.dsub FP.dconst0 a) := by
  refine nn_sub nn_0 ha (fun z => ?_)
  have z' : d_inf FP.dconst0 ∧ d_inf a ∧ _ := z
  have : ¬ d_inf FP.dconst0 := by
    unfold d_inf
    rw [dz_0]
    have h1 : 0 < dz dMx := by decide +kernel
    have h2 : dz dMn < 0 := by decide +kernel
    omega
  exact this z'.1
def d_two (kd : Nat) (a b : UInt64) : UInt64 := if kd = 6 then FP.dadd a b else if kd = 7 then FP.dsub a b else if kd = 8 then FP.dmul a b else if kd = 9 then FP.ddiv a b else if kd = 10 then d_max a b else d_min a b
theorem nn_two {kd : Nat} {a b : UInt64} (ha : nn a) (hb : nn b) (h : ¬ d_lz kd a b) : nn (d_two kd a b) := by
  unfold d_two
  split
  · rename_i k; subst k; exact nn_add ha hb h
  · split
    · rename_i k; subst k; exact nn_sub ha hb h
    · split
      · rename_i k; subst k; exact nn_mul ha hb h
      · split
        · rename_i k; subst k; exact nn_div ha hb h
        · split
          · exact (nn_max ha hb).1
          · exact nn_neg (nn_max (nn_neg ha) (nn_neg hb)).1
