/-! ===== where two give no number; two together ===== -/
section DTWO
variable {ext : Nat → List Value → am_M → Option am_R} {d : Nat} (L : Nat → Nat → Int64) (X : am_Rf) {I : Nat → Nat → Int32} {D : Nat → Nat → UInt64}
theorem c193i {a : UInt64} (ha : nn a) : ∃ r : Int32, am_Rn ext (d + 1) 193 [.double a] (I, L, D, am_rf X) (some (.int r), (I, L, D, am_rf X)) ∧ (r = 0 ↔ ¬ d_inf a) := by
  obtain ⟨r, h1, _, h2⟩ := c193 (ext := ext) (d := d) I L D X ha
  exact ⟨r, h1, h2⟩
theorem c16 {a b : UInt64} (ha : nn a) (hb : nn b) {kd : Nat} (hk : 6 ≤ kd ∧ kd ≤ 11) : ∃ r : Int32, am_Rn ext (d + 2) 16 [.int (nI (kd + 5)), .double a, .double b] (I, L, D, am_rf X) (some (.int r), (I, L, D, am_rf X)) ∧ (r = 0 ↔ ¬ d_lz kd a b) := by
  obtain ⟨ra, qa, ia⟩ := c17 (ext := ext) (d := d) (I := I) (D := D) L X ha
  obtain ⟨rb, qb, ib⟩ := c17 (ext := ext) (d := d) (I := I) (D := D) L X hb
  have a0 := dcv_eq ha nn_0 .l
  have b0 := dcv_eq hb nn_0 .l
  have a1 := dcv_le ha nn_0 .l
  have b1 := dcv_le hb nn_0 .l
  rw [dz_0] at a0 b0 a1 b1
  have no : ∀ r : Int32, ∀ p : Prop, ¬ p → r = 0 → (r = 0 ↔ ¬ p) := fun r p h1 h2 => ⟨fun _ => h1, fun _ => h2⟩
  have ye : ∀ r : Int32, ∀ p : Prop, p → ¬ r = 0 → (r = 0 ↔ ¬ p) := fun r p h1 h2 => ⟨fun z => absurd z h2, fun z => absurd h1 z⟩
  have g19 : ∀ s0 : Int32, (s0 = 0 ↔ ¬ (d_inf a ∧ d_inf b)) → am_wp ext (d + 1) mz_16 (19, [some (.int (nI (kd + 5))), some (.double a), none, some (.double b), none, none], [.int s0], (I, L, D, am_rf X)) (fun x => ∃ r : Int32, x = (some (.int r), (I, L, D, am_rf X)) ∧ (r = 0 ↔ ¬ d_lz kd a b)) := by
    intro s0 hs
    have bi : ¬ s0 = 0 → d_inf a ∧ d_inf b := fun z => Classical.byContradiction (fun q => z (hs.mpr q))
    have kk : kd = 6 ∨ kd = 7 ∨ kd = 8 ∨ kd = 9 ∨ kd = 10 ∨ kd = 11 := by omega
    rcases kk with rfl | rfl | rfl | rfl | rfl | rfl
    · refine w16_19 I L D X _ a b s0 ⟨fun _ => ⟨fun z => ⟨0, rfl, no _ _ (fun q => hs.mp z ⟨q.1, q.2.1⟩) rfl⟩, fun z => ⟨fun y => ⟨fun x => ⟨fun _ => ⟨0, rfl, no _ _ (fun q => q.2.2 ⟨fun p => absurd (a1.mp y) (by omega), fun p => absurd (b1.mp x) (by omega)⟩) rfl⟩, fun q => absurd rfl q⟩, fun x => ⟨fun q => absurd q (by decide), fun _ => ⟨1, rfl, ye _ _ ⟨(bi z).1, (bi z).2, fun q => ?_⟩ (by decide)⟩⟩⟩, fun y => ⟨fun x => ⟨fun q => absurd q (by decide), fun _ => ⟨1, rfl, ye _ _ ⟨(bi z).1, (bi z).2, fun q => ?_⟩ (by decide)⟩⟩, fun x => ⟨fun _ => ⟨0, rfl, no _ _ (fun q => q.2.2 ⟨fun _ => ?_, fun _ => ?_⟩) rfl⟩, fun q => absurd rfl q⟩⟩⟩⟩, fun z => absurd z (by decide), fun z => absurd z (by decide), fun z => absurd z (by decide), fun z => absurd rfl z.1⟩
      · have h1 := a1.mp y
        have h2 : 0 < dz b := Int.lt_of_not_ge (fun p => x (b1.mpr p))
        have := q.mpr h2
        omega
      · have h1 : 0 < dz a := Int.lt_of_not_ge (fun p => y (a1.mpr p))
        have h2 := b1.mp x
        have := q.mp h1
        omega
      · exact Int.lt_of_not_ge (fun p => x (b1.mpr p))
      · exact Int.lt_of_not_ge (fun p => y (a1.mpr p))
    · refine w16_19 I L D X _ a b s0 ⟨fun z => absurd z (by decide), fun _ => ⟨fun z => ⟨0, rfl, no _ _ (fun q => hs.mp z ⟨q.1, q.2.1⟩) rfl⟩, fun z => ⟨fun y => ⟨fun x => ⟨fun q => absurd rfl q, fun _ => ⟨1, rfl, ye _ _ ⟨(bi z).1, (bi z).2, ⟨fun p => absurd (a1.mp y) (by omega), fun p => absurd (b1.mp x) (by omega)⟩⟩ (by decide)⟩⟩, fun x => ⟨fun _ => ⟨0, rfl, no _ _ (fun q => ?_) rfl⟩, fun q => absurd q (by decide)⟩⟩, fun y => ⟨fun x => ⟨fun _ => ⟨0, rfl, no _ _ (fun q => ?_) rfl⟩, fun q => absurd q (by decide)⟩, fun x => ⟨fun q => absurd rfl q, fun _ => ⟨1, rfl, ye _ _ ⟨(bi z).1, (bi z).2, ⟨fun _ => ?_, fun _ => ?_⟩⟩ (by decide)⟩⟩⟩⟩⟩, fun z => absurd z (by decide), fun z => absurd z (by decide), fun z => absurd rfl z.2.1⟩
      · have h1 := a1.mp y
        have h2 : 0 < dz b := Int.lt_of_not_ge (fun p => x (b1.mpr p))
        have := q.2.2.mpr h2
        omega
      · have h1 : 0 < dz a := Int.lt_of_not_ge (fun p => y (a1.mpr p))
        have h2 := b1.mp x
        have := q.2.2.mp h1
        omega
      · exact Int.lt_of_not_ge (fun p => x (b1.mpr p))
      · exact Int.lt_of_not_ge (fun p => y (a1.mpr p))
    · refine w16_19 I L D X _ a b s0 ⟨fun z => absurd z (by decide), fun z => absurd z (by decide), fun _ => ⟨ra, I, L, D, qa, fun z => ⟨fun y => ⟨0, rfl, no _ _ (fun q => ?_) rfl⟩, fun y => ⟨rb, I, L, D, qb, fun x => ⟨0, rfl, no _ _ (fun q => ?_) rfl⟩, fun x => ⟨1, rfl, ye _ _ (Or.inr ⟨a0.mp y, Classical.byContradiction (fun p => x (ib.mpr p))⟩) (by decide)⟩⟩⟩, fun z => ⟨fun y => ⟨1, rfl, ye _ _ (Or.inl ⟨Classical.byContradiction (fun p => z (ia.mpr p)), b0.mp y⟩) (by decide)⟩, fun y => ⟨fun x => ⟨0, rfl, no _ _ (fun q => ?_) rfl⟩, fun x => ⟨rb, I, L, D, qb, fun w => ⟨0, rfl, no _ _ (fun q => ?_) rfl⟩, fun w => ⟨1, rfl, ye _ _ (Or.inr ⟨a0.mp x, Classical.byContradiction (fun p => w (ib.mpr p))⟩) (by decide)⟩⟩⟩⟩⟩, fun z => absurd z (by decide), fun z => absurd rfl z.2.2.1⟩
      · rcases q with q | q
        · exact ia.mp z q.1
        · exact y (a0.mpr q.1)
      · rcases q with q | q
        · exact ia.mp z q.1
        · exact ib.mp x q.2
      · rcases q with q | q
        · exact y (b0.mpr q.2)
        · exact x (a0.mpr q.1)
      · rcases q with q | q
        · exact y (b0.mpr q.2)
        · exact ib.mp w q.2
    · refine w16_19 I L D X _ a b s0 ⟨fun z => absurd z (by decide), fun z => absurd z (by decide), fun z => absurd z (by decide), fun _ => ⟨fun z => ⟨1, rfl, ye _ _ (Or.inl (bi z)) (by decide)⟩, fun z => ⟨fun y => ⟨0, rfl, no _ _ (fun q => ?_) rfl⟩, fun y => ⟨fun x => ⟨0, rfl, no _ _ (fun q => ?_) rfl⟩, fun x => ⟨1, rfl, ye _ _ (Or.inr ⟨a0.mp y, b0.mp x⟩) (by decide)⟩⟩⟩⟩, fun z => absurd rfl z.2.2.2⟩
      · rcases q with q | q
        · exact hs.mp z q
        · exact y (a0.mpr q.1)
      · rcases q with q | q
        · exact hs.mp z q
        · exact x (b0.mpr q.2)
    · exact w16_19 I L D X _ a b s0 ⟨fun z => absurd z (by decide), fun z => absurd z (by decide), fun z => absurd z (by decide), fun z => absurd z (by decide), fun _ => ⟨0, rfl, no _ _ (fun q => q) rfl⟩⟩
    · exact w16_19 I L D X _ a b s0 ⟨fun z => absurd z (by decide), fun z => absurd z (by decide), fun z => absurd z (by decide), fun z => absurd z (by decide), fun _ => ⟨0, rfl, no _ _ (fun q => q) rfl⟩⟩
  have g0 : am_wp ext (d + 1) mz_16 (0, [some (.int (nI (kd + 5))), some (.double a), none, some (.double b), none, none], [], (I, L, D, am_rf X)) (fun x => ∃ r : Int32, x = (some (.int r), (I, L, D, am_rf X)) ∧ (r = 0 ↔ ¬ d_lz kd a b)) := by
    refine w16_0 I L D X _ a b ⟨ra, I, L, D, qa, fun z => w16_18 I L D X _ a b (g19 0 ⟨fun _ q => ia.mp z q.1, fun _ => rfl⟩), fun z => ⟨rb, I, L, D, qb, fun y => w16_18 I L D X _ a b (g19 0 ⟨fun _ q => ib.mp y q.2, fun _ => rfl⟩), fun y => g19 1 ⟨fun q => absurd q (by decide), fun q => absurd ⟨Classical.byContradiction (fun p => z (ia.mpr p)), Classical.byContradiction (fun p => y (ib.mpr p))⟩ q⟩⟩⟩
  obtain ⟨q, rq, r, e, h⟩ := am_of_wp (ext := ext) (d := d + 1) (as := [.int (nI (kd + 5)), .double a, .double b]) mh_16 rfl g0
  rw [e] at rq
  exact ⟨r, rq, h⟩
theorem c194 {a b : UInt64} (ha : nn a) (hb : nn b) {kd : Nat} (hk : 6 ≤ kd ∧ kd ≤ 11) : ∃ r : Int32, am_Rn ext (d + 2) 194 [.int (nI (kd + 0)), .double a, .double b] (I, L, D, am_rf X) (some (.int r), (I, L, D, am_rf X)) ∧ (r = 0 ↔ ¬ d_lz kd a b) := by
  obtain ⟨ra, qa, ia⟩ := c193i (ext := ext) (d := d) (I := I) (D := D) L X ha
  obtain ⟨rb, qb, ib⟩ := c193i (ext := ext) (d := d) (I := I) (D := D) L X hb
  have a0 := dcv_eq ha nn_0 .l
  have b0 := dcv_eq hb nn_0 .l
  have a1 := dcv_le ha nn_0 .l
  have b1 := dcv_le hb nn_0 .l
  rw [dz_0] at a0 b0 a1 b1
  have no : ∀ r : Int32, ∀ p : Prop, ¬ p → r = 0 → (r = 0 ↔ ¬ p) := fun r p h1 h2 => ⟨fun _ => h1, fun _ => h2⟩
  have ye : ∀ r : Int32, ∀ p : Prop, p → ¬ r = 0 → (r = 0 ↔ ¬ p) := fun r p h1 h2 => ⟨fun z => absurd z h2, fun z => absurd h1 z⟩
  have g19 : ∀ s0 : Int32, (s0 = 0 ↔ ¬ (d_inf a ∧ d_inf b)) → am_wp ext (d + 1) mz_194 (19, [some (.int (nI (kd + 0))), some (.double a), none, some (.double b), none, none], [.int s0], (I, L, D, am_rf X)) (fun x => ∃ r : Int32, x = (some (.int r), (I, L, D, am_rf X)) ∧ (r = 0 ↔ ¬ d_lz kd a b)) := by
    intro s0 hs
    have bi : ¬ s0 = 0 → d_inf a ∧ d_inf b := fun z => Classical.byContradiction (fun q => z (hs.mpr q))
    have kk : kd = 6 ∨ kd = 7 ∨ kd = 8 ∨ kd = 9 ∨ kd = 10 ∨ kd = 11 := by omega
    rcases kk with rfl | rfl | rfl | rfl | rfl | rfl
    · refine w194_19 I L D X _ a b s0 ⟨fun _ => ⟨fun z => ⟨0, rfl, no _ _ (fun q => hs.mp z ⟨q.1, q.2.1⟩) rfl⟩, fun z => ⟨fun y => ⟨fun x => ⟨fun _ => ⟨0, rfl, no _ _ (fun q => q.2.2 ⟨fun p => absurd (a1.mp y) (by omega), fun p => absurd (b1.mp x) (by omega)⟩) rfl⟩, fun q => absurd rfl q⟩, fun x => ⟨fun q => absurd q (by decide), fun _ => ⟨1, rfl, ye _ _ ⟨(bi z).1, (bi z).2, fun q => ?_⟩ (by decide)⟩⟩⟩, fun y => ⟨fun x => ⟨fun q => absurd q (by decide), fun _ => ⟨1, rfl, ye _ _ ⟨(bi z).1, (bi z).2, fun q => ?_⟩ (by decide)⟩⟩, fun x => ⟨fun _ => ⟨0, rfl, no _ _ (fun q => q.2.2 ⟨fun _ => ?_, fun _ => ?_⟩) rfl⟩, fun q => absurd rfl q⟩⟩⟩⟩, fun z => absurd z (by decide), fun z => absurd z (by decide), fun z => absurd z (by decide), fun z => absurd rfl z.1⟩
      · have h1 := a1.mp y
        have h2 : 0 < dz b := Int.lt_of_not_ge (fun p => x (b1.mpr p))
        have := q.mpr h2
        omega
      · have h1 : 0 < dz a := Int.lt_of_not_ge (fun p => y (a1.mpr p))
        have h2 := b1.mp x
        have := q.mp h1
        omega
      · exact Int.lt_of_not_ge (fun p => x (b1.mpr p))
      · exact Int.lt_of_not_ge (fun p => y (a1.mpr p))
    · refine w194_19 I L D X _ a b s0 ⟨fun z => absurd z (by decide), fun _ => ⟨fun z => ⟨0, rfl, no _ _ (fun q => hs.mp z ⟨q.1, q.2.1⟩) rfl⟩, fun z => ⟨fun y => ⟨fun x => ⟨fun q => absurd rfl q, fun _ => ⟨1, rfl, ye _ _ ⟨(bi z).1, (bi z).2, ⟨fun p => absurd (a1.mp y) (by omega), fun p => absurd (b1.mp x) (by omega)⟩⟩ (by decide)⟩⟩, fun x => ⟨fun _ => ⟨0, rfl, no _ _ (fun q => ?_) rfl⟩, fun q => absurd q (by decide)⟩⟩, fun y => ⟨fun x => ⟨fun _ => ⟨0, rfl, no _ _ (fun q => ?_) rfl⟩, fun q => absurd q (by decide)⟩, fun x => ⟨fun q => absurd rfl q, fun _ => ⟨1, rfl, ye _ _ ⟨(bi z).1, (bi z).2, ⟨fun _ => ?_, fun _ => ?_⟩⟩ (by decide)⟩⟩⟩⟩⟩, fun z => absurd z (by decide), fun z => absurd z (by decide), fun z => absurd rfl z.2.1⟩
      · have h1 := a1.mp y
        have h2 : 0 < dz b := Int.lt_of_not_ge (fun p => x (b1.mpr p))
        have := q.2.2.mpr h2
        omega
      · have h1 : 0 < dz a := Int.lt_of_not_ge (fun p => y (a1.mpr p))
        have h2 := b1.mp x
        have := q.2.2.mp h1
        omega
      · exact Int.lt_of_not_ge (fun p => x (b1.mpr p))
      · exact Int.lt_of_not_ge (fun p => y (a1.mpr p))
    · refine w194_19 I L D X _ a b s0 ⟨fun z => absurd z (by decide), fun z => absurd z (by decide), fun _ => ⟨fun y => ⟨fun x => ⟨0, rfl, no _ _ (fun q => ?_) rfl⟩, fun x => ⟨ra, I, L, D, qa, fun z => ⟨0, rfl, no _ _ (fun q => ?_) rfl⟩, fun z => ⟨1, rfl, ye _ _ (Or.inl ⟨Classical.byContradiction (fun p => z (ia.mpr p)), b0.mp x⟩) (by decide)⟩⟩⟩, fun y => ⟨rb, I, L, D, qb, fun z => ⟨1, rfl, ye _ _ (Or.inr ⟨a0.mp y, Classical.byContradiction (fun p => z (ib.mpr p))⟩) (by decide)⟩, fun z => ⟨fun x => ⟨0, rfl, no _ _ (fun q => ?_) rfl⟩, fun x => ⟨ra, I, L, D, qa, fun w => ⟨0, rfl, no _ _ (fun q => ?_) rfl⟩, fun w => ⟨1, rfl, ye _ _ (Or.inl ⟨Classical.byContradiction (fun p => w (ia.mpr p)), b0.mp x⟩) (by decide)⟩⟩⟩⟩⟩, fun z => absurd z (by decide), fun z => absurd rfl z.2.2.1⟩
      · rcases q with q | q
        · exact x (b0.mpr q.2)
        · exact y (a0.mpr q.1)
      · rcases q with q | q
        · exact ia.mp z q.1
        · exact y (a0.mpr q.1)
      · rcases q with q | q
        · exact x (b0.mpr q.2)
        · exact ib.mp z q.2
      · rcases q with q | q
        · exact ia.mp w q.1
        · exact ib.mp z q.2
    · refine w194_19 I L D X _ a b s0 ⟨fun z => absurd z (by decide), fun z => absurd z (by decide), fun z => absurd z (by decide), fun _ => ⟨fun z => ⟨1, rfl, ye _ _ (Or.inl (bi z)) (by decide)⟩, fun z => ⟨fun y => ⟨0, rfl, no _ _ (fun q => ?_) rfl⟩, fun y => ⟨fun x => ⟨0, rfl, no _ _ (fun q => ?_) rfl⟩, fun x => ⟨1, rfl, ye _ _ (Or.inr ⟨a0.mp y, b0.mp x⟩) (by decide)⟩⟩⟩⟩, fun z => absurd rfl z.2.2.2⟩
      · rcases q with q | q
        · exact hs.mp z q
        · exact y (a0.mpr q.1)
      · rcases q with q | q
        · exact hs.mp z q
        · exact x (b0.mpr q.2)
    · exact w194_19 I L D X _ a b s0 ⟨fun z => absurd z (by decide), fun z => absurd z (by decide), fun z => absurd z (by decide), fun z => absurd z (by decide), fun _ => ⟨0, rfl, no _ _ (fun q => q) rfl⟩⟩
    · exact w194_19 I L D X _ a b s0 ⟨fun z => absurd z (by decide), fun z => absurd z (by decide), fun z => absurd z (by decide), fun z => absurd z (by decide), fun _ => ⟨0, rfl, no _ _ (fun q => q) rfl⟩⟩
  have g0 : am_wp ext (d + 1) mz_194 (0, [some (.int (nI (kd + 0))), some (.double a), none, some (.double b), none, none], [], (I, L, D, am_rf X)) (fun x => ∃ r : Int32, x = (some (.int r), (I, L, D, am_rf X)) ∧ (r = 0 ↔ ¬ d_lz kd a b)) := by
    refine w194_0 I L D X _ a b ⟨ra, I, L, D, qa, fun z => w194_18 I L D X _ a b (g19 0 ⟨fun _ q => ia.mp z q.1, fun _ => rfl⟩), fun z => ⟨rb, I, L, D, qb, fun y => w194_18 I L D X _ a b (g19 0 ⟨fun _ q => ib.mp y q.2, fun _ => rfl⟩), fun y => g19 1 ⟨fun q => absurd q (by decide), fun q => absurd ⟨Classical.byContradiction (fun p => z (ia.mpr p)), Classical.byContradiction (fun p => y (ib.mpr p))⟩ q⟩⟩⟩
  obtain ⟨q, rq, r, e, h⟩ := am_of_wp (ext := ext) (d := d + 1) (as := [.int (nI (kd + 0)), .double a, .double b]) mh_194 rfl g0
  rw [e] at rq
  exact ⟨r, rq, h⟩
theorem c195 {a b : UInt64} (ha : nn a) (hb : nn b) {kd : Nat} (hk : 6 ≤ kd ∧ kd ≤ 11) (hl : ¬ d_lz kd a b) : am_Rn ext (d + 1) 195 [.int (nI kd), .double a, .double b] (I, L, D, am_rf X) (some (.double (d_two kd a b)), (I, L, D, am_rf X)) := by
  have a0 := dcv_eq ha nn_0 .l
  have b0 := dcv_eq hb nn_0 .l
  have kl := dcv_le ha hb .l
  have kg := dcv_ge ha hb .g
  rw [dz_0] at a0 b0
  have kk : kd = 6 ∨ kd = 7 ∨ kd = 8 ∨ kd = 9 ∨ kd = 10 ∨ kd = 11 := by omega
  rcases kk with rfl | rfl | rfl | rfl | rfl | rfl
  · exact am_rn_of mh_195 rfl (w195_0 I L D X _ a b ⟨fun _ => ⟨(nn_am _).mpr (nn_add ha hb hl), rfl⟩, fun z => absurd z (by decide), fun z => absurd z (by decide), fun z => absurd z (by decide), fun z => absurd z (by decide), fun z => absurd rfl z.1⟩)
  · exact am_rn_of mh_195 rfl (w195_0 I L D X _ a b ⟨fun z => absurd z (by decide), fun _ => ⟨(nn_am _).mpr (nn_sub ha hb hl), rfl⟩, fun z => absurd z (by decide), fun z => absurd z (by decide), fun z => absurd z (by decide), fun z => absurd rfl z.2.1⟩)
  · exact am_rn_of mh_195 rfl (w195_0 I L D X _ a b ⟨fun z => absurd z (by decide), fun z => absurd z (by decide), fun _ => ⟨(nn_am _).mpr (nn_mul ha hb hl), rfl⟩, fun z => absurd z (by decide), fun z => absurd z (by decide), fun z => absurd rfl z.2.2.1⟩)
  · exact am_rn_of mh_195 rfl (w195_0 I L D X _ a b ⟨fun z => absurd z (by decide), fun z => absurd z (by decide), fun z => absurd z (by decide), fun _ => ⟨(nn_am _).mpr (nn_div ha hb hl), rfl⟩, fun z => absurd z (by decide), fun z => absurd rfl z.2.2.2.1⟩)
  · have e : d_two 10 a b = d_max a b := rfl
    rw [e]
    refine am_rn_of mh_195 rfl (w195_0 I L D X _ a b ⟨fun z => absurd z (by decide), fun z => absurd z (by decide), fun z => absurd z (by decide), fun z => absurd z (by decide), fun _ => ⟨fun z => ⟨fun y => ?_, fun y => ?_⟩, fun z => ⟨fun x => ⟨fun y => ?_, fun y => ?_⟩, fun x => ⟨(nn_am _).mpr ((nn_max ha hb).2 ⟨a0.mp z, b0.mp x⟩), ?_⟩⟩⟩, fun z => absurd rfl z.2.2.2.2⟩)
    · rw [d_max_n ha hb (fun q => z (a0.mpr q.1)), if_pos (kl.mp y)]
    · rw [d_max_n ha hb (fun q => z (a0.mpr q.1)), if_neg (fun q => y (kl.mpr q))]
    · rw [d_max_n ha hb (fun q => x (b0.mpr q.2)), if_pos (kl.mp y)]
    · rw [d_max_n ha hb (fun q => x (b0.mpr q.2)), if_neg (fun q => y (kl.mpr q))]
    · unfold d_max; rw [if_pos ⟨a0.mp z, b0.mp x⟩]
  · have e : d_two 11 a b = d_min a b := rfl
    rw [e]
    refine am_rn_of mh_195 rfl (w195_0 I L D X _ a b ⟨fun z => absurd z (by decide), fun z => absurd z (by decide), fun z => absurd z (by decide), fun z => absurd z (by decide), fun z => absurd z (by decide), fun _ => ⟨fun z => ⟨fun y => ?_, fun y => ?_⟩, fun z => ⟨fun x => ⟨fun y => ?_, fun y => ?_⟩, fun x => ⟨?_, ?_⟩⟩⟩⟩)
    · rw [d_min_n ha hb (fun q => z (a0.mpr q.1)), if_neg (by have := kg.mp y; omega)]
    · rw [d_min_n ha hb (fun q => z (a0.mpr q.1)), if_pos (Int.lt_of_not_ge (fun p => y (kg.mpr p)))]
    · rw [d_min_n ha hb (fun q => x (b0.mpr q.2)), if_neg (by have := kg.mp y; omega)]
    · rw [d_min_n ha hb (fun q => x (b0.mpr q.2)), if_pos (Int.lt_of_not_ge (fun p => y (kg.mpr p)))]
    · rw [nn_am]
      refine nn_sub (nn_neg ha) hb (fun q => ?_)
      have q' : d_inf (FP.dneg a) ∧ d_inf b ∧ _ := q
      have := q'.2.1
      have h1 : 0 < dz dMx := by decide +kernel
      have h2 : dz dMn < 0 := by decide +kernel
      have := b0.mp x
      rcases q'.2.1 with p | p <;> omega
    · rw [d_min_0 hb ⟨a0.mp z, b0.mp x⟩]
end DTWO
