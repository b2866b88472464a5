/-! ===== the class's doubles: steps on the row ===== -/
noncomputable def de_1k (kd : Nat) (x : Option UInt64) : Option UInt64 := match x with
  | none => none
  | some a => de_a kd a
noncomputable def de_2k (kd : Nat) (x y : Option UInt64) : Option UInt64 := match x, y with
  | some a, some b => de_o kd a b
  | _, _ => none
def de_ik (kd : Nat) (x y : Option UInt64) : Bool := match x, y with
  | some a, some b => if kd = 12 then decide (dz a < dz b) else decide (dz b < dz a)
  | _, _ => false
theorem de_a_og {kd : Nat} {a : UInt64} (ha : nn a) : og (de_a kd a) := by
  intro b hb
  unfold de_a at hb
  split at hb
  · cases hb; exact nn_neg ha
  · split at hb
    · split at hb
      · cases hb
      · rename_i h0
        cases hb
        unfold d_root
        split
        · exact ha
        · rename_i h1
          obtain ⟨n, hn, hp⟩ := dv_of ha (fun q => h1 (Or.inr q)) (by
            have : ¬ dz a = 0 := fun q => h1 (Or.inl q)
            omega)
          obtain ⟨r, _, hr⟩ := c19 (ext := fun _ _ _ => none) (d := 0) (fun _ _ => 0) (fun _ _ => 0) (fun _ _ => 0) (0, 0, 0, 0, 0, 0) hn hp
          rw [d_rt_of hn hr]
          exact nn_rt (a := a) hr
    · cases hb
      unfold d_abs
      split
      · exact ha
      · exact nn_abs ha
theorem de_1k_og {kd : Nat} {x : Option UInt64} (hx : og x) : og (de_1k kd x) := by
  cases x with
  | none => intro b hb; cases hb
  | some a => exact de_a_og (hx a rfl)
theorem de_2k_og {kd : Nat} {x y : Option UInt64} (hx : og x) (hy : og y) : og (de_2k kd x y) := by
  cases x with
  | none => intro b hb; cases hb
  | some a =>
    cases y with
    | none => intro b hb; cases hb
    | some c =>
      intro b hb
      have hb' : de_o kd a c = some b := hb
      by_cases h : d_lz kd a c
      · rw [de_o_n h] at hb'; cases hb'
      · rw [de_o_s h] at hb'; cases hb'; exact nn_two (hx a rfl) (hy c rfl) h
section DOPS
variable {ext : Nat → List Value → am_M → Option am_R} {d : Nat} (L : Nat → Nat → Int64) (X : am_Rf) {I : Nat → Nat → Int32} {D : Nat → Nat → UInt64}
theorem c14 {t kd : Nat} {x : Option UInt64} (h4 : I 34 4 = nI (t + 1)) (ht : t < 100) (hx : st_d x t I D) (hg : og x) (hk : 3 ≤ kd ∧ kd ≤ 5) : ∃ I' D', am_Rn ext (d + 4) 14 [.ref 34, .int (nI (kd + 5))] (I, L, D, am_rf X) (none, (I', L, D', am_rf X)) ∧ pq_P t (de_1k kd x) (am_uI I 34 4 (nI t)) D I' D' := by
  have e1 : I 34 4 - 1 = nI t := by rw [h4, show (1 : Int32) = nI 1 from rfl, ni_sub (by omega) (by omega)]; rfl
  have et : (nI t).toNatClampNeg = t := ni_nat (by omega)
  have hb : am_inb (nI t) 100 = true := ni_inb ht (by omega)
  have le : 1 ≤ I 34 4 := by rw [h4]; exact (ni_le (a := 1) (by omega) (by omega)).mpr (by omega)
  have h4' : am_uI I 34 4 (nI t) 34 4 = nI t := by rw [am_uI_at, if_pos ⟨rfl, rfl⟩]
  obtain ⟨hf, hv⟩ := hx
  cases x with
  | none =>
    have hf' : I 38 t = 1 := hf
    obtain ⟨I', D', r, g⟩ := c10 (ext := ext) (d := d + 1) (D := D) L X h4' ht
    refine ⟨I', D', am_rn_of mh_14 rfl (w14_0 I L D X _ ⟨fun _ => ?_, fun z => absurd le z⟩), g⟩
    rw [e1, et, hf']
    exact ⟨hb, hb, fun _ => ⟨I', L, D', r, rfl⟩, fun z => absurd z (by decide)⟩
  | some a =>
    have hf' : I 38 t = 0 := hf
    have hv' : D 37 t = a := hv a rfl
    have ha := hg a rfl
    have kl := dcv_ge ha nn_0 .g
    have kg := dcv_gt ha nn_0 .g
    have ke := dcv_eq ha nn_0 .l
    rw [dz_0] at kl kg ke
    have kk : kd = 3 ∨ kd = 4 ∨ kd = 5 := by omega
    rcases kk with rfl | rfl | rfl
    · have e : de_1k 3 (some a) = some (FP.dneg a) := rfl
      rw [e]
      obtain ⟨I', D', r, g⟩ := c9 (ext := ext) (d := d + 1) (D := D) L X h4' ht (FP.dneg a)
      refine ⟨I', D', am_rn_of mh_14 rfl (w14_0 I L D X _ ⟨fun _ => ?_, fun z => absurd le z⟩), g⟩
      rw [e1, et, hf', hv']
      exact ⟨hb, hb, fun z => absurd rfl z, fun _ => ⟨fun _ => w14_60 _ L D X _ a ⟨fun z => absurd rfl z, fun _ => ⟨I', L, D', r, rfl⟩⟩, fun z => absurd z (by decide)⟩⟩
    · by_cases hn : dz a < 0
      · have e : de_1k 4 (some a) = none := by show de_a 4 a = none; unfold de_a; rw [if_neg (by omega), if_pos rfl, if_pos hn]
        rw [e]
        obtain ⟨I', D', r, g⟩ := c10 (ext := ext) (d := d + 1) (D := D) L X h4' ht
        refine ⟨I', D', am_rn_of mh_14 rfl (w14_0 I L D X _ ⟨fun _ => ?_, fun z => absurd le z⟩), g⟩
        rw [e1, et, hf', hv']
        exact ⟨hb, hb, fun z => absurd rfl z, fun _ => ⟨fun z => absurd rfl z, fun _ => ⟨fun z => absurd (kl.mp z) (by omega), fun _ => ⟨I', L, D', r, rfl⟩⟩⟩⟩
      · have e : de_1k 4 (some a) = some (d_root a) := by show de_a 4 a = _; unfold de_a; rw [if_neg (by omega), if_pos rfl, if_neg hn]
        rw [e]
        have road : ∀ Q : am_R → Prop, am_wp ext (d + 3) mz_14 (60, [some (.ref 34), some (.int 9), some (.double a), none], [], (am_uI I 34 4 (nI t), L, D, am_rf X)) Q → am_wp ext (d + 3) mz_14 (0, [some (.ref 34), some (.int (nI (4 + 5))), none, none], [], (I, L, D, am_rf X)) Q := fun Q W => by
          refine w14_0 I L D X _ ⟨fun _ => ?_, fun z => absurd le z⟩
          rw [e1, et, hf', hv']
          exact ⟨hb, hb, fun z => absurd rfl z, fun _ => ⟨fun z => absurd rfl z, fun _ => ⟨fun _ => W, fun z => absurd (kl.mpr (by omega)) z⟩⟩⟩
        obtain ⟨r7, q7, i7⟩ := c17 (ext := ext) (d := d + 2) (I := am_uI I 34 4 (nI t)) (D := D) L X ha
        by_cases h0 : dz a = 0
        · have er : d_root a = a := by unfold d_root; rw [if_pos (Or.inl h0)]
          rw [er]
          obtain ⟨I', D', r, g⟩ := c9 (ext := ext) (d := d + 1) (D := D) L X h4' ht a
          exact ⟨I', D', am_rn_of mh_14 rfl (road _ (w14_60 _ L D X _ a ⟨fun _ => ⟨fun z => absurd rfl z, fun _ => ⟨fun _ => ⟨I', L, D', r, rfl⟩, fun z => absurd (ke.mpr h0) z⟩⟩, fun z => absurd z (by decide)⟩)), g⟩
        · by_cases hi : d_inf a
          · have er : d_root a = a := by unfold d_root; rw [if_pos (Or.inr hi)]
            rw [er]
            obtain ⟨I', D', r, g⟩ := c9 (ext := ext) (d := d + 1) (D := D) L X h4' ht a
            exact ⟨I', D', am_rn_of mh_14 rfl (road _ (w14_60 _ L D X _ a ⟨fun _ => ⟨fun z => absurd rfl z, fun _ => ⟨fun z => absurd (ke.mp z) h0, fun _ => ⟨r7, _, L, D, q7, fun z => absurd hi (i7.mp z), fun _ => ⟨I', L, D', r, rfl⟩⟩⟩⟩, fun z => absurd z (by decide)⟩)), g⟩
          · obtain ⟨n, hn', hp⟩ := dv_of ha hi (by omega)
            obtain ⟨rr, q19, hr⟩ := c19 (ext := ext) (d := d + 1) (am_uI I 34 4 (nI t)) L D X hn' hp
            have er : d_root a = rr := by
              unfold d_root
              rw [if_neg (fun q => by rcases q with q | q; · exact h0 q
                                      · exact hi q)]
              exact d_rt_of hn' hr
            rw [er]
            obtain ⟨I', D', r, g⟩ := c9 (ext := ext) (d := d + 1) (D := D) L X h4' ht rr
            exact ⟨I', D', am_rn_of mh_14 rfl (road _ (w14_60 _ L D X _ a ⟨fun _ => ⟨fun z => absurd rfl z, fun _ => ⟨fun z => absurd (ke.mp z) h0, fun _ => ⟨r7, _, L, D, q7, fun _ => ⟨rr, _, L, D, q19, I', L, D', r, rfl⟩, fun z => absurd (i7.mpr hi) z⟩⟩⟩, fun z => absurd z (by decide)⟩)), g⟩
    · have e : de_1k 5 (some a) = some (d_abs a) := by show de_a 5 a = _; unfold de_a; rw [if_neg (by omega), if_neg (by omega)]
      rw [e]
      obtain ⟨I', D', r, g⟩ := c9 (ext := ext) (d := d + 1) (D := D) L X h4' ht (d_abs a)
      refine ⟨I', D', am_rn_of mh_14 rfl (w14_0 I L D X _ ⟨fun _ => ?_, fun z => absurd le z⟩), g⟩
      rw [e1, et, hf', hv']
      refine ⟨hb, hb, fun z => absurd rfl z, fun _ => ⟨fun _ => w14_60 _ L D X _ a ⟨fun _ => ⟨fun _ => ⟨fun z => ⟨I', L, D', ?_, rfl⟩, fun z => ⟨(nn_am _).mpr (nn_abs ha), I', L, D', ?_, rfl⟩⟩, fun z => absurd z (by decide)⟩, fun z => absurd z (by decide)⟩, fun z => absurd z (by decide)⟩⟩
      · have : d_abs a = a := by unfold d_abs; rw [if_pos (kg.mp z)]
        rw [this] at r; exact r
      · have : d_abs a = FP.dsub FP.dconst0 a := by unfold d_abs; rw [if_neg (fun q => z (kg.mpr q))]
        rw [this] at r; exact r
theorem c15 {t kd : Nat} {x y : Option UInt64} (h4 : I 34 4 = nI (t + 2)) (ht : t + 1 < 100) (hx : st_d x t I D) (hy : st_d y (t + 1) I D) (gx : og x) (gy : og y) (hk : 6 ≤ kd ∧ kd ≤ 11) : ∃ I' D', am_Rn ext (d + 4) 15 [.ref 34, .int (nI (kd + 5))] (I, L, D, am_rf X) (none, (I', L, D', am_rf X)) ∧ pq_P t (de_2k kd x y) (am_uI I 34 4 (nI t)) D I' D' := by
  have e1 : I 34 4 - 2 = nI t := by rw [h4, show (2 : Int32) = nI 2 from rfl, ni_sub (by omega) (by omega)]; rfl
  have e2 : nI t + 1 = nI (t + 1) := by rw [show (1 : Int32) = nI 1 from rfl, ni_add (by omega)]
  have et : (nI t).toNatClampNeg = t := ni_nat (by omega)
  have et1 : (nI (t + 1)).toNatClampNeg = t + 1 := ni_nat (by omega)
  have hb : am_inb (nI t) 100 = true := ni_inb (by omega) (by omega)
  have hb1 : am_inb (nI (t + 1)) 100 = true := ni_inb ht (by omega)
  have le : 2 ≤ I 34 4 := by rw [h4]; exact (ni_le (a := 2) (by omega) (by omega)).mpr (by omega)
  have h4' : am_uI I 34 4 (nI t) 34 4 = nI t := by rw [am_uI_at, if_pos ⟨rfl, rfl⟩]
  obtain ⟨hf, hv⟩ := hx
  obtain ⟨hf1, hv1⟩ := hy
  have lost : (I 38 t = 1 ∨ (I 38 t = 0 ∧ I 38 (t + 1) = 1)) → de_2k kd x y = none → ∃ I' D', am_Rn ext (d + 4) 15 [.ref 34, .int (nI (kd + 5))] (I, L, D, am_rf X) (none, (I', L, D', am_rf X)) ∧ pq_P t (de_2k kd x y) (am_uI I 34 4 (nI t)) D I' D' := by
    intro h e
    rw [e]
    obtain ⟨I', D', r, g⟩ := c10 (ext := ext) (d := d + 1) (D := D) L X h4' (by omega)
    refine ⟨I', D', am_rn_of mh_15 rfl (w15_0 I L D X _ ⟨fun _ => ?_, fun z => absurd le z⟩), g⟩
    rw [e1, e2, et, et1]
    rcases h with h | ⟨h, h'⟩
    · rw [h]
      exact ⟨hb, hb1, hb, fun _ => ⟨I', L, D', r, rfl⟩, fun z => absurd z (by decide)⟩
    · rw [h, h']
      exact ⟨hb, hb1, hb, fun z => absurd rfl z, fun _ => ⟨hb1, fun _ => ⟨I', L, D', r, rfl⟩, fun z => absurd z (by decide)⟩⟩
  cases x with
  | none => exact lost (Or.inl hf) rfl
  | some a =>
    have hf' : I 38 t = 0 := hf
    cases y with
    | none => exact lost (Or.inr ⟨hf', hf1⟩) rfl
    | some b =>
      have hf1' : I 38 (t + 1) = 0 := hf1
      have hv' : D 37 t = a := hv a rfl
      have hv1' : D 37 (t + 1) = b := hv1 b rfl
      have ha := gx a rfl
      have hbn := gy b rfl
      have e : de_2k kd (some a) (some b) = de_o kd a b := rfl
      rw [e]
      obtain ⟨r3, q3, i3⟩ := c16 (ext := ext) (d := d + 1) (I := am_uI I 34 4 (nI t)) (D := D) L X ha hbn hk
      by_cases hz : d_lz kd a b
      · rw [de_o_n hz]
        obtain ⟨I', D', r, g⟩ := c10 (ext := ext) (d := d + 1) (D := D) L X h4' (by omega)
        refine ⟨I', D', am_rn_of mh_15 rfl (w15_0 I L D X _ ⟨fun _ => ?_, fun z => absurd le z⟩), g⟩
        rw [e1, e2, et, et1, hf', hf1', hv', hv1']
        exact ⟨hb, hb1, hb, fun z => absurd rfl z, fun _ => ⟨hb1, fun z => absurd rfl z, fun _ => ⟨r3, _, L, D, q3, fun z => absurd hz (i3.mp z), fun _ => ⟨I', L, D', r, rfl⟩⟩⟩⟩
      · rw [de_o_s hz]
        have r0 : r3 = 0 := i3.mpr hz
        subst r0
        obtain ⟨I', D', r, g⟩ := c9 (ext := ext) (d := d + 1) (D := D) L X h4' (by omega) (d_two kd a b)
        have cm := c18 (ext := ext) (d := d + 2) (I := am_uI I 34 4 (nI t)) (D := D) L X ha hbn
        have cm2 := c18 (ext := ext) (d := d + 2) (I := am_uI I 34 4 (nI t)) (D := D) L X (nn_neg ha) (nn_neg hbn)
        refine ⟨I', D', am_rn_of mh_15 rfl (w15_0 I L D X _ ⟨fun _ => ?_, fun z => absurd le z⟩), g⟩
        rw [e1, e2, et, et1, hf', hf1', hv', hv1']
        have kk : kd = 6 ∨ kd = 7 ∨ kd = 8 ∨ kd = 9 ∨ kd = 10 ∨ kd = 11 := by omega
        rcases kk with rfl | rfl | rfl | rfl | rfl | rfl
        · exact ⟨hb, hb1, hb, fun z => absurd rfl z, fun _ => ⟨hb1, fun z => absurd rfl z, fun _ => ⟨0, _, L, D, q3, fun _ => ⟨fun _ => ⟨(nn_am _).mpr (nn_add ha hbn hz), I', L, D', r, rfl⟩, fun z => absurd z (by decide), fun z => absurd z (by decide), fun z => absurd z (by decide), fun z => absurd z (by decide), fun z => absurd rfl z.1⟩, fun z => absurd rfl z⟩⟩⟩
        · exact ⟨hb, hb1, hb, fun z => absurd rfl z, fun _ => ⟨hb1, fun z => absurd rfl z, fun _ => ⟨0, _, L, D, q3, fun _ => ⟨fun z => absurd z (by decide), fun _ => ⟨(nn_am _).mpr (nn_sub ha hbn hz), I', L, D', r, rfl⟩, fun z => absurd z (by decide), fun z => absurd z (by decide), fun z => absurd z (by decide), fun z => absurd rfl z.2.1⟩, fun z => absurd rfl z⟩⟩⟩
        · exact ⟨hb, hb1, hb, fun z => absurd rfl z, fun _ => ⟨hb1, fun z => absurd rfl z, fun _ => ⟨0, _, L, D, q3, fun _ => ⟨fun z => absurd z (by decide), fun z => absurd z (by decide), fun _ => ⟨(nn_am _).mpr (nn_mul ha hbn hz), I', L, D', r, rfl⟩, fun z => absurd z (by decide), fun z => absurd z (by decide), fun z => absurd rfl z.2.2.1⟩, fun z => absurd rfl z⟩⟩⟩
        · exact ⟨hb, hb1, hb, fun z => absurd rfl z, fun _ => ⟨hb1, fun z => absurd rfl z, fun _ => ⟨0, _, L, D, q3, fun _ => ⟨fun z => absurd z (by decide), fun z => absurd z (by decide), fun z => absurd z (by decide), fun _ => ⟨(nn_am _).mpr (nn_div ha hbn hz), I', L, D', r, rfl⟩, fun z => absurd z (by decide), fun z => absurd rfl z.2.2.2.1⟩, fun z => absurd rfl z⟩⟩⟩
        · exact ⟨hb, hb1, hb, fun z => absurd rfl z, fun _ => ⟨hb1, fun z => absurd rfl z, fun _ => ⟨0, _, L, D, q3, fun _ => ⟨fun z => absurd z (by decide), fun z => absurd z (by decide), fun z => absurd z (by decide), fun z => absurd z (by decide), fun _ => ⟨_, _, L, D, cm, I', L, D', r, rfl⟩, fun z => absurd rfl z.2.2.2.2⟩, fun z => absurd rfl z⟩⟩⟩
        · exact ⟨hb, hb1, hb, fun z => absurd rfl z, fun _ => ⟨hb1, fun z => absurd rfl z, fun _ => ⟨0, _, L, D, q3, fun _ => ⟨fun z => absurd z (by decide), fun z => absurd z (by decide), fun z => absurd z (by decide), fun z => absurd z (by decide), fun z => absurd z (by decide), fun _ => ⟨_, _, L, D, cm2, I', L, D', r, rfl⟩⟩, fun z => absurd rfl z⟩⟩⟩
theorem c13 {t kd : Nat} {x y : Option UInt64} (h4 : I 34 4 = nI (t + 2)) (ht : t + 1 < 100) (hx : st_d x t I D) (hy : st_d y (t + 1) I D) (gx : og x) (gy : og y) (hk : kd = 12 ∨ kd = 13) : am_Rn ext (d + 1) 13 [.ref 34, .int (nI (kd + 5))] (I, L, D, am_rf X) (some (.int (if de_ik kd x y = true then 1 else 0)), (am_uI I 34 4 (nI t), L, D, am_rf X)) := by
  have e1 : I 34 4 - 2 = nI t := by rw [h4, show (2 : Int32) = nI 2 from rfl, ni_sub (by omega) (by omega)]; rfl
  have e2 : nI t + 1 = nI (t + 1) := by rw [show (1 : Int32) = nI 1 from rfl, ni_add (by omega)]
  have et : (nI t).toNatClampNeg = t := ni_nat (by omega)
  have et1 : (nI (t + 1)).toNatClampNeg = t + 1 := ni_nat (by omega)
  have hb : am_inb (nI t) 100 = true := ni_inb (by omega) (by omega)
  have hb1 : am_inb (nI (t + 1)) 100 = true := ni_inb ht (by omega)
  have le : 2 ≤ I 34 4 := by rw [h4]; exact (ni_le (a := 2) (by omega) (by omega)).mpr (by omega)
  obtain ⟨hf, hv⟩ := hx
  obtain ⟨hf1, hv1⟩ := hy
  refine am_rn_of mh_13 rfl (w13_0 I L D X _ ⟨fun _ => ?_, fun z => absurd le z⟩)
  rw [e1, e2, et, et1]
  cases x with
  | none =>
    have hf' : I 38 t = 1 := hf
    rw [hf']
    exact ⟨hb, fun _ => rfl, fun z => absurd z (by decide)⟩
  | some a =>
    have hf' : I 38 t = 0 := hf
    rw [hf']
    cases y with
    | none =>
      have hf1' : I 38 (t + 1) = 1 := hf1
      rw [hf1']
      exact ⟨hb, fun z => absurd rfl z, fun _ => ⟨hb1, fun z => absurd z (by decide), fun _ => rfl⟩⟩
    | some b =>
      have hf1' : I 38 (t + 1) = 0 := hf1
      rw [hf1', hv a rfl, hv1 b rfl]
      have ha := gx a rfl
      have hbn := gy b rfl
      have k1 := dcv_ge ha hbn .g
      have k2 := dcv_ge hbn ha .g
      refine ⟨hb, fun z => absurd rfl z, fun _ => ⟨hb1, fun _ => ⟨fun z => ⟨hb1, hb, fun y => ?_, fun y => ?_⟩, fun z => ⟨hb, hb1, fun y => ?_, fun y => ?_⟩⟩, fun z => absurd rfl z⟩⟩
      · have k13 : kd = 13 := by
          rcases hk with h | h
          · subst h; exact absurd rfl z
          · exact h
        have := k2.mp y
        have e : de_ik kd (some a) (some b) = false := by subst k13; show decide (dz b < dz a) = false; exact decide_eq_false (by omega)
        rw [e]; rfl
      · have k13 : kd = 13 := by
          rcases hk with h | h
          · subst h; exact absurd rfl z
          · exact h
        have : ¬ dz a ≤ dz b := fun q => y (k2.mpr q)
        have e : de_ik kd (some a) (some b) = true := by subst k13; show decide (dz b < dz a) = true; exact decide_eq_true (by omega)
        rw [e]; rfl
      · have k12 : kd = 12 := by
          rcases hk with h | h
          · exact h
          · subst h; exact absurd z (by decide)
        have := k1.mp y
        have e : de_ik kd (some a) (some b) = false := by subst k12; show decide (dz a < dz b) = false; exact decide_eq_false (by omega)
        rw [e]; rfl
      · have k12 : kd = 12 := by
          rcases hk with h | h
          · exact h
          · subst h; exact absurd z (by decide)
        have : ¬ dz b ≤ dz a := fun q => y (k1.mpr q)
        have e : de_ik kd (some a) (some b) = true := by subst k12; show decide (dz a < dz b) = true; exact decide_eq_true (by omega)
        rw [e]; rfl
end DOPS
