/-! ===== the reference asks: goesOn, kind by kind ===== -/
def me_Q (f k s kd : Nat) (I : Nat → Nat → Int32) : Prop := f < 128 ∧ k < 192 ∧ s < 1000 ∧ I 59 f = nI k ∧ I 60 f = nI s ∧ I 45 k = nI kd
/-- one step more -/
def me_1 (I : Nat → Nat → Int32) (f s : Nat) : Nat → Nat → Int32 := am_uI I 60 f (nI (s + 1))
section MGOES
variable {ext : Nat → List Value → am_M → Option am_R} {d : Nat} (D : Nat → Nat → UInt64) (X : am_Rf) {I : Nat → Nat → Int32} {L : Nat → Nat → Int64} {I' : Nat → Nat → Int32} {L' : Nat → Nat → Int64} {f k s kd : Nat}
theorem q161 (h : me_Q f k s kd I) : am_inb (nI f) 128 = true ∧ am_inb (nI k) 192 = true ∧ (nI f).toNatClampNeg = f ∧ (nI k).toNatClampNeg = k ∧ nI s + 1 = nI (s + 1) := by
  obtain ⟨h1, h2, h3, h4, h5, h6⟩ := h
  exact ⟨ni_inb h1 (by omega), ni_inb h2 (by omega), ni_nat (by omega), ni_nat (by omega), by rw [show (1 : Int32) = nI 1 from rfl, ni_add (by omega)]⟩
theorem c161_0 {w : Nat} (h : me_Q f k s 0 I) (h48 : I 42 48 = nI w) {n : Nat} (h46 : I 46 k = nI n) (r : am_Rn ext d 151 [.ref 42, .int 1, .long (sp_l w (Int32.toInt64 (nI n))), .long (sp_l w (Int32.toInt64 (nI n)))] (me_1 I f s, L, D, am_rf X) (none, (I', L', D, am_rf X))) : am_Rn ext (d + 1) 161 [.ref 42, .int (nI f)] (I, L, D, am_rf X) (none, (I', L', D, am_rf X)) := by
  obtain ⟨b1, b2, e1, e2, e3⟩ := q161 h
  obtain ⟨h1, h2, h3, h4, h5, h6⟩ := h
  refine am_rn_of mh_161 rfl (w161_0 I L D X (nI f) ?_)
  rw [e1, h4, e2, h6, h5, e3, h46, h48]
  exact ⟨b1, b1, b1, b1, b2, fun z => absurd rfl z, fun _ => ⟨b2, I', L', D, r, rfl⟩⟩
theorem c161_1 (h : me_Q f k s 1 I) (r : am_Rn ext d 151 [.ref 42, .int 1, .long (L 61 f), .long (L 62 f)] (me_1 I f s, L, D, am_rf X) (none, (I', L', D, am_rf X))) : am_Rn ext (d + 1) 161 [.ref 42, .int (nI f)] (I, L, D, am_rf X) (none, (I', L', D, am_rf X)) := by
  obtain ⟨b1, b2, e1, e2, e3⟩ := q161 h
  obtain ⟨h1, h2, h3, h4, h5, h6⟩ := h
  refine am_rn_of mh_161 rfl (w161_0 I L D X (nI f) ?_)
  rw [e1, h4, e2, h6, h5, e3]
  exact ⟨b1, b1, b1, b1, b2, fun _ => ⟨fun z => absurd rfl z, fun _ => ⟨b1, b1, I', L', D, r, rfl⟩⟩, fun z => absurd z (by decide)⟩
theorem c161_2a (h : me_Q f k 0 2 I) {l : Nat} (h46 : I 46 k = nI l) (hl : l < 52) (r : am_Rn ext d 150 [.ref 42, .int (I 52 l), .long 0, .long 0] (me_1 I f 0, L, D, am_rf X) (none, (I', L', D, am_rf X))) : am_Rn ext (d + 1) 161 [.ref 42, .int (nI f)] (I, L, D, am_rf X) (none, (I', L', D, am_rf X)) := by
  obtain ⟨b1, b2, e1, e2, e3⟩ := q161 h
  obtain ⟨h1, h2, h3, h4, h5, h6⟩ := h
  have el : (nI l).toNatClampNeg = l := ni_nat (by omega)
  refine am_rn_of mh_161 rfl (w161_0 I L D X (nI f) ?_)
  rw [e1, h4, e2, h6, h5, e3, h46, el]
  exact ⟨b1, b1, b1, b1, b2, fun _ => ⟨fun _ => ⟨fun z => absurd rfl z, fun _ => ⟨fun z => absurd rfl z, fun _ => ⟨b2, ni_inb hl (by omega), I', L', D, r, rfl⟩⟩⟩, fun z => absurd z (by decide)⟩, fun z => absurd z (by decide)⟩
theorem c161_2b (h : me_Q f k 1 2 I) (r : am_Rn ext d 151 [.ref 42, .int (I 42 50), .long (L 42 51), .long (L 42 52)] (me_1 I f 1, L, D, am_rf X) (none, (I', L', D, am_rf X))) : am_Rn ext (d + 1) 161 [.ref 42, .int (nI f)] (I, L, D, am_rf X) (none, (I', L', D, am_rf X)) := by
  obtain ⟨b1, b2, e1, e2, e3⟩ := q161 h
  obtain ⟨h1, h2, h3, h4, h5, h6⟩ := h
  refine am_rn_of mh_161 rfl (w161_0 I L D X (nI f) ?_)
  rw [e1, h4, e2, h6, h5, e3]
  exact ⟨b1, b1, b1, b1, b2, fun _ => ⟨fun _ => ⟨fun z => absurd rfl z, fun _ => ⟨fun _ => ⟨I', L', D, r, rfl⟩, fun z => absurd z (by decide)⟩⟩, fun z => absurd z (by decide)⟩, fun z => absurd z (by decide)⟩
theorem k161 (hk : kd ≤ 15) {c : Nat} (hc : c ≤ 15) : (nI c < nI kd ↔ c < kd) ∧ (nI kd = nI c ↔ kd = c) := ⟨ni_lt (by omega) (by omega), ni_eq (by omega) (by omega)⟩
/-- - sqrt abs -/
theorem c161_3a (h : me_Q f k 0 kd I) (hkd : 3 ≤ kd ∧ kd ≤ 5) (r : am_Rn ext d 150 [.ref 42, .int (I 47 k), .long (L 61 f), .long (L 62 f)] (me_1 I f 0, L, D, am_rf X) (none, (I', L', D, am_rf X))) : am_Rn ext (d + 1) 161 [.ref 42, .int (nI f)] (I, L, D, am_rf X) (none, (I', L', D, am_rf X)) := by
  obtain ⟨b1, b2, e1, e2, e3⟩ := q161 h
  obtain ⟨h1, h2, h3, h4, h5, h6⟩ := h
  have K := fun (c : Nat) (hc : c ≤ 15) => k161 (kd := kd) (by omega) (c := c) hc
  refine am_rn_of mh_161 rfl (w161_0 I L D X (nI f) ?_)
  rw [e1, h4, e2, h6, h5, e3]
  exact ⟨b1, b1, b1, b1, b2, fun _ => ⟨fun _ => ⟨fun _ => ⟨fun z => absurd ((K 5 (by omega)).1.mp z) (by omega), fun _ => ⟨fun z => absurd rfl z, fun _ => ⟨b2, b1, b1, I', L', D, r, rfl⟩⟩⟩, fun z => absurd ((K 2 (by omega)).2.mp z) (by omega)⟩, fun z => absurd ((K 1 (by omega)).2.mp z) (by omega)⟩, fun z => absurd ((K 0 (by omega)).2.mp z) (by omega)⟩
theorem c161_3b (h : me_Q f k 1 kd I) (hkd : 3 ≤ kd ∧ kd ≤ 5) (r : am_Rn ext d 162 [.ref 42, .int (nI kd)] (me_1 I f 1, L, D, am_rf X) (none, (I', L', D, am_rf X))) : am_Rn ext (d + 1) 161 [.ref 42, .int (nI f)] (I, L, D, am_rf X) (none, (I', L', D, am_rf X)) := by
  obtain ⟨b1, b2, e1, e2, e3⟩ := q161 h
  obtain ⟨h1, h2, h3, h4, h5, h6⟩ := h
  have K := fun (c : Nat) (hc : c ≤ 15) => k161 (kd := kd) (by omega) (c := c) hc
  refine am_rn_of mh_161 rfl (w161_0 I L D X (nI f) ?_)
  rw [e1, h4, e2, h6, h5, e3]
  exact ⟨b1, b1, b1, b1, b2, fun _ => ⟨fun _ => ⟨fun _ => ⟨fun z => absurd ((K 5 (by omega)).1.mp z) (by omega), fun _ => ⟨fun _ => ⟨I', L', D, r, rfl⟩, fun z => absurd z (by decide)⟩⟩, fun z => absurd ((K 2 (by omega)).2.mp z) (by omega)⟩, fun z => absurd ((K 1 (by omega)).2.mp z) (by omega)⟩, fun z => absurd ((K 0 (by omega)).2.mp z) (by omega)⟩
/-- two parts -/
theorem c161_6 (h : me_Q f k s kd I) (hkd : 6 ≤ kd ∧ kd ≤ 11) {I0 : Nat → Nat → Int32} {L0 : Nat → Nat → Int64} (h0 : (¬ s = 1 ∧ I0 = me_1 I f s ∧ L0 = L) ∨ (s = 1 ∧ am_Rn ext d 160 [.ref 42, .int (nI f)] (me_1 I f s, L, D, am_rf X) (none, (I0, L0, D, am_rf X))))
    (r : am_wp ext d mz_161 (199, [some (.ref 42), some (.int (nI f)), some (.int (nI k)), some (.int (nI s)), some (.int (nI kd)), none, none], [], (I0, L0, D, am_rf X)) (fun r => r = (none, (I', L', D, am_rf X)))) : am_Rn ext (d + 1) 161 [.ref 42, .int (nI f)] (I, L, D, am_rf X) (none, (I', L', D, am_rf X)) := by
  obtain ⟨b1, b2, e1, e2, e3⟩ := q161 h
  obtain ⟨h1, h2, h3, h4, h5, h6⟩ := h
  have K := fun (c : Nat) (hc : c ≤ 15) => k161 (kd := kd) (by omega) (c := c) hc
  have es : nI s = 1 ↔ s = 1 := ni_eq (b := 1) (by omega) (by omega)
  refine am_rn_of mh_161 rfl (w161_0 I L D X (nI f) ?_)
  rw [e1, h4, e2, h6, h5, e3]
  refine ⟨b1, b1, b1, b1, b2, fun _ => ⟨fun _ => ⟨fun _ => ⟨fun _ => ⟨fun z => absurd ((K 11 (by omega)).1.mp z) (by omega), fun _ => ⟨fun z => ?_, fun z => ?_⟩⟩, fun z => absurd ((K 5 (by omega)).1.mpr (by omega)) z⟩, fun z => absurd ((K 2 (by omega)).2.mp z) (by omega)⟩, fun z => absurd ((K 1 (by omega)).2.mp z) (by omega)⟩, fun z => absurd ((K 0 (by omega)).2.mp z) (by omega)⟩
  · rcases h0 with ⟨_, q1, q2⟩ | ⟨q, _⟩
    · rw [q1, q2] at r
      exact r
    · exact absurd (es.mpr q) z
  · rcases h0 with ⟨q, _⟩ | ⟨_, q⟩
    · exact absurd (es.mp z) q
    · exact ⟨I0, L0, D, q, r⟩
/-- if -/
theorem c161_12 (h : me_Q f k s kd I) (hkd : kd = 12 ∨ kd = 13) (r : am_Rn ext d 165 [.ref 42, .int (nI f), .int (nI k), .int (nI s)] (me_1 I f s, L, D, am_rf X) (none, (I', L', D, am_rf X))) : am_Rn ext (d + 1) 161 [.ref 42, .int (nI f)] (I, L, D, am_rf X) (none, (I', L', D, am_rf X)) := by
  obtain ⟨b1, b2, e1, e2, e3⟩ := q161 h
  obtain ⟨h1, h2, h3, h4, h5, h6⟩ := h
  have K := fun (c : Nat) (hc : c ≤ 15) => k161 (kd := kd) (by omega) (c := c) hc
  refine am_rn_of mh_161 rfl (w161_0 I L D X (nI f) ?_)
  rw [e1, h4, e2, h6, h5, e3]
  exact ⟨b1, b1, b1, b1, b2, fun _ => ⟨fun _ => ⟨fun _ => ⟨fun _ => ⟨fun _ => ⟨fun z => absurd ((K 13 (by omega)).1.mp z) (by omega), fun _ => ⟨I', L', D, r, rfl⟩⟩, fun z => absurd ((K 11 (by omega)).1.mpr (by omega)) z⟩, fun z => absurd ((K 5 (by omega)).1.mpr (by omega)) z⟩, fun z => absurd ((K 2 (by omega)).2.mp z) (by omega)⟩, fun z => absurd ((K 1 (by omega)).2.mp z) (by omega)⟩, fun z => absurd ((K 0 (by omega)).2.mp z) (by omega)⟩
/-- a call -/
theorem c161_14 (h : me_Q f k s 14 I) (r : am_Rn ext d 166 [.ref 42, .int (nI f), .int (nI k), .int (nI s)] (me_1 I f s, L, D, am_rf X) (none, (I', L', D, am_rf X))) : am_Rn ext (d + 1) 161 [.ref 42, .int (nI f)] (I, L, D, am_rf X) (none, (I', L', D, am_rf X)) := by
  obtain ⟨b1, b2, e1, e2, e3⟩ := q161 h
  obtain ⟨h1, h2, h3, h4, h5, h6⟩ := h
  have K := fun (c : Nat) (hc : c ≤ 15) => k161 (kd := 14) (by omega) (c := c) hc
  refine am_rn_of mh_161 rfl (w161_0 I L D X (nI f) ?_)
  rw [e1, h4, e2, h6, h5, e3]
  exact ⟨b1, b1, b1, b1, b2, fun _ => ⟨fun _ => ⟨fun _ => ⟨fun _ => ⟨fun _ => ⟨fun _ => ⟨fun z => absurd rfl z, fun _ => ⟨I', L', D, r, rfl⟩⟩, fun z => absurd ((K 13 (by omega)).1.mpr (by omega)) z⟩, fun z => absurd ((K 11 (by omega)).1.mpr (by omega)) z⟩, fun z => absurd ((K 5 (by omega)).1.mpr (by omega)) z⟩, fun z => absurd ((K 2 (by omega)).2.mp z) (by omega)⟩, fun z => absurd ((K 1 (by omega)).2.mp z) (by omega)⟩, fun z => absurd ((K 0 (by omega)).2.mp z) (by omega)⟩
/-- nought; over pieces -/
theorem c161_15 (h : me_Q f k s 15 I) {x : Nat} (hx : x ≤ 3) (h46 : I 46 k = nI x) (r : am_Rn ext d (if x = 0 then 167 else 169) [.ref 42, .int (nI f), .int (nI k), .int (nI s)] (me_1 I f s, L, D, am_rf X) (none, (I', L', D, am_rf X))) : am_Rn ext (d + 1) 161 [.ref 42, .int (nI f)] (I, L, D, am_rf X) (none, (I', L', D, am_rf X)) := by
  obtain ⟨b1, b2, e1, e2, e3⟩ := q161 h
  obtain ⟨h1, h2, h3, h4, h5, h6⟩ := h
  have K := fun (c : Nat) (hc : c ≤ 15) => k161 (kd := 15) (by omega) (c := c) hc
  have ex : nI x = 0 ↔ x = 0 := ni_eq (b := 0) (by omega) (by omega)
  refine am_rn_of mh_161 rfl (w161_0 I L D X (nI f) ?_)
  rw [e1, h4, e2, h6, h5, e3, h46]
  refine ⟨b1, b1, b1, b1, b2, fun _ => ⟨fun _ => ⟨fun _ => ⟨fun _ => ⟨fun _ => ⟨fun _ => ⟨fun _ => ⟨b2, fun z => ?_, fun z => ?_⟩, fun z => absurd ((K 14 (by omega)).2.mp z) (by omega)⟩, fun z => absurd ((K 13 (by omega)).1.mpr (by omega)) z⟩, fun z => absurd ((K 11 (by omega)).1.mpr (by omega)) z⟩, fun z => absurd ((K 5 (by omega)).1.mpr (by omega)) z⟩, fun z => absurd ((K 2 (by omega)).2.mp z) (by omega)⟩, fun z => absurd ((K 1 (by omega)).2.mp z) (by omega)⟩, fun z => absurd ((K 0 (by omega)).2.mp z) (by omega)⟩
  · rw [if_neg (fun q => z (ex.mpr q))] at r
    exact ⟨I', L', D, r, rfl⟩
  · rw [if_pos (ex.mp z)] at r
    exact ⟨I', L', D, r, rfl⟩
end MGOES
