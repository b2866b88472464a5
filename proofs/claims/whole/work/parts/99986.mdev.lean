/-! ===== the reference's doubles: steps ===== -/
def md_v (o : Option UInt64) (I : Nat → Nat → Int32) (D : Nat → Nat → UInt64) : Prop := I 42 68 = flg o ∧ D 42 67 = dbl o
def md_V (g : Nat) (o : Option UInt64) (I : Nat → Nat → Int32) (D : Nat → Nat → UInt64) (I' : Nat → Nat → Int32) (D' : Nat → Nat → UInt64) : Prop := I' 42 47 = nI g ∧ md_v o I' D' ∧ (∀ p q, ¬ (p = 42 ∧ (q = 47 ∨ q = 68)) → I' p q = I p q) ∧ (∀ p q, ¬ (p = 42 ∧ q = 67) → D' p q = D p q)
def md_C (g : Nat) (k : Int32) (t : Option UInt64) (I : Nat → Nat → Int32) (D : Nat → Nat → UInt64) (I' : Nat → Nat → Int32) (D' : Nat → Nat → UInt64) : Prop := I' 42 47 = nI (g + 1) ∧ I' 59 g = k ∧ I' 60 g = nI 0 ∧ I' 78 g = flg t ∧ (∀ a, t = some a → D' 77 g = a) ∧ (∀ p q, ¬ (p = 42 ∧ q = 47) → ¬ ((p = 59 ∨ p = 60 ∨ p = 78) ∧ q = g) → I' p q = I p q) ∧ (∀ p q, ¬ (p = 77 ∧ q = g) → D' p q = D p q)
section MDEV
variable {ext : Nat → List Value → am_M → Option am_R} {d : Nat} (L : Nat → Nat → Int64) (X : am_Rf) {I : Nat → Nat → Int32} {D : Nat → Nat → UInt64}
theorem c190 {g : Nat} {o : Option UInt64} {v : UInt64} (h47 : I 42 47 = nI (g + 1)) (hg : g < 128) (hv : ∀ a, o = some a → v = a) : ∃ I' D', am_Rn ext (d + 1) 190 [.ref 42, .double v, .int (flg o)] (I, L, D, am_rf X) (none, (I', L, D', am_rf X)) ∧ md_V g o I D I' D' := by
  have e1 : I 42 47 - 1 = nI g := by rw [h47, show (1 : Int32) = nI 1 from rfl, ni_sub (by omega) (by omega)]; rfl
  cases o with
  | none =>
    exact ⟨am_uI (am_uI I 42 68 1) 42 47 (nI g), am_uD D 42 67 FP.dconst0, am_rn_of mh_190 rfl (w190_0 I L D X v 1 ⟨fun z => absurd z (by decide), fun _ => ⟨Or.inr rfl, by rw [e1]⟩⟩), by rw [am_uI_at, if_pos ⟨rfl, rfl⟩], ⟨by rw [am_uI_at, if_neg (by omega), am_uI_at, if_pos ⟨rfl, rfl⟩]; rfl, by rw [am_uD_at, if_pos ⟨rfl, rfl⟩]; rfl⟩, fun p q h => by rw [am_uI_at, if_neg (by omega), am_uI_at, if_neg (by omega)], fun p q h => by rw [am_uD_at, if_neg h]⟩
  | some a =>
    have ev : v = a := hv a rfl
    subst ev
    exact ⟨am_uI (am_uI I 42 68 0) 42 47 (nI g), am_uD D 42 67 v, am_rn_of mh_190 rfl (w190_0 I L D X v 0 ⟨fun _ => ⟨Or.inl rfl, by rw [e1]⟩, fun z => absurd rfl z⟩), by rw [am_uI_at, if_pos ⟨rfl, rfl⟩], ⟨by rw [am_uI_at, if_neg (by omega), am_uI_at, if_pos ⟨rfl, rfl⟩]; rfl, by rw [am_uD_at, if_pos ⟨rfl, rfl⟩]; rfl⟩, fun p q h => by rw [am_uI_at, if_neg (by omega), am_uI_at, if_neg (by omega)], fun p q h => by rw [am_uD_at, if_neg h]⟩
theorem c188 {g : Nat} {t : Option UInt64} {v : UInt64} (k : Int32) (h47 : I 42 47 = nI g) (hg : g < 128) (hv : ∀ a, t = some a → v = a) : ∃ I' D', am_Rn ext (d + 1) 188 [.ref 42, .int k, .double v, .int (flg t)] (I, L, D, am_rf X) (none, (I', L, D', am_rf X)) ∧ md_C g k t I D I' D' := by
  have hb : am_inb (I 42 47) 128 = true := by rw [h47]; exact ni_inb hg (by omega)
  have eg : (I 42 47).toNatClampNeg = g := by rw [h47, ni_nat (by omega)]
  have e1 : I 42 47 + 1 = nI (g + 1) := by rw [h47, show (1 : Int32) = nI 1 from rfl, ni_add (by omega)]
  refine ⟨am_uI (am_uI (am_uI (am_uI I 59 g k) 60 g 0) 78 g (flg t)) 42 47 (nI (g + 1)), am_uD D 77 g v, am_rn_of mh_188 rfl (w188_0 I L D X k v (flg t) ⟨hb, hb, hb, hb, flg01 t, by rw [eg, e1]⟩), by rw [am_uI_at, if_pos ⟨rfl, rfl⟩], ?_, ?_, ?_, fun a ha => by rw [am_uD_at, if_pos ⟨rfl, rfl⟩, hv a ha], fun p q h1 h2 => ?_, fun p q h => by rw [am_uD_at, if_neg h]⟩
  · rw [am_uI_at, if_neg (by omega), am_uI_at, if_neg (by omega), am_uI_at, if_neg (by omega), am_uI_at, if_pos ⟨rfl, rfl⟩]
  · rw [am_uI_at, if_neg (by omega), am_uI_at, if_neg (by omega), am_uI_at, if_pos ⟨rfl, rfl⟩]; rfl
  · rw [am_uI_at, if_neg (by omega), am_uI_at, if_pos ⟨rfl, rfl⟩]
  · rw [am_uI_at, if_neg (by omega), am_uI_at, if_neg (by omega), am_uI_at, if_neg (by omega), am_uI_at, if_neg (by omega)]
theorem c189 {f g : Nat} {t : Option UInt64} (k : Int32) (h47 : I 42 47 = nI g) (hg : g < 128) (hf : f < 128) (h78 : I 78 f = flg t) (h77 : ∀ a, t = some a → D 77 f = a) : ∃ I' D', am_Rn ext (d + 2) 189 [.ref 42, .int k, .int (nI f)] (I, L, D, am_rf X) (none, (I', L, D', am_rf X)) ∧ md_C g k t I D I' D' := by
  obtain ⟨I', D', r, C⟩ := c188 (ext := ext) (d := d) L X (v := D 77 f) k h47 hg h77
  have hb : am_inb (nI f) 128 = true := ni_inb hf (by omega)
  refine ⟨I', D', am_rn_of mh_189 rfl (w189_0 I L D X k (nI f) ⟨hb, hb, I', L, D', ?_, rfl⟩), C⟩
  rw [ni_nat (by omega), h78]
  exact r
/-- the root -/
theorem c196 {a : UInt64} (ha : nn a) (h0 : ¬ dz a < 0) : am_Rn ext (d + 2) 196 [.double a] (I, L, D, am_rf X) (some (.double (d_root a)), (I, L, D, am_rf X)) := by
  have ke := dcv_eq ha nn_0 .l
  rw [dz_0] at ke
  obtain ⟨r3, q3, _, i3⟩ := c193 (ext := ext) (d := d) I L D X ha
  by_cases hz : dz a = 0
  · have er : d_root a = a := by unfold d_root; rw [if_pos (Or.inl hz)]
    rw [er]
    exact am_rn_of mh_196 rfl (w196_0 I L D X a ⟨fun _ => rfl, fun z => absurd (ke.mpr hz) z⟩)
  · by_cases hi : d_inf a
    · have er : d_root a = a := by unfold d_root; rw [if_pos (Or.inr hi)]
      rw [er]
      exact am_rn_of mh_196 rfl (w196_0 I L D X a ⟨fun z => absurd (ke.mp z) hz, fun _ => ⟨r3, I, L, D, q3, fun z => absurd hi (i3.mp z), fun _ => rfl⟩⟩)
    · obtain ⟨n, hn, hp⟩ := dv_of ha hi (by omega)
      obtain ⟨q, rq, r, e, h⟩ := am_of_wp (ext := ext) (d := d + 1) (as := [.double a]) mh_196 rfl (w196_0 I L D X a ⟨fun z => absurd (ke.mp z) hz, fun _ => ⟨r3, I, L, D, q3, fun _ => c196_r (ext := ext) (d := d) I L D X hn hp, fun z => absurd (i3.mpr hi) z⟩⟩)
      have er : d_root a = r := by
        unfold d_root
        rw [if_neg (fun q => by rcases q with q | q; · exact hz q
                                · exact hi q)]
        exact d_rt_of hn h
      rw [e] at rq
      rw [er]
      exact rq
/-! reckons, kind by kind -/
variable {I' : Nat → Nat → Int32} {D' : Nat → Nat → UInt64} {f k s kd : Nat}
theorem c192_0 (h : me_Q f k s 0 I) {n : Nat} (h46 : I 46 k = nI n) (r : am_Rn ext d 190 [.ref 42, .double (FP.i2d (nI n)), .int 0] (me_1 I f s, L, D, am_rf X) (none, (I', L, D', am_rf X))) : am_Rn ext (d + 1) 192 [.ref 42, .int (nI f)] (I, L, D, am_rf X) (none, (I', L, D', am_rf X)) := by
  obtain ⟨b1, b2, e1, e2, e3⟩ := q161 h
  obtain ⟨h1, h2, h3, h4, h5, h6⟩ := h
  refine am_rn_of mh_192 rfl (w192_0 I L D X (nI f) ?_)
  rw [e1, h4, e2, h6, h5, e3, h46]
  exact ⟨b1, b1, b1, b1, b2, fun z => absurd rfl z, fun _ => ⟨b2, I', L, D', r, rfl⟩⟩
theorem c192_1 (h : me_Q f k s 1 I) (r : am_Rn ext d 190 [.ref 42, .double (D 77 f), .int (I 78 f)] (me_1 I f s, L, D, am_rf X) (none, (I', L, D', am_rf X))) : am_Rn ext (d + 1) 192 [.ref 42, .int (nI f)] (I, L, D, am_rf X) (none, (I', L, D', am_rf X)) := by
  obtain ⟨b1, b2, e1, e2, e3⟩ := q161 h
  obtain ⟨h1, h2, h3, h4, h5, h6⟩ := h
  refine am_rn_of mh_192 rfl (w192_0 I L D X (nI f) ?_)
  rw [e1, h4, e2, h6, h5, e3]
  exact ⟨b1, b1, b1, b1, b2, fun _ => ⟨fun z => absurd rfl z, fun _ => ⟨b1, b1, I', L, D', r, rfl⟩⟩, fun z => absurd z (by decide)⟩
theorem c192_2 (h : me_Q f k s 2 I) {l : Nat} (h46 : I 46 k = nI l) (hl : l < 26) (r : am_Rn ext d 190 [.ref 42, .double (D 75 l), .int (I 76 l)] (me_1 I f s, L, D, am_rf X) (none, (I', L, D', am_rf X))) : am_Rn ext (d + 1) 192 [.ref 42, .int (nI f)] (I, L, D, am_rf X) (none, (I', L, D', am_rf X)) := by
  obtain ⟨b1, b2, e1, e2, e3⟩ := q161 h
  obtain ⟨h1, h2, h3, h4, h5, h6⟩ := h
  have el : (nI l).toNatClampNeg = l := ni_nat (by omega)
  have bl : am_inb (nI l) 26 = true := ni_inb hl (by omega)
  refine am_rn_of mh_192 rfl (w192_0 I L D X (nI f) ?_)
  rw [e1, h4, e2, h6, h5, e3, h46, el]
  exact ⟨b1, b1, b1, b1, b2, fun _ => ⟨fun _ => ⟨fun z => absurd rfl z, fun _ => ⟨b2, bl, b2, bl, I', L, D', r, rfl⟩⟩, fun z => absurd z (by decide)⟩, fun z => absurd z (by decide)⟩
theorem c192_15 (h : me_Q f k s 15 I) (r : am_Rn ext d 190 [.ref 42, .double FP.dconst0, .int 1] (me_1 I f s, L, D, am_rf X) (none, (I', L, D', am_rf X))) : am_Rn ext (d + 1) 192 [.ref 42, .int (nI f)] (I, L, D, am_rf X) (none, (I', L, D', am_rf X)) := by
  obtain ⟨b1, b2, e1, e2, e3⟩ := q161 h
  obtain ⟨h1, h2, h3, h4, h5, h6⟩ := h
  refine am_rn_of mh_192 rfl (w192_0 I L D X (nI f) ?_)
  rw [e1, h4, e2, h6, h5, e3]
  exact ⟨b1, b1, b1, b1, b2, fun _ => ⟨fun _ => ⟨fun _ => ⟨fun z => absurd rfl z, fun _ => ⟨I', L, D', r, rfl⟩⟩, fun z => absurd z (by decide)⟩, fun z => absurd z (by decide)⟩, fun z => absurd z (by decide)⟩
/-- the first part is laid -/
theorem c192_a (h : me_Q f k 0 kd I) (hkd : 3 ≤ kd ∧ kd ≤ 14) (r : am_Rn ext d 189 [.ref 42, .int (I 47 k), .int (nI f)] (me_1 I f 0, L, D, am_rf X) (none, (I', L, D', am_rf X))) : am_Rn ext (d + 1) 192 [.ref 42, .int (nI f)] (I, L, D, am_rf X) (none, (I', L, D', am_rf X)) := by
  obtain ⟨b1, b2, e1, e2, e3⟩ := q161 h
  obtain ⟨h1, h2, h3, h4, h5, h6⟩ := h
  have K := fun (c : Nat) (hc : c ≤ 15) => k161 (kd := kd) (by omega) (c := c) hc
  refine am_rn_of mh_192 rfl (w192_0 I L D X (nI f) ?_)
  rw [e1, h4, e2, h6, h5, e3]
  have r' : am_inb (nI k) 192 = true ∧ ∃ (I2 : Nat → Nat → Int32) (L2 : Nat → Nat → Int64) (D2 : Nat → Nat → UInt64), am_Rn ext d 189 [.ref 42, .int (I 47 k), .int (nI f)] (me_1 I f 0, L, D, am_rf X) (none, (I2, L2, D2, am_rf X)) ∧ ((none, (I2, L2, D2, am_rf X)) : am_R) = (none, (I', L, D', am_rf X)) := ⟨b2, I', L, D', r, rfl⟩
  exact ⟨b1, b1, b1, b1, b2, fun _ => ⟨fun _ => ⟨fun _ => ⟨fun _ => ⟨fun _ => ⟨fun _ => ⟨fun z => absurd rfl z, fun _ => r'⟩, fun _ => ⟨fun z => absurd rfl z, fun _ => r'⟩⟩, fun _ => ⟨fun z => absurd rfl z, fun _ => r'⟩⟩, fun z => absurd ((K 15 (by omega)).2.mp z) (by omega)⟩, fun z => absurd ((K 2 (by omega)).2.mp z) (by omega)⟩, fun z => absurd ((K 1 (by omega)).2.mp z) (by omega)⟩, fun z => absurd ((K 0 (by omega)).2.mp z) (by omega)⟩
/-- - sqrt abs, their end -/
theorem c192_3 {x : Option UInt64} (h : me_Q f k 1 kd I) (hkd : 3 ≤ kd ∧ kd ≤ 5) (h47 : I 42 47 = nI (f + 1)) (hv : md_v x I D) (hg : og x) : ∃ I' D', am_Rn ext (d + 4) 192 [.ref 42, .int (nI f)] (I, L, D, am_rf X) (none, (I', L, D', am_rf X)) ∧ md_V f (de_1k kd x) (me_1 I f 1) D I' D' := by
  obtain ⟨b1, b2, e1, e2, e3⟩ := q161 h
  obtain ⟨h1, h2, h3, h4, h5, h6⟩ := h
  have K := fun (c : Nat) (hc : c ≤ 15) => k161 (kd := kd) (by omega) (c := c) hc
  have h47' : me_1 I f 1 42 47 = nI (f + 1) := by rw [me_1_at (by omega)]; exact h47
  -- to the choice of what is given
  have road : ∀ (Q : am_R → Prop), ((¬ I 42 68 = 0 → ∃ (I6 : Nat → Nat → Int32) (L6 : Nat → Nat → Int64) (D6 : Nat → Nat → UInt64), am_Rn ext (d + 3) 190 [.ref 42, .double FP.dconst0, .int 1] (me_1 I f 1, L, D, am_rf X) (none, (I6, L6, D6, am_rf X)) ∧ Q (none, (I6, L6, D6, am_rf X))) ∧ (I 42 68 = 0 → ((¬ nI kd = 4 → am_wp ext (d + 3) mz_192 (183, [some (.ref 42), none, none, none, some (.int (nI kd)), none], [], (me_1 I f 1, L, D, am_rf X)) Q) ∧ (nI kd = 4 → ((0 ≤ (Op.cmpValue (FP.dcmp (D 42 67) FP.dconst0) .g) → am_wp ext (d + 3) mz_192 (183, [some (.ref 42), none, none, none, some (.int (nI kd)), none], [], (me_1 I f 1, L, D, am_rf X)) Q) ∧ (¬ 0 ≤ (Op.cmpValue (FP.dcmp (D 42 67) FP.dconst0) .g) → ∃ (I7 : Nat → Nat → Int32) (L7 : Nat → Nat → Int64) (D7 : Nat → Nat → UInt64), am_Rn ext (d + 3) 190 [.ref 42, .double FP.dconst0, .int 1] (me_1 I f 1, L, D, am_rf X) (none, (I7, L7, D7, am_rf X)) ∧ Q (none, (I7, L7, D7, am_rf X)))))))) → am_wp ext (d + 3) mz_192 (0, [some (.ref 42), some (.int (nI f)), none, none, none, none], [], (I, L, D, am_rf X)) Q := by
    intro Q W
    refine w192_0 I L D X (nI f) ?_
    rw [e1, h4, e2, h6, h5, e3]
    exact ⟨b1, b1, b1, b1, b2, fun _ => ⟨fun _ => ⟨fun _ => ⟨fun _ => ⟨fun z => absurd ((K 5 (by omega)).1.mp z) (by omega), fun _ => ⟨fun _ => W, fun z => absurd z (by decide)⟩⟩, fun z => absurd ((K 15 (by omega)).2.mp z) (by omega)⟩, fun z => absurd ((K 2 (by omega)).2.mp z) (by omega)⟩, fun z => absurd ((K 1 (by omega)).2.mp z) (by omega)⟩, fun z => absurd ((K 0 (by omega)).2.mp z) (by omega)⟩
  obtain ⟨hf, hd⟩ := hv
  cases x with
  | none =>
    have hf' : I 42 68 = 1 := hf
    obtain ⟨I', D', r, V⟩ := c190 (ext := ext) (d := d + 2) L X (I := me_1 I f 1) (D := D) (o := none) (v := FP.dconst0) h47' h1 (fun a z => by cases z)
    refine ⟨I', D', am_rn_of mh_192 rfl (road _ ⟨fun _ => ⟨I', L, D', r, rfl⟩, fun z => ?_⟩), V⟩
    rw [hf'] at z; exact absurd z (by decide)
  | some a =>
    have hf' : I 42 68 = 0 := hf
    have hd' : D 42 67 = a := hd
    have ha := hg a rfl
    have kl := dcv_ge ha nn_0 .g
    have kg := dcv_gt ha nn_0 .g
    rw [dz_0] at kl kg
    have g := fun (v : UInt64) => c190 (ext := ext) (d := d + 2) L X (I := me_1 I f 1) (D := D) (o := some v) (v := v) h47' h1 (fun b z => by cases z; rfl)
    have kk : kd = 3 ∨ kd = 4 ∨ kd = 5 := by omega
    rcases kk with rfl | rfl | rfl
    · have e : de_1k 3 (some a) = some (FP.dneg a) := rfl
      rw [e]
      obtain ⟨I', D', r, V⟩ := g (FP.dneg a)
      refine ⟨I', D', am_rn_of mh_192 rfl (road _ ⟨fun z => absurd hf' z, fun _ => ⟨fun _ => w192_183 _ L D X (nI 3) ⟨fun z => absurd rfl z, fun _ => ⟨I', L, D', ?_, rfl⟩⟩, fun z => absurd z (by decide)⟩⟩), V⟩
      rw [hd']; exact r
    · by_cases hn : dz a < 0
      · have e : de_1k 4 (some a) = none := by show de_a 4 a = none; unfold de_a; rw [if_neg (by omega), if_pos rfl, if_pos hn]
        rw [e]
        obtain ⟨I', D', r, V⟩ := c190 (ext := ext) (d := d + 2) L X (I := me_1 I f 1) (D := D) (o := none) (v := FP.dconst0) h47' h1 (fun a z => by cases z)
        refine ⟨I', D', am_rn_of mh_192 rfl (road _ ⟨fun z => absurd hf' z, fun _ => ⟨fun z => absurd rfl z, fun _ => ⟨fun z => ?_, fun _ => ⟨I', L, D', r, rfl⟩⟩⟩⟩), V⟩
        rw [hd'] at z
        have := kl.mp z
        omega
      · have e : de_1k 4 (some a) = some (d_root a) := by show de_a 4 a = _; unfold de_a; rw [if_neg (by omega), if_pos rfl, if_neg hn]
        rw [e]
        obtain ⟨I', D', r, V⟩ := g (d_root a)
        have r196 := c196 (ext := ext) (d := d + 1) L X (I := me_1 I f 1) (D := D) ha hn
        refine ⟨I', D', am_rn_of mh_192 rfl (road _ ⟨fun z => absurd hf' z, fun _ => ⟨fun z => absurd rfl z, fun _ => ⟨fun _ => w192_183 _ L D X (nI 4) ⟨fun _ => ⟨fun z => absurd rfl z, fun _ => ⟨_, _, L, D, ?_, I', L, D', r, rfl⟩⟩, fun z => absurd z (by decide)⟩, fun z => absurd ?_ z⟩⟩⟩), V⟩
        · rw [hd']; exact r196
        · rw [hd']; exact kl.mpr (by omega)
    · have e : de_1k 5 (some a) = some (d_abs a) := by show de_a 5 a = _; unfold de_a; rw [if_neg (by omega), if_neg (by omega)]
      rw [e]
      obtain ⟨I', D', r, V⟩ := g (d_abs a)
      refine ⟨I', D', am_rn_of mh_192 rfl (road _ ⟨fun z => absurd hf' z, fun _ => ⟨fun _ => w192_183 _ L D X (nI 5) ?_, fun z => absurd z (by decide)⟩⟩), V⟩
      rw [hd']
      refine ⟨fun _ => ⟨fun _ => ⟨fun z => ⟨I', L, D', ?_, rfl⟩, fun z => ⟨(nn_am _).mpr (nn_abs ha), I', L, D', ?_, rfl⟩⟩, fun z => absurd z (by decide)⟩, fun z => absurd z (by decide)⟩
      · have : d_abs a = a := by unfold d_abs; rw [if_pos (kg.mp z)]
        rw [this] at r; exact r
      · have : d_abs a = FP.dsub FP.dconst0 a := by unfold d_abs; rw [if_neg (fun q => z (kg.mpr q))]
        rw [this] at r; exact r
/-- a call: its function's tree, its end -/
theorem c192_14b (h : me_Q f k 1 14 I) {l : Nat} (h46 : I 46 k = nI l) (hl : l < 26) (r : am_Rn ext d 188 [.ref 42, .int (I 52 l), .double (D 42 67), .int (I 42 68)] (me_1 I f 1, L, D, am_rf X) (none, (I', L, D', am_rf X))) : am_Rn ext (d + 1) 192 [.ref 42, .int (nI f)] (I, L, D, am_rf X) (none, (I', L, D', am_rf X)) := by
  obtain ⟨b1, b2, e1, e2, e3⟩ := q161 h
  obtain ⟨h1, h2, h3, h4, h5, h6⟩ := h
  have el : (nI l).toNatClampNeg = l := ni_nat (by omega)
  refine am_rn_of mh_192 rfl (w192_0 I L D X (nI f) ?_)
  rw [e1, h4, e2, h6, h5, e3, h46, el]
  exact ⟨b1, b1, b1, b1, b2, fun _ => ⟨fun _ => ⟨fun _ => ⟨fun _ => ⟨fun _ => ⟨fun z => absurd rfl z, fun _ => ⟨fun _ => ⟨fun z => absurd rfl z, fun _ => ⟨b2, ni_inb (by omega) (by omega), I', L, D', r, rfl⟩⟩, fun z => absurd z (by decide)⟩⟩, fun z => absurd (by decide) z⟩, fun z => absurd z (by decide)⟩, fun z => absurd z (by decide)⟩, fun z => absurd z (by decide)⟩, fun z => absurd z (by decide)⟩
theorem c192_14c (h : me_Q f k 2 14 I) (r : am_Rn ext d 190 [.ref 42, .double (D 42 67), .int (I 42 68)] (me_1 I f 2, L, D, am_rf X) (none, (I', L, D', am_rf X))) : am_Rn ext (d + 1) 192 [.ref 42, .int (nI f)] (I, L, D, am_rf X) (none, (I', L, D', am_rf X)) := by
  obtain ⟨b1, b2, e1, e2, e3⟩ := q161 h
  obtain ⟨h1, h2, h3, h4, h5, h6⟩ := h
  refine am_rn_of mh_192 rfl (w192_0 I L D X (nI f) ?_)
  rw [e1, h4, e2, h6, h5, e3]
  exact ⟨b1, b1, b1, b1, b2, fun _ => ⟨fun _ => ⟨fun _ => ⟨fun _ => ⟨fun _ => ⟨fun z => absurd rfl z, fun _ => ⟨fun _ => ⟨fun _ => ⟨I', L, D', r, rfl⟩, fun z => absurd z (by decide)⟩, fun z => absurd z (by decide)⟩⟩, fun z => absurd (by decide) z⟩, fun z => absurd z (by decide)⟩, fun z => absurd z (by decide)⟩, fun z => absurd z (by decide)⟩, fun z => absurd z (by decide)⟩
/-- the second part is laid -/
theorem c192_b (h : me_Q f k 1 kd I) (hkd : 6 ≤ kd ∧ kd ≤ 13) (h01 : I 42 68 = 0 ∨ I 42 68 = 1) (r : am_Rn ext d 189 [.ref 42, .int (I 48 k), .int (nI f)] (am_uI (me_1 I f 1) 80 f (I 42 68), L, am_uD D 79 f (D 42 67), am_rf X) (none, (I', L, D', am_rf X))) : am_Rn ext (d + 1) 192 [.ref 42, .int (nI f)] (I, L, D, am_rf X) (none, (I', L, D', am_rf X)) := by
  obtain ⟨b1, b2, e1, e2, e3⟩ := q161 h
  obtain ⟨h1, h2, h3, h4, h5, h6⟩ := h
  have K := fun (c : Nat) (hc : c ≤ 15) => k161 (kd := kd) (by omega) (c := c) hc
  refine am_rn_of mh_192 rfl (w192_0 I L D X (nI f) ?_)
  rw [e1, h4, e2, h6, h5, e3]
  exact ⟨b1, b1, b1, b1, b2, fun _ => ⟨fun _ => ⟨fun _ => ⟨fun _ => ⟨fun _ => ⟨fun _ => ⟨fun _ => ⟨fun z => absurd rfl z, fun _ => ⟨b1, b1, h01, b2, I', L, D', r, rfl⟩⟩, fun z => absurd z (by decide)⟩, fun z => absurd ((K 14 (by omega)).2.mp z) (by omega)⟩, fun z => absurd ((K 5 (by omega)).1.mpr (by omega)) z⟩, fun z => absurd ((K 15 (by omega)).2.mp z) (by omega)⟩, fun z => absurd ((K 2 (by omega)).2.mp z) (by omega)⟩, fun z => absurd ((K 1 (by omega)).2.mp z) (by omega)⟩, fun z => absurd ((K 0 (by omega)).2.mp z) (by omega)⟩
/-- + - * / max min, their end -/
theorem c192_6 {x y : Option UInt64} (h : me_Q f k 2 kd I) (hkd : 6 ≤ kd ∧ kd ≤ 11) (h47 : I 42 47 = nI (f + 1)) (h80 : I 80 f = flg x) (h79 : D 79 f = dbl x) (hv : md_v y I D) (gx : og x) (gy : og y) : ∃ I' D', am_Rn ext (d + 4) 192 [.ref 42, .int (nI f)] (I, L, D, am_rf X) (none, (I', L, D', am_rf X)) ∧ md_V f (de_2k kd x y) (me_1 I f 2) D I' D' := by
  obtain ⟨b1, b2, e1, e2, e3⟩ := q161 h
  obtain ⟨h1, h2, h3, h4, h5, h6⟩ := h
  have K := fun (c : Nat) (hc : c ≤ 15) => k161 (kd := kd) (by omega) (c := c) hc
  have h47' : me_1 I f 2 42 47 = nI (f + 1) := by rw [me_1_at (by omega)]; exact h47
  have K12 : nI kd < 12 := (ni_lt (b := 12) (by omega) (by omega)).mpr (by omega)
  have f68 : me_1 I f 2 42 68 = flg y := by rw [me_1_at (by omega)]; exact hv.1
  have f80 : me_1 I f 2 80 f = flg x := by rw [me_1_at (by omega)]; exact h80
  have road : ∀ (Q : am_R → Prop), am_wp ext (d + 3) mz_192 (472, [some (.ref 42), some (.int (nI f)), none, some (.int (nI 2)), some (.int (nI kd)), none], [], (me_1 I f 2, L, D, am_rf X)) Q → am_wp ext (d + 3) mz_192 (0, [some (.ref 42), some (.int (nI f)), none, none, none, none], [], (I, L, D, am_rf X)) Q := by
    intro Q W
    refine w192_0 I L D X (nI f) ?_
    rw [e1, h4, e2, h6, h5, e3]
    exact ⟨b1, b1, b1, b1, b2, fun _ => ⟨fun _ => ⟨fun _ => ⟨fun _ => ⟨fun _ => ⟨fun _ => ⟨fun _ => ⟨fun _ => ⟨fun z => absurd rfl z, fun _ => ⟨fun _ => W, fun z => absurd K12 z⟩⟩, fun z => absurd z (by decide)⟩, fun z => absurd z (by decide)⟩, fun z => absurd ((K 14 (by omega)).2.mp z) (by omega)⟩, fun z => absurd ((K 5 (by omega)).1.mpr (by omega)) z⟩, fun z => absurd ((K 15 (by omega)).2.mp z) (by omega)⟩, fun z => absurd ((K 2 (by omega)).2.mp z) (by omega)⟩, fun z => absurd ((K 1 (by omega)).2.mp z) (by omega)⟩, fun z => absurd ((K 0 (by omega)).2.mp z) (by omega)⟩
  have no := c190 (ext := ext) (d := d + 2) L X (I := me_1 I f 2) (D := D) (o := none) (v := FP.dconst0) h47' h1 (fun a z => by cases z)
  cases y with
  | none =>
    have e : de_2k kd x none = none := by cases x <;> rfl
    rw [e]
    obtain ⟨I', D', r, V⟩ := no
    refine ⟨I', D', am_rn_of mh_192 rfl (road _ (w192_472 _ L D X (nI f) (nI 2) (nI kd) ⟨fun z => absurd rfl z, fun _ => ⟨fun _ => w192_511 _ L D X (nI f) (nI kd) (w192_516 _ L D X (nI f) (nI kd) 1 ⟨fun z => absurd z (by decide), fun _ => ⟨I', L, D', r, rfl⟩⟩), fun z => ?_⟩⟩)), V⟩
    rw [f68] at z; exact absurd z (by decide)
  | some b =>
    have f68' : me_1 I f 2 42 68 = 0 := f68
    have d67 : D 42 67 = b := hv.2
    cases x with
    | none =>
      have e : de_2k kd none (some b) = none := rfl
      rw [e]
      obtain ⟨I', D', r, V⟩ := no
      refine ⟨I', D', am_rn_of mh_192 rfl (road _ (w192_472 _ L D X (nI f) (nI 2) (nI kd) ⟨fun z => absurd rfl z, fun _ => ⟨fun z => absurd f68' z, fun _ => ?_⟩⟩)), V⟩
      rw [e1, f80]
      exact ⟨b1, fun _ => w192_511 _ L D X (nI f) (nI kd) (w192_516 _ L D X (nI f) (nI kd) 1 ⟨fun z => absurd z (by decide), fun _ => ⟨I', L, D', r, rfl⟩⟩), fun z => absurd z (by decide)⟩
    | some a =>
      have d79 : D 79 f = a := h79
      have ha := gx a rfl
      have hb := gy b rfl
      have e : de_2k kd (some a) (some b) = de_o kd a b := rfl
      rw [e]
      obtain ⟨r4, q4, i4⟩ := c194 (ext := ext) (d := d + 1) (I := me_1 I f 2) (D := D) L X ha hb (show 6 ≤ kd ∧ kd ≤ 11 by omega)
      by_cases hz : d_lz kd a b
      · rw [de_o_n hz]
        obtain ⟨I', D', r, V⟩ := no
        refine ⟨I', D', am_rn_of mh_192 rfl (road _ (w192_472 _ L D X (nI f) (nI 2) (nI kd) ⟨fun z => absurd rfl z, fun _ => ⟨fun z => absurd f68' z, fun _ => ?_⟩⟩)), V⟩
        rw [e1, f80, d79, d67]
        exact ⟨b1, fun z => absurd rfl z, fun _ => ⟨b1, r4, _, L, D, q4, fun z => absurd hz (i4.mp z), fun _ => w192_511 _ L D X (nI f) (nI kd) (w192_516 _ L D X (nI f) (nI kd) 1 ⟨fun z => absurd z (by decide), fun _ => ⟨I', L, D', r, rfl⟩⟩)⟩⟩
      · rw [de_o_s hz]
        have r5 := c195 (ext := ext) (d := d + 2) (I := me_1 I f 2) (D := D) L X ha hb (show 6 ≤ kd ∧ kd ≤ 11 by omega) hz
        obtain ⟨I', D', r, V⟩ := c190 (ext := ext) (d := d + 2) L X (I := me_1 I f 2) (D := D) (o := some (d_two kd a b)) (v := d_two kd a b) h47' h1 (fun b z => by cases z; rfl)
        refine ⟨I', D', am_rn_of mh_192 rfl (road _ (w192_472 _ L D X (nI f) (nI 2) (nI kd) ⟨fun z => absurd rfl z, fun _ => ⟨fun z => absurd f68' z, fun _ => ?_⟩⟩)), V⟩
        rw [e1, f80, d79, d67]
        refine ⟨b1, fun z => absurd rfl z, fun _ => ⟨b1, r4, _, L, D, q4, fun _ => w192_516 _ L D X (nI f) (nI kd) 0 ⟨fun _ => ?_, fun z => absurd rfl z⟩, fun z => absurd (i4.mpr hz) z⟩⟩
        rw [e1, d79, d67]
        exact ⟨b1, _, _, L, D, r5, I', L, D', r, rfl⟩
/-- if: what is chosen -/
theorem c192_i {x y : Option UInt64} (h : me_Q f k 2 kd I) (hkd : kd = 12 ∨ kd = 13) (h80 : I 80 f = flg x) (h79 : D 79 f = dbl x) (hv : md_v y I D) (gx : og x) (gy : og y) (r : am_Rn ext d 189 [.ref 42, .int (if de_ik kd x y = true then I 49 k else I 50 k), .int (nI f)] (me_1 I f 2, L, D, am_rf X) (none, (I', L, D', am_rf X))) : am_Rn ext (d + 1) 192 [.ref 42, .int (nI f)] (I, L, D, am_rf X) (none, (I', L, D', am_rf X)) := by
  obtain ⟨b1, b2, e1, e2, e3⟩ := q161 h
  obtain ⟨h1, h2, h3, h4, h5, h6⟩ := h
  have K := fun (c : Nat) (hc : c ≤ 15) => k161 (kd := kd) (by omega) (c := c) hc
  have K12 : ¬ nI kd < 12 := fun z => by have := (ni_lt (b := 12) (by omega) (by omega)).mp z; omega
  -- the second, the first
  have w0 : de_ik kd x y = false → am_wp ext d mz_192 (441, [some (.ref 42), some (.int (nI f)), some (.int (nI k)), none, none, none], [], (me_1 I f 2, L, D, am_rf X)) (fun r => r = (none, (I', L, D', am_rf X))) := by
    intro hb
    refine w192_441 _ L D X (nI f) (nI k) (w192_442 _ L D X (nI f) (nI k) 0 ⟨fun _ => ⟨b2, I', L, D', ?_, rfl⟩, fun z => absurd rfl z⟩)
    rw [hb, if_neg (by decide)] at r
    rw [e2, me_1_at (by omega)]
    exact r
  have w1 : de_ik kd x y = true → am_wp ext d mz_192 (442, [some (.ref 42), some (.int (nI f)), some (.int (nI k)), none, none, none], [.int 1], (me_1 I f 2, L, D, am_rf X)) (fun r => r = (none, (I', L, D', am_rf X))) := by
    intro hb
    refine w192_442 _ L D X (nI f) (nI k) 1 ⟨fun z => absurd z (by decide), fun _ => ⟨b2, I', L, D', ?_, rfl⟩⟩
    rw [hb, if_pos rfl] at r
    rw [e2, me_1_at (by omega)]
    exact r
  refine am_rn_of mh_192 rfl (w192_0 I L D X (nI f) ?_)
  rw [e1, h4, e2, h6, h5, e3]
  refine ⟨b1, b1, b1, b1, b2, fun _ => ⟨fun _ => ⟨fun _ => ⟨fun _ => ⟨fun _ => ⟨fun _ => ⟨fun _ => ⟨fun _ => ⟨fun z => absurd rfl z, fun _ => ⟨fun z => absurd z K12, fun _ => ⟨fun z => w0 ?_, fun z => ⟨b1, fun q => w0 ?_, fun q => ⟨fun p => ⟨b1, fun o => w0 ?_, fun o => w1 ?_⟩, fun p => ⟨b1, fun o => w0 ?_, fun o => w1 ?_⟩⟩⟩⟩⟩⟩, fun z => absurd z (by decide)⟩, fun z => absurd z (by decide)⟩, fun z => absurd ((K 14 (by omega)).2.mp z) (by omega)⟩, fun z => absurd ((K 5 (by omega)).1.mpr (by omega)) z⟩, fun z => absurd ((K 15 (by omega)).2.mp z) (by omega)⟩, fun z => absurd ((K 2 (by omega)).2.mp z) (by omega)⟩, fun z => absurd ((K 1 (by omega)).2.mp z) (by omega)⟩, fun z => absurd ((K 0 (by omega)).2.mp z) (by omega)⟩
  · rw [hv.1] at z
    cases y with
    | none => cases x <;> rfl
    | some b => exact absurd rfl z
  · rw [h80] at q
    cases x with
    | none => rfl
    | some a => exact absurd rfl q
  all_goals
    rw [hv.1] at z
    rw [h80] at q
    cases y with
    | none => exact absurd z (by decide)
    | some b =>
      cases x with
      | none => exact absurd q (by decide)
      | some a =>
        have d67 : D 42 67 = b := hv.2
        have d79 : D 79 f = a := h79
        rw [d67, d79] at o
        have ha := gx a rfl
        have hb := gy b rfl
        have k1 := dcv_ge ha hb .g
        have k2 := dcv_ge hb ha .g
        have kc : nI kd = 12 ↔ kd = 12 := (K 12 (by omega)).2
        rw [kc] at p
        show (if kd = 12 then decide (dz a < dz b) else decide (dz b < dz a)) = _
        first
          | rw [if_neg p]; first
            | exact decide_eq_false (by have := k2.mp o; omega)
            | exact decide_eq_true (Int.lt_of_not_ge (fun w => o (k2.mpr w)))
          | rw [if_pos p]; first
            | exact decide_eq_false (by have := k1.mp o; omega)
            | exact decide_eq_true (Int.lt_of_not_ge (fun w => o (k1.mpr w)))
/-- if: its end -/
theorem c192_e (h : me_Q f k 3 kd I) (hkd : kd = 12 ∨ kd = 13) (r : am_Rn ext d 190 [.ref 42, .double (D 42 67), .int (I 42 68)] (me_1 I f 3, L, D, am_rf X) (none, (I', L, D', am_rf X))) : am_Rn ext (d + 1) 192 [.ref 42, .int (nI f)] (I, L, D, am_rf X) (none, (I', L, D', am_rf X)) := by
  obtain ⟨b1, b2, e1, e2, e3⟩ := q161 h
  obtain ⟨h1, h2, h3, h4, h5, h6⟩ := h
  have K := fun (c : Nat) (hc : c ≤ 15) => k161 (kd := kd) (by omega) (c := c) hc
  refine am_rn_of mh_192 rfl (w192_0 I L D X (nI f) ?_)
  rw [e1, h4, e2, h6, h5, e3]
  refine ⟨b1, b1, b1, b1, b2, fun _ => ⟨fun _ => ⟨fun _ => ⟨fun _ => ⟨fun _ => ⟨fun _ => ⟨fun _ => ⟨fun _ => ⟨fun _ => w192_472 _ L D X (nI f) (nI 3) (nI kd) ⟨fun _ => ⟨I', L, D', ?_, rfl⟩, fun z => absurd z (by decide)⟩, fun z => absurd z (by decide)⟩, fun z => absurd z (by decide)⟩, fun z => absurd z (by decide)⟩, fun z => absurd ((K 14 (by omega)).2.mp z) (by omega)⟩, fun z => absurd ((K 5 (by omega)).1.mpr (by omega)) z⟩, fun z => absurd ((K 15 (by omega)).2.mp z) (by omega)⟩, fun z => absurd ((K 2 (by omega)).2.mp z) (by omega)⟩, fun z => absurd ((K 1 (by omega)).2.mp z) (by omega)⟩, fun z => absurd ((K 0 (by omega)).2.mp z) (by omega)⟩
  have e : (am_uI I 60 f (nI (3 + 1))) 42 68 = I 42 68 := by rw [am_uI_at, if_neg (by omega)]
  rw [e]
  exact r
end MDEV
