/-! ===== the reference's reader: a part ===== -/
section PART
variable {ext : Nat → List Value → am_M → Option am_R} {d : Nat} (L : Nat → Nat → Int64) (D : Nat → Nat → UInt64) (X : am_Rf) {f : Nat → Int32} {n c kn op nw nh : Nat} {I : Nat → Nat → Int32} {e : pt_E} {q : pt_Q} {P : am_R → Prop} {sum : Nat → Nat → Nat → pt_R}
/-- valueRead has answered -/
theorem rf_val (hd : 6 ≤ d) (h35 : I 42 35 = 1) {x : Int32} {I' : Nat → Nat → Int32} (r : am_Rn ext 6 137 [.ref 42] (I, L, D, am_rf X) (some (.int x), (I', L, D, am_rf X))) (h1 : ¬ x = 0 → rf_go ext d L D X I' P) (h0 : x = 0 → P (some (.int 0), (I', L, D, am_rf X))) : rf_go ext d L D X I P :=
  w141_20 I L D X ⟨fun z => absurd z (by rw [h35]; decide), fun _ => ⟨x, I', L, D, am_up r hd, h1, h0⟩⟩
/-- grown, then take -/
theorem rf_gt (hc : c < (pt_tape f n).2) (hk9 : kn < 96) (hS : rf_S f n c kn op nw nh I) (a b : Int32) : ∃ I1 I2, am_Rn ext 2 126 [.ref 42, .int a, .int b] (I, L, D, am_rf X) (some (.int (nI (96 + kn))), (I1, L, D, am_rf X)) ∧ am_Rn ext 2 123 [.ref 42] (I1, L, D, am_rf X) (none, (I2, L, D, am_rf X)) ∧ rf_S f n c (kn + 1) op nw nh I1 ∧ rf_S f n (pt_adv (pt_tape f n) c) (kn + 1) op nw nh I2 ∧ rf_fr kn nw nh I I1 ∧ rf_fr kn nw nh I I2 ∧ I2 45 (96 + kn) = a ∧ I2 46 (96 + kn) = b ∧ I2 42 35 = I 42 35 ∧ (∀ a b, ¬ (a = 42 ∧ b = 18) → ¬ (45 ≤ a ∧ a ≤ 50) → I1 a b = I a b) ∧ rf_tf I1 I2 := by
  have r1 := (c126 (ext := ext) (d := 0) L D X hS (by omega) a b).1 hk9
  obtain ⟨s1, f1⟩ := rf_S_grown hS a b
  have k1 : ∀ x y, ¬ (x = 42 ∧ y = 18) → ¬ (45 ≤ x ∧ x ≤ 50) → (am_uI (am_uI (am_uI (am_uI (am_uI (am_uI (am_uI I 42 18 (nI (kn + 1))) 45 (96 + kn) a) 46 (96 + kn) b) 47 (96 + kn) (-1)) 48 (96 + kn) (-1)) 49 (96 + kn) (-1)) 50 (96 + kn) (-1)) x y = I x y := by
    intro x y q1 q2
    simp only [am_uI_at]
    rw [if_neg (by omega), if_neg (by omega), if_neg (by omega), if_neg (by omega), if_neg (by omega), if_neg (by omega), if_neg (by omega)]
  have k45 : (am_uI (am_uI (am_uI (am_uI (am_uI (am_uI (am_uI I 42 18 (nI (kn + 1))) 45 (96 + kn) a) 46 (96 + kn) b) 47 (96 + kn) (-1)) 48 (96 + kn) (-1)) 49 (96 + kn) (-1)) 50 (96 + kn) (-1)) 45 (96 + kn) = a := by simp [am_uI_at]
  have k46 : (am_uI (am_uI (am_uI (am_uI (am_uI (am_uI (am_uI I 42 18 (nI (kn + 1))) 45 (96 + kn) a) 46 (96 + kn) b) 47 (96 + kn) (-1)) 48 (96 + kn) (-1)) 49 (96 + kn) (-1)) 50 (96 + kn) (-1)) 46 (96 + kn) = b := by simp [am_uI_at]
  obtain ⟨I2, r2, s2, f2⟩ := rf_S_take (ext := ext) (d := 0) L D X hc s1
  exact ⟨_, I2, r1, r2, s1, s2, f1, rf_fr_t f1 (rf_fr_tf f2) (Nat.le_refl _) (Nat.le_refl _) (Nat.le_refl _), (f2 45 _ (by omega)).trans k45, (f2 46 _ (by omega)).trans k46, (f2 42 35 (by omega)).trans (k1 42 35 (by omega) (by omega)), k1, f2⟩
/-- over: in the bracket of OVER -/
theorem c134 (ht : pt_tk (pt_tape f n)) (he : pt_en e) (hc : c < (pt_tape f n).2) (ho : op ≤ 8) (hkn : kn < 96) (hnh : nh < 119) (hS : rf_S f n c (kn + 1) op nw nh I) (hE : rf_E e I) {I0 : Nat → Nat → Int32} (hf : rf_fr kn nw nh I0 I) {kd : Nat} (hkd : 15 ≤ kd ∧ kd ≤ 18) (h45 : I 45 (96 + kn) = 15) (h46 : I 46 (96 + kn) = nI (kd - 15))
    (hq : pt_o (pt_tape f n) c op (fun c2 => if pt_k (pt_tape f n) c2 = 3 ∧ ¬ pt_v (pt_tape f n) c2 = 19 then (if e.2.1 (pt_v (pt_tape f n) c2).toNatClampNeg = 2 then pt_x (pt_tape f n) 44 (pt_adv (pt_tape f n) c2) fun c3 => pt_i (pt_tape f n) (-65) c3 fun c4 i => pt_x (pt_tape f n) 44 c4 fun c5 => pt_i (pt_tape f n) i c5 fun c6 j => pt_x (pt_tape f n) 41 c6 fun c7 => pt_r c7 (kn + 1) (.leaf (kn, kd, (pt_v (pt_tape f n) c2).toNatClampNeg, e.2.2 (pt_v (pt_tape f n) c2).toNatClampNeg, i, j)) else pt_f (pt_tape f n) 3 c2) else pt_f (pt_tape f n) 1 c2) = some q) :
    ∃ x I', am_Rn ext 4 134 [.ref 42, .int (nI (96 + kn))] (I, L, D, am_rf X) (some (.int x), (I', L, D, am_rf X)) ∧ (x = 0 ∨ x = 1) ∧ ∀ {P : am_R → Prop} {d : Nat}, rf_run ext d L D X f n 3 kn nw nh op I0 q P → (¬ x = 0 → rf_go ext d L D X I' P) ∧ (x = 0 → P (some (.int 0), (I', L, D, am_rf X))) := by
  have r40 := c124 (ext := ext) (d := 0) L D X hS.1 (w := 40) (by decide)
  have e8 : I 42 34 = 8 ↔ op = 8 := by rw [hS.2.2.1, show (8 : Int32) = nI 8 from rfl, ni_eq (by omega) (by omega)]
  have hbk : am_inb (nI (96 + kn)) 192 = true := ni_inb (by omega) (by omega)
  have ek : (nI (96 + kn)).toNatClampNeg = 96 + kn := ni_nat (by omega)
  -- a fault's end
  have bad : ∀ {fq : Nat × Int32} {I' : Nat → Nat → Int32}, q = .inl fq → rf_F fq I' → rf_fr kn nw nh I I' → ∀ {P : am_R → Prop} {d : Nat}, rf_run ext d L D X f n 3 kn nw nh op I0 q P → (¬ (0 : Int32) = 0 → rf_go ext d L D X I' P) ∧ ((0 : Int32) = 0 → P (some (.int 0), (I', L, D, am_rf X))) := by
    intro fq I' hq h1 h2 P d hr
    subst hq
    exact ⟨fun z => absurd rfl z, fun _ => hr I' h1 (rf_fr_t hf h2 (Nat.le_refl _) (Nat.le_refl _) (Nat.le_refl _))⟩
  rcases pt_o_some hq with ⟨h40, h8, hq⟩ | ⟨h40, h8, hq⟩ | ⟨h40, hq⟩
  · rw [if_pos h40] at r40
    obtain ⟨I2, r2, s2, f2⟩ := rf_S_take (ext := ext) (d := 0) L D X hc hS
    have hc2 := pt_adv_lt hc
    have fr2 : rf_fr kn nw nh I I2 := rf_fr_tf f2
    generalize pt_adv (pt_tape f n) c = c2 at *
    have tok := rf_T_tok s2.1
    by_cases h3 : pt_k (pt_tape f n) c2 = 3
    · obtain ⟨t8, t9⟩ := rf_t3 tok h3
      by_cases h19 : pt_v (pt_tape f n) c2 = 19
      · rw [if_neg (fun z => z.2 h19)] at hq
        cases hq
        obtain ⟨I3, r3, g1, g2⟩ := c118t (ext := ext) (d := 0) L D X s2 1
        exact ⟨0, I3, am_rn_of mh_134 rfl (w134_0 I L D X _ ⟨1, I, L, D, am_up r40 (by omega), fun _ => ⟨fun _ => ⟨I2, L, D, am_up r2 (by omega), fun z => absurd t8 z, fun _ => ⟨fun z => absurd (t9.trans h19) z, fun _ => ⟨0, I3, L, D, am_up r3 (by omega), Or.inl rfl, rfl⟩⟩⟩, fun z => absurd (e8.mp z) (by omega)⟩, fun z => absurd z (by decide)⟩), Or.inl rfl, bad rfl g1 (rf_fr_t fr2 (g2 kn nw nh) (Nat.le_refl _) (Nat.le_refl _) (Nat.le_refl _))⟩
      · rw [if_pos ⟨h3, h19⟩] at hq
        have hl0 := (ht.2.2 _ hc2).1 h3
        have hlc := pt_clamp hl0.1
        have hl : (pt_v (pt_tape f n) c2).toNatClampNeg < 26 := by omega
        have hvl : pt_v (pt_tape f n) c2 = nI (pt_v (pt_tape f n) c2).toNatClampNeg := by
          rw [← Int32.toInt_inj, nI_toInt (by omega)]
          omega
        have t9' : I2 42 9 = nI (pt_v (pt_tape f n) c2).toNatClampNeg := t9.trans hvl
        have n19 : ¬ I2 42 9 = 19 := fun z => h19 (t9.symm.trans z)
        generalize (pt_v (pt_tape f n) c2).toNatClampNeg = l at *
        have e26 : 26 + I2 42 9 = nI (26 + l) := by rw [t9', show (26 : Int32) = nI 26 from rfl, ni_add (by omega)]
        have hb26 : am_inb (26 + I2 42 9) 52 = true := by rw [e26]; exact ni_inb (by omega) (by omega)
        have e51 : I2 51 (26 + I2 42 9).toNatClampNeg = nI (e.2.1 l) := by rw [e26, ni_nat (by omega)]; exact (rf_E_fr hE fr2).2 l hl
        have he2 : e.2.1 l = 2 → nI (e.2.1 l) = 2 := fun h => by rw [h]; rfl
        by_cases hf2 : e.2.1 l = 2
        · rw [if_pos hf2] at hq
          have s3 := rf_S_K s2 (a := 47) (b := 96 + kn) (by omega) (I2 42 9)
          obtain ⟨I4, r4, s4, f4⟩ := rf_S_take (ext := ext) (d := 0) L D X hc2 s3
          have hc3 := pt_adv_lt hc2
          have x4 : ∀ a b, ¬ (a = 42 ∧ 7 ≤ b ∧ b ≤ 10) → ¬ (a = 47 ∧ b = 96 + kn) → I4 a b = I a b := fun a b q1 q2 => by rw [f4 a b q1, am_uI_at, if_neg q2, f2 a b q1]
          have y47 : I4 47 (96 + kn) = nI l := by rw [f4 47 _ (by omega), am_uI_at, if_pos ⟨rfl, rfl⟩]; exact t9'
          have fr4 : rf_fr kn nw nh I I4 := fun a b hab => x4 a b (by have := rf_x_iff.mp hab; omega) (by have := rf_x_iff.mp hab; omega)
          rcases pt_x_some hq with ⟨h44, hq⟩ | ⟨h44, hq⟩
          · obtain ⟨I5, r5, s5, f5⟩ := (c125 (ext := ext) (d := 0) L D X hc3 s4 (w := 44) (by decide)).1 h44
            have hc5 := pt_adv_lt hc3
            have fr5 : rf_fr kn nw nh I I5 := rf_fr_t fr4 (rf_fr_tf f5) (Nat.le_refl _) (Nat.le_refl _) (Nat.le_refl _)
            rcases c133 (ext := ext) L D X ht hc5 s5 (k := kn) hkn (fl := 1) (Or.inl ⟨rfl, rfl⟩) hq with ⟨c6, i, I6, hc6, i1, i2, i3, hq, r6, s6, y48, o6⟩ | ⟨fq, I6, hqq, r6, g1, g2⟩
            · rw [if_pos rfl] at y48 o6
              have fr6 : rf_fr kn nw nh I I6 := rf_fr_t fr5 (kn' := kn) (nw' := nw) (nh' := nh) (fun a b hab => o6 a b (by have := rf_x_iff.mp hab; omega) (by have := rf_x_iff.mp hab; omega)) (Nat.le_refl _) (Nat.le_refl _) (Nat.le_refl _)
              rcases pt_x_some hq with ⟨h442, hq⟩ | ⟨h442, hq⟩
              · obtain ⟨I7, r7, s7, f7⟩ := (c125 (ext := ext) (d := 0) L D X hc6 s6 (w := 44) (by decide)).1 h442
                have hc7 := pt_adv_lt hc6
                have fr7 : rf_fr kn nw nh I I7 := rf_fr_t fr6 (rf_fr_tf f7) (Nat.le_refl _) (Nat.le_refl _) (Nat.le_refl _)
                have z48 : I7 48 (96 + kn) = Int32.ofInt i := (f7 48 _ (by omega)).trans y48
                rcases c133 (ext := ext) L D X ht hc7 s7 (k := kn) hkn (fl := 0) (Or.inr ⟨rfl, z48, i1, i2⟩) hq with ⟨c8, j, I8, hc8, j1, j2, j3, hq, r8, s8, y49, o8⟩ | ⟨fq, I8, hqq, r8, g1, g2⟩
                · rw [if_neg (show ¬ (0 : Int32) = 1 by decide)] at y49 o8
                  have fr8 : rf_fr kn nw nh I I8 := rf_fr_t fr7 (kn' := kn) (nw' := nw) (nh' := nh) (fun a b hab => o8 a b (by have := rf_x_iff.mp hab; omega) (by have := rf_x_iff.mp hab; omega)) (Nat.le_refl _) (Nat.le_refl _) (Nat.le_refl _)
                  rcases pt_x_some hq with ⟨h41, hq⟩ | ⟨h41, hq⟩
                  · cases hq
                    obtain ⟨I9, r9, s9, f9⟩ := (c125 (ext := ext) (d := 0) L D X hc8 s8 (w := 41) (by decide)).1 h41
                    have fr9 : rf_fr kn nw nh I I9 := rf_fr_t fr8 (rf_fr_tf f9) (Nat.le_refl _) (Nat.le_refl _) (Nat.le_refl _)
                    -- the knot's rows at the end
                    have z9 : ∀ a, a = 45 ∨ a = 46 ∨ a = 47 ∨ a = 48 → I9 a (96 + kn) = I7 a (96 + kn) := fun a ha => by rw [f9 a _ (by omega), o8 a _ (by omega) (by omega)]
                    have z7 : ∀ a, a = 45 ∨ a = 46 ∨ a = 47 → I7 a (96 + kn) = I4 a (96 + kn) := fun a ha => by rw [f7 a _ (by omega), o6 a _ (by omega) (by omega), f5 a _ (by omega)]
                    have hrp : rf_rp 96 true I9 (.leaf (kn, kd, l, e.2.2 l, i, j)) := by
                      refine ⟨fun z => ?_, fun _ => ⟨?_, ?_, ?_, ?_, ?_⟩⟩
                      · have z : kd < 15 := z
                        omega
                      · show I9 45 (96 + kn) = 15
                        rw [z9 45 (by omega), z7 45 (by omega), x4 45 _ (by omega) (by omega)]; exact h45
                      · show I9 46 (96 + kn) = nI (kd - 15)
                        rw [z9 46 (by omega), z7 46 (by omega), x4 46 _ (by omega) (by omega)]; exact h46
                      · show I9 47 (96 + kn) = nI l
                        rw [z9 47 (by omega), z7 47 (by omega)]; exact y47
                      · show I9 48 (96 + kn) = Int32.ofInt i
                        rw [z9 48 (by omega)]; exact z48
                      · show I9 49 (96 + kn) = Int32.ofInt j
                        rw [f9 49 _ (by omega)]; exact y49
                    obtain ⟨I10, r10, ok10⟩ := rf_leaf (ext := ext) (e := e) (I := I0) (p := (kn, kd, l, e.2.2 l, i, j)) L D X rfl rfl (Or.inr (Or.inr (Or.inr ⟨hkd.1, hkd.2, hl, hf2, rfl, i1, j3, j2⟩))) hnh s9 (rf_fr_t hf fr9 (Nat.le_refl _) (Nat.le_refl _) (Nat.le_refl _)) hrp
                    refine ⟨1, I10, am_rn_of mh_134 rfl (w134_0 I L D X _ ⟨1, I, L, D, am_up r40 (by omega), fun _ => ⟨fun _ => ⟨I2, L, D, am_up r2 (by omega), fun z => absurd t8 z, fun _ => ⟨fun _ => ⟨hb26, fun _ => ⟨hbk, I4, L, D, by rw [ek]; exact am_up r4 (by omega), 1, I5, L, D, am_up r5 (by omega), fun z => absurd z (by decide), fun _ => ⟨1, I6, L, D, r6, fun z => absurd z (by decide), fun _ => ⟨1, I7, L, D, am_up r7 (by omega), fun z => absurd z (by decide), fun _ => ⟨1, I8, L, D, r8, fun z => absurd z (by decide), fun _ => ⟨1, I9, L, D, am_up r9 (by omega), fun _ => ⟨I10, L, D, am_up r10 (by omega), rfl⟩, fun z => absurd z (by decide)⟩⟩⟩⟩⟩, fun z => absurd (e51.trans (he2 hf2)) z⟩, fun z => absurd z n19⟩⟩, fun z => absurd (e8.mp z) (by omega)⟩, fun z => absurd z (by decide)⟩), Or.inr rfl, ?_⟩
                    intro P d hr
                    exact ⟨fun _ => hr I10 ok10, fun z => absurd z (by decide)⟩
                  · obtain ⟨I9, r9, g1, g2⟩ := (c125 (ext := ext) (d := 0) L D X hc8 s8 (w := 41) (by decide)).2 h41
                    exact ⟨0, I9, am_rn_of mh_134 rfl (w134_0 I L D X _ ⟨1, I, L, D, am_up r40 (by omega), fun _ => ⟨fun _ => ⟨I2, L, D, am_up r2 (by omega), fun z => absurd t8 z, fun _ => ⟨fun _ => ⟨hb26, fun _ => ⟨hbk, I4, L, D, by rw [ek]; exact am_up r4 (by omega), 1, I5, L, D, am_up r5 (by omega), fun z => absurd z (by decide), fun _ => ⟨1, I6, L, D, r6, fun z => absurd z (by decide), fun _ => ⟨1, I7, L, D, am_up r7 (by omega), fun z => absurd z (by decide), fun _ => ⟨1, I8, L, D, r8, fun z => absurd z (by decide), fun _ => ⟨0, I9, L, D, am_up r9 (by omega), fun z => absurd rfl z, fun _ => rfl⟩⟩⟩⟩⟩, fun z => absurd (e51.trans (he2 hf2)) z⟩, fun z => absurd z n19⟩⟩, fun z => absurd (e8.mp z) (by omega)⟩, fun z => absurd z (by decide)⟩), Or.inl rfl, bad hq g1 (rf_fr_t fr8 (g2 kn nw nh) (Nat.le_refl _) (Nat.le_refl _) (Nat.le_refl _))⟩
                · exact ⟨0, I8, am_rn_of mh_134 rfl (w134_0 I L D X _ ⟨1, I, L, D, am_up r40 (by omega), fun _ => ⟨fun _ => ⟨I2, L, D, am_up r2 (by omega), fun z => absurd t8 z, fun _ => ⟨fun _ => ⟨hb26, fun _ => ⟨hbk, I4, L, D, by rw [ek]; exact am_up r4 (by omega), 1, I5, L, D, am_up r5 (by omega), fun z => absurd z (by decide), fun _ => ⟨1, I6, L, D, r6, fun z => absurd z (by decide), fun _ => ⟨1, I7, L, D, am_up r7 (by omega), fun z => absurd z (by decide), fun _ => ⟨0, I8, L, D, r8, fun _ => rfl, fun z => absurd rfl z⟩⟩⟩⟩, fun z => absurd (e51.trans (he2 hf2)) z⟩, fun z => absurd z n19⟩⟩, fun z => absurd (e8.mp z) (by omega)⟩, fun z => absurd z (by decide)⟩), Or.inl rfl, bad hqq g1 (rf_fr_t fr7 (g2 kn nw nh) (Nat.le_refl _) (Nat.le_refl _) (Nat.le_refl _))⟩
              · obtain ⟨I7, r7, g1, g2⟩ := (c125 (ext := ext) (d := 0) L D X hc6 s6 (w := 44) (by decide)).2 h442
                exact ⟨0, I7, am_rn_of mh_134 rfl (w134_0 I L D X _ ⟨1, I, L, D, am_up r40 (by omega), fun _ => ⟨fun _ => ⟨I2, L, D, am_up r2 (by omega), fun z => absurd t8 z, fun _ => ⟨fun _ => ⟨hb26, fun _ => ⟨hbk, I4, L, D, by rw [ek]; exact am_up r4 (by omega), 1, I5, L, D, am_up r5 (by omega), fun z => absurd z (by decide), fun _ => ⟨1, I6, L, D, r6, fun z => absurd z (by decide), fun _ => ⟨0, I7, L, D, am_up r7 (by omega), fun _ => rfl, fun z => absurd rfl z⟩⟩⟩, fun z => absurd (e51.trans (he2 hf2)) z⟩, fun z => absurd z n19⟩⟩, fun z => absurd (e8.mp z) (by omega)⟩, fun z => absurd z (by decide)⟩), Or.inl rfl, bad hq g1 (rf_fr_t fr6 (g2 kn nw nh) (Nat.le_refl _) (Nat.le_refl _) (Nat.le_refl _))⟩
            · exact ⟨0, I6, am_rn_of mh_134 rfl (w134_0 I L D X _ ⟨1, I, L, D, am_up r40 (by omega), fun _ => ⟨fun _ => ⟨I2, L, D, am_up r2 (by omega), fun z => absurd t8 z, fun _ => ⟨fun _ => ⟨hb26, fun _ => ⟨hbk, I4, L, D, by rw [ek]; exact am_up r4 (by omega), 1, I5, L, D, am_up r5 (by omega), fun z => absurd z (by decide), fun _ => ⟨0, I6, L, D, r6, fun _ => rfl, fun z => absurd rfl z⟩⟩, fun z => absurd (e51.trans (he2 hf2)) z⟩, fun z => absurd z n19⟩⟩, fun z => absurd (e8.mp z) (by omega)⟩, fun z => absurd z (by decide)⟩), Or.inl rfl, bad hqq g1 (rf_fr_t fr5 (g2 kn nw nh) (Nat.le_refl _) (Nat.le_refl _) (Nat.le_refl _))⟩
          · obtain ⟨I5, r5, g1, g2⟩ := (c125 (ext := ext) (d := 0) L D X hc3 s4 (w := 44) (by decide)).2 h44
            exact ⟨0, I5, am_rn_of mh_134 rfl (w134_0 I L D X _ ⟨1, I, L, D, am_up r40 (by omega), fun _ => ⟨fun _ => ⟨I2, L, D, am_up r2 (by omega), fun z => absurd t8 z, fun _ => ⟨fun _ => ⟨hb26, fun _ => ⟨hbk, I4, L, D, by rw [ek]; exact am_up r4 (by omega), 0, I5, L, D, am_up r5 (by omega), fun _ => rfl, fun z => absurd rfl z⟩, fun z => absurd (e51.trans (he2 hf2)) z⟩, fun z => absurd z n19⟩⟩, fun z => absurd (e8.mp z) (by omega)⟩, fun z => absurd z (by decide)⟩), Or.inl rfl, bad hq g1 (rf_fr_t fr4 (g2 kn nw nh) (Nat.le_refl _) (Nat.le_refl _) (Nat.le_refl _))⟩
        · rw [if_neg hf2] at hq
          cases hq
          obtain ⟨I3, r3, g1, g2⟩ := c118t (ext := ext) (d := 0) L D X s2 3
          refine ⟨0, I3, am_rn_of mh_134 rfl (w134_0 I L D X _ ⟨1, I, L, D, am_up r40 (by omega), fun _ => ⟨fun _ => ⟨I2, L, D, am_up r2 (by omega), fun z => absurd t8 z, fun _ => ⟨fun _ => ⟨hb26, fun z => absurd (e51.symm.trans z) ?_, fun _ => ⟨0, I3, L, D, am_up r3 (by omega), Or.inl rfl, rfl⟩⟩, fun z => absurd z n19⟩⟩, fun z => absurd (e8.mp z) (by omega)⟩, fun z => absurd z (by decide)⟩), Or.inl rfl, bad rfl g1 (rf_fr_t fr2 (g2 kn nw nh) (Nat.le_refl _) (Nat.le_refl _) (Nat.le_refl _))⟩
          intro z
          have z : nI (e.2.1 l) = nI 2 := z
          have hbig := he l hl
          rw [ni_eq (by omega) (by omega)] at z
          exact hf2 z
    · rw [if_neg (fun z => h3 z.1)] at hq
      cases hq
      have n8 : ¬ I2 42 8 = 2 := by
        intro h8
        obtain ⟨_, tk⟩ := tok
        rcases tk with ⟨_, h⟩ | ⟨_, h⟩ | ⟨_, h, _⟩ | ⟨h, _⟩ | ⟨j, _, _, h, _⟩ | ⟨_, h, _⟩
        · rw [h8] at h; exact absurd h (by decide)
        · rw [h8] at h; exact absurd h (by decide)
        · rw [h8] at h; exact absurd h (by decide)
        · exact h3 h
        · rw [h8] at h; exact absurd h (by decide)
        · rw [h8] at h; exact absurd h (by decide)
      obtain ⟨I3, r3, g1, g2⟩ := c118t (ext := ext) (d := 0) L D X s2 1
      exact ⟨0, I3, am_rn_of mh_134 rfl (w134_0 I L D X _ ⟨1, I, L, D, am_up r40 (by omega), fun _ => ⟨fun _ => ⟨I2, L, D, am_up r2 (by omega), fun _ => ⟨0, I3, L, D, am_up r3 (by omega), Or.inl rfl, rfl⟩, fun z => absurd z n8⟩, fun z => absurd (e8.mp z) (by omega)⟩, fun z => absurd z (by decide)⟩), Or.inl rfl, bad rfl g1 (rf_fr_t fr2 (g2 kn nw nh) (Nat.le_refl _) (Nat.le_refl _) (Nat.le_refl _))⟩
  · rw [if_pos h40] at r40
    obtain ⟨I3, r3, g1, g2⟩ := c118t (ext := ext) (d := 0) L D X hS 2
    exact ⟨0, I3, am_rn_of mh_134 rfl (w134_0 I L D X _ ⟨1, I, L, D, am_up r40 (by omega), fun _ => ⟨fun z => absurd (e8.mpr (by omega)) z, fun _ => ⟨0, I3, L, D, am_up r3 (by omega), Or.inl rfl, rfl⟩⟩, fun z => absurd z (by decide)⟩), Or.inl rfl, bad hq g1 (g2 kn nw nh)⟩
  · rw [if_neg h40] at r40
    obtain ⟨I3, r3, g1, g2⟩ := c118t (ext := ext) (d := 0) L D X hS 1
    exact ⟨0, I3, am_rn_of mh_134 rfl (w134_0 I L D X _ ⟨0, I, L, D, am_up r40 (by omega), fun z => absurd rfl z, fun _ => ⟨0, I3, L, D, am_up r3 (by omega), Or.inl rfl, rfl⟩⟩), Or.inl rfl, bad hq g1 (g2 kn nw nh)⟩
end PART
