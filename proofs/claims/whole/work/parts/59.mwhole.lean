/-! ===== the reference's reader: values, all together ===== -/
section WHOLE
variable {ext : Nat → List Value → am_M → Option am_R} {d : Nat} (L : Nat → Nat → Int64) (D : Nat → Nat → UInt64) (X : am_Rf) {f : Nat → Int32} {n c kn op nw nh : Nat} {I : Nat → Nat → Int32} {e : pt_E} {q : pt_Q} {P : am_R → Prop} {sum neg : Nat → Nat → Nat → pt_R}
/-- as rf_H, for a part -/
def rf_H2 (ext : Nat → List Value → am_M → Option am_R) (d : Nat) (L : Nat → Nat → Int64) (D : Nat → Nat → UInt64) (X : am_Rf) (f : Nat → Int32) (n : Nat) (e : pt_E) (fn : Nat → Nat → Nat → pt_R) (op : Nat) : Prop := ∀ (c kn nw nh : Nat) (I : Nat → Nat → Int32) (q : pt_Q) (P : am_R → Prop), c < (pt_tape f n).2 → kn ≤ 96 → nw ≤ kn + op → nh ≤ kn → rf_S f n c kn op nw nh I → I 42 35 = 1 → rf_E e I → fn c kn op = some q → rf_run ext d L D X f n 3 kn nw nh op I q P → rf_go ext d L D X I P
/-- the bracket of a knot opens, or not -/
theorem rf_opens {I0 I2 : Nat → Nat → Int32} {a : Int32} (hc : c < (pt_tape f n).2) (ho : op ≤ 8) (hnw : nw < 119) (hkn : kn < 96) (hS : rf_S f n c (kn + 1) op nw nh I2) (h35 : I2 42 35 = 1) (h45 : I2 45 (96 + kn) = a) (hf : rf_fr kn nw nh I0 I2) {g : Nat → pt_R} (hq : pt_o (pt_tape f n) c op g = some q) :
    (∃ I3, op < 8 ∧ pt_adv (pt_tape f n) c < (pt_tape f n).2 ∧ g (pt_adv (pt_tape f n) c) = some q ∧ am_Rn ext 3 132 [.ref 42, .int (nI (96 + kn))] (I2, L, D, am_rf X) (some (.int 1), (I3, L, D, am_rf X)) ∧ rf_G f n kn op nw nh a I0 (pt_adv (pt_tape f n) c) (kn + 1) 0 I3 ∧ (∀ x y, 45 ≤ x → x ≤ 50 → I3 x y = I2 x y)) ∨
    (∃ fq I3, q = .inl fq ∧ am_Rn ext 3 132 [.ref 42, .int (nI (96 + kn))] (I2, L, D, am_rf X) (some (.int 0), (I3, L, D, am_rf X)) ∧ rf_F fq I3 ∧ rf_fr kn nw nh I0 I3) := by
  have co := c132 (ext := ext) (d := 0) L D X hc ho (by omega) hS (nI (96 + kn))
  rcases pt_o_some hq with ⟨h40, h8, hq⟩ | ⟨h40, h8, hq⟩ | ⟨h40, hq⟩
  · obtain ⟨I3, r3, s3, f3, b55, b56, b57, b35, bK⟩ := co.1 h40 h8
    refine Or.inl ⟨I3, h8, pt_adv_lt hc, hq, r3, ⟨s3, b35.trans h35, b55, b56, b57, ?_, ?_, by omega, by omega⟩, bK⟩
    · rw [bK 45 _ (by omega) (by omega)]; exact h45
    · exact rf_fr_t hf f3 (by omega) (Nat.le_refl _) (Nat.le_refl _)
  · obtain ⟨I3, r3, g1, g2⟩ := co.2 2 (Or.inl ⟨rfl, h40, h8⟩)
    exact Or.inr ⟨_, I3, hq, r3, g1, rf_fr_t hf (g2 kn nw nh) (Nat.le_refl _) (Nat.le_refl _) (Nat.le_refl _)⟩
  · obtain ⟨I3, r3, g1, g2⟩ := co.2 1 (Or.inr ⟨rfl, h40⟩)
    exact Or.inr ⟨_, I3, hq, r3, g1, rf_fr_t hf (g2 kn nw nh) (Nat.le_refl _) (Nat.le_refl _) (Nat.le_refl _)⟩
/-- a letter -/
theorem rf_letter (hd : 6 ≤ d) (ht : pt_tk (pt_tape f n)) (he : pt_en e) (hc : c < (pt_tape f n).2) (hk : kn ≤ 96) (ho : op ≤ 8) (hnw : nw ≤ kn + op) (hnh : nh ≤ kn) (hS : rf_S f n c kn op nw nh I) (h35 : I 42 35 = 1) (hE : rf_E e I) (h3 : pt_k (pt_tape f n) c = 3) (IH : op < 8 → rf_H ext d L D X f n e sum (op + 1)) (hg : op < 8 → rd_G (pt_tape f n) e sum (op + 1)) (hN : op < 8 → rf_N (pt_tape f n) sum (op + 1))
    (v : ∀ {x : Int32} {I' : Nat → Nat → Int32}, am_Rn ext 5 135 [.ref 42] (I, L, D, am_rf X) (some (.int x), (I', L, D, am_rf X)) → (x = 0 ∨ x = 1) → (¬ x = 0 → rf_go ext d L D X I' P) → (x = 0 → P (some (.int 0), (I', L, D, am_rf X))) → rf_go ext d L D X I P)
    (hq : (if pt_v (pt_tape f n) c = 19 then (if kn < 96 ∧ e.1 = false then pt_f (pt_tape f n) 3 c else pt_n (pt_tape f n) c kn fun c1 => pt_r c1 (kn + 1) (.leaf (kn, 1, 0, 0, 0, 0))) else if kn < 96 ∧ e.2.1 (pt_v (pt_tape f n) c).toNatClampNeg = 0 then pt_f (pt_tape f n) 3 c else if e.2.1 (pt_v (pt_tape f n) c).toNatClampNeg = 2 then pt_one (pt_tape f n) sum 14 (pt_v (pt_tape f n) c).toNatClampNeg (e.2.2 (pt_v (pt_tape f n) c).toNatClampNeg) c kn op else pt_n (pt_tape f n) c kn fun c1 => pt_r c1 (kn + 1) (.leaf (kn, 2, (pt_v (pt_tape f n) c).toNatClampNeg, e.2.2 (pt_v (pt_tape f n) c).toNatClampNeg, 0, 0))) = some q) (hrun : rf_run ext d L D X f n 3 kn nw nh op I q P) : rf_go ext d L D X I P := by
  obtain ⟨t8, t9⟩ := rf_t3 (rf_T_tok hS.1) h3
  by_cases h19 : pt_v (pt_tape f n) c = 19
  · rw [if_pos h19] at hq
    have t9' : I 42 9 = 19 := t9.trans h19
    have start : ∀ {r0 : am_R}, am_wp ext 4 mz_135 (51, [some (.ref 42), some (.int 19), some (.int 0), none], [.int 1, .ref 42], (I, L, D, am_rf X)) (fun r => r = r0) → am_Rn ext 5 135 [.ref 42] (I, L, D, am_rf X) r0 := by
      intro r0 w
      refine am_rn_of mh_135 rfl (w135_0 I L D X ⟨fun _ => ?_, fun z => absurd t9' z⟩)
      rw [t9']
      exact w135_28 I L D X 19 (w135_29 I L D X 19 0 ⟨fun z => absurd rfl z, fun _ => w⟩)
    by_cases hk9 : kn < 96
    · obtain ⟨I1, I2, r1, r2, s1, s2, f1, f2, b45, b46, b35, bo, btf⟩ := rf_gt (ext := ext) L D X hc hk9 hS 1 19
      have e36 : I1 42 36 = if e.1 = true then 1 else 0 := (bo 42 36 (by omega) (by omega)).trans hE.1
      have ge : (0 : Int32) ≤ nI (96 + kn) := by rw [show (0 : Int32) = nI 0 from rfl, ni_le (by omega) (by omega)]; omega
      cases hfn : e.1 with
      | false =>
        rw [if_pos ⟨hk9, hfn⟩] at hq
        cases hq
        rw [hfn] at e36
        obtain ⟨I3, r3, g1, g2⟩ := c118t (ext := ext) (d := 0) L D X s1 3
        refine v (start (w135_51 I L D X 19 0 1 ⟨_, I1, L, D, am_up r1 (by omega), fun _ => ⟨fun z => absurd rfl z, fun _ => ⟨fun z => absurd e36 z, fun _ => ⟨0, I3, L, D, am_up r3 (by omega), Or.inl rfl, rfl⟩⟩⟩, fun z => absurd ge z⟩)) (Or.inl rfl) (fun z => absurd rfl z) (fun _ => hrun I3 g1 (rf_fr_t f1 (g2 kn nw nh) (Nat.le_refl _) (Nat.le_refl _) (Nat.le_refl _)))
      | true =>
        rw [if_neg (by rw [hfn]; simp)] at hq
        rw [hfn] at e36
        rcases pt_n_some hq with ⟨_, hq⟩ | ⟨z, _⟩
        · cases hq
          obtain ⟨I4, r4, ok4⟩ := rf_leaf (ext := ext) (e := e) (p := (kn, 1, 0, 0, 0, 0)) L D X rfl rfl (Or.inr (Or.inl ⟨rfl, hfn⟩)) (show nh < 119 by omega) s2 f2 ⟨fun _ => ⟨b45, fun z => absurd rfl z⟩, fun z => absurd z (show ¬ 15 ≤ 1 by omega)⟩
          refine v (start (w135_51 I L D X 19 0 1 ⟨_, I1, L, D, am_up r1 (by omega), fun _ => ⟨fun z => absurd rfl z, fun _ => ⟨fun _ => w135_96 I1 L D X 0 _ ⟨I2, L, D, am_up r2 (by omega), fun _ => ⟨I4, L, D, am_up r4 (by omega), rfl⟩, fun z => absurd rfl z⟩, fun z => absurd (e36.symm.trans z) (by decide)⟩⟩, fun z => absurd ge z⟩)) (Or.inr rfl) (fun _ => hrun I4 ok4) (fun z => absurd z (by decide))
        · omega
    · rw [if_neg (fun z => hk9 z.1)] at hq
      rcases pt_n_some hq with ⟨z, _⟩ | ⟨_, rfl⟩
      · omega
      · obtain ⟨I1, r1, g1, g2⟩ := (c126 (ext := ext) (d := 0) L D X hS hk 1 19).2 hk9
        exact v (start (w135_51 I L D X 19 0 1 ⟨_, I1, L, D, am_up r1 (by omega), fun z => absurd z (by decide), fun _ => rfl⟩)) (Or.inl rfl) (fun z => absurd rfl z) (fun _ => hrun I1 g1 (g2 kn nw nh))
  · rw [if_neg h19] at hq
    have hl0 := (ht.2.2 _ hc).1 h3
    have hlc := pt_clamp hl0.1
    have hl : (pt_v (pt_tape f n) c).toNatClampNeg < 26 := by omega
    have hvl : pt_v (pt_tape f n) c = nI (pt_v (pt_tape f n) c).toNatClampNeg := by
      rw [← Int32.toInt_inj, nI_toInt (by omega)]
      omega
    have t9' : I 42 9 = nI (pt_v (pt_tape f n) c).toNatClampNeg := t9.trans hvl
    have n19 : ¬ I 42 9 = 19 := fun z => h19 (t9.symm.trans z)
    generalize (pt_v (pt_tape f n) c).toNatClampNeg = l at *
    have n19' : ¬ nI l = 19 := fun z => n19 (t9'.trans z)
    have e26 : 26 + nI l = nI (26 + l) := by rw [show (26 : Int32) = nI 26 from rfl, ni_add (by omega)]
    have hb26 : am_inb (26 + nI l) 52 = true := by rw [e26]; exact ni_inb (by omega) (by omega)
    have hle := he l hl
    have e51 : ∀ {I1 : Nat → Nat → Int32}, (∀ b, I1 51 b = I 51 b) → I1 51 (26 + nI l).toNatClampNeg = nI (e.2.1 l) := fun {I1} h => by rw [e26, ni_nat (by omega), h]; exact hE.2 l hl
    have start : ∀ {r0 : am_R} (cl : Int32) (kd : Int32), (e.2.1 l = 2 ∧ cl = 1 ∧ kd = 14 ∨ ¬ e.2.1 l = 2 ∧ cl = 0 ∧ kd = 2) → am_wp ext 4 mz_135 (51, [some (.ref 42), some (.int (nI l)), some (.int cl), none], [.int kd, .ref 42], (I, L, D, am_rf X)) (fun r => r = r0) → am_Rn ext 5 135 [.ref 42] (I, L, D, am_rf X) r0 := by
      intro r0 cl kd hcl w
      have e5 := e51 (I1 := I) (fun _ => rfl)
      refine am_rn_of mh_135 rfl (w135_0 I L D X ⟨fun z => absurd z n19, fun _ => ?_⟩)
      rw [t9']
      refine ⟨hb26, fun z => ?_, fun z => ?_⟩
      · have h2 : ¬ e.2.1 l = 2 := fun h => z (e5.trans (by rw [h]; rfl))
        obtain ⟨_, rfl, rfl⟩ := hcl.resolve_left (fun y => h2 y.1)
        exact w135_28 I L D X _ (w135_29 I L D X _ 0 ⟨fun _ => ⟨fun _ => w, fun y => absurd rfl y⟩, fun y => absurd y n19'⟩)
      · have h2 : e.2.1 l = 2 := by
          have z' : nI (e.2.1 l) = nI 2 := e5.symm.trans z
          rw [ni_eq (by omega) (by omega)] at z'
          exact z'
        obtain ⟨_, rfl, rfl⟩ := hcl.resolve_right (fun y => y.1 h2)
        exact w135_29 I L D X _ 1 ⟨fun _ => ⟨fun y => absurd y (by decide), fun _ => w⟩, fun y => absurd y n19'⟩
    by_cases hk9 : kn < 96
    · by_cases h0 : e.2.1 l = 0
      · rw [if_pos ⟨hk9, h0⟩] at hq
        cases hq
        obtain ⟨I1, I2, r1, r2, s1, s2, f1, f2, b45, b46, b35, bo, btf⟩ := rf_gt (ext := ext) L D X hc hk9 hS 2 (nI l)
        have ge : (0 : Int32) ≤ nI (96 + kn) := by rw [show (0 : Int32) = nI 0 from rfl, ni_le (by omega) (by omega)]; omega
        obtain ⟨I3, r3, g1, g2⟩ := c118t (ext := ext) (d := 0) L D X s1 3
        have e5 := e51 (I1 := I1) (fun b => bo 51 b (by omega) (by omega))
        rw [h0] at e5
        exact v (start 0 2 (Or.inr ⟨by omega, rfl, rfl⟩) (w135_51 I L D X _ 0 2 ⟨_, I1, L, D, am_up r1 (by omega), fun _ => ⟨fun _ => ⟨hb26, fun z => absurd e5 z, fun _ => ⟨0, I3, L, D, am_up r3 (by omega), Or.inl rfl, rfl⟩⟩, fun z => absurd z n19'⟩, fun z => absurd ge z⟩)) (Or.inl rfl) (fun z => absurd rfl z) (fun _ => hrun I3 g1 (rf_fr_t f1 (g2 kn nw nh) (Nat.le_refl _) (Nat.le_refl _) (Nat.le_refl _)))
      · rw [if_neg (fun z => h0 z.2)] at hq
        have ge : (0 : Int32) ≤ nI (96 + kn) := by rw [show (0 : Int32) = nI 0 from rfl, ni_le (by omega) (by omega)]; omega
        have n0 : ¬ nI (e.2.1 l) = 0 := by rw [show (0 : Int32) = nI 0 from rfl, ni_eq (by omega) (by omega)]; exact h0
        by_cases h2 : e.2.1 l = 2
        · rw [if_pos h2] at hq
          obtain ⟨I1, I2, r1, r2, s1, s2, f1, f2, b45, b46, b35, bo, btf⟩ := rf_gt (ext := ext) L D X hc hk9 hS 14 (nI l)
          have e5 := e51 (I1 := I1) (fun b => bo 51 b (by omega) (by omega))
          rcases pt_n_some hq with ⟨_, hq⟩ | ⟨z, _⟩
          · rcases rf_opens (ext := ext) L D X (pt_adv_lt hc) ho (show nw < 119 by omega) hk9 s2 (b35.trans h35) b45 f2 hq with ⟨I3, h8, hc3, hq, r3, hG, bK⟩ | ⟨fq, I3, rfl, r3, g1, g2⟩
            · refine v (start 1 14 (Or.inl ⟨h2, rfl, rfl⟩) (w135_51 I L D X _ 1 14 ⟨_, I1, L, D, am_up r1 (by omega), fun _ => ⟨fun _ => ⟨hb26, fun _ => w135_96 I1 L D X 1 _ ⟨I2, L, D, am_up r2 (by omega), fun z => absurd z (by decide), fun _ => ⟨1, I3, L, D, am_up r3 (by omega), Or.inr rfl, rfl⟩⟩, fun z => absurd (e5.symm.trans z) n0⟩, fun z => absurd z n19'⟩, fun z => absurd ge z⟩)) (Or.inr rfl) (fun _ => ?_) (fun z => absurd z (by decide))
              exact rf_one L D X (by omega) h8 hnw hnh hk9 (IH h8) (hg h8) (hN h8) hE hc3 (Or.inr (Or.inr rfl)) (Or.inr (Or.inr (Or.inr ⟨rfl, hl, h2, rfl⟩))) (num := nI l) (fun _ => rfl) (by rw [bK 46 _ (by omega) (by omega)]; exact b46) hG hq hrun
            · exact v (start 1 14 (Or.inl ⟨h2, rfl, rfl⟩) (w135_51 I L D X _ 1 14 ⟨_, I1, L, D, am_up r1 (by omega), fun _ => ⟨fun _ => ⟨hb26, fun _ => w135_96 I1 L D X 1 _ ⟨I2, L, D, am_up r2 (by omega), fun z => absurd z (by decide), fun _ => ⟨0, I3, L, D, am_up r3 (by omega), Or.inl rfl, rfl⟩⟩, fun z => absurd (e5.symm.trans z) n0⟩, fun z => absurd z n19'⟩, fun z => absurd ge z⟩)) (Or.inl rfl) (fun z => absurd rfl z) (fun _ => hrun I3 g1 g2)
          · omega
        · rw [if_neg h2] at hq
          obtain ⟨I1, I2, r1, r2, s1, s2, f1, f2, b45, b46, b35, bo, btf⟩ := rf_gt (ext := ext) L D X hc hk9 hS 2 (nI l)
          have e5 := e51 (I1 := I1) (fun b => bo 51 b (by omega) (by omega))
          rcases pt_n_some hq with ⟨_, hq⟩ | ⟨z, _⟩
          · cases hq
            obtain ⟨I4, r4, ok4⟩ := rf_leaf (ext := ext) (e := e) (p := (kn, 2, l, e.2.2 l, 0, 0)) L D X rfl rfl (Or.inr (Or.inr (Or.inl ⟨rfl, hl, by show e.2.1 l = 1; omega, rfl⟩))) (show nh < 119 by omega) s2 f2 ⟨fun _ => ⟨b45, fun _ => b46⟩, fun z => absurd z (show ¬ 15 ≤ 2 by omega)⟩
            exact v (start 0 2 (Or.inr ⟨h2, rfl, rfl⟩) (w135_51 I L D X _ 0 2 ⟨_, I1, L, D, am_up r1 (by omega), fun _ => ⟨fun _ => ⟨hb26, fun _ => w135_96 I1 L D X 0 _ ⟨I2, L, D, am_up r2 (by omega), fun _ => ⟨I4, L, D, am_up r4 (by omega), rfl⟩, fun z => absurd rfl z⟩, fun z => absurd (e5.symm.trans z) n0⟩, fun z => absurd z n19'⟩, fun z => absurd ge z⟩)) (Or.inr rfl) (fun _ => hrun I4 ok4) (fun z => absurd z (by decide))
          · omega
    · have hq2 : q = .inl (2, pt_p (pt_tape f n) c) := by
        rw [if_neg (fun z => hk9 z.1)] at hq
        by_cases h2 : e.2.1 l = 2
        · rw [if_pos h2] at hq
          rcases pt_n_some hq with ⟨z, _⟩ | ⟨_, h⟩
          · omega
          · exact h
        · rw [if_neg h2] at hq
          rcases pt_n_some hq with ⟨z, _⟩ | ⟨_, h⟩
          · omega
          · exact h
      subst hq2
      by_cases h2 : e.2.1 l = 2
      · obtain ⟨I1, r1, g1, g2⟩ := (c126 (ext := ext) (d := 0) L D X hS hk 14 (nI l)).2 hk9
        exact v (start 1 14 (Or.inl ⟨h2, rfl, rfl⟩) (w135_51 I L D X _ 1 14 ⟨_, I1, L, D, am_up r1 (by omega), fun z => absurd z (by decide), fun _ => rfl⟩)) (Or.inl rfl) (fun z => absurd rfl z) (fun _ => hrun I1 g1 (g2 kn nw nh))
      · obtain ⟨I1, r1, g1, g2⟩ := (c126 (ext := ext) (d := 0) L D X hS hk 2 (nI l)).2 hk9
        exact v (start 0 2 (Or.inr ⟨h2, rfl, rfl⟩) (w135_51 I L D X _ 0 2 ⟨_, I1, L, D, am_up r1 (by omega), fun z => absurd z (by decide), fun _ => rfl⟩)) (Or.inl rfl) (fun z => absurd rfl z) (fun _ => hrun I1 g1 (g2 kn nw nh))
/-- a word -/
theorem rf_word (hd : 6 ≤ d) (ht : pt_tk (pt_tape f n)) (he : pt_en e) (hc : c < (pt_tape f n).2) (hk : kn ≤ 96) (ho : op ≤ 8) (hnw : nw ≤ kn + op) (hnh : nh ≤ kn) (hS : rf_S f n c kn op nw nh I) (h35 : I 42 35 = 1) (hE : rf_E e I) {j : Nat} (hj : j < 11) (h3 : pt_k (pt_tape f n) c = nI (4 + j)) (IH : op < 8 → rf_H ext d L D X f n e sum (op + 1)) (hg : op < 8 → rd_G (pt_tape f n) e sum (op + 1)) (hN : op < 8 → rf_N (pt_tape f n) sum (op + 1))
    (v : ∀ {x : Int32} {I' : Nat → Nat → Int32}, am_Rn ext 5 136 [.ref 42] (I, L, D, am_rf X) (some (.int x), (I', L, D, am_rf X)) → (x = 0 ∨ x = 1) → (¬ x = 0 → rf_go ext d L D X I' P) → (x = 0 → P (some (.int 0), (I', L, D, am_rf X))) → rf_go ext d L D X I P)
    (hq : (if j < 2 then pt_f (pt_tape f n) 1 c else if j < 4 then pt_one (pt_tape f n) sum (if j = 2 then 4 else 5) 0 0 c kn op else if j < 6 then pt_two (pt_tape f n) sum (if j = 4 then 10 else 11) c kn op else if j = 6 then pt_if (pt_tape f n) sum c kn op else pt_over (pt_tape f n) e (8 + j) c kn op) = some q) (hrun : rf_run ext d L D X f n 3 kn nw nh op I q P) : rf_go ext d L D X I P := by
  obtain ⟨t8, t9⟩ := rf_tw (rf_T_tok hS.1) hj h3
  by_cases hj2 : j < 2
  · rw [if_pos hj2] at hq
    cases hq
    obtain ⟨I3, r3, g1, g2⟩ := c118t (ext := ext) (d := 0) L D X hS 1
    refine v (am_rn_of mh_136 rfl (w136_0 I L D X ⟨fun z => absurd z ?_, fun _ => ⟨0, I3, L, D, am_up r3 (by omega), Or.inl rfl, rfl⟩⟩)) (Or.inl rfl) (fun z => absurd rfl z) (fun _ => hrun I3 g1 (g2 kn nw nh))
    rw [t9, show (2 : Int32) = nI 2 from rfl, ni_le (by omega) (by omega)]; omega
  · rw [if_neg hj2] at hq
    -- the knot's kind
    have start : ∀ {r0 : am_R} (kd : Int32), kd = (if j < 4 then nI (4 + j - 2) else if j < 6 then nI (10 + j - 4) else if j = 6 then 12 else 15) → am_wp ext 4 mz_136 (58, [some (.ref 42), some (.int (nI j)), none], [.int kd, .ref 42], (I, L, D, am_rf X)) (fun r => r = r0) → am_Rn ext 5 136 [.ref 42] (I, L, D, am_rf X) r0 := by
      intro r0 kd hkd w
      have l2 : (2 : Int32) ≤ I 42 9 := by rw [t9, show (2 : Int32) = nI 2 from rfl, ni_le (by omega) (by omega)]; omega
      have l7 : I 42 9 < 7 ↔ j < 7 := by rw [t9, show (7 : Int32) = nI 7 from rfl, ni_lt (by omega) (by omega)]
      have l6 : I 42 9 = 6 ↔ j = 6 := by rw [t9, show (6 : Int32) = nI 6 from rfl, ni_eq (by omega) (by omega)]
      have l4 : (4 : Int32) ≤ I 42 9 ↔ 4 ≤ j := by rw [t9, show (4 : Int32) = nI 4 from rfl, ni_le (by omega) (by omega)]
      refine am_rn_of mh_136 rfl (w136_0 I L D X ⟨fun _ => ⟨fun z7 => ⟨fun z6 => ⟨fun z4 => ?_, fun z4 => ?_⟩, fun z6 => ?_⟩, fun z7 => ?_⟩, fun z => absurd l2 z⟩)
      · have a7 := l7.mp z7
        have a6 : ¬ j = 6 := fun h => z6 (l6.mpr h)
        have a4 := l4.mp z4
        rw [if_neg (by omega), if_pos (by omega)] at hkd
        have e1 : 10 + I 42 9 - 4 = kd := by rw [hkd, t9, show (10 : Int32) = nI 10 from rfl, show (4 : Int32) = nI 4 from rfl, ni_add (by omega), ni_sub (by omega) (by omega)]
        rw [e1, t9]; exact w
      · have a4 : ¬ 4 ≤ j := fun h => z4 (l4.mpr h)
        rw [if_pos (by omega)] at hkd
        have e1 : 4 + I 42 9 - 2 = kd := by rw [hkd, t9, show (4 : Int32) = nI 4 from rfl, show (2 : Int32) = nI 2 from rfl, ni_add (by omega), ni_sub (by omega) (by omega)]
        rw [e1, t9]; exact w
      · have a6 := l6.mp z6
        rw [if_neg (by omega), if_neg (by omega), if_pos a6] at hkd
        rw [t9, ← hkd]; exact w
      · have a7 : ¬ j < 7 := fun h => z7 (l7.mpr h)
        rw [if_neg (by omega), if_neg (by omega), if_neg (by omega)] at hkd
        rw [t9, ← hkd]; exact w
    have full : q = .inl (2, pt_p (pt_tape f n) c) → ¬ kn < 96 → rf_go ext d L D X I P := by
      intro hqq hk9
      subst hqq
      obtain ⟨I1, r1, g1, g2⟩ := (c126 (ext := ext) (d := 0) L D X hS hk (if j < 4 then nI (4 + j - 2) else if j < 6 then nI (10 + j - 4) else if j = 6 then 12 else 15) (nI j - 7)).2 hk9
      exact v (start _ rfl (w136_58 I L D X _ _ ⟨_, I1, L, D, am_up r1 (by omega), fun z => absurd z (by decide), fun _ => rfl⟩)) (Or.inl rfl) (fun z => absurd rfl z) (fun _ => hrun I1 g1 (g2 kn nw nh))
    by_cases hk9 : kn < 96
    · have ge : (0 : Int32) ≤ nI (96 + kn) := by rw [show (0 : Int32) = nI 0 from rfl, ni_le (by omega) (by omega)]; omega
      obtain ⟨I1, I2, r1, r2, s1, s2, f1, f2, b45, b46, b35, bo, btf⟩ := rf_gt (ext := ext) L D X hc hk9 hS (if j < 4 then nI (4 + j - 2) else if j < 6 then nI (10 + j - 4) else if j = 6 then 12 else 15) (nI j - 7)
      have l7 : nI j < 7 ↔ j < 7 := by rw [show (7 : Int32) = nI 7 from rfl, ni_lt (by omega) (by omega)]
      have opn : ∀ {x : Int32} {I3 : Nat → Nat → Int32}, j < 7 → (x = 0 ∨ x = 1) → am_Rn ext 3 132 [.ref 42, .int (nI (96 + kn))] (I2, L, D, am_rf X) (some (.int x), (I3, L, D, am_rf X)) → am_Rn ext 5 136 [.ref 42] (I, L, D, am_rf X) (some (.int x), (I3, L, D, am_rf X)) := by
        intro x I3 h7 hx r3
        exact start _ rfl (w136_58 I L D X _ _ ⟨_, I1, L, D, am_up r1 (by omega), fun _ => ⟨I2, L, D, am_up r2 (by omega), fun _ => ⟨x, I3, L, D, am_up r3 (by omega), hx, rfl⟩, fun z => absurd (l7.mpr h7) z⟩, fun z => absurd ge z⟩)
      by_cases hj4 : j < 4
      · rw [if_pos hj4] at hq b45
        rcases pt_n_some hq with ⟨_, hq⟩ | ⟨z, _⟩
        · have ekd : (if j = 2 then 4 else 5) = 4 + j - 2 := by by_cases h : j = 2 <;> simp [h]; omega
          rw [ekd] at hq
          rcases rf_opens (ext := ext) L D X (pt_adv_lt hc) ho (show nw < 119 by omega) hk9 s2 (b35.trans h35) b45 f2 hq with ⟨I3, h8, hc3, hq, r3, hG, bK⟩ | ⟨fq, I3, rfl, r3, g1, g2⟩
          · refine v (opn (by omega) (Or.inr rfl) r3) (Or.inr rfl) (fun _ => ?_) (fun z => absurd z (by decide))
            refine rf_one L D X (by omega) h8 hnw hnh hk9 (IH h8) (hg h8) (hN h8) hE hc3 (kd := 4 + j - 2) (by omega) ?_ (num := I3 46 (96 + kn)) (fun z => by omega) rfl hG hq hrun
            have : 4 + j - 2 = 4 ∨ 4 + j - 2 = 5 := by omega
            rcases this with h | h <;> rw [h] <;> simp [tr_k1]
          · exact v (opn (by omega) (Or.inl rfl) r3) (Or.inl rfl) (fun z => absurd rfl z) (fun _ => hrun I3 g1 g2)
        · omega
      · rw [if_neg hj4] at hq b45
        by_cases hj6 : j < 6
        · rw [if_pos hj6] at hq b45
          rcases pt_n_some hq with ⟨_, hq⟩ | ⟨z, _⟩
          · have ekd : (if j = 4 then 10 else 11) = 10 + j - 4 := by by_cases h : j = 4 <;> simp [h]; omega
            rw [ekd] at hq
            rcases rf_opens (ext := ext) L D X (pt_adv_lt hc) ho (show nw < 119 by omega) hk9 s2 (b35.trans h35) b45 f2 hq with ⟨I3, h8, hc3, hq, r3, hG, bK⟩ | ⟨fq, I3, rfl, r3, g1, g2⟩
            · refine v (opn (by omega) (Or.inr rfl) r3) (Or.inr rfl) (fun _ => ?_) (fun z => absurd z (by decide))
              exact rf_two L D X (by omega) h8 hnw hnh hk9 (IH h8) (hg h8) (hN h8) hE hc3 (kd := 10 + j - 4) (by omega) hG hq hrun
            · exact v (opn (by omega) (Or.inl rfl) r3) (Or.inl rfl) (fun z => absurd rfl z) (fun _ => hrun I3 g1 g2)
          · omega
        · rw [if_neg hj6] at hq b45
          by_cases hj7 : j = 6
          · rw [if_pos hj7] at hq b45
            rcases pt_n_some hq with ⟨_, hq⟩ | ⟨z, _⟩
            · rcases rf_opens (ext := ext) L D X (pt_adv_lt hc) ho (show nw < 119 by omega) hk9 s2 (b35.trans h35) b45 f2 hq with ⟨I3, h8, hc3, hq, r3, hG, bK⟩ | ⟨fq, I3, rfl, r3, g1, g2⟩
              · refine v (opn (by omega) (Or.inr rfl) r3) (Or.inr rfl) (fun _ => ?_) (fun z => absurd z (by decide))
                exact rf_if L D X (by omega) h8 hnw hnh hk9 (IH h8) (hg h8) (hN h8) hE hc3 hG hq hrun
              · exact v (opn (by omega) (Or.inl rfl) r3) (Or.inl rfl) (fun z => absurd rfl z) (fun _ => hrun I3 g1 g2)
            · omega
          · rw [if_neg hj7] at hq b45
            rcases pt_n_some hq with ⟨_, hq⟩ | ⟨z, _⟩
            · have e46 : I2 46 (96 + kn) = nI (8 + j - 15) := by rw [b46, show (7 : Int32) = nI 7 from rfl, ni_sub (by omega) (by omega)]; congr 1; omega
              obtain ⟨x, I3, r3, hx, fin⟩ := c134 (ext := ext) L D X ht he (pt_adv_lt hc) ho hk9 (show nh < 119 by omega) s2 (rf_E_fr hE f2) f2 (kd := 8 + j) (by omega) b45 e46 hq
              obtain ⟨h1, h2⟩ := fin hrun
              exact v (start _ (by rw [if_neg hj4, if_neg hj6, if_neg hj7]) (w136_58 I L D X _ _ ⟨_, I1, L, D, by have := am_up (d' := 4) r1 (by omega); rwa [if_neg hj4, if_neg hj6, if_neg hj7] at this, fun _ => ⟨I2, L, D, am_up r2 (by omega), fun z => absurd (l7.mp z) (by omega), fun _ => ⟨x, I3, L, D, r3, hx, rfl⟩⟩, fun z => absurd ge z⟩)) hx h1 h2
            · omega
    · refine full ?_ hk9
      by_cases hj4 : j < 4
      · rw [if_pos hj4] at hq
        rcases pt_n_some hq with ⟨z, _⟩ | ⟨_, h⟩
        · omega
        · exact h
      · rw [if_neg hj4] at hq
        by_cases hj6 : j < 6
        · rw [if_pos hj6] at hq
          rcases pt_n_some hq with ⟨z, _⟩ | ⟨_, h⟩
          · omega
          · exact h
        · rw [if_neg hj6] at hq
          by_cases hj7 : j = 6
          · rw [if_pos hj7] at hq
            rcases pt_n_some hq with ⟨z, _⟩ | ⟨_, h⟩
            · omega
            · exact h
          · rw [if_neg hj7] at hq
            rcases pt_n_some hq with ⟨z, _⟩ | ⟨_, h⟩
            · omega
            · exact h
end WHOLE
