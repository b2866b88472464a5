/-! ===== the reference's reader: expressions, all together ===== -/
theorem pt_part_word {t : pt_K} {e : pt_E} {neg sum : Nat → Nat → Nat → pt_R} {c kn op : Nat} : ∀ j : Nat, j < 11 → pt_k t c = nI (4 + j) → pt_part t e neg sum c kn op = (if j < 2 then pt_f t 1 c else if j < 4 then pt_one t sum (if j = 2 then 4 else 5) 0 0 c kn op else if j < 6 then pt_two t sum (if j = 4 then 10 else 11) c kn op else if j = 6 then pt_if t sum c kn op else pt_over t e (8 + j) c kn op) := by
  intro j hj h
  have hj11 : j = 0 ∨ j = 1 ∨ j = 2 ∨ j = 3 ∨ j = 4 ∨ j = 5 ∨ j = 6 ∨ j = 7 ∨ j = 8 ∨ j = 9 ∨ j = 10 := by omega
  unfold pt_part
  rcases hj11 with rfl | rfl | rfl | rfl | rfl | rfl | rfl | rfl | rfl | rfl | rfl <;> rw [h] <;> rfl
section ALL
variable {ext : Nat → List Value → am_M → Option am_R} {d : Nat} (L : Nat → Nat → Int64) (D : Nat → Nat → UInt64) (X : am_Rf) {f : Nat → Int32} {n c kn op nw nh : Nat} {I : Nat → Nat → Int32} {e : pt_E} {q : pt_Q} {P : am_R → Prop} {sum neg : Nat → Nat → Nat → pt_R}
/-- a part -/
theorem rf_part (hd : 6 ≤ d) (ht : pt_tk (pt_tape f n)) (he : pt_en e) (hc : c < (pt_tape f n).2) (hk : kn ≤ 96) (ho : op ≤ 8) (hnw : nw ≤ kn + op) (hnh : nh ≤ kn) (hS : rf_S f n c kn op nw nh I) (h35 : I 42 35 = 1) (hE : rf_E e I) (IH : op < 8 → rf_H ext d L D X f n e sum (op + 1)) (hg : op < 8 → rd_G (pt_tape f n) e sum (op + 1)) (hN : op < 8 → rf_N (pt_tape f n) sum (op + 1)) (IH2 : rf_H2 ext d L D X f n e neg op) (hg2 : rd_G (pt_tape f n) e neg op)
    (hq : pt_part (pt_tape f n) e neg sum c kn op = some q) (hrun : rf_run ext d L D X f n 3 kn nw nh op I q P) : rf_go ext d L D X I P := by
  have r40 := c124 (ext := ext) (d := 0) L D X hS.1 (w := 40) (by decide)
  have r45 := c124 (ext := ext) (d := 0) L D X hS.1 (w := 45) (by decide)
  have tok := rf_T_tok hS.1
  by_cases h45 : pt_k (pt_tape f n) c = 45
  · rw [if_neg (by rw [h45]; decide)] at r40
    rw [if_pos h45] at r45
    unfold pt_part at hq
    rw [if_pos h45] at hq
    by_cases hk9 : kn < 96
    · have ge : (0 : Int32) ≤ nI (96 + kn) := by rw [show (0 : Int32) = nI 0 from rfl, ni_le (by omega) (by omega)]; omega
      obtain ⟨I1, _, r1, _, s1, _, f1, _, _, _, _, bo, _⟩ := rf_gt (ext := ext) L D X hc hk9 hS 3 0
      have b45 : I1 45 (96 + kn) = 3 := by
        have e1 := (c126 (ext := ext) (d := 0) L D X hS hk 3 0).1 hk9
        obtain ⟨n0, g0⟩ := r1
        obtain ⟨n1, g1⟩ := e1
        have a := g0 (n0 + n1) (by omega)
        have b := g1 (n0 + n1) (by omega)
        rw [a] at b
        have hb := congrArg (fun o : Option am_R => match o with | some r => r.2.1 45 (96 + kn) | none => 0) b
        simpa [am_uI_at] using hb
      have r2 := c131 (ext := ext) (d := 0) L D X s1.2.2.2.1 (by omega) 3 (nI (96 + kn))
      obtain ⟨s2, f2⟩ := rf_S_wait s1 3 (nI (96 + kn))
      obtain ⟨I3, r3, s3, f3⟩ := rf_S_take (ext := ext) (d := 0) L D X hc s2
      have x3 : ∀ a b, ¬ (a = 42 ∧ (b = 31 ∨ (7 ≤ b ∧ b ≤ 10))) → ¬ ((a = 55 ∨ a = 56 ∨ a = 57) ∧ b = nw) → I3 a b = I1 a b := by
        intro a b q1 q2
        rw [f3 a b (by omega)]
        simp only [am_uI_at]
        rw [if_neg (by omega), if_neg (by omega), if_neg (by omega), if_neg (by omega)]
      have y55 : I3 55 nw = 3 := by rw [f3 55 _ (by omega)]; simp [am_uI_at]
      have y56 : I3 56 nw = nI (96 + kn) := by rw [f3 56 _ (by omega)]; simp [am_uI_at]
      have y45 : I3 45 (96 + kn) = 3 := (x3 45 _ (by omega) (by omega)).trans b45
      have y35 : I3 42 35 = 1 := by rw [x3 42 35 (by omega) (by omega), bo 42 35 (by omega) (by omega)]; exact h35
      have f03 : rf_fr kn nw nh I I3 := rf_fr_t (rf_fr_t f1 f2 (by omega) (Nat.le_refl _) (Nat.le_refl _)) (rf_fr_tf f3) (Nat.le_refl _) (Nat.le_refl _) (Nat.le_refl _)
      refine rf_val L D X hd h35 (am_rn_of mh_137 rfl (w137_0 I L D X ⟨0, I, L, D, am_up r40 (by omega), fun _ => ⟨1, I, L, D, am_up r45 (by omega), fun z => absurd z (by decide), fun _ => ⟨_, I1, L, D, am_up r1 (by omega), fun _ => ⟨_, L, D, am_up r2 (by omega), I3, L, D, am_up r3 (by omega), rfl⟩, fun z => absurd ge z⟩⟩, fun z => absurd rfl z⟩)) (fun _ => ?_) (fun z => absurd z (by decide))
      rcases pt_n_some hq with ⟨_, hq⟩ | ⟨z, _⟩
      · have hc1 := pt_adv_lt hc
        have go := fun qq hqq hr => IH2 (pt_adv (pt_tape f n) c) (kn + 1) (nw + 1) nh I3 qq P hc1 (by omega) (by omega) (by omega) s3 y35 (rf_E_fr hE f03) hqq hr
        rcases pt_b_some hq with ⟨fq, hr, rfl⟩ | ⟨c2, k2, A, hr, hq⟩
        · exact go _ hr (fun I' h1 h2 => hrun I' h1 (rf_fr_t f03 h2 (by omega) (by omega) (Nat.le_refl _)))
        · cases hq
          obtain ⟨m1, m2, m3, m4⟩ := hg2 _ _ hc1 (by omega) _ _ _ hr
          refine go _ hr ?_
          intro I4 hok
          obtain ⟨f4, S4, i35, hC⟩ := hok
          refine hrun I4 ⟨rf_fr_t f03 f4 (by omega) (by omega) (Nat.le_refl _), S4, i35, ?_⟩
          refine rf_C_neg L D X m4 rfl rfl hk9 (by omega) (by omega) hC ?_ ?_ ?_
          · rw [f4 55 nw (rf_x_iff.mpr ⟨by omega, by omega, by omega, by omega⟩)]; exact y55
          · rw [f4 56 nw (rf_x_iff.mpr ⟨by omega, by omega, by omega, by omega⟩)]; exact y56
          · rw [f4 45 _ (rf_x_iff.mpr ⟨by omega, by omega, by omega, by omega⟩)]; exact y45
      · omega
    · rcases pt_n_some hq with ⟨z, _⟩ | ⟨_, rfl⟩
      · omega
      · obtain ⟨I1, r1, g1, g2⟩ := (c126 (ext := ext) (d := 0) L D X hS hk 3 0).2 hk9
        exact rf_val L D X hd h35 (am_rn_of mh_137 rfl (w137_0 I L D X ⟨0, I, L, D, am_up r40 (by omega), fun _ => ⟨1, I, L, D, am_up r45 (by omega), fun z => absurd z (by decide), fun _ => ⟨_, I1, L, D, am_up r1 (by omega), fun z => absurd z (by decide), fun _ => rfl⟩⟩, fun z => absurd rfl z⟩)) (fun z => absurd rfl z) (fun _ => hrun I1 g1 (g2 kn nw nh))
  · rw [if_neg h45] at r45
    by_cases h40 : pt_k (pt_tape f n) c = 40
    · rw [if_pos h40] at r40
      unfold pt_part at hq
      rw [if_neg h45, if_pos h40] at hq
      have co := c132 (ext := ext) (d := 0) L D X hc ho (show nw < 120 by omega) hS (-1)
      rcases pt_o_some hq with ⟨_, h8, hq⟩ | ⟨_, h8, rfl⟩ | ⟨z, _⟩
      · obtain ⟨I1, r1, s1, f1, b55, b56, b57, b35, bK⟩ := co.1 h40 h8
        refine rf_val L D X hd h35 (am_rn_of mh_137 rfl (w137_0 I L D X ⟨1, I, L, D, am_up r40 (by omega), fun z => absurd z (by decide), fun _ => ⟨1, I1, L, D, am_up r1 (by omega), Or.inr rfl, rfl⟩⟩)) (fun _ => ?_) (fun z => absurd z (by decide))
        have hc1 := pt_adv_lt hc
        have go := fun qq hqq hr => IH h8 (pt_adv (pt_tape f n) c) kn (nw + 1) nh I1 qq P hc1 hk (by omega) hnh s1 (b35.trans h35) (rf_E_fr hE f1) (Or.inr (by rw [show nw + 1 - 1 = nw by omega, b55]; decide)) hqq hr
        rcases pt_b_some hq with ⟨fq, hr, rfl⟩ | ⟨c2, k2, A, hr, hq⟩
        · exact go _ hr (fun I' h1 h2 => hrun I' h1 (rf_fr_t f1 h2 (Nat.le_refl _) (by omega) (Nat.le_refl _)))
        · obtain ⟨m1, m2, m3, m4⟩ := hg h8 _ _ hc1 hk _ _ _ hr
          refine go _ hr ?_
          intro I2 hok
          obtain ⟨f2, ⟨nw', nh', S2⟩, i35, hC⟩ := hok
          obtain ⟨J, SJ, j58, jrp, j57, ja, jw⟩ := rf_parts (ext := ext) (d := d) L D X (at_ := -1) (kq := -1) (s := 0) (by omega) (Nat.le_refl 1) (show nw < 119 by omega) (show nh < 119 by omega) S2 h8 i35 hC
            (by rw [f2 55 nw (rf_x_iff.mpr ⟨by omega, by omega, by omega, by omega⟩)]; exact b55)
            (by rw [f2 56 nw (rf_x_iff.mpr ⟨by omega, by omega, by omega, by omega⟩)]; exact b56)
            (by rw [f2 57 nw (rf_x_iff.mpr ⟨by omega, by omega, by omega, by omega⟩)]; exact b57)
            (hN h8 _ _ _ _ _ hr) (Or.inl ⟨rfl, rfl⟩)
          have fJ : rf_fr kn nw nh I J := by
            refine rf_fr_t (rf_fr_t f1 f2 (Nat.le_refl _) (by omega) (Nat.le_refl _)) (kn' := kn) (nw' := nw) (nh' := nh) ?_ (Nat.le_refl _) (Nat.le_refl _) (Nat.le_refl _)
            intro a b hab
            have h' := rf_x_iff.mp hab
            exact ja a b (by omega)
          have er : pa_right (pt_tape f n) c2 (-1) 0 = if pt_k (pt_tape f n) c2 = 41 then 1 else 0 := by
            unfold pa_right
            rw [if_neg (by decide), show (if pa_more (-1) 0 = 1 then (44 : Int32) else 41) = 41 from rfl]
          have route : ∀ {Q : am_R → Prop}, am_wp ext 3 mz_140 (168, [some (.ref 42), some (.int (nI nw)), some (.int (-1)), none, some (.int 0), none, some (.int 0), some (.int 0), none, none], [.int (if pt_k (pt_tape f n) c2 = 41 then 1 else 0)], (J, L, D, am_rf X)) Q → am_wp ext 3 mz_140 (33, [some (.ref 42), some (.int (nI nw)), some (.int (-1)), none, none, none, none, none, none, none], [.int (-1)], (J, L, D, am_rf X)) Q := by
            intro Q w
            refine c140_route (ext := ext) (d := 3) L D X (by omega) SJ.1 (ni_inb (by omega) (by omega)) (s := 0) (by rw [ni_nat (by omega)]; exact j57) ?_
            rw [er]
            exact w
          rcases pt_x_some hq with ⟨h41, hq⟩ | ⟨h41, rfl⟩
          · cases hq
            obtain ⟨I3, w, S3, b3⟩ := c140_close0 (ext := ext) (d := 3) L D X (by omega) m1 (show nw < 120 by omega) h8 SJ (s := 0)
            rw [if_pos h41] at route
            refine jw P 1 I3 (route w) (fun _ => ?_) (fun z => absurd z (by decide))
            refine hrun I3 ⟨?_, ⟨nw, nh + 1, S3⟩, ?_, ?_⟩
            · refine rf_fr_t fJ (kn' := kn) (nw' := nw) (nh' := nh) ?_ (Nat.le_refl _) (Nat.le_refl _) (Nat.le_refl _)
              intro a b hab
              have h' := rf_x_iff.mp hab
              exact b3 a b (by omega) (by omega)
            · rw [b3 42 35 (by omega) (by omega), ja 42 35 (by omega)]; exact i35
            · refine rf_C_0 L D X m4 S3.2.2.2.1 S3.2.2.2.2.1 ?_ (rf_rp_of A _ m4 jrp (fun a i q1 q2 q3 q4 => b3 a i (by omega) (by omega)))
              rw [b3 58 nh (by omega) (by omega)]; exact j58
          · rw [if_neg h41] at route
            obtain ⟨I3, w, g1, g2⟩ := c140_wrong (ext := ext) (d := 3) L D X (by omega) SJ (v1 := nI nw) (v2 := -1) (v4 := 0) (v6 := 0) (v7 := 0)
            exact jw P 0 I3 (route w) (fun z => absurd rfl z) (fun _ => hrun I3 g1 (rf_fr_t fJ (g2 kn nw nh) (Nat.le_refl _) (Nat.le_refl _) (Nat.le_refl _)))
      · obtain ⟨I1, r1, g1, g2⟩ := co.2 2 (Or.inl ⟨rfl, h40, h8⟩)
        exact rf_val L D X hd h35 (am_rn_of mh_137 rfl (w137_0 I L D X ⟨1, I, L, D, am_up r40 (by omega), fun z => absurd z (by decide), fun _ => ⟨0, I1, L, D, am_up r1 (by omega), Or.inl rfl, rfl⟩⟩)) (fun z => absurd rfl z) (fun _ => hrun I1 g1 (g2 kn nw nh))
      · exact absurd h40 z
    · rw [if_neg h40] at r40
      have v : ∀ {x : Int32} {I' : Nat → Nat → Int32}, am_wp ext 5 mz_137 (0, [some (.ref 42), none], [], (I, L, D, am_rf X)) (fun r => r = (some (.int x), (I', L, D, am_rf X))) → (¬ x = 0 → rf_go ext d L D X I' P) → (x = 0 → P (some (.int 0), (I', L, D, am_rf X))) → rf_go ext d L D X I P := fun w h1 h0 => rf_val L D X hd h35 (am_rn_of mh_137 rfl w) h1 h0
      by_cases h2 : pt_k (pt_tape f n) c = 2
      · obtain ⟨t8, t9⟩ := rf_t2 tok h2
        have hv := (ht.2.2 _ hc).2 h2
        unfold pt_part at hq
        rw [if_neg h45, if_neg h40, if_pos h2] at hq
        have e9 : I 42 9 ≤ 999 ↔ (pt_v (pt_tape f n) c).toInt ≤ 999 := by
          rw [Int32.le_iff_toInt_le, show (999 : Int32).toInt = 999 from rfl]
          rcases t9 with t9 | t9
          · rw [t9]
          · omega
        by_cases h9 : (pt_v (pt_tape f n) c).toInt ≤ 999
        · rw [if_pos h9] at hq
          have t9' : I 42 9 = nI (pt_v (pt_tape f n) c).toNatClampNeg := by
            have := t9.resolve_right (fun z => by omega)
            rw [this, ← Int32.toInt_inj, nI_toInt (by have := pt_clamp hv.1; omega)]
            exact (pt_clamp hv.1).symm
          rcases pt_n_some hq with ⟨hk9, hq⟩ | ⟨hk9, rfl⟩
          · cases hq
            have ge : (0 : Int32) ≤ nI (96 + kn) := by rw [show (0 : Int32) = nI 0 from rfl, ni_le (by omega) (by omega)]; omega
            obtain ⟨I1, I2, r1, r2, s1, s2, f1, f2, b45, b46, b35, bo, btf⟩ := rf_gt (ext := ext) L D X hc hk9 hS 0 (I 42 9)
            obtain ⟨I4, r4, ok4⟩ := rf_leaf (ext := ext) (e := e) (p := (kn, 0, (pt_v (pt_tape f n) c).toNatClampNeg, 0, 0, 0)) L D X rfl rfl (Or.inl ⟨rfl, by have := pt_clamp hv.1; show (pt_v (pt_tape f n) c).toNatClampNeg ≤ 999; omega⟩) (show nh < 119 by omega) s2 f2 ⟨fun _ => ⟨b45, fun _ => b46.trans t9'⟩, fun z => absurd z (show ¬ 15 ≤ 0 by omega)⟩
            exact v (w137_0 I L D X ⟨0, I, L, D, am_up r40 (by omega), fun _ => ⟨0, I, L, D, am_up r45 (by omega), fun _ => ⟨fun _ => ⟨fun _ => ⟨fun _ => ⟨fun _ => ⟨_, I1, L, D, am_up r1 (by omega), fun _ => ⟨I2, L, D, am_up r2 (by omega), I4, L, D, am_up r4 (by omega), rfl⟩, fun z => absurd ge z⟩, fun z => absurd (e9.mpr h9) z⟩, fun z => absurd t8 z⟩, fun z => absurd (t8.symm.trans z) (by decide)⟩, fun z => absurd (t8.symm.trans z) (by decide)⟩, fun z => absurd rfl z⟩, fun z => absurd rfl z⟩) (fun _ => hrun I4 ok4) (fun z => absurd z (by decide))
          · obtain ⟨I1, r1, g1, g2⟩ := (c126 (ext := ext) (d := 0) L D X hS hk 0 (I 42 9)).2 hk9
            exact v (w137_0 I L D X ⟨0, I, L, D, am_up r40 (by omega), fun _ => ⟨0, I, L, D, am_up r45 (by omega), fun _ => ⟨fun _ => ⟨fun _ => ⟨fun _ => ⟨fun _ => ⟨_, I1, L, D, am_up r1 (by omega), fun z => absurd z (by decide), fun _ => rfl⟩, fun z => absurd (e9.mpr h9) z⟩, fun z => absurd t8 z⟩, fun z => absurd (t8.symm.trans z) (by decide)⟩, fun z => absurd (t8.symm.trans z) (by decide)⟩, fun z => absurd rfl z⟩, fun z => absurd rfl z⟩) (fun z => absurd rfl z) (fun _ => hrun I1 g1 (g2 kn nw nh))
        · rw [if_neg h9] at hq
          cases hq
          obtain ⟨I1, r1, g1, g2⟩ := c118t (ext := ext) (d := 0) L D X hS 2
          exact v (w137_0 I L D X ⟨0, I, L, D, am_up r40 (by omega), fun _ => ⟨0, I, L, D, am_up r45 (by omega), fun _ => ⟨fun _ => ⟨fun _ => ⟨fun _ => ⟨fun z => absurd (e9.mp z) h9, fun _ => ⟨0, I1, L, D, am_up r1 (by omega), Or.inl rfl, rfl⟩⟩, fun z => absurd t8 z⟩, fun z => absurd (t8.symm.trans z) (by decide)⟩, fun z => absurd (t8.symm.trans z) (by decide)⟩, fun z => absurd rfl z⟩, fun z => absurd rfl z⟩) (fun z => absurd rfl z) (fun _ => hrun I1 g1 (g2 kn nw nh))
      · by_cases h3 : pt_k (pt_tape f n) c = 3
        · obtain ⟨t8, t9⟩ := rf_t3 tok h3
          unfold pt_part at hq
          rw [if_neg h45, if_neg h40, if_neg h2, if_pos h3] at hq
          refine rf_letter L D X hd ht he hc hk ho hnw hnh hS h35 hE h3 IH hg hN (fun {x I'} r hx h1 h0 => ?_) hq hrun
          exact v (w137_0 I L D X ⟨0, I, L, D, am_up r40 (by omega), fun _ => ⟨0, I, L, D, am_up r45 (by omega), fun _ => ⟨fun z => absurd t8 z, fun _ => ⟨x, I', L, D, r, hx, rfl⟩⟩, fun z => absurd rfl z⟩, fun z => absurd rfl z⟩) h1 h0
        · by_cases hw : ∃ j : Nat, j < 11 ∧ pt_k (pt_tape f n) c = nI (4 + j)
          · obtain ⟨j, hj, hkj⟩ := hw
            obtain ⟨t8, t9⟩ := rf_tw tok hj hkj
            rw [pt_part_word j hj hkj] at hq
            refine rf_word L D X hd ht he hc hk ho hnw hnh hS h35 hE hj hkj IH hg hN (fun {x I'} r hx h1 h0 => ?_) hq hrun
            exact v (w137_0 I L D X ⟨0, I, L, D, am_up r40 (by omega), fun _ => ⟨0, I, L, D, am_up r45 (by omega), fun _ => ⟨fun _ => ⟨fun z => absurd t8 z, fun _ => ⟨x, I', L, D, r, hx, rfl⟩⟩, fun z => absurd (t8.symm.trans z) (by decide)⟩, fun z => absurd rfl z⟩, fun z => absurd rfl z⟩) h1 h0
          · have hw' : ∀ j : Nat, j < 11 → ¬ pt_k (pt_tape f n) c = nI (4 + j) := fun j hj z => hw ⟨j, hj, z⟩
            obtain ⟨n1, n2, n3⟩ := rf_te tok h2 h3 hw'
            unfold pt_part at hq
            rw [if_neg h45, if_neg h40, if_neg h2, if_neg h3, if_neg (fun z => z.elim (hw' 2 (by omega)) (hw' 3 (by omega))), if_neg (fun z => z.elim (hw' 4 (by omega)) (hw' 5 (by omega))), if_neg (show ¬ pt_k (pt_tape f n) c = 10 from hw' 6 (by omega)), if_neg (fun z => z.elim (hw' 7 (by omega)) (fun z => z.elim (hw' 8 (by omega)) (fun z => z.elim (hw' 9 (by omega)) (hw' 10 (by omega)))))] at hq
            cases hq
            obtain ⟨I1, r1, g1, g2⟩ := c118t (ext := ext) (d := 0) L D X hS 1
            exact v (w137_0 I L D X ⟨0, I, L, D, am_up r40 (by omega), fun _ => ⟨0, I, L, D, am_up r45 (by omega), fun _ => ⟨fun _ => ⟨fun _ => ⟨fun z => absurd z n3, fun _ => ⟨0, I1, L, D, am_up r1 (by omega), Or.inl rfl, rfl⟩⟩, fun z => absurd z n1⟩, fun z => absurd z n2⟩, fun z => absurd rfl z⟩, fun z => absurd rfl z⟩) (fun z => absurd rfl z) (fun _ => hrun I1 g1 (g2 kn nw nh))
end ALL
