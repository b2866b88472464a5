/-! ===== the class's reader: numbers, t, letters ===== -/
section READ
variable {ext : Nat → List Value → am_M → Option am_R} {d : Nat} (L : Nat → Nat → Int64) (D : Nat → Nat → UInt64) (xt xs xp xu xc : Nat) {t : pt_K} {e : pt_E} {nl : Nat} {sum : Nat → Nat → Nat → pt_R} {c kn op s : Nat} {I : Nat → Nat → Int32} {q : pt_Q}
/-- add, whatever room there is -/
theorem c36_g (o a : Int32) (h : rd_S t c kn op s I) (hs : s ≤ 288) : ∃ y I' s', am_Rn ext (d + 2) 36 [.ref 11, .int o, .int a] (I, L, D, am_rf (xt, xs, 11, xp, xu, xc)) (some (.int y), (I', L, D, am_rf (xt, xs, 11, xp, xu, xc))) ∧ rd_S t c kn op s' I' ∧ rd_fr s I I' ∧ s ≤ s' ∧ s' ≤ 288 := by
  by_cases h8 : s < 288
  · obtain ⟨s5, f5⟩ := rd_S_add h o a 0 0
    exact ⟨_, _, s + 1, c36 L D (xt, xs, 11, xp, xu, xc) o a (rd_S_c (I' := I) h).2.2.2.2 h8, s5, f5, by omega, by omega⟩
  · have e : s = 288 := by omega
    subst e
    have h7 := (rd_S_c (I' := I) h).2.2.2.2
    have r : am_Rn ext (d + 1) 37 [.ref 11, .int o, .int a, .int 0, .int 0] (I, L, D, am_rf (xt, xs, 11, xp, xu, xc)) (some (.int (I 11 8)), (I, L, D, am_rf (xt, xs, 11, xp, xu, xc))) := by
      refine am_rn_of mh_37 rfl (w37_0_11 I L D (xt, xs, 11, xp, xu, xc) o a 0 0 ⟨fun _ => rfl, fun z => absurd ?_ z⟩)
      rw [h7]
      decide
    exact ⟨_, I, 288, am_rn_of mh_36 rfl (w36_0_11 I L D (xt, xs, 11, xp, xu, xc) o a ⟨_, _, _, _, r, rfl⟩), h, rd_fr_0 _ _, by omega, by omega⟩
/-- a leaf's code ahead of its knot -/
theorem rd_0b {p : tr_P} {I2 : Nat → Nat → Int32} {c' kn' : Nat} (hS : rd_S t c kn op s I) (hS2 : rd_S t c' kn' op (s + 1) I2) (hf : rd_fr (s + 1) (am_uI (am_uI (am_uI (am_uI (am_uI I 16 s (tr_op p)) 17 s (tr_ar p)) 18 s 0) 19 s 0) 11 8 (nI (s + 1))) I2) (h1 : p.2.2.2.2.1 = 0) (h2 : p.2.2.2.2.2 = 0) :
    rd_R t op s I (.inr (c', kn', .leaf p)) 1 I2 := by
  obtain ⟨s5, f5⟩ := rd_S_add hS (tr_op p) (tr_ar p) 0 0
  refine ⟨rd_fr_t f5 hf (by omega), rfl, hS2, ?_⟩
  refine ⟨?_, ?_, ?_, ?_⟩
  · rw [hf 16 s (rd_x_no (by omega) (by omega))]; simp [am_uI_at]
  · rw [hf 17 s (rd_x_no (by omega) (by omega))]; simp [am_uI_at]
  · rw [hf 18 s (rd_x_no (by omega) (by omega))]; simp [am_uI_at, h1]
  · rw [hf 19 s (rd_x_no (by omega) (by omega))]; simp [am_uI_at, h2]
/-- constant -/
theorem c49 (hd : 3 ≤ d) (ht : pt_tk t) (hc : c < t.2) (hk : kn ≤ 96) (hs : s ≤ 3 * kn) (hS : rd_S t c kn op s I) (h2 : pt_k t c = 2) (hq : (if (pt_v t c).toInt ≤ 999 then pt_n t c kn fun c1 => pt_r c1 (kn + 1) (.leaf (kn, 0, (pt_v t c).toNatClampNeg, 0, 0, 0)) else pt_f t 2 c) = some q) :
    ∃ x I', am_Rn ext (d + 1) 49 [.ref 20] (I, L, D, am_rf (xt, xs, 11, xp, xu, xc)) (some (.int x), (I', L, D, am_rf (xt, xs, 11, xp, xu, xc))) ∧ rd_R t op s I q x I' := by
  have ht2 := ht.2.1
  obtain ⟨g1, g2, g3, g4, g5⟩ := rd_S_c (I' := I) hS
  have e9 : I 20 4 ≤ 999 ↔ (pt_v t c).toInt ≤ 999 := by rw [g2, Int32.le_iff_toInt_le]; rfl
  have hv := (ht.2.2 _ hc).2 h2
  by_cases h9 : (pt_v t c).toInt ≤ 999
  · rw [if_pos h9] at hq
    rcases pt_n_some hq with ⟨hk9, hq⟩ | ⟨hk9, rfl⟩
    · cases hq
      have r1 := c36 (ext := ext) (d := 0) L D (xt, xs, 11, xp, xu, xc) 0 (I 20 4) g5 (by omega)
      obtain ⟨s5, f5⟩ := rd_S_add hS 0 (I 20 4) 0 0
      obtain ⟨I2, r2, s2, f2⟩ := (c48 (ext := ext) (d := 0) L D xt xs xp xu xc ht2 hc (by omega) hk s5).1 hk9
      refine ⟨1, I2, am_rn_of mh_49 rfl (w49_0 I L D xc xp xs xt xu ⟨fun _ => ⟨_, _, L, D, am_up r1 (by omega), 1, I2, L, D, am_up r2 (by omega), Or.inr rfl, rfl⟩, fun z => absurd (e9.mpr h9) z⟩), rd_0b hS s2 ?_ rfl rfl⟩
      have ea : tr_ar (kn, 0, (pt_v t c).toNatClampNeg, 0, 0, 0) = I 20 4 := by
        simp only [tr_ar, if_true]
        rw [g2, ← Int32.toInt_inj, nI_toInt (by have := pt_clamp hv.1; omega)]
        exact pt_clamp hv.1
      rw [ea]
      exact f2
    · obtain ⟨y, I1, s1, r1, S1, f1, h5, h6⟩ := c36_g (ext := ext) (d := 0) L D xt xs xp xu xc 0 (I 20 4) hS (by omega)
      obtain ⟨I2, r2, q2⟩ := (c48 (ext := ext) (d := 0) L D xt xs xp xu xc ht2 hc (by omega) hk S1).2 hk9
      exact ⟨0, I2, am_rn_of mh_49 rfl (w49_0 I L D xc xp xs xt xu ⟨fun _ => ⟨_, _, L, D, am_up r1 (by omega), 0, I2, L, D, am_up r2 (by omega), Or.inl rfl, rfl⟩, fun z => absurd (e9.mpr h9) z⟩), rd_R_f f1 h5 (q2 op)⟩
  · rw [if_neg h9] at hq
    cases hq
    obtain ⟨I1, r1, q1⟩ := c42 (ext := ext) (d := 0) L D xt xs xp xu xc ht2 hc (by omega) hS 2 (by omega)
    exact ⟨0, I1, am_rn_of mh_49 rfl (w49_0 I L D xc xp xs xt xu ⟨fun z => absurd (e9.mp z) h9, fun _ => ⟨0, I1, L, D, am_up r1 (by omega), Or.inl rfl, rfl⟩⟩), q1 op⟩
/-- variable -/
theorem c50 (hd : 3 ≤ d) (ht : pt_tk t) (hc : c < t.2) (hk : kn ≤ 96) (hs : s ≤ 3 * kn) (hS : rd_S t c kn op s I) (hE : rd_E e nl I) (hq : (if kn < 96 ∧ e.1 = false then pt_f t 3 c else pt_n t c kn fun c1 => pt_r c1 (kn + 1) (.leaf (kn, 1, 0, 0, 0, 0))) = some q) :
    ∃ x I', am_Rn ext (d + 1) 50 [.ref 20] (I, L, D, am_rf (xt, xs, 11, xp, xu, xc)) (some (.int x), (I', L, D, am_rf (xt, xs, 11, xp, xu, xc))) ∧ rd_R t op s I q x I' := by
  have ht2 := ht.2.1
  obtain ⟨g1, g2, g3, g4, g5⟩ := rd_S_c (I' := I) hS
  have e9 : 96 ≤ I 11 12 ↔ 96 ≤ kn := by rw [g4, show (96 : Int32) = nI 96 from rfl, ni_le (by omega) (by omega)]
  by_cases h9 : kn < 96
  · cases hf : e.1 with
    | false =>
      rw [if_pos ⟨h9, hf⟩] at hq
      cases hq
      obtain ⟨I1, r1, q1⟩ := c42 (ext := ext) (d := 0) L D xt xs xp xu xc ht2 hc (by omega) hS 3 (by omega)
      refine ⟨0, I1, am_rn_of mh_50 rfl (w50_0 I L D xc xp xs xt xu ⟨fun z => absurd (e9.mp z) (by omega), fun _ => ⟨fun z => absurd ?_ z, fun _ => ⟨0, I1, L, D, am_up r1 (by omega), Or.inl rfl, rfl⟩⟩⟩), q1 op⟩
      rw [hE.1, hf]
      rfl
    | true =>
      rw [if_neg (by rw [hf]; simp)] at hq
      rcases pt_n_some hq with ⟨hk9, hq⟩ | ⟨hk9, rfl⟩
      · cases hq
        have r1 := c36 (ext := ext) (d := 0) L D (xt, xs, 11, xp, xu, xc) 1 0 g5 (by omega)
        obtain ⟨s5, f5⟩ := rd_S_add hS 1 0 0 0
        obtain ⟨I2, r2, s2, f2⟩ := (c48 (ext := ext) (d := 0) L D xt xs xp xu xc ht2 hc (by omega) hk s5).1 hk9
        refine ⟨1, I2, am_rn_of mh_50 rfl (w50_0 I L D xc xp xs xt xu ⟨fun z => absurd (e9.mp z) (by omega), fun _ => ⟨fun _ => ⟨_, _, L, D, am_up r1 (by omega), 1, I2, L, D, am_up r2 (by omega), Or.inr rfl, rfl⟩, fun z => absurd z ?_⟩⟩), rd_0b (p := (kn, 1, 0, 0, 0, 0)) hS s2 f2 rfl rfl⟩
        rw [hE.1, hf]
        decide
      · omega
  · rw [if_neg (fun z => h9 z.1)] at hq
    rcases pt_n_some hq with ⟨hk9, hq⟩ | ⟨hk9, rfl⟩
    · omega
    · obtain ⟨y, I1, s1, r1, S1, f1, h5, h6⟩ := c36_g (ext := ext) (d := 0) L D xt xs xp xu xc 1 0 hS (by omega)
      obtain ⟨I2, r2, q2⟩ := (c48 (ext := ext) (d := 0) L D xt xs xp xu xc ht2 hc (by omega) hk S1).2 hk9
      exact ⟨0, I2, am_rn_of mh_50 rfl (w50_0 I L D xc xp xs xt xu ⟨fun _ => ⟨_, _, L, D, am_up r1 (by omega), 0, I2, L, D, am_up r2 (by omega), Or.inl rfl, rfl⟩, fun z => absurd (e9.mpr (by omega)) z⟩), rd_R_f f1 h5 (q2 op)⟩
/-- letter -/
theorem c51 (hd : 3 ≤ d) (ht : pt_tk t) (he : pt_en e) (hc : c < t.2) (hk : kn ≤ 96) (ho : op ≤ 8) (hs : s ≤ 3 * kn) (hS : rd_S t c kn op s I) (hE : rd_E e nl I) (h3 : pt_k t c = 3)
    (IH : op < 8 → rd_H ext d L D xt xs xp xu xc t e nl 44 [.ref 20, .int 0] sum (op + 1)) (hg : op < 8 → rd_G t e sum (op + 1))
    (hq : (if kn < 96 ∧ e.2.1 (pt_v t c).toNatClampNeg = 0 then pt_f t 3 c else if e.2.1 (pt_v t c).toNatClampNeg = 2 then pt_one t sum 14 (pt_v t c).toNatClampNeg (e.2.2 (pt_v t c).toNatClampNeg) c kn op else pt_n t c kn fun c1 => pt_r c1 (kn + 1) (.leaf (kn, 2, (pt_v t c).toNatClampNeg, e.2.2 (pt_v t c).toNatClampNeg, 0, 0))) = some q) :
    ∃ x I', am_Rn ext (d + 1) 51 [.ref 20] (I, L, D, am_rf (xt, xs, 11, xp, xu, xc)) (some (.int x), (I', L, D, am_rf (xt, xs, 11, xp, xu, xc))) ∧ rd_R t op s I q x I' := by
  have ht2 := ht.2.1
  obtain ⟨g1, g2, g3, g4, g5⟩ := rd_S_c (I' := I) hS
  have e9 : 96 ≤ I 11 12 ↔ 96 ≤ kn := by rw [g4, show (96 : Int32) = nI 96 from rfl, ni_le (by omega) (by omega)]
  have hl0 := (ht.2.2 _ hc).1 h3
  have hlc := pt_clamp hl0.1
  have hl : (pt_v t c).toNatClampNeg < 26 := by omega
  have hvl : pt_v t c = nI (pt_v t c).toNatClampNeg := by
    rw [← Int32.toInt_inj, nI_toInt (by omega)]
    omega
  generalize (pt_v t c).toNatClampNeg = l at *
  have rl := c32 (ext := ext) (d := 0) L D xt xs xp xu xc hE hl
  rw [← hvl, ← g2] at rl
  by_cases h0 : e.2.1 l = 0
  · rw [if_pos h0] at rl
    by_cases h9 : kn < 96
    · rw [if_pos ⟨h9, h0⟩] at hq
      cases hq
      obtain ⟨I1, r1, q1⟩ := c42 (ext := ext) (d := 0) L D xt xs xp xu xc ht2 hc (by omega) hS 3 (by omega)
      exact ⟨0, I1, am_rn_of mh_51 rfl (w51_0 I L D xc xp xs xt xu ⟨-1, I, L, D, am_up rl (by omega), fun z => absurd (e9.mp z) (by omega), fun _ => ⟨fun z => absurd z (by decide), fun _ => ⟨0, I1, L, D, am_up r1 (by omega), Or.inl rfl, rfl⟩⟩⟩), q1 op⟩
    · rw [if_neg (fun z => h9 z.1), if_neg (by omega)] at hq
      rcases pt_n_some hq with ⟨hk9, hq⟩ | ⟨hk9, rfl⟩
      · omega
      · obtain ⟨I1, r1, q1⟩ := (c48 (ext := ext) (d := 0) L D xt xs xp xu xc ht2 hc (by omega) hk hS).2 hk9
        have r2 := c33 (ext := ext) (d := 0) L D xt xs xp xu xc (rd_E_fr hE (q1 op).1) hl
        rw [if_pos h0, if_neg (by omega)] at r2
        obtain ⟨y, I3, r3, q3⟩ := c36_f (ext := ext) (d := 0) L D xt xs xp xu xc 2 (-1) (q1 op)
        exact ⟨0, I3, am_rn_of mh_51 rfl (w51_0 I L D xc xp xs xt xu ⟨-1, I, L, D, am_up rl (by omega), fun _ => w51_34 I L D xc xp xs xt xu (-1) ⟨0, I1, L, D, am_up r1 (by omega), 0, I1, L, D, am_up r2 (by omega), fun _ => ⟨y, I3, L, D, am_up r3 (by omega), Or.inl rfl, rfl⟩, fun z => absurd rfl z⟩, fun z => absurd (e9.mpr (by omega)) z⟩), q3 op⟩
  · rw [if_neg h0] at rl
    rw [if_neg (fun z => h0 z.2)] at hq
    have hln := ((hE.2.2.2 l hl).2 h0).1
    have hnl := hE.2.2.1
    have go : ∀ {r0 : am_R}, am_wp ext d mz_51 (34, [some (.ref 20), some (.int (nI (e.2.2 l))), none], [], (I, L, D, am_rf (xt, xs, 11, xp, xu, xc))) (fun r => r = r0) → am_Rn ext (d + 1) 51 [.ref 20] (I, L, D, am_rf (xt, xs, 11, xp, xu, xc)) r0 := by
      intro r0 w
      refine am_rn_of mh_51 rfl (w51_0 I L D xc xp xs xt xu ⟨_, I, L, D, am_up rl (by omega), fun _ => w, fun _ => ⟨fun _ => w, fun z => absurd ?_ z⟩⟩)
      rw [show (0 : Int32) = nI 0 from rfl, ni_le (by omega) (by omega)]
      omega
    by_cases h2 : e.2.1 l = 2
    · rw [if_pos h2] at hq
      have ha : tr_ar (kn, 14, l, e.2.2 l, 0, 0) = nI (e.2.2 l) := by simp [tr_ar]
      have hop : tr_op (kn, 14, l, e.2.2 l, 0, 0) = 3 := rfl
      have isf : ∀ {I1 : Nat → Nat → Int32}, rd_fr s I I1 → am_Rn ext 1 33 [.ref 11, .int (nI (e.2.2 l))] (I1, L, D, am_rf (xt, xs, 11, xp, xu, xc)) (some (.int 1), (I1, L, D, am_rf (xt, xs, 11, xp, xu, xc))) := by
        intro I1 hf
        have := c33 (ext := ext) (d := 0) L D xt xs xp xu xc (rd_E_fr hE hf) hl
        rw [if_neg h0, if_pos h2] at this
        exact this
      rcases pt_n_some hq with ⟨hk9, hq⟩ | ⟨hk9, rfl⟩
      · obtain ⟨I1, r1, s1, f1⟩ := (c48 (ext := ext) (d := 0) L D xt xs xp xu xc ht2 hc (by omega) hk hS).1 hk9
        have hc1 := pt_adv_lt hc
        have r1b := isf f1
        rcases pt_o_some hq with ⟨h40, h8, hq⟩ | ⟨h40, h8, rfl⟩ | ⟨h40, rfl⟩
        · obtain ⟨I2, r2, s2, f2⟩ := (c57 (ext := ext) (d := 0) L D xt xs xp xu xc ht2 hc1 (by omega) ho s1).1 h40 h8
          have hc2 := pt_adv_lt hc1
          have f12 := rd_fr_t f1 f2 (Nat.le_refl _)
          rcases pt_b_some hq with ⟨f, hr, rfl⟩ | ⟨c3, k3, A, hr, hq2⟩
          · obtain ⟨x3, I3, r3, q3⟩ := IH h8 _ _ s I2 _ hc2 (by omega) (by omega) s2 (rd_E_fr hE f12) hr
            obtain ⟨y, I4, r4, q4⟩ := c36_f (ext := ext) (d := 0) L D xt xs xp xu xc 3 (nI (e.2.2 l)) (rd_R_f (op := op) f12 (Nat.le_refl _) q3)
            obtain rfl := q3.2.1
            exact ⟨0, I4, go (w51_34 I L D xc xp xs xt xu _ ⟨1, I1, L, D, am_up r1 (by omega), 1, I1, L, D, am_up r1b (by omega), fun z => absurd z (by decide), fun _ => ⟨fun z => absurd z (by decide), fun _ => ⟨1, I2, L, D, am_up r2 (by omega), fun z => absurd z (by decide), fun _ => ⟨0, I3, L, D, r3, fun _ => ⟨y, I4, L, D, am_up r4 (by omega), rfl⟩, fun z => absurd rfl z⟩⟩⟩⟩), q4 op⟩
          · obtain ⟨x3, I3, r3, q3⟩ := IH h8 _ _ s I2 _ hc2 (by omega) (by omega) s2 (rd_E_fr hE f12) hr
            obtain ⟨j1, j2, j3, j4⟩ := hg h8 _ _ hc2 (by omega) _ _ _ hr
            have hz := tr_cz_le e A _ j4
            obtain ⟨f3, rfl, s3, k3'⟩ := rd_R_r q3
            have f123 := rd_fr_t f12 f3 (Nat.le_refl _)
            rcases pt_x_some hq2 with ⟨h41, hq2⟩ | ⟨h41, rfl⟩
            · cases hq2
              obtain ⟨I4, r4, s4, f4⟩ := (c58 (ext := ext) (d := 0) L D xt xs xp xu xc ht2 j1 (by omega) h8 s3).1 h41
              have r5 := c36 (ext := ext) (d := 0) L D (xt, xs, 11, xp, xu, xc) 3 (nI (e.2.2 l)) (s := s + tr_cz A) (rd_S_c (I' := I) s4).2.2.2.2 (by omega)
              exact ⟨1, _, go (w51_34 I L D xc xp xs xt xu _ ⟨1, I1, L, D, am_up r1 (by omega), 1, I1, L, D, am_up r1b (by omega), fun z => absurd z (by decide), fun _ => ⟨fun z => absurd z (by decide), fun _ => ⟨1, I2, L, D, am_up r2 (by omega), fun z => absurd z (by decide), fun _ => ⟨1, I3, L, D, r3, fun z => absurd z (by decide), fun _ => ⟨1, I4, L, D, am_up r4 (by omega), fun z => absurd z (by decide), fun _ => ⟨_, _, L, D, am_up r5 (by omega), rfl⟩⟩⟩⟩⟩⟩), rd_1 (p := (kn, 14, l, e.2.2 l, 0, 0)) j4 k3' s4 f123 f4 ha.symm⟩
            · obtain ⟨I4, r4, q4⟩ := (c58 (ext := ext) (d := 0) L D xt xs xp xu xc ht2 j1 (by omega) h8 s3).2 h41
              obtain ⟨y, I5, r5, q5⟩ := c36_f (ext := ext) (d := 0) L D xt xs xp xu xc 3 (nI (e.2.2 l)) (rd_R_f (op := op) f123 (by omega) (q4 op))
              exact ⟨0, I5, go (w51_34 I L D xc xp xs xt xu _ ⟨1, I1, L, D, am_up r1 (by omega), 1, I1, L, D, am_up r1b (by omega), fun z => absurd z (by decide), fun _ => ⟨fun z => absurd z (by decide), fun _ => ⟨1, I2, L, D, am_up r2 (by omega), fun z => absurd z (by decide), fun _ => ⟨1, I3, L, D, r3, fun z => absurd z (by decide), fun _ => ⟨0, I4, L, D, am_up r4 (by omega), fun _ => ⟨y, I5, L, D, am_up r5 (by omega), rfl⟩, fun z => absurd rfl z⟩⟩⟩⟩⟩), q5 op⟩
        · obtain ⟨I2, r2, q2⟩ := (c57 (ext := ext) (d := 0) L D xt xs xp xu xc ht2 hc1 (by omega) ho s1).2.1 h40 h8
          obtain ⟨y, I3, r3, q3⟩ := c36_f (ext := ext) (d := 0) L D xt xs xp xu xc 3 (nI (e.2.2 l)) (rd_R_f (op := op) f1 (Nat.le_refl _) (q2 op))
          exact ⟨0, I3, go (w51_34 I L D xc xp xs xt xu _ ⟨1, I1, L, D, am_up r1 (by omega), 1, I1, L, D, am_up r1b (by omega), fun z => absurd z (by decide), fun _ => ⟨fun z => absurd z (by decide), fun _ => ⟨0, I2, L, D, am_up r2 (by omega), fun _ => ⟨y, I3, L, D, am_up r3 (by omega), rfl⟩, fun z => absurd rfl z⟩⟩⟩), q3 op⟩
        · obtain ⟨I2, r2, q2⟩ := (c57 (ext := ext) (d := 0) L D xt xs xp xu xc ht2 hc1 (by omega) ho s1).2.2 h40
          obtain ⟨y, I3, r3, q3⟩ := c36_f (ext := ext) (d := 0) L D xt xs xp xu xc 3 (nI (e.2.2 l)) (rd_R_f (op := op) f1 (Nat.le_refl _) (q2 op))
          exact ⟨0, I3, go (w51_34 I L D xc xp xs xt xu _ ⟨1, I1, L, D, am_up r1 (by omega), 1, I1, L, D, am_up r1b (by omega), fun z => absurd z (by decide), fun _ => ⟨fun z => absurd z (by decide), fun _ => ⟨0, I2, L, D, am_up r2 (by omega), fun _ => ⟨y, I3, L, D, am_up r3 (by omega), rfl⟩, fun z => absurd rfl z⟩⟩⟩), q3 op⟩
      · obtain ⟨I1, r1, q1⟩ := (c48 (ext := ext) (d := 0) L D xt xs xp xu xc ht2 hc (by omega) hk hS).2 hk9
        have r1b := isf (q1 op).1
        obtain ⟨y, I3, r3, q3⟩ := c36_f (ext := ext) (d := 0) L D xt xs xp xu xc 3 (nI (e.2.2 l)) (q1 op)
        exact ⟨0, I3, go (w51_34 I L D xc xp xs xt xu _ ⟨0, I1, L, D, am_up r1 (by omega), 1, I1, L, D, am_up r1b (by omega), fun z => absurd z (by decide), fun _ => ⟨fun _ => ⟨y, I3, L, D, am_up r3 (by omega), rfl⟩, fun z => absurd rfl z⟩⟩), q3 op⟩
    · rw [if_neg h2] at hq
      have isf : ∀ {I1 : Nat → Nat → Int32}, rd_fr s I I1 → am_Rn ext 1 33 [.ref 11, .int (nI (e.2.2 l))] (I1, L, D, am_rf (xt, xs, 11, xp, xu, xc)) (some (.int 0), (I1, L, D, am_rf (xt, xs, 11, xp, xu, xc))) := by
        intro I1 hf
        have := c33 (ext := ext) (d := 0) L D xt xs xp xu xc (rd_E_fr hE hf) hl
        rw [if_neg h0, if_neg h2] at this
        exact this
      rcases pt_n_some hq with ⟨hk9, hq⟩ | ⟨hk9, rfl⟩
      · cases hq
        obtain ⟨I1, r1, s1, f1⟩ := (c48 (ext := ext) (d := 0) L D xt xs xp xu xc ht2 hc (by omega) hk hS).1 hk9
        have r1b := isf f1
        have r5 := c36 (ext := ext) (d := 0) L D (xt, xs, 11, xp, xu, xc) 2 (nI (e.2.2 l)) (s := s) (rd_S_c (I' := I) s1).2.2.2.2 (by omega)
        have R := rd_0 (p := (kn, 2, l, e.2.2 l, 0, 0)) s1 f1 rfl rfl
        exact ⟨1, _, go (w51_34 I L D xc xp xs xt xu _ ⟨1, I1, L, D, am_up r1 (by omega), 0, I1, L, D, am_up r1b (by omega), fun _ => ⟨_, _, L, D, am_up r5 (by omega), Or.inr rfl, rfl⟩, fun z => absurd rfl z⟩), R⟩
      · obtain ⟨I1, r1, q1⟩ := (c48 (ext := ext) (d := 0) L D xt xs xp xu xc ht2 hc (by omega) hk hS).2 hk9
        have r1b := isf (q1 op).1
        obtain ⟨y, I3, r3, q3⟩ := c36_f (ext := ext) (d := 0) L D xt xs xp xu xc 2 (nI (e.2.2 l)) (q1 op)
        exact ⟨0, I3, go (w51_34 I L D xc xp xs xt xu _ ⟨0, I1, L, D, am_up r1 (by omega), 0, I1, L, D, am_up r1b (by omega), fun _ => ⟨y, I3, L, D, am_up r3 (by omega), Or.inl rfl, rfl⟩, fun z => absurd rfl z⟩), q3 op⟩
end READ
