/-! ===== the class's reader: max, min, if ===== -/
section READ
variable {ext : Nat → List Value → am_M → Option am_R} {d : Nat} (L : Nat → Nat → Int64) (D : Nat → Nat → UInt64) (xt xs xp xu xc : Nat) {t : pt_K} {e : pt_E} {nl : Nat} {sum : Nat → Nat → Nat → pt_R} {c kn op s : Nat} {I : Nat → Nat → Int32} {q : pt_Q}
theorem rd_2 {p : tr_P} {A B : tr_T} {sa sb s0 : Nat} {I1 I2 I3 : Nat → Nat → Int32} (hA : tr_ok e A sa) (hB : tr_ok e B sb) (hcA : tr_cc (I1 16) (I1 17) (I1 18) (I1 19) A s0) (hcB : tr_cc (I2 16) (I2 17) (I2 18) (I2 19) B (s0 + tr_cz A)) (hS : rd_S t c kn op (s0 + tr_cz A + tr_cz B) I3) (f1 : rd_fr s0 I I1) (f2 : rd_fr (s0 + tr_cz A) I1 I2) (f3 : rd_fr (s0 + tr_cz A + tr_cz B) I2 I3) :
    rd_R t op s0 I (.inr (c, kn, tr_2 p A B)) 1 (am_uI (am_uI (am_uI (am_uI (am_uI I3 16 (s0 + tr_cz A + tr_cz B) (tr_op p)) 17 (s0 + tr_cz A + tr_cz B) 0) 18 (s0 + tr_cz A + tr_cz B) 0) 19 (s0 + tr_cz A + tr_cz B) 0) 11 8 (nI (s0 + tr_cz A + tr_cz B + 1))) := by
  obtain ⟨s5, f5⟩ := rd_S_add hS (tr_op p) 0 0 0
  have f6 := rd_fr_t f3 f5 (Nat.le_refl _)
  have f7 := rd_fr_t f2 f6 (by omega)
  have ez : s0 + tr_cz (tr_2 p A B) = s0 + tr_cz A + tr_cz B + 1 := by simp [tr_cz]; omega
  refine ⟨rd_fr_t f1 f7 (by omega), rfl, ?_, ?_⟩
  · show rd_S t c kn op (s0 + tr_cz (tr_2 p A B)) _
    rw [ez]
    exact s5
  · refine ⟨rd_cc_fr hA hcA f7 (Nat.le_refl _), rd_cc_fr hB hcB f6 (Nat.le_refl _), ?_⟩
    simp [am_uI_at]
/-- ofTwo -/
theorem c53 (hd : 3 ≤ d) (ht : pt_tk t) (hc : c < t.2) (hk : kn ≤ 96) (ho : op ≤ 8) (hs : s ≤ 3 * kn) (hS : rd_S t c kn op s I) (hE : rd_E e nl I) (kd : Nat)
    (IH : op < 8 → rd_H ext d L D xt xs xp xu xc t e nl 44 [.ref 20, .int 0] sum (op + 1)) (hg : op < 8 → rd_G t e sum (op + 1)) (hq : pt_two t sum kd c kn op = some q) :
    ∃ x I', am_Rn ext (d + 1) 53 [.ref 20, .int (tr_op (kn, kd, 0, 0, 0, 0))] (I, L, D, am_rf (xt, xs, 11, xp, xu, xc)) (some (.int x), (I', L, D, am_rf (xt, xs, 11, xp, xu, xc))) ∧ rd_R t op s I q x I' := by
  have ht2 := ht.2.1
  rcases pt_n_some hq with ⟨hk9, hq⟩ | ⟨hk9, rfl⟩
  · obtain ⟨I1, r1, s1, f1⟩ := (c48 (ext := ext) (d := 0) L D xt xs xp xu xc ht2 hc (by omega) hk hS).1 hk9
    have hc1 := pt_adv_lt hc
    rcases pt_o_some hq with ⟨h40, h8, hq⟩ | ⟨h40, h8, rfl⟩ | ⟨h40, rfl⟩
    · obtain ⟨I2, r2, s2, f2⟩ := (c57 (ext := ext) (d := 0) L D xt xs xp xu xc ht2 hc1 (by omega) ho s1).1 h40 h8
      have hc2 := pt_adv_lt hc1
      have f12 := rd_fr_t f1 f2 (Nat.le_refl _)
      rcases pt_b_some hq with ⟨f, hr, rfl⟩ | ⟨c3, k3, A, hr, hq⟩
      · obtain ⟨x3, I3, r3, q3⟩ := IH h8 _ _ s I2 _ hc2 (by omega) (by omega) s2 (rd_E_fr hE f12) hr
        obtain ⟨y, I4, r4, q4⟩ := c36_f (ext := ext) (d := 0) L D xt xs xp xu xc (tr_op (kn, kd, 0, 0, 0, 0)) 0 (rd_R_f (op := op) f12 (Nat.le_refl _) q3)
        obtain rfl := q3.2.1
        exact ⟨0, I4, am_rn_of mh_53 rfl (w53_0 I L D xc xp xs xt xu _ ⟨1, I1, L, D, am_up r1 (by omega), fun z => absurd z (by decide), fun _ => ⟨1, I2, L, D, am_up r2 (by omega), fun z => absurd z (by decide), fun _ => ⟨0, I3, L, D, r3, fun _ => ⟨y, I4, L, D, am_up r4 (by omega), rfl⟩, fun z => absurd rfl z⟩⟩⟩), q4 op⟩
      · obtain ⟨x3, I3, r3, q3⟩ := IH h8 _ _ s I2 _ hc2 (by omega) (by omega) s2 (rd_E_fr hE f12) hr
        obtain ⟨g1, g2, g3, g4⟩ := hg h8 _ _ hc2 (by omega) _ _ _ hr
        have hz := tr_cz_le e A _ g4
        obtain ⟨f3, rfl, s3, k3'⟩ := rd_R_r q3
        have f123 := rd_fr_t f12 f3 (Nat.le_refl _)
        rcases pt_x_some hq with ⟨h44, hq⟩ | ⟨h44, rfl⟩
        · obtain ⟨I4, r4, s4, f4, _⟩ := (c59 (ext := ext) (d := 0) L D xt xs xp xu xc ht2 g1 (by omega) s3 44).1 h44
          have hc4 := pt_adv_lt g1
          have f14 := rd_fr_t f123 f4 (by omega)
          rcases pt_b_some hq with ⟨f, hr5, rfl⟩ | ⟨c5, k5, B, hr5, hq⟩
          · obtain ⟨x5, I5, r5, q5⟩ := IH h8 _ _ _ I4 _ hc4 g2 (by omega) s4 (rd_E_fr hE f14) hr5
            obtain ⟨y, I6, r6, q6⟩ := c36_f (ext := ext) (d := 0) L D xt xs xp xu xc (tr_op (kn, kd, 0, 0, 0, 0)) 0 (rd_R_f (op := op) f14 (by omega) q5)
            obtain rfl := q5.2.1
            exact ⟨0, I6, am_rn_of mh_53 rfl (w53_0 I L D xc xp xs xt xu _ ⟨1, I1, L, D, am_up r1 (by omega), fun z => absurd z (by decide), fun _ => ⟨1, I2, L, D, am_up r2 (by omega), fun z => absurd z (by decide), fun _ => ⟨1, I3, L, D, r3, fun z => absurd z (by decide), fun _ => ⟨1, I4, L, D, am_up r4 (by omega), fun z => absurd z (by decide), fun _ => ⟨0, I5, L, D, r5, fun _ => ⟨y, I6, L, D, am_up r6 (by omega), rfl⟩, fun z => absurd rfl z⟩⟩⟩⟩⟩), q6 op⟩
          · obtain ⟨x5, I5, r5, q5⟩ := IH h8 _ _ _ I4 _ hc4 g2 (by omega) s4 (rd_E_fr hE f14) hr5
            obtain ⟨j1, j2, j3, j4⟩ := hg h8 _ _ hc4 g2 _ _ _ hr5
            have hz2 := tr_cz_le e B _ j4
            obtain ⟨f5, rfl, s5, k5'⟩ := rd_R_r q5
            rcases pt_x_some hq with ⟨h41, hq⟩ | ⟨h41, rfl⟩
            · cases hq
              obtain ⟨I6, r6, s6, f6⟩ := (c58 (ext := ext) (d := 0) L D xt xs xp xu xc ht2 j1 (by omega) h8 s5).1 h41
              have r7 := c36 (ext := ext) (d := 0) L D (xt, xs, 11, xp, xu, xc) (tr_op (kn, kd, 0, 0, 0, 0)) 0 (rd_S_c (I' := I) s6).2.2.2.2 (by omega)
              exact ⟨1, _, am_rn_of mh_53 rfl (w53_0 I L D xc xp xs xt xu _ ⟨1, I1, L, D, am_up r1 (by omega), fun z => absurd z (by decide), fun _ => ⟨1, I2, L, D, am_up r2 (by omega), fun z => absurd z (by decide), fun _ => ⟨1, I3, L, D, r3, fun z => absurd z (by decide), fun _ => ⟨1, I4, L, D, am_up r4 (by omega), fun z => absurd z (by decide), fun _ => ⟨1, I5, L, D, r5, fun z => absurd z (by decide), fun _ => ⟨1, I6, L, D, am_up r6 (by omega), fun z => absurd z (by decide), fun _ => ⟨_, _, L, D, am_up r7 (by omega), rfl⟩⟩⟩⟩⟩⟩⟩), rd_2 g4 j4 k3' k5' s6 f123 (rd_fr_t f4 f5 (Nat.le_refl _)) f6⟩
            · obtain ⟨I6, r6, q6⟩ := (c58 (ext := ext) (d := 0) L D xt xs xp xu xc ht2 j1 (by omega) h8 s5).2 h41
              obtain ⟨y, I7, r7, q7⟩ := c36_f (ext := ext) (d := 0) L D xt xs xp xu xc (tr_op (kn, kd, 0, 0, 0, 0)) 0 (rd_R_f (op := op) (rd_fr_t f14 f5 (by omega)) (by omega) (q6 op))
              exact ⟨0, I7, am_rn_of mh_53 rfl (w53_0 I L D xc xp xs xt xu _ ⟨1, I1, L, D, am_up r1 (by omega), fun z => absurd z (by decide), fun _ => ⟨1, I2, L, D, am_up r2 (by omega), fun z => absurd z (by decide), fun _ => ⟨1, I3, L, D, r3, fun z => absurd z (by decide), fun _ => ⟨1, I4, L, D, am_up r4 (by omega), fun z => absurd z (by decide), fun _ => ⟨1, I5, L, D, r5, fun z => absurd z (by decide), fun _ => ⟨0, I6, L, D, am_up r6 (by omega), fun _ => ⟨y, I7, L, D, am_up r7 (by omega), rfl⟩, fun z => absurd rfl z⟩⟩⟩⟩⟩⟩), q7 op⟩
        · obtain ⟨I4, r4, q4⟩ := (c59 (ext := ext) (d := 0) L D xt xs xp xu xc ht2 g1 (by omega) s3 44).2 h44
          obtain ⟨y, I5, r5, q5⟩ := c36_f (ext := ext) (d := 0) L D xt xs xp xu xc (tr_op (kn, kd, 0, 0, 0, 0)) 0 (rd_R_f (op := op) f123 (by omega) (q4 op))
          exact ⟨0, I5, am_rn_of mh_53 rfl (w53_0 I L D xc xp xs xt xu _ ⟨1, I1, L, D, am_up r1 (by omega), fun z => absurd z (by decide), fun _ => ⟨1, I2, L, D, am_up r2 (by omega), fun z => absurd z (by decide), fun _ => ⟨1, I3, L, D, r3, fun z => absurd z (by decide), fun _ => ⟨0, I4, L, D, am_up r4 (by omega), fun _ => ⟨y, I5, L, D, am_up r5 (by omega), rfl⟩, fun z => absurd rfl z⟩⟩⟩⟩), q5 op⟩
    · obtain ⟨I2, r2, q2⟩ := (c57 (ext := ext) (d := 0) L D xt xs xp xu xc ht2 hc1 (by omega) ho s1).2.1 h40 h8
      obtain ⟨y, I3, r3, q3⟩ := c36_f (ext := ext) (d := 0) L D xt xs xp xu xc (tr_op (kn, kd, 0, 0, 0, 0)) 0 (rd_R_f (op := op) f1 (Nat.le_refl _) (q2 op))
      exact ⟨0, I3, am_rn_of mh_53 rfl (w53_0 I L D xc xp xs xt xu _ ⟨1, I1, L, D, am_up r1 (by omega), fun z => absurd z (by decide), fun _ => ⟨0, I2, L, D, am_up r2 (by omega), fun _ => ⟨y, I3, L, D, am_up r3 (by omega), rfl⟩, fun z => absurd rfl z⟩⟩), q3 op⟩
    · obtain ⟨I2, r2, q2⟩ := (c57 (ext := ext) (d := 0) L D xt xs xp xu xc ht2 hc1 (by omega) ho s1).2.2 h40
      obtain ⟨y, I3, r3, q3⟩ := c36_f (ext := ext) (d := 0) L D xt xs xp xu xc (tr_op (kn, kd, 0, 0, 0, 0)) 0 (rd_R_f (op := op) f1 (Nat.le_refl _) (q2 op))
      exact ⟨0, I3, am_rn_of mh_53 rfl (w53_0 I L D xc xp xs xt xu _ ⟨1, I1, L, D, am_up r1 (by omega), fun z => absurd z (by decide), fun _ => ⟨0, I2, L, D, am_up r2 (by omega), fun _ => ⟨y, I3, L, D, am_up r3 (by omega), rfl⟩, fun z => absurd rfl z⟩⟩), q3 op⟩
  · obtain ⟨I1, r1, q1⟩ := (c48 (ext := ext) (d := 0) L D xt xs xp xu xc ht2 hc (by omega) hk hS).2 hk9
    obtain ⟨y, I3, r3, q3⟩ := c36_f (ext := ext) (d := 0) L D xt xs xp xu xc (tr_op (kn, kd, 0, 0, 0, 0)) 0 (q1 op)
    exact ⟨0, I3, am_rn_of mh_53 rfl (w53_0 I L D xc xp xs xt xu _ ⟨0, I1, L, D, am_up r1 (by omega), fun _ => ⟨y, I3, L, D, am_up r3 (by omega), rfl⟩, fun z => absurd rfl z⟩), q3 op⟩
/-- point -/
theorem c38 (X : am_Rf) {i v : Nat} (h : I 11 8 = nI s) (hs : s ≤ 288) (hi : i < s) : am_Rn ext (d + 1) 38 [.ref 11, .int (nI i), .int (nI v)] (I, L, D, am_rf X) (none, (am_uI I 17 i (nI v), L, D, am_rf X)) := by
  refine am_rn_of mh_38 rfl (w38_0_11 I L D X (nI i) (nI v) ⟨fun z => absurd z (ni_nn (by omega)), fun _ => ⟨fun z => absurd z ?_, fun _ => ⟨ni_inb (by omega) (by omega), ?_⟩⟩⟩)
  · rw [h, ni_le (by omega) (by omega)]
    omega
  · rw [ni_nat (by omega)]
theorem rd_S_arg (h : rd_S t c kn op s I) (i : Nat) (x : Int32) : rd_S t c kn op s (am_uI I 17 i x) := by
  obtain ⟨⟨h1, h2⟩, h3, h4, h5, h6, h7, h8⟩ := h
  exact ⟨⟨by simp [am_uI_at, h1], fun i hi => by simpa [am_uI_at] using h2 i hi⟩, by simp [am_uI_at, h3], by simp [am_uI_at, h4], by simp [am_uI_at, h5], by simp [am_uI_at, h6], by simp [am_uI_at, h7], by simp [am_uI_at, h8]⟩
/-- choice -/
theorem c54 (hd : 3 ≤ d) (ht : pt_tk t) (hc : c < t.2) (hk : kn ≤ 96) (ho : op ≤ 8) (hs : s ≤ 3 * kn) (hS : rd_S t c kn op s I) (hE : rd_E e nl I)
    (IH : op < 8 → rd_H ext d L D xt xs xp xu xc t e nl 44 [.ref 20, .int 0] sum (op + 1)) (hg : op < 8 → rd_G t e sum (op + 1)) (hq : pt_if t sum c kn op = some q) :
    ∃ x I', am_Rn ext (d + 1) 54 [.ref 20] (I, L, D, am_rf (xt, xs, 11, xp, xu, xc)) (some (.int x), (I', L, D, am_rf (xt, xs, 11, xp, xu, xc))) ∧ rd_R t op s I q x I' := by
  have ht2 := ht.2.1
  rcases pt_n_some hq with ⟨hk9, hq⟩ | ⟨hk9, rfl⟩
  · obtain ⟨I1, r1, s1, f1⟩ := (c48 (ext := ext) (d := 0) L D xt xs xp xu xc ht2 hc (by omega) hk hS).1 hk9
    have hc1 := pt_adv_lt hc
    rcases pt_o_some hq with ⟨h40, h8, hq⟩ | ⟨h40, h8, rfl⟩ | ⟨h40, rfl⟩
    · obtain ⟨I2, r2, s2, f2⟩ := (c57 (ext := ext) (d := 0) L D xt xs xp xu xc ht2 hc1 (by omega) ho s1).1 h40 h8
      have hc2 := pt_adv_lt hc1
      have f12 := rd_fr_t f1 f2 (Nat.le_refl _)
      rcases pt_b_some hq with ⟨f, hr, rfl⟩ | ⟨c3, k3, A, hr, hq⟩
      · obtain ⟨x3, I3, r3, q3⟩ := IH h8 _ _ s I2 _ hc2 (by omega) (by omega) s2 (rd_E_fr hE f12) hr
        obtain rfl := q3.2.1
        exact ⟨0, I3, am_rn_of mh_54 rfl (w54_0 I L D xc xp xs xt xu ⟨1, I1, L, D, am_up r1 (by omega), fun z => absurd z (by decide), fun _ => ⟨1, I2, L, D, am_up r2 (by omega), fun z => absurd z (by decide), fun _ => ⟨0, I3, L, D, r3, fun z => absurd rfl z, fun _ => rfl⟩⟩⟩), rd_R_f f12 (Nat.le_refl _) q3⟩
      · obtain ⟨x3, I3, r3, q3⟩ := IH h8 _ _ s I2 _ hc2 (by omega) (by omega) s2 (rd_E_fr hE f12) hr
        obtain ⟨g1, g2, g3, g4⟩ := hg h8 _ _ hc2 (by omega) _ _ _ hr
        have hz := tr_cz_le e A _ g4
        obtain ⟨f3, rfl, s3, k3'⟩ := rd_R_r q3
        have f13 := rd_fr_t f12 f3 (Nat.le_refl _)
        have hk3 := (rd_S_c (I' := I) s3).1
        -- behind the comparing
        have key : ∀ kd : Nat, (kd = 12 ∨ kd = 13) → pt_b (sum (pt_adv t c3) k3 (op + 1)) (fun c5 k5 B => pt_x t 44 c5 fun c6 => pt_b (sum c6 k5 (op + 1)) fun c7 k7 V => pt_x t 44 c7 fun c8 => pt_b (sum c8 k7 (op + 1)) fun c9 k9 W => pt_x t 41 c9 fun c10 => pt_r c10 k9 (tr_4 (kn, kd, 0, 0, 0, 0) A B V W)) = some q →
            ∃ x I', am_wp ext d mz_54 (64, [some (.ref 20), none, none, none, none], [.int (tr_op (kn, kd, 0, 0, 0, 0))], (I3, L, D, am_rf (xt, xs, 11, xp, xu, xc))) (fun r => r = (some (.int x), (I', L, D, am_rf (xt, xs, 11, xp, xu, xc)))) ∧ rd_R t op s I q x I' := by
          intro kd hkd hq
          obtain ⟨I4, r4, s4, f4, _⟩ := c41 (ext := ext) (d := 0) L D xt xs xp xu xc ht2 g1 s3
          have hc4 := pt_adv_lt g1
          have f14 := rd_fr_t f13 f4 (by omega)
          rcases pt_b_some hq with ⟨f, hr5, rfl⟩ | ⟨c5, k5, B, hr5, hq⟩
          · obtain ⟨x5, I5, r5, q5⟩ := IH h8 _ _ _ I4 _ hc4 g2 (by omega) s4 (rd_E_fr hE f14) hr5
            obtain rfl := q5.2.1
            exact ⟨0, I5, w54_64 I3 L D xc xp xs xt xu _ ⟨I4, L, D, am_up r4 (by omega), 0, I5, L, D, r5, fun _ => rfl, fun z => absurd rfl z⟩, rd_R_f f14 (by omega) q5⟩
          · obtain ⟨x5, I5, r5, q5⟩ := IH h8 _ _ _ I4 _ hc4 g2 (by omega) s4 (rd_E_fr hE f14) hr5
            obtain ⟨j1, j2, j3, j4⟩ := hg h8 _ _ hc4 g2 _ _ _ hr5
            have hz2 := tr_cz_le e B _ j4
            obtain ⟨f5, rfl, s5, k5'⟩ := rd_R_r q5
            have f15 := rd_fr_t f14 f5 (by omega)
            rcases pt_x_some hq with ⟨h44, hq⟩ | ⟨h44, rfl⟩
            · obtain ⟨I6, r6, s6, f6, _⟩ := (c59 (ext := ext) (d := 0) L D xt xs xp xu xc ht2 j1 (by omega) s5 44).1 h44
              have hc6 := pt_adv_lt j1
              have r7 := c36 (ext := ext) (d := 0) L D (xt, xs, 11, xp, xu, xc) (tr_op (kn, kd, 0, 0, 0, 0)) 0 (rd_S_c (I' := I) s6).2.2.2.2 (by omega)
              obtain ⟨s7, f7⟩ := rd_S_add s6 (tr_op (kn, kd, 0, 0, 0, 0)) 0 0 0
              have a7 : ∀ i, i = s + tr_cz A + tr_cz B → (am_uI (am_uI (am_uI (am_uI (am_uI I6 16 (s + tr_cz A + tr_cz B) (tr_op (kn, kd, 0, 0, 0, 0))) 17 (s + tr_cz A + tr_cz B) 0) 18 (s + tr_cz A + tr_cz B) 0) 19 (s + tr_cz A + tr_cz B) 0) 11 8 (nI (s + tr_cz A + tr_cz B + 1))) 16 i = tr_op (kn, kd, 0, 0, 0, 0) := by
                intro i hi
                simp [am_uI_at, hi]
              revert r7 s7 f7 a7
              generalize (am_uI (am_uI (am_uI (am_uI (am_uI I6 16 (s + tr_cz A + tr_cz B) (tr_op (kn, kd, 0, 0, 0, 0))) 17 (s + tr_cz A + tr_cz B) 0) 18 (s + tr_cz A + tr_cz B) 0) 19 (s + tr_cz A + tr_cz B) 0) 11 8 (nI (s + tr_cz A + tr_cz B + 1))) = I7
              intro r7 s7 f7 a7
              have f57 := rd_fr_t f6 f7 (Nat.le_refl _)
              have f17 := rd_fr_t f15 f57 (by omega)
              rcases pt_b_some hq with ⟨f, hr8, rfl⟩ | ⟨c8, k8, V, hr8, hq⟩
              · obtain ⟨x8, I8, r8, q8⟩ := IH h8 _ _ _ I7 _ hc6 j2 (by omega) s7 (rd_E_fr hE f17) hr8
                obtain rfl := q8.2.1
                exact ⟨0, I8, w54_64 I3 L D xc xp xs xt xu _ ⟨I4, L, D, am_up r4 (by omega), 1, I5, L, D, r5, fun z => absurd z (by decide), fun _ => ⟨1, I6, L, D, am_up r6 (by omega), fun _ => ⟨_, I7, L, D, am_up r7 (by omega), 0, I8, L, D, r8, fun _ => rfl, fun z => absurd rfl z⟩, fun z => absurd z (by decide)⟩⟩, rd_R_f f17 (by omega) q8⟩
              · obtain ⟨x8, I8, r8, q8⟩ := IH h8 _ _ _ I7 _ hc6 j2 (by omega) s7 (rd_E_fr hE f17) hr8
                obtain ⟨m1, m2, m3, m4⟩ := hg h8 _ _ hc6 j2 _ _ _ hr8
                have hz3 := tr_cz_le e V _ m4
                obtain ⟨f8, rfl, s8, k8'⟩ := rd_R_r q8
                have f18 := rd_fr_t f17 f8 (by omega)
                rcases pt_x_some hq with ⟨h442, hq⟩ | ⟨h442, rfl⟩
                · obtain ⟨I9, r9, s9, f9, _⟩ := (c59 (ext := ext) (d := 0) L D xt xs xp xu xc ht2 m1 (by omega) s8 44).1 h442
                  have hc9 := pt_adv_lt m1
                  have r10 := c36 (ext := ext) (d := 0) L D (xt, xs, 11, xp, xu, xc) 19 0 (rd_S_c (I' := I) s9).2.2.2.2 (by omega)
                  obtain ⟨s10, f10⟩ := rd_S_add s9 19 0 0 0
                  have a10 : ∀ i, i = s + tr_cz A + tr_cz B + 1 + tr_cz V → (am_uI (am_uI (am_uI (am_uI (am_uI I9 16 (s + tr_cz A + tr_cz B + 1 + tr_cz V) 19) 17 (s + tr_cz A + tr_cz B + 1 + tr_cz V) 0) 18 (s + tr_cz A + tr_cz B + 1 + tr_cz V) 0) 19 (s + tr_cz A + tr_cz B + 1 + tr_cz V) 0) 11 8 (nI (s + tr_cz A + tr_cz B + 1 + tr_cz V + 1))) 16 i = 19 := by
                    intro i hi
                    simp [am_uI_at, hi]
                  revert r10 s10 f10 a10
                  generalize (am_uI (am_uI (am_uI (am_uI (am_uI I9 16 (s + tr_cz A + tr_cz B + 1 + tr_cz V) 19) 17 (s + tr_cz A + tr_cz B + 1 + tr_cz V) 0) 18 (s + tr_cz A + tr_cz B + 1 + tr_cz V) 0) 19 (s + tr_cz A + tr_cz B + 1 + tr_cz V) 0) 11 8 (nI (s + tr_cz A + tr_cz B + 1 + tr_cz V + 1))) = I10
                  intro r10 s10 f10 a10
                  have f810 := rd_fr_t f9 f10 (Nat.le_refl _)
                  have f1T := rd_fr_t f18 f810 (by omega)
                  rcases pt_b_some hq with ⟨f, hr11, rfl⟩ | ⟨c11, k11, W, hr11, hq⟩
                  · obtain ⟨x11, I11, r11, q11⟩ := IH h8 _ _ _ I10 _ hc9 m2 (by omega) s10 (rd_E_fr hE f1T) hr11
                    obtain rfl := q11.2.1
                    exact ⟨0, I11, w54_64 I3 L D xc xp xs xt xu _ ⟨I4, L, D, am_up r4 (by omega), 1, I5, L, D, r5, fun z => absurd z (by decide), fun _ => ⟨1, I6, L, D, am_up r6 (by omega), fun _ => ⟨_, I7, L, D, am_up r7 (by omega), 1, I8, L, D, r8, fun z => absurd z (by decide), fun _ => ⟨1, I9, L, D, am_up r9 (by omega), fun _ => ⟨_, I10, L, D, am_up r10 (by omega), 0, I11, L, D, r11, fun z => absurd rfl z, fun _ => rfl⟩, fun z => absurd z (by decide)⟩⟩, fun z => absurd z (by decide)⟩⟩, rd_R_f f1T (by omega) q11⟩
                  · obtain ⟨x11, I11, r11, q11⟩ := IH h8 _ _ _ I10 _ hc9 m2 (by omega) s10 (rd_E_fr hE f1T) hr11
                    obtain ⟨n1, n2, n3, n4⟩ := hg h8 _ _ hc9 m2 _ _ _ hr11
                    have hz4 := tr_cz_le e W _ n4
                    obtain ⟨f11, rfl, s11, k11'⟩ := rd_R_r q11
                    have r12 := c36 (ext := ext) (d := 0) L D (xt, xs, 11, xp, xu, xc) 20 0 (rd_S_c (I' := I) s11).2.2.2.2 (by omega)
                    obtain ⟨s12, f12'⟩ := rd_S_add s11 20 0 0 0
                    have a12 : ∀ i, i = s + tr_cz A + tr_cz B + 1 + tr_cz V + 1 + tr_cz W → (am_uI (am_uI (am_uI (am_uI (am_uI I11 16 (s + tr_cz A + tr_cz B + 1 + tr_cz V + 1 + tr_cz W) 20) 17 (s + tr_cz A + tr_cz B + 1 + tr_cz V + 1 + tr_cz W) 0) 18 (s + tr_cz A + tr_cz B + 1 + tr_cz V + 1 + tr_cz W) 0) 19 (s + tr_cz A + tr_cz B + 1 + tr_cz V + 1 + tr_cz W) 0) 11 8 (nI (s + tr_cz A + tr_cz B + 1 + tr_cz V + 1 + tr_cz W + 1))) 16 i = 20 := by
                      intro i hi
                      simp [am_uI_at, hi]
                    revert r12 s12 f12' a12
                    generalize (am_uI (am_uI (am_uI (am_uI (am_uI I11 16 (s + tr_cz A + tr_cz B + 1 + tr_cz V + 1 + tr_cz W) 20) 17 (s + tr_cz A + tr_cz B + 1 + tr_cz V + 1 + tr_cz W) 0) 18 (s + tr_cz A + tr_cz B + 1 + tr_cz V + 1 + tr_cz W) 0) 19 (s + tr_cz A + tr_cz B + 1 + tr_cz V + 1 + tr_cz W) 0) 11 8 (nI (s + tr_cz A + tr_cz B + 1 + tr_cz V + 1 + tr_cz W + 1))) = I12
                    intro r12 s12 f12' a12
                    have p1 := c38 (ext := ext) (d := 0) L D (xt, xs, 11, xp, xu, xc) (i := s + tr_cz A + tr_cz B) (v := s + tr_cz A + tr_cz B + 1 + tr_cz V) (rd_S_c (I' := I) s12).2.2.2.2 (by omega) (by omega)
                    have s13 := rd_S_arg s12 (s + tr_cz A + tr_cz B) (nI (s + tr_cz A + tr_cz B + 1 + tr_cz V))
                    have p2 := c38 (ext := ext) (d := 0) L D (xt, xs, 11, xp, xu, xc) (i := s + tr_cz A + tr_cz B + 1 + tr_cz V) (v := s + tr_cz A + tr_cz B + 1 + tr_cz V + 1 + tr_cz W) (rd_S_c (I' := I) s13).2.2.2.2 (by omega) (by omega)
                    have s14 := rd_S_arg s13 (s + tr_cz A + tr_cz B + 1 + tr_cz V) (nI (s + tr_cz A + tr_cz B + 1 + tr_cz V + 1 + tr_cz W))
                    have fa : rd_fr (s + tr_cz A + tr_cz B) I12 (am_uI (am_uI I12 17 (s + tr_cz A + tr_cz B) (nI (s + tr_cz A + tr_cz B + 1 + tr_cz V))) 17 (s + tr_cz A + tr_cz B + 1 + tr_cz V) (nI (s + tr_cz A + tr_cz B + 1 + tr_cz V + 1 + tr_cz W))) := rd_fr_u (rd_fr_u (rd_fr_0 _ _) (rd_x_code (by omega) (by omega))) (rd_x_code (by omega) (by omega))
                    have fb : ∀ a i, ¬ (a = 17 ∧ (i = s + tr_cz A + tr_cz B ∨ i = s + tr_cz A + tr_cz B + 1 + tr_cz V)) → (am_uI (am_uI I12 17 (s + tr_cz A + tr_cz B) (nI (s + tr_cz A + tr_cz B + 1 + tr_cz V))) 17 (s + tr_cz A + tr_cz B + 1 + tr_cz V) (nI (s + tr_cz A + tr_cz B + 1 + tr_cz V + 1 + tr_cz W))) a i = I12 a i := by
                      intro a i h
                      rw [am_uI_at, if_neg (by omega), am_uI_at, if_neg (by omega)]
                    have fc1 : (am_uI (am_uI I12 17 (s + tr_cz A + tr_cz B) (nI (s + tr_cz A + tr_cz B + 1 + tr_cz V))) 17 (s + tr_cz A + tr_cz B + 1 + tr_cz V) (nI (s + tr_cz A + tr_cz B + 1 + tr_cz V + 1 + tr_cz W))) 17 (s + tr_cz A + tr_cz B) = nI (s + tr_cz A + tr_cz B + 1 + tr_cz V) := by
                      rw [am_uI_at, if_neg (by omega), am_uI_at, if_pos ⟨rfl, rfl⟩]
                    have fc2 : (am_uI (am_uI I12 17 (s + tr_cz A + tr_cz B) (nI (s + tr_cz A + tr_cz B + 1 + tr_cz V))) 17 (s + tr_cz A + tr_cz B + 1 + tr_cz V) (nI (s + tr_cz A + tr_cz B + 1 + tr_cz V + 1 + tr_cz W))) 17 (s + tr_cz A + tr_cz B + 1 + tr_cz V) = nI (s + tr_cz A + tr_cz B + 1 + tr_cz V + 1 + tr_cz W) := by
                      rw [am_uI_at, if_pos ⟨rfl, rfl⟩]
                    revert p2 s14 fa fb fc1 fc2
                    generalize (am_uI (am_uI I12 17 (s + tr_cz A + tr_cz B) (nI (s + tr_cz A + tr_cz B + 1 + tr_cz V))) 17 (s + tr_cz A + tr_cz B + 1 + tr_cz V) (nI (s + tr_cz A + tr_cz B + 1 + tr_cz V + 1 + tr_cz W))) = I14
                    intro p2 s14 fa fb fc1 fc2
                    have f1V : rd_fr s I I14 := rd_fr_t (rd_fr_t (rd_fr_t f1T f11 (by omega)) f12' (by omega)) fa (by omega)
                    rcases pt_x_some hq with ⟨h41, hq⟩ | ⟨h41, rfl⟩
                    · cases hq
                      obtain ⟨I15, r15, s15, f15'⟩ := (c58 (ext := ext) (d := 0) L D xt xs xp xu xc ht2 n1 (by omega) h8 s14).1 h41
                      have z1 : ∀ a i, i < s + tr_cz A + tr_cz B + 1 + tr_cz V + 1 + tr_cz W + 1 → a = 16 ∨ a = 17 ∨ a = 18 ∨ a = 19 → I15 a i = I14 a i := fun a i hi ha => f15' a i (rd_x_no ha hi)
                      have e12 : ∀ a i, i < s + tr_cz A + tr_cz B + 1 + tr_cz V + 1 + tr_cz W → a = 16 ∨ a = 17 ∨ a = 18 ∨ a = 19 → I12 a i = I11 a i := fun a i hi ha => f12' a i (rd_x_no ha hi)
                      have e11 : ∀ a i, i < s + tr_cz A + tr_cz B + 1 + tr_cz V + 1 → a = 16 ∨ a = 17 ∨ a = 18 ∨ a = 19 → I11 a i = I10 a i := fun a i hi ha => f11 a i (rd_x_no ha hi)
                      have e10 : ∀ a i, i < s + tr_cz A + tr_cz B + 1 + tr_cz V → a = 16 ∨ a = 17 ∨ a = 18 ∨ a = 19 → I10 a i = I8 a i := fun a i hi ha => f810 a i (rd_x_no ha hi)
                      have e8 : ∀ a i, i < s + tr_cz A + tr_cz B + 1 → a = 16 ∨ a = 17 ∨ a = 18 ∨ a = 19 → I8 a i = I7 a i := fun a i hi ha => f8 a i (rd_x_no ha hi)
                      have e7 : ∀ a i, i < s + tr_cz A + tr_cz B → a = 16 ∨ a = 17 ∨ a = 18 ∨ a = 19 → I7 a i = I5 a i := fun a i hi ha => f57 a i (rd_x_no ha hi)
                      have e5 : ∀ a i, i < s + tr_cz A → a = 16 ∨ a = 17 ∨ a = 18 ∨ a = 19 → I5 a i = I3 a i := fun a i hi ha => (rd_fr_t f4 f5 (Nat.le_refl _)) a i (rd_x_no ha hi)
                      have ez : s + tr_cz (tr_4 (kn, kd, 0, 0, 0, 0) A B V W) = s + tr_cz A + tr_cz B + 1 + tr_cz V + 1 + tr_cz W + 1 := by simp [tr_cz]; omega
                      refine ⟨1, I15, w54_64 I3 L D xc xp xs xt xu _ ⟨I4, L, D, am_up r4 (by omega), 1, I5, L, D, r5, fun z => absurd z (by decide), fun _ => ⟨1, I6, L, D, am_up r6 (by omega), fun _ => ⟨_, I7, L, D, am_up r7 (by omega), 1, I8, L, D, r8, fun z => absurd z (by decide), fun _ => ⟨1, I9, L, D, am_up r9 (by omega), fun _ => ⟨_, I10, L, D, am_up r10 (by omega), 1, I11, L, D, r11, fun _ => ⟨_, I12, L, D, am_up r12 (by omega), _, L, D, am_up p1 (by omega), I14, L, D, am_up p2 (by omega), 1, I15, L, D, am_up r15 (by omega), Or.inr rfl, rfl⟩, fun z => absurd z (by decide)⟩, fun z => absurd z (by decide)⟩⟩, fun z => absurd z (by decide)⟩⟩, rd_fr_t f1V f15' (by omega), rfl, ?_, ?_⟩
                      · show rd_S t _ _ op (s + tr_cz (tr_4 (kn, kd, 0, 0, 0, 0) A B V W)) I15
                        rw [ez]
                        exact s15
                      · have o16 : ∀ i, i < s + tr_cz A + tr_cz B + 1 + tr_cz V + 1 + tr_cz W + 1 → I15 16 i = I12 16 i := fun i hi => (z1 16 i hi (by omega)).trans (fb 16 i (by omega))
                        have o17 : ∀ i, i < s + tr_cz A + tr_cz B + 1 + tr_cz V + 1 + tr_cz W + 1 → ¬ i = s + tr_cz A + tr_cz B → ¬ i = s + tr_cz A + tr_cz B + 1 + tr_cz V → I15 17 i = I12 17 i := fun i hi h1 h2 => (z1 17 i hi (by omega)).trans (fb 17 i (by omega))
                        have o18 : ∀ i, i < s + tr_cz A + tr_cz B + 1 + tr_cz V + 1 + tr_cz W + 1 → I15 18 i = I12 18 i := fun i hi => (z1 18 i hi (by omega)).trans (fb 18 i (by omega))
                        have o19 : ∀ i, i < s + tr_cz A + tr_cz B + 1 + tr_cz V + 1 + tr_cz W + 1 → I15 19 i = I12 19 i := fun i hi => (z1 19 i hi (by omega)).trans (fb 19 i (by omega))
                        refine ⟨tr_cc_of A _ g4 s k3' ?_, tr_cc_of B _ j4 _ k5' ?_, ?_, ?_, tr_cc_of V _ m4 _ k8' ?_, ?_, ?_, tr_cc_of W _ n4 _ k11' ?_, ?_⟩
                        · intro i h1 h2
                          rw [o16 i (by omega), o17 i (by omega) (by omega) (by omega), o18 i (by omega), o19 i (by omega)]
                          refine ⟨?_, ?_, ?_, ?_⟩ <;> rw [e12 _ i (by omega) (by omega), e11 _ i (by omega) (by omega), e10 _ i (by omega) (by omega), e8 _ i (by omega) (by omega), e7 _ i (by omega) (by omega), e5 _ i (by omega) (by omega)]
                        · intro i h1 h2
                          rw [o16 i (by omega), o17 i (by omega) (by omega) (by omega), o18 i (by omega), o19 i (by omega)]
                          refine ⟨?_, ?_, ?_, ?_⟩ <;> rw [e12 _ i (by omega) (by omega), e11 _ i (by omega) (by omega), e10 _ i (by omega) (by omega), e8 _ i (by omega) (by omega), e7 _ i (by omega) (by omega)]
                        · rw [o16 _ (by omega), e12 _ _ (by omega) (by omega), e11 _ _ (by omega) (by omega), e10 _ _ (by omega) (by omega), e8 _ _ (by omega) (by omega)]
                          exact a7 _ rfl
                        · rw [z1 17 _ (by omega) (by omega)]
                          exact fc1
                        · intro i h1 h2
                          rw [o16 i (by omega), o17 i (by omega) (by omega) (by omega), o18 i (by omega), o19 i (by omega)]
                          refine ⟨?_, ?_, ?_, ?_⟩ <;> rw [e12 _ i (by omega) (by omega), e11 _ i (by omega) (by omega), e10 _ i (by omega) (by omega)]
                        · rw [o16 _ (by omega), e12 _ _ (by omega) (by omega), e11 _ _ (by omega) (by omega)]
                          exact a10 _ rfl
                        · rw [z1 17 _ (by omega) (by omega)]
                          exact fc2
                        · intro i h1 h2
                          rw [o16 i (by omega), o17 i (by omega) (by omega) (by omega), o18 i (by omega), o19 i (by omega)]
                          refine ⟨?_, ?_, ?_, ?_⟩ <;> rw [e12 _ i (by omega) (by omega)]
                        · rw [o16 _ (by omega)]
                          exact a12 _ rfl
                    · obtain ⟨I15, r15, q15⟩ := (c58 (ext := ext) (d := 0) L D xt xs xp xu xc ht2 n1 (by omega) h8 s14).2 h41
                      exact ⟨0, I15, w54_64 I3 L D xc xp xs xt xu _ ⟨I4, L, D, am_up r4 (by omega), 1, I5, L, D, r5, fun z => absurd z (by decide), fun _ => ⟨1, I6, L, D, am_up r6 (by omega), fun _ => ⟨_, I7, L, D, am_up r7 (by omega), 1, I8, L, D, r8, fun z => absurd z (by decide), fun _ => ⟨1, I9, L, D, am_up r9 (by omega), fun _ => ⟨_, I10, L, D, am_up r10 (by omega), 1, I11, L, D, r11, fun _ => ⟨_, I12, L, D, am_up r12 (by omega), _, L, D, am_up p1 (by omega), I14, L, D, am_up p2 (by omega), 0, I15, L, D, am_up r15 (by omega), Or.inl rfl, rfl⟩, fun z => absurd z (by decide)⟩, fun z => absurd z (by decide)⟩⟩, fun z => absurd z (by decide)⟩⟩, rd_R_f f1V (by omega) (q15 op)⟩
                · obtain ⟨I9, r9, q9⟩ := (c59 (ext := ext) (d := 0) L D xt xs xp xu xc ht2 m1 (by omega) s8 44).2 h442
                  exact ⟨0, I9, w54_64 I3 L D xc xp xs xt xu _ ⟨I4, L, D, am_up r4 (by omega), 1, I5, L, D, r5, fun z => absurd z (by decide), fun _ => ⟨1, I6, L, D, am_up r6 (by omega), fun _ => ⟨_, I7, L, D, am_up r7 (by omega), 1, I8, L, D, r8, fun z => absurd z (by decide), fun _ => ⟨0, I9, L, D, am_up r9 (by omega), fun z => absurd rfl z, fun _ => rfl⟩⟩, fun z => absurd z (by decide)⟩⟩, rd_R_f f18 (by omega) (q9 op)⟩
            · obtain ⟨I6, r6, q6⟩ := (c59 (ext := ext) (d := 0) L D xt xs xp xu xc ht2 j1 (by omega) s5 44).2 h44
              exact ⟨0, I6, w54_64 I3 L D xc xp xs xt xu _ ⟨I4, L, D, am_up r4 (by omega), 1, I5, L, D, r5, fun z => absurd z (by decide), fun _ => ⟨0, I6, L, D, am_up r6 (by omega), fun z => absurd rfl z, fun _ => rfl⟩⟩, rd_R_f f15 (by omega) (q6 op)⟩
        by_cases h60 : pt_k t c3 = 60
        · rw [if_pos (Or.inl h60), if_pos h60] at hq
          obtain ⟨x, I', w, R⟩ := key 12 (Or.inl rfl) hq
          exact ⟨x, I', am_rn_of mh_54 rfl (w54_0 I L D xc xp xs xt xu ⟨1, I1, L, D, am_up r1 (by omega), fun z => absurd z (by decide), fun _ => ⟨1, I2, L, D, am_up r2 (by omega), fun z => absurd z (by decide), fun _ => ⟨1, I3, L, D, r3, fun _ => ⟨fun _ => w54_48 I3 L D xc xp xs xt xu ⟨fun z => absurd (hk3.trans h60) z, fun _ => w⟩, fun z => absurd (hk3.trans h60) z⟩, fun z => absurd z (by decide)⟩⟩⟩), R⟩
        · by_cases h62 : pt_k t c3 = 62
          · rw [if_pos (Or.inr h62), if_neg h60] at hq
            obtain ⟨x, I', w, R⟩ := key 13 (Or.inr rfl) hq
            exact ⟨x, I', am_rn_of mh_54 rfl (w54_0 I L D xc xp xs xt xu ⟨1, I1, L, D, am_up r1 (by omega), fun z => absurd z (by decide), fun _ => ⟨1, I2, L, D, am_up r2 (by omega), fun z => absurd z (by decide), fun _ => ⟨1, I3, L, D, r3, fun _ => ⟨fun z => absurd (hk3.symm.trans z) h60, fun _ => ⟨fun _ => w54_48 I3 L D xc xp xs xt xu ⟨fun _ => w, fun z => absurd (hk3.symm.trans z) h60⟩, fun z => absurd (hk3.trans h62) z⟩⟩, fun z => absurd z (by decide)⟩⟩⟩), R⟩
          · rw [if_neg (by intro z; rcases z with z | z <;> contradiction)] at hq
            cases hq
            obtain ⟨I4, r4, q4⟩ := c42 (ext := ext) (d := 0) L D xt xs xp xu xc ht2 g1 (by omega) s3 1 (by omega)
            exact ⟨0, I4, am_rn_of mh_54 rfl (w54_0 I L D xc xp xs xt xu ⟨1, I1, L, D, am_up r1 (by omega), fun z => absurd z (by decide), fun _ => ⟨1, I2, L, D, am_up r2 (by omega), fun z => absurd z (by decide), fun _ => ⟨1, I3, L, D, r3, fun _ => ⟨fun z => absurd (hk3.symm.trans z) h60, fun _ => ⟨fun z => absurd (hk3.symm.trans z) h62, fun _ => ⟨0, I4, L, D, am_up r4 (by omega), Or.inl rfl, rfl⟩⟩⟩, fun z => absurd z (by decide)⟩⟩⟩), rd_R_f f13 (by omega) (q4 op)⟩
    · obtain ⟨I2, r2, q2⟩ := (c57 (ext := ext) (d := 0) L D xt xs xp xu xc ht2 hc1 (by omega) ho s1).2.1 h40 h8
      exact ⟨0, I2, am_rn_of mh_54 rfl (w54_0 I L D xc xp xs xt xu ⟨1, I1, L, D, am_up r1 (by omega), fun z => absurd z (by decide), fun _ => ⟨0, I2, L, D, am_up r2 (by omega), fun _ => rfl, fun z => absurd rfl z⟩⟩), rd_R_f f1 (Nat.le_refl _) (q2 op)⟩
    · obtain ⟨I2, r2, q2⟩ := (c57 (ext := ext) (d := 0) L D xt xs xp xu xc ht2 hc1 (by omega) ho s1).2.2 h40
      exact ⟨0, I2, am_rn_of mh_54 rfl (w54_0 I L D xc xp xs xt xu ⟨1, I1, L, D, am_up r1 (by omega), fun z => absurd z (by decide), fun _ => ⟨0, I2, L, D, am_up r2 (by omega), fun _ => rfl, fun z => absurd rfl z⟩⟩), rd_R_f f1 (Nat.le_refl _) (q2 op)⟩
  · obtain ⟨I1, r1, q1⟩ := (c48 (ext := ext) (d := 0) L D xt xs xp xu xc ht2 hc (by omega) hk hS).2 hk9
    exact ⟨0, I1, am_rn_of mh_54 rfl (w54_0 I L D xc xp xs xt xu ⟨0, I1, L, D, am_up r1 (by omega), fun _ => rfl, fun z => absurd rfl z⟩), q1 op⟩
end READ
