/-! ===== the class's reader: an I, OVER, numbers, letters ===== -/
theorem rd_S_b {t : pt_K} {c kn op s : Nat} {I : Nat → Nat → Int32} (h : rd_S t c kn op s I) (x : Int32) : rd_S t c kn op s (am_uI I 20 7 x) := by
  obtain ⟨⟨h1, h2⟩, h3, h4, h5, h6, h7, h8⟩ := h
  exact ⟨⟨by simp [am_uI_at, h1], fun i hi => by simpa [am_uI_at] using h2 i hi⟩, by simp [am_uI_at, h3], by simp [am_uI_at, h4], by simp [am_uI_at, h5], by simp [am_uI_at, h6], by simp [am_uI_at, h7], by simp [am_uI_at, h8]⟩
section READ
variable {ext : Nat → List Value → am_M → Option am_R} {d : Nat} (L : Nat → Nat → Int64) (D : Nat → Nat → UInt64) (xt xs xp xu xc : Nat) {t : pt_K} {e : pt_E} {nl : Nat} {sum : Nat → Nat → Nat → pt_R} {c kn op s : Nat} {I : Nat → Nat → Int32} {q : pt_Q}
theorem c56_23 (ht : pt_tk t) (hc : c < t.2) (hs : s ≤ 288) (h : rd_S t c kn op s I) (lo v2 b : Int32) (hv : (v2 = 0 ∧ b = pt_v t c) ∨ (v2 = 1 ∧ b = -pt_v t c)) :
    (pt_k t c = 2 → pt_v t c ≤ 64 → lo < b → ∃ I', am_wp ext (d + 1) mz_56 (23, [some (.ref 20), some (.int lo), some (.int v2)], [], (I, L, D, am_rf (xt, xs, 11, xp, xu, xc))) (fun r => r = (some (.int 1), (I', L, D, am_rf (xt, xs, 11, xp, xu, xc)))) ∧ rd_S t (pt_adv t c) kn op s I' ∧ rd_fr s I I' ∧ I' 20 7 = b) ∧
    (∀ k : Nat, (k = 1 ∧ ¬ pt_k t c = 2) ∨ (k = 2 ∧ pt_k t c = 2 ∧ ¬ pt_v t c ≤ 64) ∨ (k = 3 ∧ pt_k t c = 2 ∧ pt_v t c ≤ 64 ∧ ¬ lo < b) → ∃ I', am_wp ext (d + 1) mz_56 (23, [some (.ref 20), some (.int lo), some (.int v2)], [], (I, L, D, am_rf (xt, xs, 11, xp, xu, xc))) (fun r => r = (some (.int 0), (I', L, D, am_rf (xt, xs, 11, xp, xu, xc)))) ∧ ∀ op', rd_R t op' s I (.inl (k, pt_p t c)) 0 I') := by
  have ht2 := ht.2.1
  obtain ⟨g1, g2, g3, g4, g5⟩ := rd_S_c (I' := I) h
  have hb := rd_S_b h b
  have fb : rd_fr s I (am_uI I 20 7 b) := rd_fr_u (rd_fr_0 s I) rfl
  refine ⟨fun k2 k64 klo => ?_, fun k hk => ?_⟩
  · obtain ⟨I', r, q1, q2, q3⟩ := c41 (ext := ext) (d := d) L D xt xs xp xu xc ht2 hc hb
    refine ⟨I', w56_23 I L D (xt, xs, 11, xp, xu, xc) lo v2 ⟨fun _ => ⟨fun _ => ⟨fun z => ⟨fun _ => ⟨I', L, D, ?_, rfl⟩, fun zz => absurd ?_ zz⟩, fun z => ⟨fun _ => ⟨I', L, D, ?_, rfl⟩, fun zz => absurd ?_ zz⟩⟩, fun z => absurd ?_ z⟩, fun z => absurd (g1.trans k2) z⟩, q1, rd_fr_t fb q2 (Nat.le_refl _), ?_⟩
    · rcases hv with ⟨h1, h2⟩ | ⟨h1, h2⟩
      · rw [g2, ← h2]; exact r
      · rw [h1] at z; exact absurd z (by decide)
    · rcases hv with ⟨h1, h2⟩ | ⟨h1, h2⟩
      · rw [g2, ← h2]; exact klo
      · rw [h1] at z; exact absurd z (by decide)
    · rcases hv with ⟨h1, h2⟩ | ⟨h1, h2⟩
      · exact absurd h1 z
      · rw [g2, ← h2]; exact r
    · rcases hv with ⟨h1, h2⟩ | ⟨h1, h2⟩
      · exact absurd h1 z
      · rw [g2, ← h2]; exact klo
    · rw [g2]; exact k64
    · rw [q3, am_uI_at, if_pos ⟨rfl, rfl⟩]
  · rcases hk with ⟨rfl, h2⟩ | ⟨rfl, h2, h64⟩ | ⟨rfl, h2, h64, hlo⟩
    · obtain ⟨I', r, q⟩ := c42 (ext := ext) (d := d) L D xt xs xp xu xc ht2 hc hs h 1 (by omega)
      exact ⟨I', w56_23 I L D (xt, xs, 11, xp, xu, xc) lo v2 ⟨fun z => absurd (g1.symm.trans z) h2, fun _ => ⟨0, I', L, D, r, Or.inl rfl, rfl⟩⟩, q⟩
    · obtain ⟨I', r, q⟩ := c42 (ext := ext) (d := d) L D xt xs xp xu xc ht2 hc hs h 2 (by omega)
      exact ⟨I', w56_23 I L D (xt, xs, 11, xp, xu, xc) lo v2 ⟨fun _ => ⟨fun z => absurd (by rw [g2] at z; exact z) h64, fun _ => ⟨0, I', L, D, r, Or.inl rfl, rfl⟩⟩, fun z => absurd (g1.trans h2) z⟩, q⟩
    · obtain ⟨I', r, q⟩ := c42 (ext := ext) (d := d) L D xt xs xp xu xc ht2 hc hs hb 3 (by omega)
      refine ⟨I', w56_23 I L D (xt, xs, 11, xp, xu, xc) lo v2 ⟨fun _ => ⟨fun _ => ⟨fun z => ⟨fun zz => absurd zz ?_, fun _ => ⟨0, I', L, D, ?_, Or.inl rfl, rfl⟩⟩, fun z => ⟨fun zz => absurd zz ?_, fun _ => ⟨0, I', L, D, ?_, Or.inl rfl, rfl⟩⟩⟩, fun z => absurd (by rw [g2]; exact h64) z⟩, fun z => absurd (g1.trans h2) z⟩, fun op' => rd_R_f fb (Nat.le_refl _) (q op')⟩
      · rcases hv with ⟨h1, h2⟩ | ⟨h1, h2⟩
        · rw [g2, ← h2]; exact hlo
        · rw [h1] at z; exact absurd z (by decide)
      · rcases hv with ⟨h1, h2⟩ | ⟨h1, h2⟩
        · rw [g2, ← h2]; exact r
        · rw [h1] at z; exact absurd z (by decide)
      · rcases hv with ⟨h1, h2⟩ | ⟨h1, h2⟩
        · exact absurd h1 z
        · rw [g2, ← h2]; exact hlo
      · rcases hv with ⟨h1, h2⟩ | ⟨h1, h2⟩
        · exact absurd h1 z
        · rw [g2, ← h2]; exact r
/-- boundAbove -/
theorem c56 (ht : pt_tk t) (hc : c < t.2) (hs : s ≤ 288) (h : rd_S t c kn op s I) (lo : Int32) {g : Nat → Int → pt_R} (hq : pt_i t lo.toInt c g = some q) :
    (∃ c1 i I', c1 < t.2 ∧ -64 ≤ i ∧ i ≤ 64 ∧ lo.toInt < i ∧ g c1 i = some q ∧ am_Rn ext (d + 2) 56 [.ref 20, .int lo] (I, L, D, am_rf (xt, xs, 11, xp, xu, xc)) (some (.int 1), (I', L, D, am_rf (xt, xs, 11, xp, xu, xc))) ∧ rd_S t c1 kn op s I' ∧ rd_fr s I I' ∧ I' 20 7 = Int32.ofInt i) ∨
    (∃ f I', q = .inl f ∧ am_Rn ext (d + 2) 56 [.ref 20, .int lo] (I, L, D, am_rf (xt, xs, 11, xp, xu, xc)) (some (.int 0), (I', L, D, am_rf (xt, xs, 11, xp, xu, xc))) ∧ ∀ op', rd_R t op' s I (.inl f) 0 I') := by
  have ht2 := ht.2.1
  have ha := pt_adv_lt hc
  have g1 := (rd_S_c (I' := I) h).1
  have e64 : ∀ c, pt_v t c ≤ 64 ↔ (pt_v t c).toInt ≤ 64 := fun c => by rw [Int32.le_iff_toInt_le]; rfl
  have oi : ∀ i : Int, -64 ≤ i → i ≤ 64 → (Int32.ofInt i).toInt = i := fun i h1 h2 => Int32.toInt_ofInt_of_le (by omega) (by omega)
  unfold pt_i at hq
  by_cases h45 : pt_k t c = 45
  · simp only [if_pos h45] at hq
    obtain ⟨I1, r1, s1, f1, _⟩ := c41 (ext := ext) (d := d) L D xt xs xp xu xc ht2 hc h
    have start : ∀ {r0 : am_R}, am_wp ext (d + 1) mz_56 (23, [some (.ref 20), some (.int lo), some (.int 1)], [], (I1, L, D, am_rf (xt, xs, 11, xp, xu, xc))) (fun r => r = r0) → am_Rn ext (d + 2) 56 [.ref 20, .int lo] (I, L, D, am_rf (xt, xs, 11, xp, xu, xc)) r0 := fun {r0} w => am_rn_of mh_56 rfl (w56_0 I L D (xt, xs, 11, xp, xu, xc) lo ⟨fun z => absurd (g1.trans h45) z, fun _ => w56_14 I L D (xt, xs, 11, xp, xu, xc) lo 1 ⟨fun z => absurd z (by decide), fun _ => ⟨I1, L, D, r1, w⟩⟩⟩)
    by_cases h2 : pt_k t (pt_adv t c) = 2
    · rw [if_pos h2] at hq
      have hv0 := ((ht.2.2 _ ha).2 h2)
      have eb : (-pt_v t (pt_adv t c)).toInt = -(pt_v t (pt_adv t c)).toInt := by rw [Int32.toInt_neg, Int.bmod_eq_of_le (by omega) (by omega)]
      by_cases h64 : (pt_v t (pt_adv t c)).toInt ≤ 64
      · rw [if_pos h64] at hq
        by_cases hlo : lo.toInt < -(pt_v t (pt_adv t c)).toInt
        · rw [if_pos hlo] at hq
          obtain ⟨I', w, q1, q2, q3⟩ := (c56_23 (ext := ext) (d := d) L D xt xs xp xu xc ht ha hs s1 lo 1 (-pt_v t (pt_adv t c)) (Or.inr ⟨rfl, rfl⟩)).1 h2 ((e64 _).mpr h64) (by rw [Int32.lt_iff_toInt_lt, eb]; exact hlo)
          refine Or.inl ⟨_, _, I', pt_adv_lt ha, by omega, by omega, hlo, hq, start w, q1, rd_fr_t f1 q2 (Nat.le_refl _), ?_⟩
          rw [q3, ← Int32.toInt_inj, eb, oi _ (by omega) (by omega)]
        · rw [if_neg hlo] at hq
          cases hq
          obtain ⟨I', w, q1⟩ := (c56_23 (ext := ext) (d := d) L D xt xs xp xu xc ht ha hs s1 lo 1 (-pt_v t (pt_adv t c)) (Or.inr ⟨rfl, rfl⟩)).2 3 (Or.inr (Or.inr ⟨rfl, h2, (e64 _).mpr h64, by rw [Int32.lt_iff_toInt_lt, eb]; exact hlo⟩))
          exact Or.inr ⟨_, I', rfl, start w, fun op' => rd_R_f f1 (Nat.le_refl _) (q1 op')⟩
      · rw [if_neg h64] at hq
        cases hq
        obtain ⟨I', w, q1⟩ := (c56_23 (ext := ext) (d := d) L D xt xs xp xu xc ht ha hs s1 lo 1 (-pt_v t (pt_adv t c)) (Or.inr ⟨rfl, rfl⟩)).2 2 (Or.inr (Or.inl ⟨rfl, h2, fun z => h64 ((e64 _).mp z)⟩))
        exact Or.inr ⟨_, I', rfl, start w, fun op' => rd_R_f f1 (Nat.le_refl _) (q1 op')⟩
    · rw [if_neg h2] at hq
      cases hq
      obtain ⟨I', w, q1⟩ := (c56_23 (ext := ext) (d := d) L D xt xs xp xu xc ht ha hs s1 lo 1 (-pt_v t (pt_adv t c)) (Or.inr ⟨rfl, rfl⟩)).2 1 (Or.inl ⟨rfl, h2⟩)
      exact Or.inr ⟨_, I', rfl, start w, fun op' => rd_R_f f1 (Nat.le_refl _) (q1 op')⟩
  · simp only [if_neg h45] at hq
    have start : ∀ {r0 : am_R}, am_wp ext (d + 1) mz_56 (23, [some (.ref 20), some (.int lo), some (.int 0)], [], (I, L, D, am_rf (xt, xs, 11, xp, xu, xc))) (fun r => r = r0) → am_Rn ext (d + 2) 56 [.ref 20, .int lo] (I, L, D, am_rf (xt, xs, 11, xp, xu, xc)) r0 := fun {r0} w => am_rn_of mh_56 rfl (w56_0 I L D (xt, xs, 11, xp, xu, xc) lo ⟨fun _ => w56_14 I L D (xt, xs, 11, xp, xu, xc) lo 0 ⟨fun _ => w, fun z => absurd rfl z⟩, fun z => absurd (g1.symm.trans z) h45⟩)
    by_cases h2 : pt_k t c = 2
    · rw [if_pos h2] at hq
      have hv0 := ((ht.2.2 _ hc).2 h2)
      by_cases h64 : (pt_v t c).toInt ≤ 64
      · rw [if_pos h64] at hq
        by_cases hlo : lo.toInt < (pt_v t c).toInt
        · rw [if_pos hlo] at hq
          obtain ⟨I', w, q1, q2, q3⟩ := (c56_23 (ext := ext) (d := d) L D xt xs xp xu xc ht hc hs h lo 0 (pt_v t c) (Or.inl ⟨rfl, rfl⟩)).1 h2 ((e64 _).mpr h64) (by rw [Int32.lt_iff_toInt_lt]; exact hlo)
          refine Or.inl ⟨_, _, I', ha, by omega, by omega, hlo, hq, start w, q1, q2, ?_⟩
          rw [q3, ← Int32.toInt_inj, oi _ (by omega) (by omega)]
        · rw [if_neg hlo] at hq
          cases hq
          obtain ⟨I', w, q1⟩ := (c56_23 (ext := ext) (d := d) L D xt xs xp xu xc ht hc hs h lo 0 (pt_v t c) (Or.inl ⟨rfl, rfl⟩)).2 3 (Or.inr (Or.inr ⟨rfl, h2, (e64 _).mpr h64, by rw [Int32.lt_iff_toInt_lt]; exact hlo⟩))
          exact Or.inr ⟨_, I', rfl, start w, q1⟩
      · rw [if_neg h64] at hq
        cases hq
        obtain ⟨I', w, q1⟩ := (c56_23 (ext := ext) (d := d) L D xt xs xp xu xc ht hc hs h lo 0 (pt_v t c) (Or.inl ⟨rfl, rfl⟩)).2 2 (Or.inr (Or.inl ⟨rfl, h2, fun z => h64 ((e64 _).mp z)⟩))
        exact Or.inr ⟨_, I', rfl, start w, q1⟩
    · rw [if_neg h2] at hq
      cases hq
      obtain ⟨I', w, q1⟩ := (c56_23 (ext := ext) (d := d) L D xt xs xp xu xc ht hc hs h lo 0 (pt_v t c) (Or.inl ⟨rfl, rfl⟩)).2 1 (Or.inl ⟨rfl, h2⟩)
      exact Or.inr ⟨_, I', rfl, start w, q1⟩
/-- over -/
theorem c55 (hd : 3 ≤ d) (ht : pt_tk t) (hc : c < t.2) (hk : kn ≤ 96) (ho : op ≤ 8) (hs : s ≤ 3 * kn) (hS : rd_S t c kn op s I) (hE : rd_E e nl I) (kd : Nat) (hkd : 15 ≤ kd ∧ kd ≤ 18) (hq : pt_over t e kd c kn op = some q) :
    ∃ x I', am_Rn ext (d + 1) 55 [.ref 20, .int (nI (kd - 11))] (I, L, D, am_rf (xt, xs, 11, xp, xu, xc)) (some (.int x), (I', L, D, am_rf (xt, xs, 11, xp, xu, xc))) ∧ rd_R t op s I q x I' := by
  have ht2 := ht.2.1
  have hn1 : ¬ nI (kd - 11) = -1 := by
    obtain ⟨h1, h2⟩ := hkd
    have : kd = 15 ∨ kd = 16 ∨ kd = 17 ∨ kd = 18 := by omega
    rcases this with rfl | rfl | rfl | rfl <;> decide
  rcases pt_n_some hq with ⟨hk9, hq⟩ | ⟨hk9, rfl⟩
  · obtain ⟨I1, r1, s1, f1⟩ := (c48 (ext := ext) (d := 0) L D xt xs xp xu xc ht2 hc (by omega) hk hS).1 hk9
    have hc1 := pt_adv_lt hc
    rcases pt_o_some hq with ⟨h40, h8, hq⟩ | ⟨h40, h8, rfl⟩ | ⟨h40, rfl⟩
    · obtain ⟨I2, r2, s2, f2⟩ := (c57 (ext := ext) (d := 0) L D xt xs xp xu xc ht2 hc1 (by omega) ho s1).1 h40 h8
      have hc2 := pt_adv_lt hc1
      have f12 := rd_fr_t f1 f2 (Nat.le_refl _)
      obtain ⟨k3, k4, _⟩ := rd_S_c (I' := I) s2
      generalize pt_adv t (pt_adv t c) = c2 at *
      by_cases h3 : pt_k t c2 = 3
      · by_cases h19 : pt_v t c2 = 19
        · rw [if_neg (fun z => z.2 h19)] at hq
          cases hq
          obtain ⟨I3, r3, q3⟩ := c42 (ext := ext) (d := 0) L D xt xs xp xu xc ht2 hc2 (by omega) s2 1 (by omega)
          exact ⟨0, I3, am_rn_of mh_55 rfl (w55_0 I L D xc xp xs xt xu _ ⟨fun _ => ⟨1, I1, L, D, am_up r1 (by omega), fun z => absurd z (by decide), fun _ => ⟨1, I2, L, D, am_up r2 (by omega), fun _ => ⟨fun z => absurd (k3.trans h3) z, fun _ => ⟨fun z => absurd (k4.trans h19) z, fun _ => ⟨0, I3, L, D, am_up r3 (by omega), Or.inl rfl, rfl⟩⟩⟩, fun z => absurd z (by decide)⟩⟩, fun z => absurd z hn1⟩), rd_R_f f12 (Nat.le_refl _) (q3 op)⟩
        · rw [if_pos ⟨h3, h19⟩] at hq
          have hl0 := (ht.2.2 _ hc2).1 h3
          have hlc := pt_clamp hl0.1
          have hl : (pt_v t c2).toNatClampNeg < 26 := by omega
          have hvl : pt_v t c2 = nI (pt_v t c2).toNatClampNeg := by
            rw [← Int32.toInt_inj, nI_toInt (by omega)]
            omega
          have hE2 := rd_E_fr hE f12
          have r3 := c32 (ext := ext) (d := 0) L D xt xs xp xu xc hE2 hl
          have r4 := c33 (ext := ext) (d := 0) L D xt xs xp xu xc hE2 hl
          rw [← hvl] at r3
          by_cases hf2 : e.2.1 (pt_v t c2).toNatClampNeg = 2
          · rw [if_pos hf2] at hq r4
            obtain ⟨I3, r5, s3, f3, _⟩ := c41 (ext := ext) (d := 0) L D xt xs xp xu xc ht2 hc2 s2
            have hc3 := pt_adv_lt hc2
            have f13 := rd_fr_t f12 f3 (Nat.le_refl _)
            rcases pt_x_some hq with ⟨h44, hq⟩ | ⟨h44, rfl⟩
            · obtain ⟨I4, r6, s4, f4, _⟩ := (c59 (ext := ext) (d := 0) L D xt xs xp xu xc ht2 hc3 (by omega) s3 44).1 h44
              have f14 := rd_fr_t f13 f4 (Nat.le_refl _)
              rcases c56 (ext := ext) (d := 0) L D xt xs xp xu xc ht (pt_adv_lt hc3) (by omega) s4 (-65) hq with ⟨c5, i, I5, hc5, hi1, hi2, hi3, hq, r7, s5, f5, b5⟩ | ⟨f, I5, rfl, r7, q5⟩
              · have f15 := rd_fr_t f14 f5 (Nat.le_refl _)
                rcases pt_x_some hq with ⟨h442, hq⟩ | ⟨h442, rfl⟩
                · obtain ⟨I6, r8, s6, f6, b6⟩ := (c59 (ext := ext) (d := 0) L D xt xs xp xu xc ht2 hc5 (by omega) s5 44).1 h442
                  have f16 := rd_fr_t f15 f6 (Nat.le_refl _)
                  have oi : ∀ i : Int, -64 ≤ i → i ≤ 64 → (Int32.ofInt i).toInt = i := fun i h1 h2 => Int32.toInt_ofInt_of_le (by omega) (by omega)
                  rw [← oi i hi1 hi2] at hq
                  rcases c56 (ext := ext) (d := 0) L D xt xs xp xu xc ht (pt_adv_lt hc5) (by omega) s6 (Int32.ofInt i) hq with ⟨c7, j, I7, hc7, hj1, hj2, hj3, hq, r9, s7, f7, b7⟩ | ⟨f, I7, rfl, r9, q7⟩
                  · rw [← b5] at r9
                    have f17 := rd_fr_t f16 f7 (Nat.le_refl _)
                    have r10 := c37 (ext := ext) (d := 0) L D (xt, xs, 11, xp, xu, xc) (nI (kd - 11)) (nI (e.2.2 (pt_v t c2).toNatClampNeg)) (I5 20 7) (I7 20 7) (rd_S_c (I' := I) s7).2.2.2.2 (by omega)
                    obtain ⟨s8, f8⟩ := rd_S_add s7 (nI (kd - 11)) (nI (e.2.2 (pt_v t c2).toNatClampNeg)) (I5 20 7) (I7 20 7)
                    have cc8 : tr_cc ((am_uI (am_uI (am_uI (am_uI (am_uI I7 16 s (nI (kd - 11))) 17 s (nI (e.2.2 (pt_v t c2).toNatClampNeg))) 18 s (I5 20 7)) 19 s (I7 20 7)) 11 8 (nI (s + 1))) 16) ((am_uI (am_uI (am_uI (am_uI (am_uI I7 16 s (nI (kd - 11))) 17 s (nI (e.2.2 (pt_v t c2).toNatClampNeg))) 18 s (I5 20 7)) 19 s (I7 20 7)) 11 8 (nI (s + 1))) 17) ((am_uI (am_uI (am_uI (am_uI (am_uI I7 16 s (nI (kd - 11))) 17 s (nI (e.2.2 (pt_v t c2).toNatClampNeg))) 18 s (I5 20 7)) 19 s (I7 20 7)) 11 8 (nI (s + 1))) 18) ((am_uI (am_uI (am_uI (am_uI (am_uI I7 16 s (nI (kd - 11))) 17 s (nI (e.2.2 (pt_v t c2).toNatClampNeg))) 18 s (I5 20 7)) 19 s (I7 20 7)) 11 8 (nI (s + 1))) 19) (.leaf (kn, kd, (pt_v t c2).toNatClampNeg, e.2.2 (pt_v t c2).toNatClampNeg, i, j)) s := by
                      refine ⟨?_, ?_, ?_, ?_⟩
                      · have : kd = 15 ∨ kd = 16 ∨ kd = 17 ∨ kd = 18 := by omega
                        rcases this with rfl | rfl | rfl | rfl <;> simp [am_uI_at, tr_op]
                      · simp only [tr_ar]
                        rw [if_neg (by omega), if_pos (by omega)]
                        simp [am_uI_at]
                      · simp [am_uI_at, b5]
                      · simp [am_uI_at, b7]
                    revert r10 s8 f8 cc8
                    generalize (am_uI (am_uI (am_uI (am_uI (am_uI I7 16 s (nI (kd - 11))) 17 s (nI (e.2.2 (pt_v t c2).toNatClampNeg))) 18 s (I5 20 7)) 19 s (I7 20 7)) 11 8 (nI (s + 1))) = I8
                    intro r10 s8 f8 cc8
                    have h0 : ¬ e.2.1 (pt_v t c2).toNatClampNeg = 0 := by omega
                    rw [if_neg h0] at r3 r4
                    rcases pt_x_some hq with ⟨h41, hq⟩ | ⟨h41, rfl⟩
                    · rw [oi i hi1 hi2] at hq
                      cases hq
                      obtain ⟨I9, r11, s9, f9⟩ := (c58 (ext := ext) (d := 0) L D xt xs xp xu xc ht2 hc7 (by omega) h8 s8).1 h41
                      refine ⟨1, I9, am_rn_of mh_55 rfl (w55_0 I L D xc xp xs xt xu _ ⟨fun _ => ⟨1, I1, L, D, am_up r1 (by omega), fun z => absurd z (by decide), fun _ => ⟨1, I2, L, D, am_up r2 (by omega), fun _ => ⟨fun z => absurd (k3.trans h3) z, fun _ => ⟨fun _ => ⟨_, I2, L, D, by rw [k4]; exact am_up r3 (by omega), 1, I2, L, D, am_up r4 (by omega), fun _ => ⟨I3, L, D, am_up r5 (by omega), 1, I4, L, D, am_up r6 (by omega), fun z => absurd z (by decide), fun _ => ⟨1, I5, L, D, am_up r7 (by omega), fun _ => ⟨1, I6, L, D, am_up r8 (by omega), fun z => absurd z (by decide), fun _ => ⟨1, I7, L, D, am_up r9 (by omega), fun _ => ⟨_, I8, L, D, am_up r10 (by omega), 1, I9, L, D, am_up r11 (by omega), Or.inr rfl, rfl⟩, fun z => absurd z (by decide)⟩⟩, fun z => absurd z (by decide)⟩⟩, fun z => absurd z (by decide)⟩, fun z => absurd (k4.symm.trans z) h19⟩⟩, fun z => absurd z (by decide)⟩⟩, fun z => absurd z hn1⟩), rd_fr_t (rd_fr_t f17 f8 (Nat.le_refl _)) f9 (by omega), rfl, s9, ?_⟩
                      exact ⟨(f9 16 s (rd_x_no (by omega) (by omega))).trans cc8.1, (f9 17 s (rd_x_no (by omega) (by omega))).trans cc8.2.1, (f9 18 s (rd_x_no (by omega) (by omega))).trans cc8.2.2.1, (f9 19 s (rd_x_no (by omega) (by omega))).trans cc8.2.2.2⟩
                    · obtain ⟨I9, r11, q9⟩ := (c58 (ext := ext) (d := 0) L D xt xs xp xu xc ht2 hc7 (by omega) h8 s8).2 h41
                      exact ⟨0, I9, am_rn_of mh_55 rfl (w55_0 I L D xc xp xs xt xu _ ⟨fun _ => ⟨1, I1, L, D, am_up r1 (by omega), fun z => absurd z (by decide), fun _ => ⟨1, I2, L, D, am_up r2 (by omega), fun _ => ⟨fun z => absurd (k3.trans h3) z, fun _ => ⟨fun _ => ⟨_, I2, L, D, by rw [k4]; exact am_up r3 (by omega), 1, I2, L, D, am_up r4 (by omega), fun _ => ⟨I3, L, D, am_up r5 (by omega), 1, I4, L, D, am_up r6 (by omega), fun z => absurd z (by decide), fun _ => ⟨1, I5, L, D, am_up r7 (by omega), fun _ => ⟨1, I6, L, D, am_up r8 (by omega), fun z => absurd z (by decide), fun _ => ⟨1, I7, L, D, am_up r9 (by omega), fun _ => ⟨_, I8, L, D, am_up r10 (by omega), 0, I9, L, D, am_up r11 (by omega), Or.inl rfl, rfl⟩, fun z => absurd z (by decide)⟩⟩, fun z => absurd z (by decide)⟩⟩, fun z => absurd z (by decide)⟩, fun z => absurd (k4.symm.trans z) h19⟩⟩, fun z => absurd z (by decide)⟩⟩, fun z => absurd z hn1⟩), rd_R_f (rd_fr_t f17 f8 (Nat.le_refl _)) (by omega) (q9 op)⟩
                  · rw [← b5] at r9
                    exact ⟨0, I7, am_rn_of mh_55 rfl (w55_0 I L D xc xp xs xt xu _ ⟨fun _ => ⟨1, I1, L, D, am_up r1 (by omega), fun z => absurd z (by decide), fun _ => ⟨1, I2, L, D, am_up r2 (by omega), fun _ => ⟨fun z => absurd (k3.trans h3) z, fun _ => ⟨fun _ => ⟨_, I2, L, D, by rw [k4]; exact am_up r3 (by omega), 1, I2, L, D, am_up r4 (by omega), fun _ => ⟨I3, L, D, am_up r5 (by omega), 1, I4, L, D, am_up r6 (by omega), fun z => absurd z (by decide), fun _ => ⟨1, I5, L, D, am_up r7 (by omega), fun _ => ⟨1, I6, L, D, am_up r8 (by omega), fun z => absurd z (by decide), fun _ => ⟨0, I7, L, D, am_up r9 (by omega), fun z => absurd rfl z, fun _ => rfl⟩⟩, fun z => absurd z (by decide)⟩⟩, fun z => absurd z (by decide)⟩, fun z => absurd (k4.symm.trans z) h19⟩⟩, fun z => absurd z (by decide)⟩⟩, fun z => absurd z hn1⟩), rd_R_f f16 (Nat.le_refl _) (q7 op)⟩
                · obtain ⟨I6, r8, q6⟩ := (c59 (ext := ext) (d := 0) L D xt xs xp xu xc ht2 hc5 (by omega) s5 44).2 h442
                  exact ⟨0, I6, am_rn_of mh_55 rfl (w55_0 I L D xc xp xs xt xu _ ⟨fun _ => ⟨1, I1, L, D, am_up r1 (by omega), fun z => absurd z (by decide), fun _ => ⟨1, I2, L, D, am_up r2 (by omega), fun _ => ⟨fun z => absurd (k3.trans h3) z, fun _ => ⟨fun _ => ⟨_, I2, L, D, by rw [k4]; exact am_up r3 (by omega), 1, I2, L, D, am_up r4 (by omega), fun _ => ⟨I3, L, D, am_up r5 (by omega), 1, I4, L, D, am_up r6 (by omega), fun z => absurd z (by decide), fun _ => ⟨1, I5, L, D, am_up r7 (by omega), fun _ => ⟨0, I6, L, D, am_up r8 (by omega), fun _ => rfl, fun z => absurd rfl z⟩, fun z => absurd z (by decide)⟩⟩, fun z => absurd z (by decide)⟩, fun z => absurd (k4.symm.trans z) h19⟩⟩, fun z => absurd z (by decide)⟩⟩, fun z => absurd z hn1⟩), rd_R_f f15 (Nat.le_refl _) (q6 op)⟩
              · exact ⟨0, I5, am_rn_of mh_55 rfl (w55_0 I L D xc xp xs xt xu _ ⟨fun _ => ⟨1, I1, L, D, am_up r1 (by omega), fun z => absurd z (by decide), fun _ => ⟨1, I2, L, D, am_up r2 (by omega), fun _ => ⟨fun z => absurd (k3.trans h3) z, fun _ => ⟨fun _ => ⟨_, I2, L, D, by rw [k4]; exact am_up r3 (by omega), 1, I2, L, D, am_up r4 (by omega), fun _ => ⟨I3, L, D, am_up r5 (by omega), 1, I4, L, D, am_up r6 (by omega), fun z => absurd z (by decide), fun _ => ⟨0, I5, L, D, am_up r7 (by omega), fun z => absurd rfl z, fun _ => rfl⟩⟩, fun z => absurd z (by decide)⟩, fun z => absurd (k4.symm.trans z) h19⟩⟩, fun z => absurd z (by decide)⟩⟩, fun z => absurd z hn1⟩), rd_R_f f14 (Nat.le_refl _) (q5 op)⟩
            · obtain ⟨I4, r6, q4⟩ := (c59 (ext := ext) (d := 0) L D xt xs xp xu xc ht2 hc3 (by omega) s3 44).2 h44
              exact ⟨0, I4, am_rn_of mh_55 rfl (w55_0 I L D xc xp xs xt xu _ ⟨fun _ => ⟨1, I1, L, D, am_up r1 (by omega), fun z => absurd z (by decide), fun _ => ⟨1, I2, L, D, am_up r2 (by omega), fun _ => ⟨fun z => absurd (k3.trans h3) z, fun _ => ⟨fun _ => ⟨_, I2, L, D, by rw [k4]; exact am_up r3 (by omega), 1, I2, L, D, am_up r4 (by omega), fun _ => ⟨I3, L, D, am_up r5 (by omega), 0, I4, L, D, am_up r6 (by omega), fun _ => rfl, fun z => absurd rfl z⟩, fun z => absurd z (by decide)⟩, fun z => absurd (k4.symm.trans z) h19⟩⟩, fun z => absurd z (by decide)⟩⟩, fun z => absurd z hn1⟩), rd_R_f f13 (Nat.le_refl _) (q4 op)⟩
          · rw [if_neg hf2] at hq r4
            cases hq
            obtain ⟨I3, r5, q3⟩ := c42 (ext := ext) (d := 0) L D xt xs xp xu xc ht2 hc2 (by omega) s2 3 (by omega)
            exact ⟨0, I3, am_rn_of mh_55 rfl (w55_0 I L D xc xp xs xt xu _ ⟨fun _ => ⟨1, I1, L, D, am_up r1 (by omega), fun z => absurd z (by decide), fun _ => ⟨1, I2, L, D, am_up r2 (by omega), fun _ => ⟨fun z => absurd (k3.trans h3) z, fun _ => ⟨fun _ => ⟨_, I2, L, D, by rw [k4]; exact am_up r3 (by omega), 0, I2, L, D, am_up r4 (by omega), fun z => absurd rfl z, fun _ => ⟨0, I3, L, D, am_up r5 (by omega), Or.inl rfl, rfl⟩⟩, fun z => absurd (k4.symm.trans z) h19⟩⟩, fun z => absurd z (by decide)⟩⟩, fun z => absurd z hn1⟩), rd_R_f f12 (Nat.le_refl _) (q3 op)⟩
      · rw [if_neg (fun z => h3 z.1)] at hq
        cases hq
        obtain ⟨I3, r3, q3⟩ := c42 (ext := ext) (d := 0) L D xt xs xp xu xc ht2 hc2 (by omega) s2 1 (by omega)
        exact ⟨0, I3, am_rn_of mh_55 rfl (w55_0 I L D xc xp xs xt xu _ ⟨fun _ => ⟨1, I1, L, D, am_up r1 (by omega), fun z => absurd z (by decide), fun _ => ⟨1, I2, L, D, am_up r2 (by omega), fun _ => ⟨fun _ => ⟨0, I3, L, D, am_up r3 (by omega), Or.inl rfl, rfl⟩, fun z => absurd (k3.symm.trans z) h3⟩, fun z => absurd z (by decide)⟩⟩, fun z => absurd z hn1⟩), rd_R_f f12 (Nat.le_refl _) (q3 op)⟩
    · obtain ⟨I2, r2, q2⟩ := (c57 (ext := ext) (d := 0) L D xt xs xp xu xc ht2 hc1 (by omega) ho s1).2.1 h40 h8
      exact ⟨0, I2, am_rn_of mh_55 rfl (w55_0 I L D xc xp xs xt xu _ ⟨fun _ => ⟨1, I1, L, D, am_up r1 (by omega), fun z => absurd z (by decide), fun _ => ⟨0, I2, L, D, am_up r2 (by omega), fun z => absurd rfl z, fun _ => rfl⟩⟩, fun z => absurd z hn1⟩), rd_R_f f1 (Nat.le_refl _) (q2 op)⟩
    · obtain ⟨I2, r2, q2⟩ := (c57 (ext := ext) (d := 0) L D xt xs xp xu xc ht2 hc1 (by omega) ho s1).2.2 h40
      exact ⟨0, I2, am_rn_of mh_55 rfl (w55_0 I L D xc xp xs xt xu _ ⟨fun _ => ⟨1, I1, L, D, am_up r1 (by omega), fun z => absurd z (by decide), fun _ => ⟨0, I2, L, D, am_up r2 (by omega), fun z => absurd rfl z, fun _ => rfl⟩⟩, fun z => absurd z hn1⟩), rd_R_f f1 (Nat.le_refl _) (q2 op)⟩
  · obtain ⟨I1, r1, q1⟩ := (c48 (ext := ext) (d := 0) L D xt xs xp xu xc ht2 hc (by omega) hk hS).2 hk9
    exact ⟨0, I1, am_rn_of mh_55 rfl (w55_0 I L D xc xp xs xt xu _ ⟨fun _ => ⟨0, I1, L, D, am_up r1 (by omega), fun _ => rfl, fun z => absurd rfl z⟩, fun z => absurd z hn1⟩), q1 op⟩
end READ
