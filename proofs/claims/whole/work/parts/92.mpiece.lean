/-! ===== the reference asks: over pieces ===== -/
theorem pe_div {w n : Nat} {i j : Int} (hw : w ≤ 20) (h1 : -64 ≤ i) (h2 : i < j) (h3 : j ≤ 64) (hn : n ≤ 2 ^ (w / 4)) : (sp_l w (Int32.toInt64 (Int32.ofInt i))) + (sp_l w ((Int32.toInt64 (Int32.ofInt j - Int32.ofInt i)) * (Int32.toInt64 (nI n)))) / (Int32.toInt64 (nI (2 ^ (w / 4)))) = sp_pe w i j n := by
  rw [← Int64.toInt_inj, pe_i hw h1 h2 h3 hn]
  obtain ⟨q1, q2⟩ := p4_le hw
  obtain ⟨p1, p2⟩ := p2_le hw
  have ed : (Int32.toInt64 (Int32.ofInt j - Int32.ofInt i)).toInt = j - i := by
    rw [Int32.toInt_toInt64, Int32.toInt_sub, i32_of (by omega) (by omega), i32_of (by omega) (by omega), Int.bmod_eq_of_le (by omega) (by omega)]
  have ek : (Int32.toInt64 (nI n)).toInt = n := by rw [Int32.toInt_toInt64, nI_toInt (by omega)]
  have em4 : (Int32.toInt64 (nI (2 ^ (w / 4)))).toInt = 2 ^ (w / 4) := by rw [Int32.toInt_toInt64, nI_toInt (by omega), Int.natCast_pow]; rfl
  have b1 : 0 ≤ (j - i) * (n : Int) := Int.mul_nonneg (by omega) (by omega)
  have b2 : (j - i) * (n : Int) ≤ 128 * 32 := Int.mul_le_mul (by omega) (by omega) (by omega) (by omega)
  have em : ((Int32.toInt64 (Int32.ofInt j - Int32.ofInt i)) * (Int32.toInt64 (nI n))).toInt = (j - i) * n := by rw [i64_mul (by rw [ed, ek]; omega) (by rw [ed, ek]; omega), ed, ek]
  have es : (sp_l w ((Int32.toInt64 (Int32.ofInt j - Int32.ofInt i)) * (Int32.toInt64 (nI n)))).toInt = (j - i) * n * 2 ^ w := by rw [sp_l_i _ hw (by rw [em]; omega) (by rw [em]; omega), em]
  have e1 : (sp_l w (Int32.toInt64 (Int32.ofInt i))).toInt = i * 2 ^ w := by
    have := i64_of (i := i) (by omega) (by omega)
    rw [sp_l_i _ hw (by rw [this]; omega) (by rw [this]; omega), this]
  have c1 : 0 ≤ (j - i) * n * 2 ^ w := Int.mul_nonneg b1 (by omega)
  have c2 : (j - i) * n * 2 ^ w ≤ 128 * 32 * 1048576 := Int.mul_le_mul b2 p2 (by omega) (by omega)
  have q3 : (0 : Int) < 2 ^ (w / 4) := Int.pow_pos (by omega)
  have d1 : 0 ≤ ((j - i) * n * 2 ^ w) / 2 ^ (w / 4) := Int.ediv_nonneg c1 (by omega)
  have d2 : ((j - i) * n * 2 ^ w) / 2 ^ (w / 4) ≤ (j - i) * n * 2 ^ w := Int.ediv_le_self _ c1
  have f1 : -64 * 2 ^ w ≤ i * 2 ^ w := Int.mul_le_mul_of_nonneg_right h1 (by omega)
  have f2 : i * 2 ^ w ≤ 64 * 2 ^ w := Int.mul_le_mul_of_nonneg_right (by omega) (by omega)
  have edv : ((sp_l w ((Int32.toInt64 (Int32.ofInt j - Int32.ofInt i)) * (Int32.toInt64 (nI n)))) / (Int32.toInt64 (nI (2 ^ (w / 4))))).toInt = ((j - i) * n * 2 ^ w) / 2 ^ (w / 4) := by
    rw [Int64.toInt_div, es, em4, Int.tdiv_eq_ediv_of_nonneg c1, Int.bmod_eq_of_le (by omega) (by omega)]
  rw [i64_add (by rw [e1, edv]; omega) (by rw [e1, edv]; omega), e1, edv]
section MPIECE
variable {ext : Nat → List Value → am_M → Option am_R} {d : Nat} (D : Nat → Nat → UInt64) (X : am_Rf) {J : Nat → Nat → Int32} {w : Nat} {a b : Int64} {T' : tr_T} {E : Int64 → Int64 → ev_R} {Bf k lt : Nat} {i j : Int}
theorem c168 {I : Nat → Nat → Int32} {L : Nat → Nat → Int64} {n : Nat} (hw : w ≤ 20) (h1 : -64 ≤ i) (h2 : i < j) (h3 : j ≤ 64) (hn : n ≤ 2 ^ (w / 4)) (hk : k < 192) (h48 : I 42 48 = nI w) (e48 : I 48 k = Int32.ofInt i) (e49 : I 49 k = Int32.ofInt j) : am_Rn ext (d + 1) 168 [.ref 42, .int (nI k), .int (nI n), .int (nI (2 ^ (w / 4)))] (I, L, D, am_rf X) (some (.long (sp_pe w i j n)), (I, L, D, am_rf X)) := by
  have hbk : am_inb (nI k) 192 = true := ni_inb hk (by omega)
  have ek : (nI k).toNatClampNeg = k := ni_nat (by omega)
  obtain ⟨q1, q2⟩ := p4_le hw
  refine am_rn_of mh_168 rfl (w168_0 I L D X (nI k) (nI n) (nI (2 ^ (w / 4))) ?_)
  rw [ek, h48, e48, e49]
  refine ⟨hbk, hbk, hbk, fun z => ?_, ?_⟩
  · rw [← Int64.toInt_inj, Int32.toInt_toInt64, nI_toInt (by omega)] at z
    have : (0 : Int64).toInt = 0 := rfl
    omega
  · have := pe_div hw h1 h2 h3 hn
    rw [← this]
    rfl
theorem mt_pl {P : am_R → Prop} {f u kd : Nat} {I0 : Nat → Nat → Int32} {L0 : Nat → Nat → Int64} (hw : w ≤ 20) (hd : 6 ≤ d) (hf : f + 1 + Bf ≤ 128) (b1 : 1 ≤ Bf) (hkd : 16 ≤ kd ∧ kd ≤ 18) (hr : no_J J k (kd - 15) lt (tr_rt T') i j) (h1 : -64 ≤ i) (h2 : i < j) (h3 : j ≤ 64) (GE : ∀ c e, gd2 w c e → me_G ext d D X J w T' (E c e) c e Bf) : ∀ (m s : Nat) (lo hi : Int64) (u0 : Nat) (I : Nat → Nat → Int32) (L : Nat → Nat → Int64), s + m = 2 ^ (w / 4) → me_S w (u + (u0 + 1)) f k (s + 1) a b I L → u + (u0 + 1) ≤ 20000 → me_J J I → me_fr f I0 L0 I L → (s = 0 → lo = 0 ∧ hi = 0) → (¬ s = 0 → L 66 f = lo ∧ L 67 f = hi) →
    (u + (ev_pl w E kd (sp_pe w i j) m s lo hi u0).2 ≤ 20000 → ∀ I' L', me_fr f I0 L0 I' L' → I' 42 47 = nI f → I' 42 49 = nI (u + (ev_pl w E kd (sp_pe w i j) m s lo hi u0).2) → me_v (ev_pl w E kd (sp_pe w i j) m s lo hi u0).1 I' L' → me_hd ext d D X I' L' P) →
    (20000 < u + (ev_pl w E kd (sp_pe w i j) m s lo hi u0).2 → ∀ I' L', me_fr f I0 L0 I' L' → I' 42 49 = nI 20001 → me_hd ext d D X I' L' P) →
    ∃ I2 L2, am_wp ext 3 mz_169 (270, [some (.ref 42), some (.int (nI f)), some (.int (nI k)), some (.int (nI s)), some (.int (nI (2 ^ (w / 4)))), none, none], [], (I, L, D, am_rf X)) (fun q => q = (none, (I2, L2, D, am_rf X))) ∧ me_hd ext d D X I2 L2 P := by
  obtain ⟨hk, j45, j46, j47, hlt, j48, j49, j52⟩ := hr
  obtain ⟨n1, n2⟩ := p4_le hw
  have hbf : am_inb (nI f) 128 = true := ni_inb (by omega) (by omega)
  have ef : (nI f).toNatClampNeg = f := ni_nat (by omega)
  have hbk : am_inb (nI k) 192 = true := ni_inb hk (by omega)
  have ek : (nI k).toNatClampNeg = k := ni_nat (by omega)
  have el : (nI lt).toNatClampNeg = lt := ni_nat (by omega)
  have hbl : am_inb (nI lt) 52 = true := ni_inb (by omega) (by omega)
  have em4 := (w4_e ⟨w, by omega⟩).2
  simp only at em4
  intro m
  induction m with
  | zero =>
    intro s lo hi u0 I L hs S hu hJ F hz h66 on ab
    obtain ⟨e66, e67⟩ := h66 (by omega)
    have er : ev_pl w E kd (sp_pe w i j) 0 s lo hi u0 = (sp_k w lo hi, u0 + 1) := rfl
    rw [er] at on
    have es : s = 2 ^ (w / 4) := by omega
    obtain ⟨I2, L2, q, V⟩ := c151_1 (ext := ext) (d := 2) D X (I := I) (L := L) S.1 (by omega) S.2.1 lo hi
    refine ⟨I2, L2, w169_270 I L D X (nI f) (nI k) (nI s) (nI (2 ^ (w / 4))) ?_, on hu I2 L2 (me_fr_t F (me_V_fr V) (Nat.le_refl _)) V.1 ?_ V.2.1⟩
    · rw [ef, e66, e67, es]
      exact ⟨fun z => absurd rfl z, fun _ => ⟨hbf, hbf, I2, L2, D, q, rfl⟩⟩
    · rw [V.2.2.1 42 49 (by omega)]
      exact S.2.2.1
  | succ m ih =>
    intro s lo hi u0 I L hs S hu hJ F hz h66 on ab
    have gp := pe_gd hw h1 h2 h3 (show s < 2 ^ (w / 4) by omega)
    have row : ∀ {I : Nat → Nat → Int32}, me_J J I → I 47 k = nI lt ∧ I 52 lt = nI (tr_rt T') ∧ I 48 k = Int32.ofInt i ∧ I 49 k = Int32.ofInt j := fun hJ => ⟨(hJ 47 k (by omega) (by omega)).trans j47, (hJ 52 lt (by omega) (by omega)).trans j52, (hJ 48 k (by omega) (by omega)).trans j48, (hJ 49 k (by omega) (by omega)).trans j49⟩
    obtain ⟨o1, o2, o3, o4⟩ := row hJ
    have ra := c168 (ext := ext) (d := 2) (L := L) D X hw h1 h2 h3 (show s ≤ 2 ^ (w / 4) by omega) hk S.2.1 o3 o4
    have rb := c168 (ext := ext) (d := 2) (L := L) D X hw h1 h2 h3 (show s + 1 ≤ 2 ^ (w / 4) by omega) hk S.2.1 o3 o4
    obtain ⟨I2, L2, q2, Ca⟩ := c150 (ext := ext) (d := 2) D X (I := I) (L := L) S.1 (by omega) S.2.2.1 hu (nI (tr_rt T')) (sp_pe w i j s) (sp_pe w i j (s + 1))
    have es1 : nI s + 1 = nI (s + 1) := by rw [show (1 : Int32) = nI 1 from rfl, ni_add (by omega)]
    have ep := fun (q : Int64 × Int64) (h : (E (sp_pe w i j s) (sp_pe w i j (s + 1))).1 = some q) => ev_pl_s (w := w) (E := E) (kd := kd) (pe := sp_pe w i j) (m := m) (k := s) (lo := lo) (hi := hi) (u := u0) h
    have en : (E (sp_pe w i j s) (sp_pe w i j (s + 1))).1 = none → ev_pl w E kd (sp_pe w i j) (m + 1) s lo hi u0 = (none, u0 + (E (sp_pe w i j s) (sp_pe w i j (s + 1))).2 + 1) := fun h => by rw [ev_pl, h]
    have lu := ev_pl_u w E kd (sp_pe w i j)
    have GM := GE _ _ gp
    refine ⟨I2, L2, w169_270 I L D X (nI f) (nI k) (nI s) (nI (2 ^ (w / 4))) ?_, ?_⟩
    · rw [ek, o1, el, o2, es1]
      refine ⟨fun _ => ⟨hbk, hbl, _, I, L, D, ra, _, I, L, D, rb, I2, L2, D, q2, rfl⟩, fun z => ?_⟩
      have := (ni_eq (by omega) (by omega)).mp z
      omega
    · generalize hx : E (sp_pe w i j s) (sp_pe w i j (s + 1)) = x at *
      have lx : u0 + x.2 + 1 ≤ (ev_pl w E kd (sp_pe w i j) (m + 1) s lo hi u0).2 := by
        cases ex : x.1 with
        | none => rw [en ex]; exact Nat.le_refl _
        | some q => rw [ep q ex]; exact lu m (s + 1) _ _ _
      refine me_sub (ext := ext) D X GM hf hJ S hu Ca (fun h I3 L3 F3 S3 V3 => ?_) (fun h I3 L3 F3 h49 => ab (by omega) I3 L3 (me_fr_t F F3 (by omega)) h49)
      rw [show u + (u0 + 1) + x.2 = u + (u0 + x.2 + 1) by omega] at S3 h
      have F4 := me_fr_t F F3 (by omega)
      have hJ3 := me_J_fr hJ F3
      have S4 := me_1_S S3
      have V4 := me_v_1 (f := f) (s := s + 1) V3
      have F5 := me_fr_t F4 (me_1_fr f (s + 1) I3 L3) (Nat.le_refl _)
      have hJ4 := me_J_fr hJ3 (me_1_fr f (s + 1) I3 L3)
      have g161 : ∀ {I' : Nat → Nat → Int32} {L' : Nat → Nat → Int64}, am_Rn ext 4 169 [.ref 42, .int (nI f), .int (nI k), .int (nI (s + 1))] (me_1 I3 f (s + 1), L3, D, am_rf X) (none, (I', L', D, am_rf X)) → am_Rn ext d 161 [.ref 42, .int (nI f)] (I3, L3, D, am_rf X) (none, (I', L', D, am_rf X)) := by
        intro I' L' q
        refine am_up (c161_15 (ext := ext) (d := 4) D X (mt_Q (by omega) hk (by omega) S3 hJ3 j45) (show kd - 15 ≤ 3 by omega) ((hJ3 46 k (by omega) (by omega)).trans j46) ?_) (by omega)
        rw [if_neg (by omega)]
        exact q
      have pos : ¬ nI (s + 1) ≤ 0 := fun z => by have := (ni_le (b := 0) (by omega) (by omega)).mp z; omega
      cases ex : x.1 with
      | none =>
        rw [en ex] at on
        rw [ex] at V4
        obtain ⟨I5, L5, q5, V5⟩ := c152 (ext := ext) (d := 1) D X (I := me_1 I3 f (s + 1)) (L := L3) S4.1 (by omega)
        refine me_val (ext := ext) D X rfl S3 (by omega) h (g161 (am_rn_of mh_169 rfl (w169_0 _ L3 D X (nI f) (nI k) (nI (s + 1)) ⟨fun z => absurd z pos, fun _ => ⟨fun z => absurd (me_v0 V4) z, fun _ => ⟨I5, L5, D, q5, rfl⟩⟩⟩))) V5 F4 on
      | some q =>
        rw [ep q ex] at on ab
        rw [ex] at V4
        obtain ⟨v0, v1, v2⟩ := me_v1 V4
        have nz : ¬ me_1 I3 f (s + 1) 42 50 = 0 := by rw [v0]; decide
        have k46 : me_1 I3 f (s + 1) 46 k = nI (kd - 15) := (hJ4 46 k (by omega) (by omega)).trans j46
        have l66 : ¬ s = 0 → L3 66 f = lo ∧ L3 67 f = hi := fun z => by rw [F3.2 66 f (by omega) (by omega), F3.2 67 f (by omega) (by omega)]; exact h66 z
        have eq1 : nI (s + 1) = 1 ↔ s = 0 := by rw [show (1 : Int32) = nI 1 from rfl, ni_eq (by omega) (by omega)]; omega
        have em : (1 : Int32) <<< ((me_1 I3 f (s + 1) 42 48 / 4) &&& 31) = nI (2 ^ (w / 4)) := by rw [S4.2.1]; exact em4
        -- from 270 on
        have fin : ∀ (L6 : Nat → Nat → Int64), L6 66 f = pl_lo w kd (sp_pe w i j) s lo q → L6 67 f = pl_hi w kd (sp_pe w i j) s hi q → (∀ p r, ¬ (p = 42 ∧ (r = 51 ∨ r = 52)) → ¬ ((p = 66 ∨ p = 67) ∧ r = f) → L6 p r = L3 p r) → (∀ I' L', am_wp ext 3 mz_169 (270, [some (.ref 42), some (.int (nI f)), some (.int (nI k)), some (.int (nI (s + 1))), some (.int (nI (2 ^ (w / 4)))), none, none], [], (me_1 I3 f (s + 1), L6, D, am_rf X)) (fun q => q = (none, (I', L', D, am_rf X))) → am_Rn ext 4 169 [.ref 42, .int (nI f), .int (nI k), .int (nI (s + 1))] (me_1 I3 f (s + 1), L3, D, am_rf X) (none, (I', L', D, am_rf X))) → me_hd ext d D X I3 L3 P := by
          intro L6 g66 g67 gL W
          obtain ⟨I7, L7, W7, hh⟩ := ih (s + 1) (pl_lo w kd (sp_pe w i j) s lo q) (pl_hi w kd (sp_pe w i j) s hi q) (u0 + x.2) (me_1 I3 f (s + 1)) L6 (by omega) (me_S_u S4 (fun _ _ _ => rfl) (fun p r hp => gL p r (by omega) (by omega))) h hJ4 (me_fr_t F5 ⟨fun _ _ _ _ => rfl, fun p r g1 g2 => gL p r (by omega) (by omega)⟩ (Nat.le_refl _)) (fun z => absurd z (by omega)) (fun _ => ⟨g66, g67⟩) on ab
          exact me_step (ext := ext) D X S3.1 (by omega) S3.2.2.1 h (g161 (W I7 L7 W7)) hh
        by_cases k16 : kd = 16
        · have e46 : me_1 I3 f (s + 1) 46 k = 1 := by rw [k46, k16]; rfl
          obtain ⟨o1, o2, o3, o4⟩ := row hJ4
          have rc := c168 (ext := ext) (d := 2) (L := L3) D X hw h1 h2 h3 (show s + 1 ≤ 2 ^ (w / 4) by omega) hk S4.2.1 o3 o4
          have rd := c168 (ext := ext) (d := 2) (L := L3) D X hw h1 h2 h3 (show s ≤ 2 ^ (w / 4) by omega) hk S4.2.1 o3 o4
          have es2 : nI (s + 1) - 1 = nI s := by rw [show (1 : Int32) = nI 1 from rfl, ni_sub (by omega) (by omega)]; rfl
          have ru := c154 (ext := ext) (d := 2) (L := am_uL L3 42 51 (sp_r w (q.1 * (sp_pe w i j (s + 1) - sp_pe w i j s)))) D X S4.2.1 (q.2 * (sp_pe w i j (s + 1) - sp_pe w i j s))
          have esr : ∀ y : Int64, y >>> ((Int32.toInt64 (me_1 I3 f (s + 1) 42 48)) &&& 63) = sp_r w y := fun y => by rw [S4.2.1]; rfl
          refine fin (am_uL (am_uL (am_uL (am_uL L3 42 51 (sp_r w (q.1 * (sp_pe w i j (s + 1) - sp_pe w i j s)))) 42 52 (sp_up w (q.2 * (sp_pe w i j (s + 1) - sp_pe w i j s)))) 66 f (pl_lo w kd (sp_pe w i j) s lo q)) 67 f (pl_hi w kd (sp_pe w i j) s hi q)) (by rw [am_uL_at, if_neg (by omega), am_uL_at, if_pos ⟨rfl, rfl⟩]) (by rw [am_uL_at, if_pos ⟨rfl, rfl⟩]) (fun p r g1 g2 => by rw [am_uL_at, if_neg (by omega), am_uL_at, if_neg (by omega), am_uL_at, if_neg (by omega), am_uL_at, if_neg (by omega)]) (fun I' L' W => ?_)
          have tail : ∀ s0 : Int64, s0 = pl_lo w kd (sp_pe w i j) s lo q → am_wp ext 3 mz_169 (116, [some (.ref 42), some (.int (nI f)), some (.int (nI k)), some (.int (nI (s + 1))), some (.int (nI (2 ^ (w / 4)))), none, none], [.long s0, .int (nI f), .ref 66], (me_1 I3 f (s + 1), am_uL (am_uL L3 42 51 (sp_r w (q.1 * (sp_pe w i j (s + 1) - sp_pe w i j s)))) 42 52 (sp_up w (q.2 * (sp_pe w i j (s + 1) - sp_pe w i j s))), D, am_rf X)) (fun q => q = (none, (I', L', D, am_rf X))) := by
            intro s0 hs0
            have t52 : am_uL (am_uL L3 42 51 (sp_r w (q.1 * (sp_pe w i j (s + 1) - sp_pe w i j s)))) 42 52 (sp_up w (q.2 * (sp_pe w i j (s + 1) - sp_pe w i j s))) 42 52 = sp_up w (q.2 * (sp_pe w i j (s + 1) - sp_pe w i j s)) := by rw [am_uL_at, if_pos ⟨rfl, rfl⟩]
            have t67 : am_uL (am_uL L3 42 51 (sp_r w (q.1 * (sp_pe w i j (s + 1) - sp_pe w i j s)))) 42 52 (sp_up w (q.2 * (sp_pe w i j (s + 1) - sp_pe w i j s))) 67 f = L3 67 f := by rw [am_uL_at, if_neg (by omega), am_uL_at, if_neg (by omega)]
            refine w169_116 _ _ D X (nI f) (nI k) (nI (s + 1)) (nI (2 ^ (w / 4))) s0 (nI f) ?_
            rw [ef, t52, t67, hs0]
            have ph : pl_hi w kd (sp_pe w i j) s hi q = hi + sp_up w (q.2 * (sp_pe w i j (s + 1) - sp_pe w i j s)) := by unfold pl_hi; rw [if_pos k16]
            refine ⟨hbf, fun z => ⟨hbf, hbf, ?_⟩, fun z => ⟨hbf, ?_⟩⟩
            · rw [(l66 (fun y => z (eq1.mpr y))).2, ← ph]
              exact W
            · have : sp_up w (q.2 * (sp_pe w i j (s + 1) - sp_pe w i j s)) = pl_hi w kd (sp_pe w i j) s hi q := by rw [ph, (hz (eq1.mp z)).2, Int64.zero_add]
              have W' := W
              rw [← this] at W'
              exact W'
          have pl : pl_lo w kd (sp_pe w i j) s lo q = lo + sp_r w (q.1 * (sp_pe w i j (s + 1) - sp_pe w i j s)) := by unfold pl_lo; rw [if_pos k16]
          refine am_rn_of mh_169 rfl (w169_0 _ L3 D X (nI f) (nI k) (nI (s + 1)) ⟨fun z => absurd z pos, fun _ => ⟨fun _ => ⟨hbk, fun z => absurd (by rw [ek]; exact e46) z, fun _ => ?_⟩, fun z => absurd z nz⟩⟩)
          rw [em, es2]
          refine ⟨_, _, L3, D, rc, _, _, L3, D, rd, _, _, _, D, by rw [v1, v2, esr]; exact ru, fun z => ⟨hbf, ?_⟩, fun z => ?_⟩
          · rw [ef, am_uL_at, if_neg (by omega), am_uL_at, if_pos ⟨rfl, rfl⟩]
            exact tail _ (by rw [pl, (l66 (fun y => z (eq1.mpr y))).1])
          · rw [am_uL_at, if_pos ⟨rfl, rfl⟩]
            exact tail _ (by rw [pl, (hz (eq1.mp z)).1, Int64.zero_add])
        · refine fin (am_uL (am_uL L3 66 f (pl_lo w kd (sp_pe w i j) s lo q)) 67 f (pl_hi w kd (sp_pe w i j) s hi q)) (by rw [am_uL_at, if_neg (by omega), am_uL_at, if_pos ⟨rfl, rfl⟩]) (by rw [am_uL_at, if_pos ⟨rfl, rfl⟩]) (fun p r g1 g2 => by rw [am_uL_at, if_neg (by omega), am_uL_at, if_neg (by omega)]) (fun I' L' W => ?_)
          have M := fun (L : Nat → Nat → Int64) (x y : Int64) => c157 (ext := ext) (d := 2) (I := me_1 I3 f (s + 1)) (L := L) D X x y
          have N := fun (L : Nat → Nat → Int64) (x y : Int64) => c158 (ext := ext) (d := 2) (I := me_1 I3 f (s + 1)) (L := L) D X x y
          have t67 : ∀ y : Int64, am_uL L3 66 f y 67 f = L3 67 f := fun y => by rw [am_uL_at, if_neg (by omega)]
          have pl : pl_lo w kd (sp_pe w i j) s lo q = if s = 0 then q.1 else if kd = 17 then sp_mx lo q.1 else sp_mn lo q.1 := by unfold pl_lo; rw [if_neg k16]
          have ph : pl_hi w kd (sp_pe w i j) s hi q = if s = 0 then q.2 else if kd = 17 then sp_mx hi q.2 else sp_mn hi q.2 := by unfold pl_hi; rw [if_neg k16]
          rw [pl, ph] at W
          have t164 : ∀ s0 : Int32, (s0 = if kd = 17 then 1 else 0) → am_wp ext 3 mz_169 (164, [some (.ref 42), some (.int (nI f)), some (.int (nI k)), some (.int (nI (s + 1))), some (.int (nI (2 ^ (w / 4)))), none, none], [.int s0], (me_1 I3 f (s + 1), L3, D, am_rf X)) (fun q => q = (none, (I', L', D, am_rf X))) := by
            intro s0 hs0
            refine w169_164 _ L3 D X (nI f) (nI k) (nI (s + 1)) (nI (2 ^ (w / 4))) s0 ?_
            rw [ef, v1]
            refine ⟨fun z => ?_, fun z => w169_217 _ L3 D X (nI f) (nI k) (nI (s + 1)) (nI (2 ^ (w / 4))) s0 q.1 (nI f) ?_⟩
            · have sz : ¬ s = 0 := fun y => z (eq1.mpr y)
              rw [if_neg sz, if_neg sz] at W
              obtain ⟨e66, e67⟩ := l66 sz
              rw [e66]
              refine ⟨fun y => ⟨hbf, _, _, L3, D, M L3 _ _, w169_217 _ L3 D X (nI f) (nI k) (nI (s + 1)) (nI (2 ^ (w / 4))) s0 _ (nI f) ?_⟩, fun y => ⟨hbf, _, _, L3, D, N L3 _ _, w169_217 _ L3 D X (nI f) (nI k) (nI (s + 1)) (nI (2 ^ (w / 4))) s0 _ (nI f) ?_⟩⟩
              · have k17 : ¬ kd = 17 := fun t => by rw [if_pos t] at hs0; rw [hs0] at y; exact absurd y (by decide)
                rw [if_neg k17, if_neg k17] at W
                rw [ef, v2, e67]
                exact ⟨hbf, fun _ => ⟨fun _ => ⟨hbf, _, _, _, D, M _ _ _, hbf, W⟩, fun t => absurd y t⟩, fun t => absurd t z⟩
              · have k17 : kd = 17 := by
                  by_cases t : kd = 17
                  · exact t
                  · rw [if_neg t] at hs0; exact absurd hs0 y
                rw [if_pos k17, if_pos k17] at W
                rw [ef, v2, e67]
                exact ⟨hbf, fun _ => ⟨fun t => absurd t y, fun _ => ⟨hbf, _, _, _, D, N _ _ _, hbf, W⟩⟩, fun t => absurd t z⟩
            · have sz := eq1.mp z
              rw [if_pos sz, if_pos sz] at W
              rw [ef, v2]
              exact ⟨hbf, fun t => absurd z t, fun _ => ⟨hbf, W⟩⟩
          refine am_rn_of mh_169 rfl (w169_0 _ L3 D X (nI f) (nI k) (nI (s + 1)) ⟨fun z => absurd z pos, fun _ => ⟨fun _ => ⟨hbk, fun _ => ⟨hbk, fun z => ?_, fun z => ?_⟩, fun z => ?_⟩, fun z => absurd z nz⟩⟩)
          · rw [em]
            refine t164 0 ?_
            rw [ek, k46] at z
            rw [if_neg (fun t => z (by rw [t]; rfl))]
          · rw [em]
            refine t164 1 ?_
            rw [ek, k46] at z
            have := (ni_eq (b := 2) (by omega) (by omega)).mp z
            rw [if_pos (by omega)]
          · rw [ek, k46] at z
            have := (ni_eq (b := 1) (by omega) (by omega)).mp z
            omega
theorem mt_p {p : tr_P} {B kd : Nat} (hw : w ≤ 20) (hd : 6 ≤ d) (hB : Bf + 1 ≤ B) (b1 : 1 ≤ Bf) (hkd : 16 ≤ kd ∧ kd ≤ 18) (hr : no_J J p.1 (kd - 15) lt (tr_rt T') i j) (h1 : -64 ≤ i) (h2 : i < j) (h3 : j ≤ 64) (GE : ∀ c e, gd2 w c e → me_G ext d D X J w T' (E c e) c e Bf) : me_G ext d D X J w (.leaf p) (ev_pl w E kd (sp_pe w i j) (2 ^ (w / 4)) 0 0 0 0) a b B := by
  have lu := ev_pl_u w E kd (sp_pe w i j) (2 ^ (w / 4)) 0 0 0 0
  refine ⟨by omega, fun f u I L P hf hJ S hu on ab => ?_⟩
  have hr' := hr
  obtain ⟨hk, j45, j46, j47, hlt, j48, j49, j52⟩ := hr
  have S1 := me_1_S S
  obtain ⟨I2, L2, W, hh⟩ := mt_pl (ext := ext) (P := P) (u := u) (I0 := I) (L0 := L) (a := a) (b := b) D X hw hd (show f + 1 + Bf ≤ 128 by omega) b1 hkd hr' h1 h2 h3 GE (2 ^ (w / 4)) 0 0 0 0 (me_1 I f 0) L (by omega) S1 hu (me_J_fr hJ (me_1_fr f 0 I L)) (me_1_fr f 0 I L) (fun _ => ⟨rfl, rfl⟩) (fun z => absurd rfl z) on ab
  have em4 := (w4_e ⟨w, by omega⟩).2
  simp only at em4
  refine me_step (ext := ext) D X S.1 (by omega) S.2.2.1 hu (am_up (c161_15 (ext := ext) (d := 4) D X (mt_Q (by omega) hk (by omega) S hJ j45) (show kd - 15 ≤ 3 by omega) ((hJ 46 p.1 (by omega) (by omega)).trans j46) ?_) (by omega)) hh
  rw [if_neg (by omega)]
  refine am_rn_of mh_169 rfl (w169_0 _ L D X (nI f) (nI p.1) (nI 0) ⟨fun _ => ?_, fun z => absurd (by decide) z⟩)
  rw [S1.2.1, em4]
  exact W
end MPIECE
