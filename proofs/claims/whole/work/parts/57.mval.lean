/-! ===== the reference's reader: a value ===== -/
theorem rf_t2 {x k w p pl vl : Int32} (h : rf_tok (x, pl, vl) k w p) (hx : x = 2) : k = 3 ∧ (w = vl ∨ (999 < w.toInt ∧ 999 < vl.toInt)) := by
  obtain ⟨_, h⟩ := h
  subst hx
  rcases h with ⟨h, _⟩ | ⟨h, _⟩ | ⟨_, h⟩ | ⟨h, _⟩ | ⟨j, h0, h, _⟩ | ⟨h, _⟩
  · exact absurd h (show ¬ (2 : Int32) = 0 by decide)
  · exact absurd h (show ¬ (2 : Int32) = 1 by decide)
  · exact h
  · exact absurd h (show ¬ (2 : Int32) = 3 by decide)
  · have h : nI 2 = nI (4 + j) := h
    rw [ni_eq (by omega) (by omega)] at h
    omega
  · exact absurd h (show ¬ pu_sgn 2 = true by decide)
theorem rf_t3 {x k w p pl vl : Int32} (h : rf_tok (x, pl, vl) k w p) (hx : x = 3) : k = 2 ∧ w = vl := by
  obtain ⟨_, h⟩ := h
  subst hx
  rcases h with ⟨h, _⟩ | ⟨h, _⟩ | ⟨h, _⟩ | ⟨_, h⟩ | ⟨j, h0, h, _⟩ | ⟨h, _⟩
  · exact absurd h (show ¬ (3 : Int32) = 0 by decide)
  · exact absurd h (show ¬ (3 : Int32) = 1 by decide)
  · exact absurd h (show ¬ (3 : Int32) = 2 by decide)
  · exact h
  · have h : nI 3 = nI (4 + j) := h
    rw [ni_eq (by omega) (by omega)] at h
    omega
  · exact absurd h (show ¬ pu_sgn 3 = true by decide)
theorem rf_tw {x k w p pl vl : Int32} (h : rf_tok (x, pl, vl) k w p) {j : Nat} (hj : j < 11) (hx : x = nI (4 + j)) : k = 1 ∧ w = nI j := by
  obtain ⟨_, h⟩ := h
  subst hx
  have key : ∀ j, j < 11 → ¬ nI (4 + j) = 0 ∧ ¬ nI (4 + j) = 1 ∧ ¬ nI (4 + j) = 2 ∧ ¬ nI (4 + j) = 3 ∧ ¬ pu_sgn (nI (4 + j)) = true := by decide
  obtain ⟨k0, k1, k2, k3, k4⟩ := key j hj
  rcases h with ⟨h, _⟩ | ⟨h, _⟩ | ⟨h, _⟩ | ⟨h, _⟩ | ⟨i, h0, h, h1, h2⟩ | ⟨h, _⟩
  · exact absurd h k0
  · exact absurd h k1
  · exact absurd h k2
  · exact absurd h k3
  · have h : nI (4 + j) = nI (4 + i) := h
    rw [ni_eq (by omega) (by omega)] at h
    have : j = i := by omega
    subst this
    exact ⟨h1, h2⟩
  · exact absurd h k4
theorem rf_te {x k w p pl vl : Int32} (h : rf_tok (x, pl, vl) k w p) (h2 : ¬ x = 2) (h3 : ¬ x = 3) (hw : ∀ j : Nat, j < 11 → ¬ x = nI (4 + j)) : ¬ k = 1 ∧ ¬ k = 2 ∧ ¬ k = 3 := by
  obtain ⟨_, h⟩ := h
  rcases h with ⟨_, h⟩ | ⟨_, h⟩ | ⟨h, _⟩ | ⟨h, _⟩ | ⟨i, h0, h, h1, _⟩ | ⟨_, h, _⟩
  · rw [h]; decide
  · rw [h]; decide
  · exact absurd h h2
  · exact absurd h h3
  · exact absurd h (hw i h0)
  · rw [h]; decide
theorem pt_i_some {t : pt_K} {lo : Int} {c : Nat} {g : Nat → Int → pt_R} {q : pt_Q} (h : pt_i t lo c g = some q) : ∃ c1 b, (pt_k t c = 45 ∧ c1 = pt_adv t c ∧ b = -(pt_v t c1).toInt ∨ ¬ pt_k t c = 45 ∧ c1 = c ∧ b = (pt_v t c1).toInt) ∧ ((pt_k t c1 = 2 ∧ (pt_v t c1).toInt ≤ 64 ∧ lo < b ∧ g (pt_adv t c1) b = some q) ∨ (¬ pt_k t c1 = 2 ∧ q = .inl (1, pt_p t c1)) ∨ (pt_k t c1 = 2 ∧ ¬ (pt_v t c1).toInt ≤ 64 ∧ q = .inl (2, pt_p t c1)) ∨ (pt_k t c1 = 2 ∧ (pt_v t c1).toInt ≤ 64 ∧ ¬ lo < b ∧ q = .inl (3, pt_p t c1))) := by
  unfold pt_i at h
  by_cases h45 : pt_k t c = 45
  · simp only [if_pos h45] at h
    refine ⟨pt_adv t c, _, Or.inl ⟨h45, rfl, rfl⟩, ?_⟩
    split at h
    · next z =>
      split at h
      · next z2 =>
        split at h
        · next z3 => exact Or.inl ⟨z, z2, z3, h⟩
        · next z3 => cases h; exact Or.inr (Or.inr (Or.inr ⟨z, z2, z3, rfl⟩))
      · next z2 => cases h; exact Or.inr (Or.inr (Or.inl ⟨z, z2, rfl⟩))
    · next z => cases h; exact Or.inr (Or.inl ⟨z, rfl⟩)
  · simp only [if_neg h45] at h
    refine ⟨c, _, Or.inr ⟨h45, rfl, rfl⟩, ?_⟩
    split at h
    · next z =>
      split at h
      · next z2 =>
        split at h
        · next z3 => exact Or.inl ⟨z, z2, z3, h⟩
        · next z3 => cases h; exact Or.inr (Or.inr (Or.inr ⟨z, z2, z3, rfl⟩))
      · next z2 => cases h; exact Or.inr (Or.inr (Or.inl ⟨z, z2, rfl⟩))
    · next z => cases h; exact Or.inr (Or.inl ⟨z, rfl⟩)
section VAL
variable {ext : Nat → List Value → am_M → Option am_R} {d : Nat} (L : Nat → Nat → Int64) (D : Nat → Nat → UInt64) (X : am_Rf) {f : Nat → Int32} {n c kn op nw nh : Nat} {I : Nat → Nat → Int32} {e : pt_E} {q : pt_Q} {P : am_R → Prop}
/-- writing a knot's row leaves the state -/
theorem rf_S_K (h : rf_S f n c kn op nw nh I) {a b : Nat} (ha : 45 ≤ a ∧ a ≤ 50) (x : Int32) : rf_S f n c kn op nw nh (am_uI I a b x) := by
  obtain ⟨h0, h1, h2, h3, h4, h5, h6⟩ := h
  refine ⟨rf_T_of h0 (fun b q1 q2 => by rw [am_uI_at, if_neg (by omega)]) (fun b => by rw [am_uI_at, if_neg (by omega)]) (fun b => by rw [am_uI_at, if_neg (by omega)]), ?_, ?_, ?_, ?_, ?_, ?_⟩
  · rw [am_uI_at, if_neg (by omega)]; exact h1
  · rw [am_uI_at, if_neg (by omega)]; exact h2
  · rw [am_uI_at, if_neg (by omega)]; exact h3
  · rw [am_uI_at, if_neg (by omega)]; exact h4
  · rw [am_uI_at, if_neg (by omega)]; exact h5
  · rw [am_uI_at, if_neg (by omega)]; exact h6
/-- end: fl = 1 the lower I, 0 the upper -/
theorem c133 (ht : pt_tk (pt_tape f n)) (hc : c < (pt_tape f n).2) (hS : rf_S f n c kn op nw nh I) {k : Nat} (hk : k < 96) {fl : Int32} {lo : Int} (hfl : (fl = 1 ∧ lo = -65) ∨ (fl = 0 ∧ I 48 (96 + k) = Int32.ofInt lo ∧ -64 ≤ lo ∧ lo ≤ 64)) {g : Nat → Int → pt_R} (hq : pt_i (pt_tape f n) lo c g = some q) :
    (∃ c1 i I', c1 < (pt_tape f n).2 ∧ -64 ≤ i ∧ i ≤ 64 ∧ lo < i ∧ g c1 i = some q ∧ am_Rn ext 3 133 [.ref 42, .int (nI (96 + k)), .int fl] (I, L, D, am_rf X) (some (.int 1), (I', L, D, am_rf X)) ∧ rf_S f n c1 kn op nw nh I' ∧ I' (if fl = 1 then 48 else 49) (96 + k) = Int32.ofInt i ∧ (∀ a b, ¬ (a = 42 ∧ 7 ≤ b ∧ b ≤ 10) → ¬ (a = (if fl = 1 then 48 else 49) ∧ b = 96 + k) → I' a b = I a b)) ∨
    (∃ fq I', q = .inl fq ∧ am_Rn ext 3 133 [.ref 42, .int (nI (96 + k)), .int fl] (I, L, D, am_rf X) (some (.int 0), (I', L, D, am_rf X)) ∧ rf_F fq I' ∧ ∀ kn nw nh, rf_fr kn nw nh I I') := by
  obtain ⟨c1, b, hcb, hcase⟩ := pt_i_some hq
  have hfl01 : fl = 0 ∨ fl = 1 := hfl.elim (fun h => Or.inr h.1) (fun h => Or.inl h.1)
  have r45 := c124 (ext := ext) (d := 0) L D X hS.1 (w := 45) (by decide)
  -- to the number
  obtain ⟨I1, sg, hsg, hc1, S1, f1, start⟩ : ∃ I1 sg, ((sg = 1 ∧ b = -(pt_v (pt_tape f n) c1).toInt) ∨ (sg = 0 ∧ b = (pt_v (pt_tape f n) c1).toInt)) ∧ c1 < (pt_tape f n).2 ∧ rf_S f n c1 kn op nw nh I1 ∧ rf_tf I I1 ∧ ∀ {r0 : am_R}, am_wp ext 2 mz_133 (15, [some (.ref 42), some (.int (nI (96 + k))), some (.int fl), some (.int sg), none], [], (I1, L, D, am_rf X)) (fun r => r = r0) → am_Rn ext 3 133 [.ref 42, .int (nI (96 + k)), .int fl] (I, L, D, am_rf X) r0 := by
    rcases hcb with ⟨h45, rfl, hb⟩ | ⟨h45, rfl, hb⟩
    · obtain ⟨I1, r1, s1, f1⟩ := rf_S_take (ext := ext) (d := 0) L D X hc hS
      rw [if_pos h45] at r45
      exact ⟨I1, 1, Or.inl ⟨rfl, hb⟩, pt_adv_lt hc, s1, f1, fun {r0} w => am_rn_of mh_133 rfl (w133_0 I L D X _ _ ⟨1, I, L, D, am_up r45 (by omega), fun z => absurd z (by decide), fun _ => ⟨I1, L, D, r1, w⟩⟩)⟩
    · rw [if_neg h45] at r45
      exact ⟨I, 0, Or.inr ⟨rfl, hb⟩, hc, hS, fun _ _ _ => rfl, fun {r0} w => am_rn_of mh_133 rfl (w133_0 I L D X _ _ ⟨0, I, L, D, am_up r45 (by omega), fun _ => w, fun z => absurd rfl z⟩)⟩
  have tok := rf_T_tok S1.1
  have e64 : (64 : Int32).toInt = 64 := rfl
  rcases hcase with ⟨k2, v64, hlo, hgq⟩ | ⟨k2, rfl⟩ | ⟨k2, v64, rfl⟩ | ⟨k2, v64, hlo, rfl⟩
  · obtain ⟨t8, t9⟩ := rf_t2 tok k2
    have hv := (ht.2.2 _ hc1).2 k2
    have t9' : I1 42 9 = pt_v (pt_tape f n) c1 := t9.resolve_right (fun z => by omega)
    have hb64 : -64 ≤ b ∧ b ≤ 64 := by rcases hsg with ⟨_, h⟩ | ⟨_, h⟩ <;> omega
    -- the number with its sign
    have w60 : ∀ {Q : am_R → Prop}, am_wp ext 2 mz_133 (60, [some (.ref 42), some (.int (nI (96 + k))), some (.int fl), none, none], [.int (Int32.ofInt b)], (I1, L, D, am_rf X)) Q → am_wp ext 2 mz_133 (15, [some (.ref 42), some (.int (nI (96 + k))), some (.int fl), some (.int sg), none], [], (I1, L, D, am_rf X)) Q := by
      intro Q w
      have oi : (Int32.ofInt b).toInt = b := Int32.toInt_ofInt_of_le (by omega) (by omega)
      refine w133_15 I1 L D X _ _ _ ⟨fun _ => ⟨fun _ => ⟨fun z => ?_, fun z => ?_⟩, fun z => absurd ?_ z⟩, fun z => absurd t8 z⟩
      · have hs0 : b = (pt_v (pt_tape f n) c1).toInt := (hsg.resolve_left (fun y => by rw [y.1] at z; exact absurd z (by decide))).2
        have : I1 42 9 = Int32.ofInt b := by rw [t9', ← Int32.toInt_inj, oi, hs0]
        rw [this]; exact w
      · have hs0 : b = -(pt_v (pt_tape f n) c1).toInt := (hsg.resolve_right (fun y => z y.1)).2
        have : -I1 42 9 = Int32.ofInt b := by rw [t9', ← Int32.toInt_inj, oi, hs0, Int32.toInt_neg, Int.bmod_eq_of_le (by omega) (by omega)]
        rw [this]; exact w
      · rw [t9', Int32.le_iff_toInt_le, e64]; exact v64
    have hb1 : am_inb (nI (96 + k)) 192 = true := ni_inb (by omega) (by omega)
    have ek : (nI (96 + k)).toNatClampNeg = 96 + k := ni_nat (by omega)
    rcases hfl with ⟨rfl, hlo65⟩ | ⟨rfl, h48, hl1, hl2⟩
    · obtain ⟨I2, r2, s2, f2⟩ := rf_S_take (ext := ext) (d := 0) L D X hc1 (rf_S_K S1 (a := 48) (b := 96 + k) (by omega) (Int32.ofInt b))
      refine Or.inl ⟨_, b, I2, pt_adv_lt hc1, hb64.1, hb64.2, hlo, hgq, start (w60 (w133_60 I1 L D X _ _ _ ⟨fun _ => w133_83 I1 L D X _ _ _ ⟨fun z => absurd z (by decide), fun _ => ⟨hb1, I2, L, D, by rw [ek]; exact r2, rfl⟩⟩, fun z => absurd z (by decide)⟩)), s2, ?_, ?_⟩
      · rw [if_pos rfl, f2 48 _ (by omega), am_uI_at, if_pos ⟨rfl, rfl⟩]
      · intro a b' q1 q2
        rw [if_pos rfl] at q2
        rw [f2 a b' q1, am_uI_at, if_neg q2]
        exact f1 a b' q1
    · obtain ⟨I2, r2, s2, f2⟩ := rf_S_take (ext := ext) (d := 0) L D X hc1 (rf_S_K S1 (a := 49) (b := 96 + k) (by omega) (Int32.ofInt b))
      have e48 : I1 48 (96 + k) = Int32.ofInt lo := (f1 48 _ (by omega)).trans h48
      refine Or.inl ⟨_, b, I2, pt_adv_lt hc1, hb64.1, hb64.2, hlo, hgq, start (w60 (w133_60 I1 L D X _ _ _ ⟨fun z => absurd rfl z, fun _ => ⟨hb1, fun _ => w133_83 I1 L D X _ _ _ ⟨fun _ => ⟨hb1, I2, L, D, by rw [ek]; exact r2, rfl⟩, fun z => absurd rfl z⟩, fun z => absurd ?_ z⟩⟩)), s2, ?_, ?_⟩
      · rw [ek, e48, Int32.lt_iff_toInt_lt, Int32.toInt_ofInt_of_le (by omega) (by omega), Int32.toInt_ofInt_of_le (by omega) (by omega)]; exact hlo
      · rw [if_neg (by decide), f2 49 _ (by omega), am_uI_at, if_pos ⟨rfl, rfl⟩]
      · intro a b' q1 q2
        rw [if_neg (show ¬ (0 : Int32) = 1 by decide)] at q2
        rw [f2 a b' q1, am_uI_at, if_neg q2]
        exact f1 a b' q1
  · obtain ⟨I2, r2, g1, g2⟩ := c118t (ext := ext) (d := 0) L D X S1 1
    refine Or.inr ⟨_, I2, rfl, start (w133_15 I1 L D X _ _ _ ⟨fun z => absurd z ?_, fun _ => ⟨0, I2, L, D, am_up r2 (by omega), Or.inl rfl, rfl⟩⟩), g1, fun kn nw nh => rf_fr_t (rf_fr_tf f1) (g2 kn nw nh) (Nat.le_refl _) (Nat.le_refl _) (Nat.le_refl _)⟩
    intro h8
    -- kind 3 is a number's alone
    obtain ⟨_, tk⟩ := tok
    rcases tk with ⟨_, h⟩ | ⟨_, h⟩ | ⟨h, _⟩ | ⟨_, h, _⟩ | ⟨j, _, _, h, _⟩ | ⟨_, h, _⟩
    · rw [h8] at h; exact absurd h (by decide)
    · rw [h8] at h; exact absurd h (by decide)
    · exact k2 h
    · rw [h8] at h; exact absurd h (by decide)
    · rw [h8] at h; exact absurd h (by decide)
    · rw [h8] at h; exact absurd h (by decide)
  · obtain ⟨t8, t9⟩ := rf_t2 tok k2
    obtain ⟨I2, r2, g1, g2⟩ := c118t (ext := ext) (d := 0) L D X S1 2
    refine Or.inr ⟨_, I2, rfl, start (w133_15 I1 L D X _ _ _ ⟨fun _ => ⟨fun z => absurd z ?_, fun _ => ⟨0, I2, L, D, am_up r2 (by omega), Or.inl rfl, rfl⟩⟩, fun z => absurd t8 z⟩), g1, fun kn nw nh => rf_fr_t (rf_fr_tf f1) (g2 kn nw nh) (Nat.le_refl _) (Nat.le_refl _) (Nat.le_refl _)⟩
    rw [Int32.le_iff_toInt_le, e64]
    rcases t9 with t9 | t9
    · rw [t9]; exact v64
    · omega
  · obtain ⟨t8, t9⟩ := rf_t2 tok k2
    have hv := (ht.2.2 _ hc1).2 k2
    have t9' : I1 42 9 = pt_v (pt_tape f n) c1 := t9.resolve_right (fun z => by omega)
    have hb64 : -64 ≤ b ∧ b ≤ 64 := by rcases hsg with ⟨_, h⟩ | ⟨_, h⟩ <;> omega
    rcases hfl with ⟨rfl, hlo65⟩ | ⟨rfl, h48, hl1, hl2⟩
    · omega
    · obtain ⟨I2, r2, g1, g2⟩ := c118t (ext := ext) (d := 0) L D X S1 3
      have e48 : I1 48 (96 + k) = Int32.ofInt lo := (f1 48 _ (by omega)).trans h48
      have oi : (Int32.ofInt b).toInt = b := Int32.toInt_ofInt_of_le (by omega) (by omega)
      have ek : (nI (96 + k)).toNatClampNeg = 96 + k := ni_nat (by omega)
      have nlt : ¬ I1 48 (nI (96 + k)).toNatClampNeg < Int32.ofInt b := by
        rw [ek, e48, Int32.lt_iff_toInt_lt, Int32.toInt_ofInt_of_le (by omega) (by omega), oi]; exact hlo
      have fin : am_wp ext 2 mz_133 (60, [some (.ref 42), some (.int (nI (96 + k))), some (.int 0), none, none], [.int (Int32.ofInt b)], (I1, L, D, am_rf X)) (fun r => r = (some (.int 0), (I2, L, D, am_rf X))) := w133_60 I1 L D X _ _ _ ⟨fun z => absurd rfl z, fun _ => ⟨ni_inb (by omega) (by omega), fun z => absurd z nlt, fun _ => ⟨0, I2, L, D, am_up r2 (by omega), Or.inl rfl, rfl⟩⟩⟩
      refine Or.inr ⟨_, I2, rfl, start (w133_15 I1 L D X _ _ _ ⟨fun _ => ⟨fun _ => ⟨fun z => ?_, fun z => ?_⟩, fun z => absurd ?_ z⟩, fun z => absurd t8 z⟩), g1, fun kn nw nh => rf_fr_t (rf_fr_tf f1) (g2 kn nw nh) (Nat.le_refl _) (Nat.le_refl _) (Nat.le_refl _)⟩
      · have hs0 : b = (pt_v (pt_tape f n) c1).toInt := (hsg.resolve_left (fun y => by rw [y.1] at z; exact absurd z (by decide))).2
        have : I1 42 9 = Int32.ofInt b := by rw [t9', ← Int32.toInt_inj, oi, hs0]
        rw [this]; exact fin
      · have hs0 : b = -(pt_v (pt_tape f n) c1).toInt := (hsg.resolve_right (fun y => z y.1)).2
        have : -I1 42 9 = Int32.ofInt b := by rw [t9', ← Int32.toInt_inj, oi, hs0, Int32.toInt_neg, Int.bmod_eq_of_le (by omega) (by omega)]
        rw [this]; exact fin
      · rw [t9', Int32.le_iff_toInt_le, e64]; exact v64
/-- a leaf's knot is held -/
theorem rf_leaf {kn' : Nat} {p : tr_P} {I1 : Nat → Nat → Int32} (hk : kn' = kn + 1) (hp : p.1 = kn) (hk0 : tr_k0 e p) (hnh : nh < 119) (hS : rf_S f n c kn' op nw nh I1) (hf : rf_fr kn nw nh I I1) (hrp : rf_rp 96 true I1 (.leaf p)) : ∃ I2, am_Rn ext 1 129 [.ref 42, .int (nI (96 + kn))] (am_uI I1 42 35 0, L, D, am_rf X) (none, (I2, L, D, am_rf X)) ∧ rf_ok ext L D X f n 3 kn nw nh op I c kn' (.leaf p) I2 := by
  obtain ⟨h0, h1, h2, h3, h4, h5, h6⟩ := hS
  have e33 : (am_uI I1 42 35 0) 42 33 = nI nh := by rw [am_uI_at, if_neg (by omega)]; exact h4
  have r := c129 (ext := ext) (d := 0) L D X e33 (by omega) (nI (96 + kn))
  refine ⟨_, r, ?_, ⟨nw, nh + 1, rf_T_of h0 (fun b q1 q2 => ?_) (fun b => ?_) (fun b => ?_), ?_, ?_, ?_, ?_, ?_, ?_⟩, ?_, ?_⟩
  · exact rf_fr_u (rf_fr_u (rf_fr_u hf (by omega)) (by omega)) (by omega)
  · simp only [am_uI_at]
    rw [if_neg (by omega), if_neg (by omega), if_neg (by omega)]
  · simp [am_uI_at]
  · simp [am_uI_at]
  · simp [am_uI_at, h1]
  · simp [am_uI_at, h2]
  · simp [am_uI_at, h3]
  · simp [am_uI_at]
  · simp [am_uI_at, h5]
  · simp [am_uI_at, h6]
  · simp [am_uI_at]
  · refine rf_C_0 (e := e) L D X (T := .leaf p) ⟨hp, hk0⟩ ?_ ?_ ?_ ?_
    · simp [am_uI_at, h3]
    · simp [am_uI_at]
    · show _ = nI (96 + p.1)
      rw [hp]
      simp [am_uI_at]
    · refine rf_rp_of (e := e) (.leaf p) kn ⟨hp, hk0⟩ hrp (fun a i q1 q2 q3 q4 => ?_)
      simp only [am_uI_at]
      rw [if_neg (by omega), if_neg (by omega), if_neg (by omega)]
end VAL
