/-! ===== the reference's reader: a line ===== -/
def pt_lets (ls : pt_L) : pt_L := ls.filter (fun x => !x.2.1)
theorem pt_tl_ne : ∀ {ls : pt_L} {l i : Nat} {x : Nat × Bool × tr_T}, pt_tl ls l = 0 → ls[i]? = some x → ¬ x.1 = l
  | [], _, _, _, _, hx => by simp at hx
  | y :: r, l, i, x, h, hx => by
    simp only [pt_tl] at h
    by_cases h1 : y.1 = l
    · rw [if_pos h1] at h
      cases hy : y.2.1 <;> simp [hy] at h
    · rw [if_neg h1] at h
      cases i with
      | zero =>
        simp at hx
        rw [← hx]; exact h1
      | succ i =>
        rw [List.getElem?_cons_succ] at hx
        exact pt_tl_ne h hx
def rm_o (I I' : Nat → Nat → Int32) : Prop := ∀ a b, ¬ (a = 42 ∧ (b = 4 ∨ b = 5 ∨ (7 ≤ b ∧ b ≤ 10) ∨ b = 18 ∨ b = 26 ∨ b = 27 ∨ b = 31 ∨ (33 ≤ b ∧ b ≤ 36))) → ¬ (45 ≤ a ∧ a ≤ 50 ∧ 96 ≤ b) → ¬ ((a = 51 ∨ a = 52) ∧ 26 ≤ b) → ¬ (54 ≤ a ∧ a ≤ 58) → I' a b = I a b
theorem rm_o_t {I I1 I2 : Nat → Nat → Int32} (h1 : rm_o I I1) (h2 : rm_o I1 I2) : rm_o I I2 := fun a b q1 q2 q3 q4 => (h2 a b q1 q2 q3 q4).trans (h1 a b q1 q2 q3 q4)
theorem rm_o_fr {kn nw nh : Nat} {I I' : Nat → Nat → Int32} (h : rf_fr kn nw nh I I') : rm_o I I' := fun a b q1 q2 q3 q4 => h a b (rf_x_iff.mpr ⟨by omega, by omega, by omega, by omega⟩)
theorem rm_o_tf {I I' : Nat → Nat → Int32} (h : rf_tf I I') : rm_o I I' := fun a b q1 q2 q3 q4 => h a b (by omega)
theorem rm_o_0 (I : Nat → Nat → Int32) : rm_o I I := fun _ _ _ _ _ _ => rfl
/-- the lines read so far -/
def rm_L (ls : pt_L) (I : Nat → Nat → Int32) : Prop := I 42 26 = nI (pt_nn ls) ∧ I 42 27 = nI (pt_nf ls) ∧ I 42 18 = nI (pt_ks ls) ∧ (∀ l, l < 26 → I 51 (26 + l) = nI (pt_tl ls l)) ∧ (∀ (i : Nat) (x : Nat × Bool × tr_T), ls[i]? = some x → I 52 (26 + x.1) = nI (96 + tr_rt x.2.2) ∧ rf_rp 96 true I x.2.2) ∧ (∀ (k : Nat) (x : Nat × Bool × tr_T), (pt_lets ls)[k]? = some x → I 54 k = nI x.1)
theorem rm_L_of {ls : pt_L} {I I' : Nat → Nat → Int32} (h : rm_L ls I) (hwf : pt_wf ls) (h26 : I' 42 26 = I 42 26) (h27 : I' 42 27 = I 42 27) (h18 : I' 42 18 = I 42 18) (h51 : ∀ b, I' 51 b = I 51 b) (h52 : ∀ b, I' 52 b = I 52 b) (h54 : ∀ b, I' 54 b = I 54 b) (hK : ∀ a b, 45 ≤ a → a ≤ 50 → b < 96 + pt_ks ls → I' a b = I a b) : rm_L ls I' := by
  obtain ⟨g1, g2, g3, g4, g5, g6⟩ := h
  refine ⟨h26.trans g1, h27.trans g2, h18.trans g3, fun l hl => (h51 _).trans (g4 l hl), fun i x hx => ⟨(h52 _).trans (g5 i x hx).1, ?_⟩, fun k x hx => (h54 _).trans (g6 k x hx)⟩
  have hle := pt_ks_le hx
  exact rf_rp_of x.2.2 _ (hwf i x hx).2.2.2 (g5 i x hx).2 (fun a b q1 q2 q3 q4 => hK a b q1 q2 (by omega))
section LINE
variable {ext : Nat → List Value → am_M → Option am_R} {d : Nat} (L : Nat → Nat → Int64) (D : Nat → Nat → UInt64) (X : am_Rf) {f : Nat → Int32} {n : Nat} {ls : pt_L} {c kn : Nat} {I : Nat → Nat → Int32}
def rm_R (f : Nat → Int32) (n : Nat) (I : Nat → Nat → Int32) (q : (Nat × Int32) ⊕ (Nat × Nat × pt_L)) (x : Int32) (I' : Nat → Nat → Int32) : Prop := rm_o I I' ∧ match q with
  | .inl fq => x = 0 ∧ rf_F fq I'
  | .inr t => x = 1 ∧ rf_T f n t.1 I' ∧ rm_L t.2.2 I' ∧ I' 42 4 = 0 ∧ I' 42 5 = -1
/-- a mere state for the small methods -/
theorem rm_S (hT : rf_T f n c I) (h4 : I 42 4 = 0) (h5 : I 42 5 = -1) {a b g h : Nat} (h18 : I 42 18 = nI a) : rf_S f n c a b g h (am_uI (am_uI (am_uI I 42 34 (nI b)) 42 31 (nI g)) 42 33 (nI h)) := by
  refine ⟨rf_T_of hT (fun b q1 q2 => ?_) (fun b => ?_) (fun b => ?_), ?_, ?_, ?_, ?_, ?_, ?_⟩
  · simp only [am_uI_at]
    rw [if_neg (by omega), if_neg (by omega), if_neg (by omega)]
  · simp [am_uI_at]
  · simp [am_uI_at]
  · simp [am_uI_at, h18]
  · simp [am_uI_at]
  · simp [am_uI_at]
  · simp [am_uI_at]
  · simp [am_uI_at, h4]
  · simp [am_uI_at, h5]
/-- wrong, of a token -/
theorem c118T (hT : rf_T f n c I) (k : Nat) : ∃ I', am_Rn ext (d + 1) 118 [.ref 42, .int (nI k)] (I, L, D, am_rf X) (some (.int 0), (I', L, D, am_rf X)) ∧ rf_F (k, pt_p (pt_tape f n) c) I' ∧ rm_o I I' := by
  refine ⟨_, c118 L D X (nI k), ⟨by simp [am_uI_at], by simp [am_uI_at, rf_pl hT]⟩, ?_⟩
  intro a b q1 q2 q3 q4
  simp only [am_uI_at]
  rw [if_neg (by omega), if_neg (by omega)]
/-- comes, of a token -/
theorem c125T (hc : c < (pt_tape f n).2) (hT : rf_T f n c I) {w : Int32} (hw : pu_sgn w = true) :
    (pt_k (pt_tape f n) c = w → ∃ I', am_Rn ext (d + 3) 125 [.ref 42, .int w] (I, L, D, am_rf X) (some (.int 1), (I', L, D, am_rf X)) ∧ rf_T f n (pt_adv (pt_tape f n) c) I' ∧ rf_tf I I') ∧
    (¬ pt_k (pt_tape f n) c = w → ∃ I', am_Rn ext (d + 3) 125 [.ref 42, .int w] (I, L, D, am_rf X) (some (.int 0), (I', L, D, am_rf X)) ∧ rf_F (1, pt_p (pt_tape f n) c) I' ∧ rm_o I I') := by
  have r0 := c124 (ext := ext) (d := d + 1) L D X hT hw
  constructor
  · intro hk
    rw [if_pos hk] at r0
    obtain ⟨I', r, g⟩ := c123t (ext := ext) (d := d) L D X hc hT
    exact ⟨I', am_rn_of mh_125 rfl (w125_0 I L D X w ⟨1, I, L, D, r0, fun _ => ⟨I', L, D, r, rfl⟩, fun z => absurd z (by decide)⟩), g⟩
  · intro hk
    rw [if_neg hk] at r0
    obtain ⟨I', r, g⟩ := c118T (ext := ext) (d := d + 1) L D X hT 1
    exact ⟨I', am_rn_of mh_125 rfl (w125_0 I L D X w ⟨0, I, L, D, r0, fun z => absurd rfl z, fun _ => ⟨0, I', L, D, r, Or.inl rfl, rfl⟩⟩), g⟩
theorem c142 (ht : pt_tk (pt_tape f n)) (hen : pt_end (pt_tape f n)) (hg1 : pt_good1 (pt_tape f n) ls c kn) (hT : rf_T f n c I) (hL : rm_L ls I) (h4 : I 42 4 = 0) (h5 : I 42 5 = -1) {q : (Nat × Int32) ⊕ (Nat × Nat × pt_L)} (hq : pt_ln (pt_tape f n) ls c kn = some q) :
    ∃ x I', am_Rn ext 8 142 [.ref 42] (I, L, D, am_rf X) (some (.int x), (I', L, D, am_rf X)) ∧ rm_R f n I q x I' := by
  obtain ⟨hc, hk, hks, hwf, hnn, hnf⟩ := hg1
  have hlen := pt_nn_nf ls
  have tok := rf_T_tok hT
  unfold pt_ln at hq
  by_cases h45 : pt_k (pt_tape f n) c = 4 ∨ pt_k (pt_tape f n) c = 5
  · rw [if_pos h45] at hq
    obtain ⟨fn, hfn⟩ : ∃ fn : Bool, fn = decide (pt_k (pt_tape f n) c = 5) := ⟨_, rfl⟩
    have hw : I 42 8 = 1 ∧ I 42 9 = if fn = true then 1 else 0 := by
      rcases h45 with h | h
      · have ef : fn = false := by rw [hfn]; exact decide_eq_false (by rw [h]; decide)
        have := rf_tw tok (j := 0) (by omega) h
        rw [ef]; exact this
      · have ef : fn = true := by rw [hfn]; exact decide_eq_true h
        have := rf_tw tok (j := 1) (by omega) h
        rw [ef]; exact this
    have o1 : rm_o I (am_uI I 42 36 (if fn = true then 1 else 0)) := by
      intro a b q1 q2 q3 q4
      rw [am_uI_at, if_neg (by omega)]
    have T1 : rf_T f n c (am_uI I 42 36 (if fn = true then 1 else 0)) := rf_T_of hT (fun b q1 q2 => by rw [am_uI_at, if_neg (by omega)]) (fun b => by rw [am_uI_at, if_neg (by omega)]) (fun b => by rw [am_uI_at, if_neg (by omega)])
    have L1 : rm_L ls (am_uI I 42 36 (if fn = true then 1 else 0)) := rm_L_of hL hwf (by rw [am_uI_at, if_neg (by omega)]) (by rw [am_uI_at, if_neg (by omega)]) (by rw [am_uI_at, if_neg (by omega)]) (fun b => by rw [am_uI_at, if_neg (by omega)]) (fun b => by rw [am_uI_at, if_neg (by omega)]) (fun b => by rw [am_uI_at, if_neg (by omega)]) (fun a b q1 q2 q3 => by rw [am_uI_at, if_neg (by omega)])
    have i36 : (am_uI I 42 36 (if fn = true then 1 else 0)) 42 36 = if fn = true then 1 else 0 := by rw [am_uI_at, if_pos ⟨rfl, rfl⟩]
    have i4 : (am_uI I 42 36 (if fn = true then 1 else 0)) 42 4 = 0 := by rw [am_uI_at, if_neg (by omega)]; exact h4
    have i5 : (am_uI I 42 36 (if fn = true then 1 else 0)) 42 5 = -1 := by rw [am_uI_at, if_neg (by omega)]; exact h5
    have l26 : I 42 26 = 12 ↔ pt_nn ls = 12 := by rw [hL.1, show (12 : Int32) = nI 12 from rfl, ni_eq (by omega) (by omega)]
    have l27 : I 42 27 = 6 ↔ pt_nf ls = 6 := by rw [hL.2.1, show (6 : Int32) = nI 6 from rfl, ni_eq (by omega) (by omega)]
    have start : ∀ {Q : am_R → Prop}, (¬ ((pt_k (pt_tape f n) c = 5 ∧ 6 ≤ pt_nf ls) ∨ (¬ pt_k (pt_tape f n) c = 5 ∧ 12 ≤ pt_nn ls)) → am_wp ext 7 mz_142 (73, [some (.ref 42), none], [], (am_uI I 42 36 (if fn = true then 1 else 0), L, D, am_rf X)) Q) → (((pt_k (pt_tape f n) c = 5 ∧ 6 ≤ pt_nf ls) ∨ (¬ pt_k (pt_tape f n) c = 5 ∧ 12 ≤ pt_nn ls)) → ∃ I', am_Rn ext 7 118 [.ref 42, .int 2] (am_uI I 42 36 (if fn = true then 1 else 0), L, D, am_rf X) (some (.int 0), (I', L, D, am_rf X)) ∧ Q (some (.int 0), (I', L, D, am_rf X))) → ∃ r, am_Rn ext 8 142 [.ref 42] (I, L, D, am_rf X) r ∧ Q r := by
      intro Q wy wn
      refine am_of_wp (as := [.ref 42]) mh_142 rfl (w142_0 I L D X ⟨fun z => absurd hw.1 z, fun _ => ⟨fun _ => ⟨fun z => ?_, fun z => ?_⟩, fun z => absurd ?_ z⟩⟩)
      · have ef : fn = false := by
          cases h : fn with
          | false => rfl
          | true => rw [h] at hw; exact absurd hw.2 z
        have n5 : ¬ pt_k (pt_tape f n) c = 5 := of_decide_eq_false (hfn.symm.trans ef)
        subst ef
        refine w142_36 I L D X 0 ⟨Or.inl rfl, fun _ => ⟨fun y => wy ?_, fun y => ?_⟩, fun y => absurd rfl y⟩
        · intro h
          rcases h with h | h
          · exact n5 h.1
          · exact y (l26.mpr (by omega))
        · obtain ⟨I', r, h⟩ := wn (Or.inr ⟨n5, by have := l26.mp y; omega⟩)
          exact ⟨0, I', L, D, r, Or.inl rfl, h⟩
      · have ef : fn = true := by
          cases h : fn with
          | true => rfl
          | false => rw [h] at hw; rw [hw.2] at z; exact absurd z (by decide)
        have y5 : pt_k (pt_tape f n) c = 5 := of_decide_eq_true (hfn.symm.trans ef)
        subst ef
        refine w142_36 I L D X 1 ⟨Or.inr rfl, fun y => absurd y (by decide), fun _ => ⟨fun y => wy ?_, fun y => ?_⟩⟩
        · intro h
          rcases h with h | h
          · exact y (l27.mpr (by omega))
          · exact h.1 y5
        · obtain ⟨I', r, h⟩ := wn (Or.inl ⟨y5, by have := l27.mp y; omega⟩)
          exact ⟨0, I', L, D, r, Or.inl rfl, h⟩
      · rw [hw.2]
        cases fn <;> decide
    by_cases hfull : (pt_k (pt_tape f n) c = 5 ∧ 6 ≤ pt_nf ls) ∨ (¬ pt_k (pt_tape f n) c = 5 ∧ 12 ≤ pt_nn ls)
    · rw [if_pos hfull] at hq
      cases hq
      obtain ⟨I2, r2, g1, g2⟩ := c118T (ext := ext) (d := 0) L D X T1 2
      obtain ⟨r, h1, h2⟩ := start (Q := fun r => r = (some (.int 0), (I2, L, D, am_rf X))) (fun z => absurd hfull z) (fun _ => ⟨I2, am_up r2 (by omega), rfl⟩)
      subst h2
      exact ⟨0, I2, h1, rm_o_t o1 g2, rfl, g1⟩
    · rw [if_neg hfull] at hq
      have go : ∀ {r0 : am_R}, am_wp ext 7 mz_142 (73, [some (.ref 42), none], [], (am_uI I 42 36 (if fn = true then 1 else 0), L, D, am_rf X)) (fun r => r = r0) → am_Rn ext 8 142 [.ref 42] (I, L, D, am_rf X) r0 := by
        intro r0 w
        obtain ⟨r, h1, rfl⟩ := start (Q := fun r => r = r0) (fun _ => w) (fun z => absurd z hfull)
        exact h1
      clear start
      have hroom : (fn = true → pt_nf ls < 6) ∧ (fn = false → pt_nn ls < 12) := by
        constructor
        · intro h
          have h5 : pt_k (pt_tape f n) c = 5 := of_decide_eq_true (hfn.symm.trans h)
          have : ¬ 6 ≤ pt_nf ls := fun z => hfull (Or.inl ⟨h5, z⟩)
          omega
        · intro h
          have h5 : ¬ pt_k (pt_tape f n) c = 5 := of_decide_eq_false (hfn.symm.trans h)
          have : ¬ 12 ≤ pt_nn ls := fun z => hfull (Or.inr ⟨h5, z⟩)
          omega
      rw [← hfn] at hq
      generalize am_uI I 42 36 (if fn = true then 1 else 0) = J1 at *
      obtain ⟨I1, r1, T2, f1⟩ := c123t (ext := ext) (d := 0) L D X hc T1
      have hc1 := pt_adv_lt hc
      have o2 : rm_o I I1 := rm_o_t o1 (rm_o_tf f1)
      have L2 : rm_L ls I1 := rm_L_of L1 hwf (f1 42 26 (by omega)) (f1 42 27 (by omega)) (f1 42 18 (by omega)) (fun b => f1 51 b (by omega)) (fun b => f1 52 b (by omega)) (fun b => f1 54 b (by omega)) (fun a b _ _ _ => f1 a b (by omega))
      have tok2 := rf_T_tok T2
      generalize pt_adv (pt_tape f n) c = c1 at *
      by_cases h3 : pt_k (pt_tape f n) c1 = 3
      · obtain ⟨t8, t9⟩ := rf_t3 tok2 h3
        by_cases h19 : pt_v (pt_tape f n) c1 = 19
        · rw [if_neg (fun z => z.2 h19)] at hq
          cases hq
          obtain ⟨I2, r2, g1, g2⟩ := c118T (ext := ext) (d := 0) L D X T2 1
          exact ⟨0, I2, go (w142_73 J1 L D X ⟨I1, L, D, am_up r1 (by omega), fun z => absurd t8 z, fun _ => ⟨fun z => absurd (t9.trans h19) z, fun _ => ⟨0, I2, L, D, am_up r2 (by omega), Or.inl rfl, rfl⟩⟩⟩), rm_o_t o2 g2, rfl, g1⟩
        · rw [if_pos ⟨h3, h19⟩] at hq
          have hl0 := (ht.2.2 _ hc1).1 h3
          have hlc := pt_clamp hl0.1
          have hl : (pt_v (pt_tape f n) c1).toNatClampNeg < 26 := by omega
          have hvl : pt_v (pt_tape f n) c1 = nI (pt_v (pt_tape f n) c1).toNatClampNeg := by
            rw [← Int32.toInt_inj, nI_toInt (by omega)]
            omega
          have hl19 : ¬ (pt_v (pt_tape f n) c1).toNatClampNeg = 19 := fun z => h19 (by rw [hvl, z]; rfl)
          have t9' : I1 42 9 = nI (pt_v (pt_tape f n) c1).toNatClampNeg := t9.trans hvl
          have n19 : ¬ I1 42 9 = 19 := fun z => h19 (t9.symm.trans z)
          generalize (pt_v (pt_tape f n) c1).toNatClampNeg = l at *
          have e26 : 26 + I1 42 9 = nI (26 + l) := by rw [t9', show (26 : Int32) = nI 26 from rfl, ni_add (by omega)]
          have hb26 : am_inb (26 + I1 42 9) 52 = true := by rw [e26]; exact ni_inb (by omega) (by omega)
          have ec26 : (26 + I1 42 9).toNatClampNeg = 26 + l := by rw [e26, ni_nat (by omega)]
          have htl2 : pt_tl ls l ≤ 2 := pt_en_ev ls true l hl
          have e51 : I1 51 (26 + I1 42 9).toNatClampNeg = nI (pt_tl ls l) := by rw [ec26]; exact L2.2.2.2.1 l hl
          have z51 : I1 51 (26 + I1 42 9).toNatClampNeg = 0 ↔ pt_tl ls l = 0 := by rw [e51, show (0 : Int32) = nI 0 from rfl, ni_eq (by omega) (by omega)]
          by_cases h0 : pt_tl ls l = 0
          · rw [if_pos h0] at hq
            obtain ⟨I3, r3, T3, f3⟩ := c123t (ext := ext) (d := 0) L D X hc1 T2
            have hc2 := pt_adv_lt hc1
            have o3 : rm_o I I3 := rm_o_t o2 (rm_o_tf f3)
            generalize pt_adv (pt_tape f n) c1 = c2 at *
            by_cases h61 : pt_k (pt_tape f n) c2 = 61
            · rw [if_pos h61] at hq
              obtain ⟨I4, r4, T4, f4⟩ := (c125T (ext := ext) (d := 0) L D X hc2 T3 (w := 61) (by decide)).1 h61
              have hc3 := pt_adv_lt hc2
              have o4 : rm_o I I4 := rm_o_t o3 (rm_o_tf f4)
              have x4 : ∀ a b, ¬ (a = 42 ∧ 7 ≤ b ∧ b ≤ 10) → I4 a b = J1 a b := fun a b q => by rw [f4 a b q, f3 a b q, f1 a b q]
              have E4 : rf_E (pt_ev ls fn) I4 := ⟨by rw [x4 42 36 (by omega)]; exact i36, fun l' hl' => by rw [x4 51 _ (by omega)]; exact L1.2.2.2.1 l' hl'⟩
              have hg := pt_ex_good (c := pt_adv (pt_tape f n) c2) ht ls fn hc3 hk
              cases hr : pt_ex (pt_tape f n) (pt_ev ls fn) (pt_adv (pt_tape f n) c2) kn with
              | none => rw [hr] at hq; cases hq
              | some r =>
                rw [hr] at hq hg
                obtain ⟨x5, I5, r5, f5, q5⟩ := c141 (ext := ext) L D X ht (pt_en_ev ls fn) hc3 hk T4 (by rw [x4 42 18 (by omega), hks]; exact L1.2.2.1) (by rw [x4 42 4 (by omega)]; exact i4) (by rw [x4 42 5 (by omega)]; exact i5) E4 hr
                have o5 : rm_o I I5 := rm_o_t o4 (rm_o_fr f5)
                match r, q5, hq, hg with
                | .inl fq, q5, hq, hg =>
                  cases hq
                  obtain ⟨rfl, g1⟩ := q5
                  exact ⟨0, I5, go (w142_73 J1 L D X ⟨I1, L, D, am_up r1 (by omega), fun z => absurd t8 z, fun _ => ⟨fun _ => ⟨hb26, fun _ => ⟨I3, L, D, am_up r3 (by omega), 1, I4, L, D, am_up r4 (by omega), fun z => absurd z (by decide), fun _ => ⟨0, I5, L, D, r5, fun z => absurd rfl z, fun _ => rfl⟩⟩, fun z => absurd (z51.mpr h0) z⟩, fun z => absurd z n19⟩⟩), o5, rfl, g1⟩
                | .inr (c5, k5, T), q5, hq, hg =>
                  obtain ⟨rfl, T5, b18, b4, b5, b58, brp⟩ := q5
                  obtain ⟨m1, m2, m3, m4⟩ := hg _ _ _ rfl
                  have xF : ∀ a b, rf_x kn 0 0 a b = false → I5 a b = I4 a b := f5
                  have e36 : I5 42 36 = if fn = true then 1 else 0 := by rw [xF 42 36 (rf_x_iff.mpr ⟨by omega, by omega, by omega, by omega⟩)]; exact E4.1
                  have e526 : I5 42 26 = nI (pt_nn ls) := by rw [xF 42 26 (rf_x_iff.mpr ⟨by omega, by omega, by omega, by omega⟩), x4 42 26 (by omega)]; exact L1.1
                  have e527 : I5 42 27 = nI (pt_nf ls) := by rw [xF 42 27 (rf_x_iff.mpr ⟨by omega, by omega, by omega, by omega⟩), x4 42 27 (by omega)]; exact L1.2.1
                  -- the line is told
                  obtain ⟨I7, o7, K7, j26, j27, j18, j51, j52, j54, T7, j4, j5, fin⟩ : ∃ I7, rm_o I I7 ∧ (∀ a b, 45 ≤ a → a ≤ 50 → I7 a b = I5 a b) ∧ I7 42 26 = nI (pt_nn ls + if fn = true then 0 else 1) ∧ I7 42 27 = nI (pt_nf ls + if fn = true then 1 else 0) ∧ I7 42 18 = I5 42 18 ∧ (∀ b, I7 51 b = if b = 26 + l then (if fn = true then 2 else 1) else I5 51 b) ∧ (∀ b, I7 52 b = if b = 26 + l then I5 58 0 else I5 52 b) ∧ (∀ b, I7 54 b = if fn = false ∧ b = pt_nn ls then nI l else I5 54 b) ∧ rf_T f n c5 I7 ∧ I7 42 4 = 0 ∧ I7 42 5 = -1 ∧ ∀ {x8 : Int32} {I8 : Nat → Nat → Int32}, (x8 = 0 ∨ x8 = 1) → am_Rn ext 7 125 [.ref 42, .int 59] (I7, L, D, am_rf X) (some (.int x8), (I8, L, D, am_rf X)) → am_Rn ext 8 142 [.ref 42] (I, L, D, am_rf X) (some (.int x8), (I8, L, D, am_rf X)) := by
                    have hb52 : am_inb (nI (26 + l)) 52 = true := ni_inb (by omega) (by omega)
                    cases hf : fn with
                    | false =>
                      rw [hf] at e36
                      have hnn2 := hroom.2 hf
                      have ecl : ((am_uI I5 52 (26 + l) (I5 58 0)) 42 26).toNatClampNeg = pt_nn ls := by rw [am_uI_at, if_neg (by omega), e526, ni_nat (by omega)]
                      have einc : (am_uI I5 52 (26 + l) (I5 58 0)) 42 26 + 1 = nI (pt_nn ls + 1) := by rw [am_uI_at, if_neg (by omega), e526, show (1 : Int32) = nI 1 from rfl, ni_add (by omega)]
                      refine ⟨am_uI (am_uI (am_uI (am_uI I5 52 (26 + l) (I5 58 0)) 51 (26 + l) 1) 54 (pt_nn ls) (nI l)) 42 26 (nI (pt_nn ls + 1)), ?_, ?_, ?_, ?_, ?_, ?_, ?_, ?_, ?_, ?_, ?_, ?_⟩
                      · intro a b q1 q2 q3 q4
                        simp only [am_uI_at]
                        rw [if_neg (by omega), if_neg (by omega), if_neg (by omega), if_neg (by omega)]
                        exact o5 a b q1 q2 q3 q4
                      · intro a b q1 q2
                        simp only [am_uI_at]
                        rw [if_neg (by omega), if_neg (by omega), if_neg (by omega), if_neg (by omega)]
                      · simp [am_uI_at]
                      · simp [am_uI_at, e527]
                      · simp [am_uI_at]
                      · intro b; simp [am_uI_at]
                      · intro b; simp [am_uI_at]
                      · intro b; simp [am_uI_at]
                      · exact rf_T_of T5 (fun b q1 q2 => by simp only [am_uI_at]; rw [if_neg (by omega), if_neg (by omega), if_neg (by omega), if_neg (by omega)]) (fun b => by simp [am_uI_at]) (fun b => by simp [am_uI_at])
                      · simp [am_uI_at, b4]
                      · simp [am_uI_at, b5]
                      · intro x8 I8 hx8 r8
                        refine go (w142_73 J1 L D X ⟨I1, L, D, am_up r1 (by omega), fun z => absurd t8 z, fun _ => ⟨fun _ => ⟨hb26, fun _ => ⟨I3, L, D, am_up r3 (by omega), 1, I4, L, D, am_up r4 (by omega), fun z => absurd z (by decide), fun _ => ⟨1, I5, L, D, r5, fun _ => ⟨hb26, fun _ => ?_, fun z => absurd e36 z⟩, fun z => absurd z (by decide)⟩⟩, fun z => absurd (z51.mpr h0) z⟩, fun z => absurd z n19⟩⟩)
                        rw [ec26]
                        refine w142_180 _ L D X _ 1 _ ⟨hb26, fun _ => ⟨?_, x8, I8, L, D, ?_, hx8, rfl⟩, fun z => absurd ?_ z⟩
                        · rw [am_uI_at, if_neg (by omega), e526]; exact ni_inb (by omega) (by omega)
                        · rw [ec26, ecl, einc, t9']; exact r8
                        · rw [am_uI_at, if_neg (by omega)]; exact e36
                    | true =>
                      rw [hf] at e36
                      have hnf2 := hroom.1 hf
                      have einc : (am_uI I5 52 (26 + l) (I5 58 0)) 42 27 + 1 = nI (pt_nf ls + 1) := by rw [am_uI_at, if_neg (by omega), e527, show (1 : Int32) = nI 1 from rfl, ni_add (by omega)]
                      refine ⟨am_uI (am_uI (am_uI I5 52 (26 + l) (I5 58 0)) 51 (26 + l) 2) 42 27 (nI (pt_nf ls + 1)), ?_, ?_, ?_, ?_, ?_, ?_, ?_, ?_, ?_, ?_, ?_, ?_⟩
                      · intro a b q1 q2 q3 q4
                        simp only [am_uI_at]
                        rw [if_neg (by omega), if_neg (by omega), if_neg (by omega)]
                        exact o5 a b q1 q2 q3 q4
                      · intro a b q1 q2
                        simp only [am_uI_at]
                        rw [if_neg (by omega), if_neg (by omega), if_neg (by omega)]
                      · simp [am_uI_at, e526]
                      · simp [am_uI_at]
                      · simp [am_uI_at]
                      · intro b; simp [am_uI_at]
                      · intro b; simp [am_uI_at]
                      · intro b; simp [am_uI_at]
                      · exact rf_T_of T5 (fun b q1 q2 => by simp only [am_uI_at]; rw [if_neg (by omega), if_neg (by omega), if_neg (by omega)]) (fun b => by simp [am_uI_at]) (fun b => by simp [am_uI_at])
                      · simp [am_uI_at, b4]
                      · simp [am_uI_at, b5]
                      · intro x8 I8 hx8 r8
                        refine go (w142_73 J1 L D X ⟨I1, L, D, am_up r1 (by omega), fun z => absurd t8 z, fun _ => ⟨fun _ => ⟨hb26, fun _ => ⟨I3, L, D, am_up r3 (by omega), 1, I4, L, D, am_up r4 (by omega), fun z => absurd z (by decide), fun _ => ⟨1, I5, L, D, r5, fun _ => ⟨hb26, fun z => absurd (e36.symm.trans z) (by decide), fun _ => ?_⟩, fun z => absurd z (by decide)⟩⟩, fun z => absurd (z51.mpr h0) z⟩, fun z => absurd z n19⟩⟩)
                        rw [ec26]
                        refine w142_180 _ L D X _ 2 _ ⟨hb26, fun z => absurd z ?_, fun _ => ⟨x8, I8, L, D, ?_, hx8, rfl⟩⟩
                        · rw [am_uI_at, if_neg (by omega), e36]; decide
                        · rw [ec26, einc]; exact r8
                  by_cases h59 : pt_k (pt_tape f n) c5 = 59
                  · simp only [if_pos h59] at hq
                    cases hq
                    obtain ⟨I8, r8, T8, f8⟩ := (c125T (ext := ext) (d := 0) L D X m1 T7 (w := 59) (by decide)).1 h59
                    refine ⟨1, I8, fin (Or.inr rfl) (am_up r8 (by omega)), rm_o_t o7 (rm_o_tf f8), rfl, T8, ?_, (f8 42 4 (by omega)).trans j4, (f8 42 5 (by omega)).trans j5⟩
                    -- the lines with the new one
                    have x8 : ∀ a b, ¬ (a = 42 ∧ 7 ≤ b ∧ b ≤ 10) → I8 a b = I7 a b := f8
                    refine ⟨?_, ?_, ?_, fun l' hl' => ?_, fun i x hx => ?_, fun k x hx => ?_⟩
                    · rw [x8 42 26 (by omega), j26]
                      unfold pt_nn
                      cases fn <;> simp
                    · rw [x8 42 27 (by omega), j27]
                      unfold pt_nf
                      cases fn <;> simp
                    · rw [x8 42 18 (by omega), j18, b18, pt_ks_app]
                      show nI k5 = _
                      rw [m3, hks]
                    · rw [x8 51 _ (by omega), j51, pt_tl_app]
                      by_cases hll : l' = l
                      · subst hll
                        rw [if_pos rfl, if_pos h0, if_pos rfl]
                        cases fn <;> rfl
                      · have ne : ¬ 26 + l' = 26 + l := by omega
                        have ne2 : ¬ (l, fn, T).1 = l' := fun z => hll z.symm
                        rw [if_neg ne, xF 51 _ (rf_x_iff.mpr ⟨by omega, by omega, by omega, by omega⟩), x4 51 _ (by omega), if_neg ne2]
                        have := L1.2.2.2.1 l' hl'
                        rw [this]
                        by_cases hz : pt_tl ls l' = 0
                        · rw [if_pos hz, hz]
                        · rw [if_neg hz]
                    · rw [x8 52 _ (by omega), j52]
                      by_cases hi : i < ls.length
                      · rw [List.getElem?_append_left hi] at hx
                        have ne := pt_tl_ne h0 hx
                        have ne2 : ¬ 26 + x.1 = 26 + l := by omega
                        have hle := pt_ks_le hx
                        rw [if_neg ne2, xF 52 _ (rf_x_iff.mpr ⟨by omega, by omega, by omega, by omega⟩), x4 52 _ (by omega)]
                        refine ⟨(L1.2.2.2.2.1 i x hx).1, rf_rp_of x.2.2 _ (hwf i x hx).2.2.2 (L1.2.2.2.2.1 i x hx).2 (fun a b q1 q2 q3 q4 => ?_)⟩
                        rw [x8 a b (by omega), K7 a b q1 q2, xF a b (rf_x_iff.mpr ⟨by omega, by omega, by omega, by omega⟩), x4 a b (by omega)]
                      · have hi2 : i = ls.length := by
                          have := (List.getElem?_eq_some_iff.mp hx).1
                          simp at this
                          omega
                        subst hi2
                        rw [List.getElem?_append_right (Nat.le_refl _)] at hx
                        simp at hx
                        subst hx
                        rw [if_pos rfl]
                        refine ⟨b58, rf_rp_of T _ m4 brp (fun a b q1 q2 q3 q4 => ?_)⟩
                        rw [x8 a b (by omega), K7 a b q1 q2]
                    · rw [x8 54 _ (by omega), j54]
                      have el : pt_lets (ls ++ [(l, fn, T)]) = pt_lets ls ++ (if fn = true then [] else [(l, fn, T)]) := by
                        unfold pt_lets
                        cases fn <;> simp
                      rw [el] at hx
                      have hlen2 : (pt_lets ls).length = pt_nn ls := rfl
                      by_cases hk' : k < pt_nn ls
                      · rw [List.getElem?_append_left (by omega)] at hx
                        rw [if_neg (fun z => by omega), xF 54 _ (rf_x_iff.mpr ⟨by omega, by omega, by omega, by omega⟩), x4 54 _ (by omega)]
                        exact L1.2.2.2.2.2 k x hx
                      · rw [List.getElem?_append_right (by omega)] at hx
                        cases hf : fn with
                        | true => rw [hf] at hx; simp at hx
                        | false =>
                          rw [hf, if_neg (by decide)] at hx
                          have hk0 : k - (pt_lets ls).length = 0 := by
                            have := (List.getElem?_eq_some_iff.mp hx).1
                            simp at this
                            omega
                          rw [hk0] at hx
                          simp at hx
                          subst hx
                          rw [if_pos ⟨rfl, by omega⟩]
                  · simp only [if_neg h59] at hq
                    cases hq
                    obtain ⟨I8, r8, g1, g2⟩ := (c125T (ext := ext) (d := 0) L D X m1 T7 (w := 59) (by decide)).2 h59
                    exact ⟨0, I8, fin (Or.inl rfl) (am_up r8 (by omega)), rm_o_t o7 g2, rfl, g1⟩
            · rw [if_neg h61] at hq
              cases hq
              obtain ⟨I4, r4, g1, g2⟩ := (c125T (ext := ext) (d := 0) L D X hc2 T3 (w := 61) (by decide)).2 h61
              exact ⟨0, I4, go (w142_73 J1 L D X ⟨I1, L, D, am_up r1 (by omega), fun z => absurd t8 z, fun _ => ⟨fun _ => ⟨hb26, fun _ => ⟨I3, L, D, am_up r3 (by omega), 0, I4, L, D, am_up r4 (by omega), fun _ => rfl, fun z => absurd rfl z⟩, fun z => absurd (z51.mpr h0) z⟩, fun z => absurd z n19⟩⟩), rm_o_t o3 g2, rfl, g1⟩
          · rw [if_neg h0] at hq
            cases hq
            obtain ⟨I2, r2, g1, g2⟩ := c118T (ext := ext) (d := 0) L D X T2 3
            exact ⟨0, I2, go (w142_73 J1 L D X ⟨I1, L, D, am_up r1 (by omega), fun z => absurd t8 z, fun _ => ⟨fun _ => ⟨hb26, fun z => absurd (z51.mp z) h0, fun _ => ⟨0, I2, L, D, am_up r2 (by omega), Or.inl rfl, rfl⟩⟩, fun z => absurd z n19⟩⟩), rm_o_t o2 g2, rfl, g1⟩
      · rw [if_neg (fun z => h3 z.1)] at hq
        cases hq
        have n8 : ¬ I1 42 8 = 2 := by
          intro h8
          obtain ⟨_, tk⟩ := tok2
          rcases tk with ⟨_, h⟩ | ⟨_, h⟩ | ⟨_, h, _⟩ | ⟨h, _⟩ | ⟨j, _, _, h, _⟩ | ⟨_, h, _⟩
          · rw [h8] at h; exact absurd h (by decide)
          · rw [h8] at h; exact absurd h (by decide)
          · rw [h8] at h; exact absurd h (by decide)
          · exact h3 h
          · rw [h8] at h; exact absurd h (by decide)
          · rw [h8] at h; exact absurd h (by decide)
        obtain ⟨I2, r2, g1, g2⟩ := c118T (ext := ext) (d := 0) L D X T2 1
        exact ⟨0, I2, go (w142_73 J1 L D X ⟨I1, L, D, am_up r1 (by omega), fun _ => ⟨0, I2, L, D, am_up r2 (by omega), Or.inl rfl, rfl⟩, fun z => absurd z n8⟩), rm_o_t o2 g2, rfl, g1⟩
  · rw [if_neg h45] at hq
    cases hq
    obtain ⟨I2, r2, g1, g2⟩ := c118T (ext := ext) (d := 0) L D X hT 1
    refine ⟨0, I2, am_rn_of mh_142 rfl (w142_0 I L D X ⟨fun _ => ⟨0, I2, L, D, am_up r2 (by omega), Or.inl rfl, rfl⟩, fun z => ⟨fun z1 => ?_, fun _ => ⟨0, I2, L, D, am_up r2 (by omega), Or.inl rfl, rfl⟩⟩⟩), g2, rfl, g1⟩
    -- a word that is neither let nor fun
    exfalso
    obtain ⟨_, tk⟩ := tok
    rcases tk with ⟨_, h⟩ | ⟨_, h⟩ | ⟨_, h, _⟩ | ⟨_, h, _⟩ | ⟨j, hj, h, _, hw⟩ | ⟨_, h, _⟩
    · rw [z] at h; exact absurd h (by decide)
    · rw [z] at h; exact absurd h (by decide)
    · rw [z] at h; exact absurd h (by decide)
    · rw [z] at h; exact absurd h (by decide)
    · rw [hw, show (1 : Int32) = nI 1 from rfl, ni_le (by omega) (by omega)] at z1
      have hj2 : j = 0 ∨ j = 1 := by omega
      rcases hj2 with rfl | rfl
      · exact h45 (Or.inl h)
      · exact h45 (Or.inr h)
    · rw [z] at h; exact absurd h (by decide)
end LINE
