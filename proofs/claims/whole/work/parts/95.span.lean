/-! ===== span, at ===== -/
def tl_a (what : Int32) (o : Option (Int64 × Int64)) (u : Nat) : Int64 := if what = 2 then Int32.toInt64 (nI u) else if o = none then -9223372036854775808 else if what = 0 then sp_lo o else sp_hi o
theorem rk_iv {w i : Nat} {ls : pt_L} {a b : Int64} {I I' : Nat → Nat → Int32} {L L' : Nat → Nat → Int64} {D : Nat → Nat → UInt64} (h : rk_P w ls i a b I L I' L') : iv_s I L D I' L' D := iv_s_I (fun p q k => h.2.2.2.1 p q (by unfold iv_k at k; omega)) (fun p q k => h.2.2.2.2 p q (by omega))
theorem mk_iv {w i : Nat} {ls : pt_L} {a b : Int64} {I I' : Nat → Nat → Int32} {L L' : Nat → Nat → Int64} {D : Nat → Nat → UInt64} (h : mk_P w ls i a b I L I' L') : iv_s I L D I' L' D := iv_s_I (fun p q k => h.2.2.1 p q (by unfold iv_k at k; omega) (by unfold iv_k at k; omega)) (fun p q k => h.2.2.2 p q (by omega) (by omega))
theorem iv_48 (I : Nat → Nat → Int32) (x : Int32) : ∀ a b, iv_k a b → am_uI I 42 48 x a b = I a b := fun a b h => by rw [am_uI_at, if_neg (by unfold iv_k at h; omega)]
theorem w_i {v : Int32} (h1 : ¬ v < 4) (h2 : ¬ 20 < v) : v.toNatClampNeg ≤ 20 ∧ 4 ≤ v.toNatClampNeg ∧ v = nI v.toNatClampNeg := by
  have z : (4 : Int32).toInt = 4 := rfl
  have t : (20 : Int32).toInt = 20 := rfl
  rw [Int32.lt_iff_toInt_lt, z] at h1
  rw [Int32.lt_iff_toInt_lt, t] at h2
  have e : v.toNatClampNeg = v.toInt.toNat := rfl
  refine ⟨by omega, by omega, ?_⟩
  rw [← Int32.toInt_inj, nI_toInt (by omega)]
  omega
section SPAN
variable {ext : Nat → List Value → am_M → Option am_R} {d : Nat} {L : Nat → Nat → Int64} (D : Nat → Nat → UInt64) {I : Nat → Nat → Int32} {ls : pt_L}
theorem c113 (X : am_Rf) (v : Int32) : am_Rn ext (d + 1) 113 [.int v] (I, L, D, am_rf X) (some (.int (if v < 4 then 0 else if 20 < v then 0 else 1)), (I, L, D, am_rf X)) := by
  refine am_rn_of mh_113 rfl (w113_0 I L D X v ⟨fun z => ?_, fun z => ⟨fun y => ?_, fun y => ?_⟩⟩)
  · rw [if_pos z]
  · rw [if_neg z, if_pos y]
  · rw [if_neg z, if_neg y]
theorem c117 (X : am_Rf) (v a b : Int32) : am_Rn ext (d + 1) 117 [.int v, .int a, .int b] (I, L, D, am_rf X) (some (.int (if v < a then 0 else if b < v then 0 else 1)), (I, L, D, am_rf X)) := by
  refine am_rn_of mh_117 rfl (w117_0 I L D X v a b ⟨fun z => ?_, fun z => ⟨fun y => ?_, fun y => ?_⟩⟩)
  · rw [if_pos z]
  · rw [if_neg z, if_pos y]
  · rw [if_neg z, if_neg y]
theorem in_0 {v a b : Int32} (h : (if v < a then (0 : Int32) else if b < v then 0 else 1) = 0) : v < a ∨ b < v := by
  by_cases h1 : v < a
  · exact Or.inl h1
  · rw [if_neg h1] at h
    by_cases h2 : b < v
    · exact Or.inr h2
    · rw [if_neg h2] at h; exact absurd h (by decide)
theorem in_1 {v a b : Int32} (h : ¬ (if v < a then (0 : Int32) else if b < v then 0 else 1) = 0) : ¬ v < a ∧ ¬ b < v := ⟨fun q => h (by rw [if_pos q]), fun q => h (by split <;> first | rfl | (rw [if_pos q]))⟩
theorem c99 (X : am_Rf) {o : Option (Int64 × Int64)} {u : Nat} (h8 : I 25 8 = nI u) (h9 : L 25 9 = sp_lo o) (h10 : L 25 10 = sp_hi o) (v : Int32) : am_Rn ext (d + 1) 99 [.ref 0, .int (if o = none then 0 else 1), .int v] (I, L, D, am_rf X) (some (.long (tl_a v o u)), (I, L, D, am_rf X)) := by
  refine am_rn_of mh_99 rfl (w99_0 I L D X _ v ⟨fun z => ⟨fun y => ⟨fun x => ?_, fun x => ?_⟩, fun y => ?_⟩, fun z => ?_⟩)
  · have ho : ¬ o = none := fun q => y (by rw [if_pos q])
    unfold tl_a; rw [if_neg z, if_neg ho, if_neg x, h10]
  · have ho : ¬ o = none := fun q => y (by rw [if_pos q])
    unfold tl_a; rw [if_neg z, if_neg ho, if_pos x, h9]
  · have ho : o = none := by
      by_cases q : o = none
      · exact q
      · rw [if_neg q] at y; exact absurd y (by decide)
    unfold tl_a; rw [if_neg z, if_pos ho]
  · unfold tl_a; rw [if_pos z, h8]
theorem c171 (X : am_Rf) {o : Option (Int64 × Int64)} {u : Nat} (h49 : I 42 49 = nI u) (hv : me_v o I L) (v : Int32) : am_Rn ext (d + 1) 171 [.ref 42, .int v] (I, L, D, am_rf X) (some (.long (tl_a v o u)), (I, L, D, am_rf X)) := by
  refine am_rn_of mh_171 rfl (w171_0 I L D X v ⟨fun z => ⟨fun y => ?_, fun y => ?_⟩, fun z => ?_⟩)
  · cases o with
    | none => exact absurd (me_v0 hv) y
    | some q =>
      obtain ⟨v0, v1, v2⟩ := me_v1 hv
      refine ⟨fun x => ?_, fun x => ?_⟩
      · unfold tl_a; rw [if_neg z, if_neg (by intro q; cases q), if_neg x, v2]; rfl
      · unfold tl_a; rw [if_neg z, if_neg (by intro q; cases q), if_pos x, v1]; rfl
  · cases o with
    | none => unfold tl_a; rw [if_neg z, if_pos rfl]
    | some q => rw [(me_v1 hv).1] at y; exact absurd y (by decide)
  · unfold tl_a; rw [if_pos z, h49]
/-- a number's span, the answer -/
def an_sp (ls : pt_L) (v1 v2 v3 : Int32) : Int64 := if lt_k ls v1 = 1 ∧ ¬ v2 < 4 ∧ ¬ 20 < v2 ∧ ¬ v3 < 0 ∧ ¬ 2 < v3 then tl_a v3 (aq_o v2.toNatClampNeg ls (lt_i ls v1) 0 0) (aq_u v2.toNatClampNeg ls (lt_i ls v1) 0 0) else -9223372036854775808
theorem c97 (xi xp xc : Nat) (hP : iv_P ls I) (v1 v2 v3 : Int32) : ∃ I' L' xp', am_Rn ext 400 97 [.ref 0, .int v1, .int v2, .int v3] (I, L, D, am_rf (2, 11, xi, xp, 2, xc)) (some (.long (an_sp ls v1 v2 v3)), (I', L', D, am_rf (2, 11, xi, xp', 2, xc))) ∧ iv_s I L D I' L' D := by
  obtain ⟨hL, hK, hwf, h18, h96, h12, h6⟩ := hP
  have r1 := am_up (c111 (ext := ext) (d := 0) L D xi xp 2 xc hL h18 v1) (show 2 ≤ 399 by omega)
  have r2 := am_up (c113 (ext := ext) (d := 0) (L := L) (I := I) D (2, 11, xi, xp, 2, xc) v2) (show 1 ≤ 399 by omega)
  have le : ¬ 2 < v3 ↔ v3 ≤ 2 := by rw [Int32.le_iff_toInt_le, Int32.lt_iff_toInt_lt]; omega
  by_cases good : lt_k ls v1 = 1 ∧ ¬ v2 < 4 ∧ ¬ 20 < v2 ∧ ¬ v3 < 0 ∧ ¬ 2 < v3
  · obtain ⟨g1, g2, g3, g4, g5⟩ := good
    obtain ⟨w1, w2, w3⟩ := w_i g2 g3
    obtain ⟨_, _, _, _, b, T, q1, q2, q3⟩ := lt_x (ls := ls) (v := v1) (by omega)
    obtain ⟨I1, L1, r3, K⟩ := c60 (ext := ext) D 2 11 xi xp 2 xc w1 hwf h18 h96 q2 (gd2_0 _) hL
    have r4 := am_up (c99 (ext := ext) (d := 0) D (2, 11, xi, 2, 2, xc) K.1 K.2.1 K.2.2.1 v3) (show 1 ≤ 399 by omega)
    rw [if_pos g1] at r1
    refine ⟨I1, L1, 2, am_rn_of (d := 399) mh_97 rfl (w97_0 I L D xc xi xp 11 2 2 v1 v2 v3 ⟨_, I, L, D, r1, fun z => absurd z (ni_nn (by omega)), fun _ => ⟨_, I, L, D, r2, fun z => ?_, fun _ => ⟨fun z => absurd z g4, fun _ => ⟨fun _ => ⟨_, I1, L1, D, by rw [w3] at r3 ⊢; simp only [ni_nat (show v2.toNatClampNeg < 2 ^ 31 by omega)] at r3 ⊢; exact am_up r3 (by omega), _, I1, L1, D, r4, ?_⟩, fun z => absurd (le.mp g5) z⟩⟩⟩⟩), rk_iv K⟩
    · rcases in_0 z with q | q
      · exact absurd q g2
      · exact absurd q g3
    · unfold an_sp; rw [if_pos ⟨g1, g2, g3, g4, g5⟩]
  · have e : an_sp ls v1 v2 v3 = -9223372036854775808 := by unfold an_sp; rw [if_neg good]
    rw [e]
    refine ⟨I, L, xp, am_rn_of (d := 399) mh_97 rfl (w97_0 I L D xc xi xp 11 2 2 v1 v2 v3 ⟨_, I, L, D, r1, fun _ => rfl, fun z1 => ⟨_, I, L, D, r2, fun _ => rfl, fun z2 => ⟨fun _ => rfl, fun z3 => ⟨fun z4 => absurd ⟨?_, (in_1 z2).1, (in_1 z2).2, z3, le.mpr z4⟩ good, fun _ => rfl⟩⟩⟩⟩), iv_s_I (fun _ _ _ => rfl) (fun _ _ _ => rfl)⟩
    by_cases q : lt_k ls v1 = 1
    · exact q
    · rw [if_neg q] at z1; exact absurd (by decide) z1
theorem c170 (X : am_Rf) (hP : iv_P ls I) {v1 : Int32} {w : Nat} (hw : w ≤ 20) (hl : lt_k ls v1 = 1) : ∃ I' L', am_Rn ext (d + 8) 170 [.ref 42, .int v1, .int (nI w)] (I, L, D, am_rf X) (none, (I', L', D, am_rf X)) ∧ mk_P w ls (lt_i ls v1) 0 0 (am_uI I 42 48 (nI w)) L I' L' := by
  have hP' := iv_P_s hP (iv_48 I (nI w))
  obtain ⟨hL, hK, hwf, h18, h96, h12, h6⟩ := hP'
  obtain ⟨q0, q00, _, _, b, T, q1, q2, q3⟩ := lt_x (ls := ls) (v := v1) (by omega)
  obtain ⟨I1, L1, r, K⟩ := c153 (ext := ext) (L := L) D X hw hwf h18 h96 hK q1 (by rw [am_uI_at, if_pos ⟨rfl, rfl⟩]) (gd2_0 w)
  have e52 : I 52 v1.toNatClampNeg = nI (tr_rt T) := (hP.2.1.2.2.2.2.2.1 _ _ q1).1
  have hb := ni_inb (n := 52) (k := v1.toNatClampNeg) (by omega) (by omega)
  rw [← q00] at hb
  refine ⟨I1, L1, am_rn_of mh_170 rfl (w170_0 I L D X v1 (nI w) ⟨hb, I1, L1, D, ?_, rfl⟩), K⟩
  rw [e52]
  exact am_up r (by omega)
theorem c172 (X : am_Rf) (hP : iv_P ls I) (v1 v2 v3 : Int32) : ∃ I' L', am_Rn ext 400 172 [.ref 42, .int v1, .int v2, .int v3] (I, L, D, am_rf X) (some (.long (an_sp ls v1 v2 v3)), (I', L', D, am_rf X)) ∧ iv_s I L D I' L' D := by
  have s2 : iv_s I L D (am_uI I 42 2 0) L D := iv_s_I (iv_2 I 0) (fun _ _ _ => rfl)
  have hP2 := iv_P_s hP s2.1
  have r1 := am_up (c148 (ext := ext) (d := 0) (I := am_uI I 42 2 0) L D X hP2.2.1 v1) (show 2 ≤ 399 by omega)
  have r2 := am_up (c117 (ext := ext) (d := 0) (L := L) (I := am_uI I 42 2 0) D X v2 4 20) (show 1 ≤ 399 by omega)
  have r3 := am_up (c117 (ext := ext) (d := 0) (L := L) (I := am_uI I 42 2 0) D X v3 0 2) (show 1 ≤ 399 by omega)
  by_cases good : lt_k ls v1 = 1 ∧ ¬ v2 < 4 ∧ ¬ 20 < v2 ∧ ¬ v3 < 0 ∧ ¬ 2 < v3
  · obtain ⟨g1, g2, g3, g4, g5⟩ := good
    obtain ⟨w1, w2, w3⟩ := w_i g2 g3
    obtain ⟨I1, L1, r4, K⟩ := c170 (ext := ext) (d := 0) (L := L) D X hP2 w1 g1
    have r5 := am_up (c171 (ext := ext) (d := 0) D X K.1 K.2.1 v3) (show 1 ≤ 399 by omega)
    refine ⟨I1, L1, am_rn_of (d := 399) mh_172 rfl (w172_0 I L D X v1 v2 v3 ⟨_, _, L, D, r1, fun z => ?_, fun _ => ⟨_, _, L, D, r2, fun z => ?_, fun _ => ⟨_, _, L, D, r3, fun _ => ⟨I1, L1, D, by have r4' := am_up r4 (show 0 + 8 ≤ 399 by omega); rw [← w3] at r4'; exact r4', _, I1, L1, D, r5, ?_⟩, fun z => ?_⟩⟩⟩), iv_s_t s2 (iv_s_t (iv_s_I (iv_48 _ _) (fun _ _ _ => rfl)) (mk_iv K))⟩
    · rw [if_pos g1] at z; exact absurd z (by decide)
    · rcases in_0 z with q | q
      · exact absurd q g2
      · exact absurd q g3
    · unfold an_sp; rw [if_pos ⟨g1, g2, g3, g4, g5⟩]
    · rcases in_0 z with q | q
      · exact absurd q g4
      · exact absurd q g5
  · have e : an_sp ls v1 v2 v3 = -9223372036854775808 := by unfold an_sp; rw [if_neg good]
    rw [e]
    refine ⟨_, L, am_rn_of (d := 399) mh_172 rfl (w172_0 I L D X v1 v2 v3 ⟨_, _, L, D, r1, fun _ => rfl, fun z1 => ⟨_, _, L, D, r2, fun _ => rfl, fun z2 => ⟨_, _, L, D, r3, fun z3 => absurd ⟨?_, (in_1 z2).1, (in_1 z2).2, (in_1 z3).1, (in_1 z3).2⟩ good, fun _ => rfl⟩⟩⟩), s2⟩
    by_cases q : lt_k ls v1 = 1
    · exact q
    · rw [if_neg q] at z1; exact absurd rfl z1
theorem ow_4 {Cc : iv_C} (hC : iv_ok Cc) : lw_t4 ext (iv Cc) := by
  intro v1 v2 v3 m hm
  obtain ⟨I, L, D, xi, xp, xc, ls, rfl, hT, hP, hc⟩ := hm
  obtain ⟨I1, L1, xp', r1, s1⟩ := c97 (ext := ext) (L := L) D xi xp xc hP v1 v2 v3
  have hP1 := iv_P_s hP s1.1
  obtain ⟨I2, L2, r2, s2⟩ := c172 (ext := ext) (L := L1) D (2, 11, xi, xp', 2, xc) hP1 v1 v2 v3
  exact ⟨_, _, _, r1, r2, Or.inl (iv_go hC hT hP hc (iv_s_t s1 s2))⟩
/-! at -/
def an_at (ls : pt_L) (v1 v2 v3 v4 v5 : Int32) : Int64 := if lt_k ls v1 = 2 ∧ ¬ v2 < -64 ∧ ¬ 64 < v3 ∧ ¬ v3 < v2 ∧ ¬ v4 < 4 ∧ ¬ 20 < v4 ∧ ¬ v5 < 0 ∧ ¬ 2 < v5 then tl_a v5 (aq_o v4.toNatClampNeg ls (lt_i ls v1) (sp_l v4.toNatClampNeg (Int32.toInt64 v2)) (sp_l v4.toNatClampNeg (Int32.toInt64 v3))) (aq_u v4.toNatClampNeg ls (lt_i ls v1) (sp_l v4.toNatClampNeg (Int32.toInt64 v2)) (sp_l v4.toNatClampNeg (Int32.toInt64 v3))) else -9223372036854775808
theorem at_gd {w : Nat} (hw : w ≤ 20) {x y : Int32} (h1 : ¬ x < -64) (h2 : ¬ 64 < y) (h3 : ¬ y < x) : gd2 w (sp_l w (Int32.toInt64 x)) (sp_l w (Int32.toInt64 y)) := by
  have a : (-64 : Int32).toInt = -64 := rfl
  have b : (64 : Int32).toInt = 64 := rfl
  rw [Int32.lt_iff_toInt_lt] at h1 h2 h3
  have g := no_gd hw (i := x.toInt) (j := y.toInt) (by omega) (by omega) (by omega)
  rw [Int32.ofInt_toInt, Int32.ofInt_toInt] at g
  exact g
theorem c98 (xi xp xc : Nat) (hP : iv_P ls I) (v1 v2 v3 v4 v5 : Int32) : ∃ I' L' xp', am_Rn ext 400 98 [.ref 0, .int v1, .int v2, .int v3, .int v4, .int v5] (I, L, D, am_rf (2, 11, xi, xp, 2, xc)) (some (.long (an_at ls v1 v2 v3 v4 v5)), (I', L', D, am_rf (2, 11, xi, xp', 2, xc))) ∧ iv_s I L D I' L' D := by
  obtain ⟨hL, hK, hwf, h18, h96, h12, h6⟩ := hP
  have r1 := am_up (c112 (ext := ext) (d := 0) L D xi xp 2 xc hL h18 v1) (show 2 ≤ 399 by omega)
  have r2 := am_up (c113 (ext := ext) (d := 0) (L := L) (I := I) D (2, 11, xi, xp, 2, xc) v4) (show 1 ≤ 399 by omega)
  have le : ¬ 2 < v5 ↔ v5 ≤ 2 := by rw [Int32.le_iff_toInt_le, Int32.lt_iff_toInt_lt]; omega
  have le' : ¬ v3 < v2 ↔ v2 ≤ v3 := by rw [Int32.le_iff_toInt_le, Int32.lt_iff_toInt_lt]; omega
  by_cases good : lt_k ls v1 = 2 ∧ ¬ v2 < -64 ∧ ¬ 64 < v3 ∧ ¬ v3 < v2 ∧ ¬ v4 < 4 ∧ ¬ 20 < v4 ∧ ¬ v5 < 0 ∧ ¬ 2 < v5
  · have ea : an_at ls v1 v2 v3 v4 v5 = tl_a v5 (aq_o v4.toNatClampNeg ls (lt_i ls v1) (sp_l v4.toNatClampNeg (Int32.toInt64 v2)) (sp_l v4.toNatClampNeg (Int32.toInt64 v3))) (aq_u v4.toNatClampNeg ls (lt_i ls v1) (sp_l v4.toNatClampNeg (Int32.toInt64 v2)) (sp_l v4.toNatClampNeg (Int32.toInt64 v3))) := by unfold an_at; rw [if_pos good]
    obtain ⟨g1, a1, a2, a3, g2, g3, g4, g5⟩ := good
    obtain ⟨w1, w2, w3⟩ := w_i g2 g3
    obtain ⟨_, _, _, _, b, T, q1, q2, q3⟩ := lt_x (ls := ls) (v := v1) (by omega)
    obtain ⟨I1, L1, r3, K⟩ := c60 (ext := ext) D 2 11 xi xp 2 xc w1 hwf h18 h96 q2 (at_gd w1 a1 a2 a3) hL
    have r4 := am_up (c99 (ext := ext) (d := 0) D (2, 11, xi, 2, 2, xc) K.1 K.2.1 K.2.2.1 v5) (show 1 ≤ 399 by omega)
    rw [if_pos g1] at r1
    have esh : (Int32.toInt64 v4) &&& 63 = sp_sh v4.toNatClampNeg := by unfold sp_sh; rw [← w3]
    rw [ea]
    refine ⟨I1, L1, 2, am_rn_of (d := 399) mh_98 rfl (w98_0 I L D xc xi xp 11 2 2 v1 v2 v3 v4 v5 ⟨_, I, L, D, r1, fun z => absurd z (ni_nn (by omega)), fun _ => ⟨_, I, L, D, r2, fun z => ?_, fun _ => ⟨fun z => absurd z g4, fun _ => ⟨fun _ => ⟨fun z => absurd z a1, fun _ => ⟨fun z => absurd z a2, fun _ => ⟨fun _ => ⟨_, I1, L1, D, ?_, _, I1, L1, D, r4, rfl⟩, fun z => absurd (le'.mp a3) z⟩⟩⟩, fun z => absurd (le.mp g5) z⟩⟩⟩⟩), rk_iv K⟩
    · rcases in_0 z with q | q
      · exact absurd q g2
      · exact absurd q g3
    · rw [esh]
      have r3' := am_up r3 (show 83 ≤ 399 by omega)
      rw [← w3] at r3'
      exact r3'
  · have e : an_at ls v1 v2 v3 v4 v5 = -9223372036854775808 := by unfold an_at; rw [if_neg good]
    rw [e]
    refine ⟨I, L, xp, am_rn_of (d := 399) mh_98 rfl (w98_0 I L D xc xi xp 11 2 2 v1 v2 v3 v4 v5 ⟨_, I, L, D, r1, fun _ => rfl, fun z1 => ⟨_, I, L, D, r2, fun _ => rfl, fun z2 => ⟨fun _ => rfl, fun z3 => ⟨fun z4 => ⟨fun _ => rfl, fun z5 => ⟨fun _ => rfl, fun z6 => ⟨fun z7 => absurd ⟨?_, z5, z6, le'.mpr z7, (in_1 z2).1, (in_1 z2).2, z3, le.mpr z4⟩ good, fun _ => rfl⟩⟩⟩, fun _ => rfl⟩⟩⟩⟩), iv_s_I (fun _ _ _ => rfl) (fun _ _ _ => rfl)⟩
    by_cases q : lt_k ls v1 = 2
    · exact q
    · rw [if_neg q] at z1; exact absurd (by decide) z1
theorem c173 (X : am_Rf) (hP : iv_P ls I) (v1 v2 v3 v4 v5 : Int32) : ∃ I' L', am_Rn ext 400 173 [.ref 42, .int v1, .int v2, .int v3, .int v4, .int v5] (I, L, D, am_rf X) (some (.long (an_at ls v1 v2 v3 v4 v5)), (I', L', D, am_rf X)) ∧ iv_s I L D I' L' D := by
  have s2 : iv_s I L D (am_uI I 42 2 0) L D := iv_s_I (iv_2 I 0) (fun _ _ _ => rfl)
  have hP2 := iv_P_s hP s2.1
  have r1 := am_up (c149 (ext := ext) (d := 0) (I := am_uI I 42 2 0) L D X hP2.2.1 v1) (show 2 ≤ 399 by omega)
  have R := fun (v a b : Int32) => am_up (c117 (ext := ext) (d := 0) (L := L) (I := am_uI I 42 2 0) D X v a b) (show 1 ≤ 399 by omega)
  have e64 : ∀ x y : Int32, ¬ y < x → ¬ 64 < y → ¬ 64 < x := fun x y h1 h2 => by rw [Int32.lt_iff_toInt_lt] at h1 h2 ⊢; omega
  by_cases good : lt_k ls v1 = 2 ∧ ¬ v2 < -64 ∧ ¬ 64 < v3 ∧ ¬ v3 < v2 ∧ ¬ v4 < 4 ∧ ¬ 20 < v4 ∧ ¬ v5 < 0 ∧ ¬ 2 < v5
  · have ea : an_at ls v1 v2 v3 v4 v5 = tl_a v5 (aq_o v4.toNatClampNeg ls (lt_i ls v1) (sp_l v4.toNatClampNeg (Int32.toInt64 v2)) (sp_l v4.toNatClampNeg (Int32.toInt64 v3))) (aq_u v4.toNatClampNeg ls (lt_i ls v1) (sp_l v4.toNatClampNeg (Int32.toInt64 v2)) (sp_l v4.toNatClampNeg (Int32.toInt64 v3))) := by unfold an_at; rw [if_pos good]
    obtain ⟨g1, a1, a2, a3, g2, g3, g4, g5⟩ := good
    obtain ⟨w1, w2, w3⟩ := w_i g2 g3
    obtain ⟨q0, q00, _, _, b, T, q1, q2, q3⟩ := lt_x (ls := ls) (v := v1) (by omega)
    have hP3 := iv_P_s hP2 (iv_48 (am_uI I 42 2 0) v4)
    obtain ⟨I1, L1, r3, K⟩ := c153 (ext := ext) (L := L) D X w1 hP3.2.2.1 hP3.2.2.2.1 hP3.2.2.2.2.1 hP3.2.1 q1 (by rw [am_uI_at, if_pos ⟨rfl, rfl⟩]; exact w3) (at_gd w1 a1 a2 a3)
    have r5 := am_up (c171 (ext := ext) (d := 0) D X K.1 K.2.1 v5) (show 1 ≤ 399 by omega)
    have esh : (Int32.toInt64 v4) &&& 63 = sp_sh v4.toNatClampNeg := by unfold sp_sh; rw [← w3]
    have e52 : am_uI I 42 2 0 52 v1.toNatClampNeg = nI (tr_rt T) := (hP2.2.1.2.2.2.2.2.1 _ _ q1).1
    have hb := ni_inb (n := 52) (k := v1.toNatClampNeg) (by omega) (by omega)
    rw [← q00] at hb
    rw [ea]
    refine ⟨I1, L1, am_rn_of (d := 399) mh_173 rfl (w173_0 I L D X v1 v2 v3 v4 v5 ⟨_, _, L, D, r1, fun z => ?_, fun _ => ⟨_, _, L, D, R v2 (-64) 64, fun z => ?_, fun _ => ⟨_, _, L, D, R v3 v2 64, fun z => ?_, fun _ => ⟨_, _, L, D, R v4 4 20, fun z => ?_, fun _ => ⟨_, _, L, D, R v5 0 2, fun _ => ⟨hb, I1, L1, D, ?_, _, I1, L1, D, r5, rfl⟩, fun z => ?_⟩⟩⟩⟩⟩), iv_s_t s2 (iv_s_t (iv_s_I (iv_48 _ _) (fun _ _ _ => rfl)) (mk_iv K))⟩
    · rw [if_pos g1] at z; exact absurd z (by decide)
    · rcases in_0 z with q | q
      · exact absurd q a1
      · exact absurd q (e64 _ _ a3 a2)
    · rcases in_0 z with q | q
      · exact absurd q a3
      · exact absurd q a2
    · rcases in_0 z with q | q
      · exact absurd q g2
      · exact absurd q g3
    · rw [esh, e52]; exact am_up r3 (by omega)
    · rcases in_0 z with q | q
      · exact absurd q g4
      · exact absurd q g5
  · have e : an_at ls v1 v2 v3 v4 v5 = -9223372036854775808 := by unfold an_at; rw [if_neg good]
    rw [e]
    refine ⟨_, L, am_rn_of (d := 399) mh_173 rfl (w173_0 I L D X v1 v2 v3 v4 v5 ⟨_, _, L, D, r1, fun _ => rfl, fun z1 => ⟨_, _, L, D, R v2 (-64) 64, fun _ => rfl, fun z2 => ⟨_, _, L, D, R v3 v2 64, fun _ => rfl, fun z3 => ⟨_, _, L, D, R v4 4 20, fun _ => rfl, fun z4 => ⟨_, _, L, D, R v5 0 2, fun z5 => absurd ⟨?_, (in_1 z2).1, (in_1 z3).2, (in_1 z3).1, (in_1 z4).1, (in_1 z4).2, (in_1 z5).1, (in_1 z5).2⟩ good, fun _ => rfl⟩⟩⟩⟩⟩), s2⟩
    by_cases q : lt_k ls v1 = 2
    · exact q
    · rw [if_neg q] at z1; exact absurd rfl z1
theorem ow_5 {Cc : iv_C} (hC : iv_ok Cc) : lw_t5 ext (iv Cc) := by
  intro v1 v2 v3 v4 v5 m hm
  obtain ⟨I, L, D, xi, xp, xc, ls, rfl, hT, hP, hc⟩ := hm
  obtain ⟨I1, L1, xp', r1, s1⟩ := c98 (ext := ext) (L := L) D xi xp xc hP v1 v2 v3 v4 v5
  have hP1 := iv_P_s hP s1.1
  obtain ⟨I2, L2, r2, s2⟩ := c173 (ext := ext) (L := L1) D (2, 11, xi, xp', 2, xc) hP1 v1 v2 v3 v4 v5
  exact ⟨_, _, _, r1, r2, Or.inl (iv_go hC hT hP hc (iv_s_t s1 s2))⟩
end SPAN
