/-! ===== exact, compare ===== -/
abbrev iv_Cd : Type := pt_L → (Nat → Nat → Int32) → (Nat → Nat → UInt64) → Prop
/-- what is kept of doubles speaks of these cells alone -/
def okd (Cd : iv_Cd) : Prop := ∀ ls I D I' D', iv_P ls I → (∀ b, I' 36 b = I 36 b) → I' 42 60 = I 42 60 → (∀ b, I' 76 b = I 76 b) → (∀ a b, a = 35 ∨ a = 75 → D' a b = D a b) → Cd ls I D → Cd ls I' D'
def Cc2 (Cd : iv_Cd) : iv_C := fun ls I L D => Cx ls I L ∧ Cd ls I D
theorem Cx_s {ls : pt_L} {I I' : Nat → Nat → Int32} {L L' : Nat → Nat → Int64} (h : Cx ls I L) (g1 : I' 42 59 = I 42 59) (g2 : ∀ b, I' 71 b = I 71 b) (g3 : ∀ a b, a = 30 ∨ a = 31 ∨ a = 69 ∨ a = 70 → L' a b = L a b) : Cx ls I' L' := by
  obtain ⟨h1, h2⟩ := h
  refine ⟨fun i hi => ?_, ?_⟩
  · rw [g3 30 i (by omega), g3 31 i (by omega)]; exact h1 i hi
  · rw [g1]
    refine h2.imp id (fun h j x hj hx => ?_)
    rw [g2, g3 69 _ (by omega), g3 70 _ (by omega)]
    exact h j x hj hx
theorem ok2 {Cd : iv_Cd} (h : okd Cd) : iv_ok (Cc2 Cd) := fun ls I L D I' L' D' hP hc hs => ⟨Cx_s hc.1 (hs.1 42 59 (by unfold iv_k; omega)) (fun b => hs.1 71 b (by unfold iv_k; omega)) hs.2.1, h ls I D I' D' hP (fun b => hs.1 36 b (by unfold iv_k; omega)) (hs.1 42 60 (by unfold iv_k; omega)) (fun b => hs.1 76 b (by unfold iv_k; omega)) hs.2.2 hc.2⟩
/-- behind makeExact -/
def fx (ls : pt_L) (I : Nat → Nat → Int32) (I' : Nat → Nat → Int32) (L' : Nat → Nat → Int64) : Prop := (∀ a b, iv_k a b → ¬ (a = 42 ∧ b = 59) → ¬ a = 71 → I' a b = I a b) ∧ Cx ls I' L'
theorem fx_go {Cd : iv_Cd} (hd : okd Cd) {ls : pt_L} {I I' : Nat → Nat → Int32} {L' : Nat → Nat → Int64} {D : Nat → Nat → UInt64} {xi xp xc : Nat} (hT : iv_T I) (hP : iv_P ls I) (hc : Cd ls I D) (h : fx ls I I' L') : iv (Cc2 Cd) (I', L', D, am_rf (2, 11, xi, xp, 2, xc)) := by
  have g : ∀ a b, iv_j a b → I' a b = I a b := fun a b k => h.1 a b (by unfold iv_j at k; unfold iv_k; omega) (by unfold iv_j at k; omega) (by unfold iv_j at k; omega)
  exact ⟨I', L', D, xi, xp, xc, ls, rfl, iv_T_j hT g, iv_P_j hP g, h.2, hd ls I D I' D hP (fun b => h.1 36 b (by unfold iv_k; omega) (by omega) (by omega)) (h.1 42 60 (by unfold iv_k; omega) (by omega) (by omega)) (fun b => h.1 76 b (by unfold iv_k; omega) (by omega) (by omega)) (fun _ _ _ => rfl) hc⟩
theorem fx_of {ls : pt_L} {I0 I : Nat → Nat → Int32} {L0 L : Nat → Nat → Int64} {D D' : Nat → Nat → UInt64} (hs : iv_s I0 L0 D I L D') {I' : Nat → Nat → Int32} {L' : Nat → Nat → Int64} (hC : Cx ls I L) (f1 : ∀ a b, ¬ (a = 42 ∧ b = 59) → ¬ a = 71 → ¬ a = 74 → I' a b = I a b) (f2 : ∀ a b, ¬ (a = 69 ∨ a = 70 ∨ a = 72 ∨ a = 73) → L' a b = L a b) (f3 : xw ls (pt_nn ls) I' L') : fx ls I0 I' L' :=
  ⟨fun a b k q1 q2 => by rw [f1 a b q1 q2 (by unfold iv_k at k; omega), hs.1 a b k], fun i hi => by rw [f2 30 i (by omega), f2 31 i (by omega)]; exact hC.1 i hi, Or.inr f3⟩
theorem fx_s {ls : pt_L} {I I' : Nat → Nat → Int32} {L L' : Nat → Nat → Int64} {D D' : Nat → Nat → UInt64} (hC : Cx ls I L) (hs : iv_s I L D I' L' D') : fx ls I I' L' := ⟨fun a b k _ _ => hs.1 a b k, Cx_s hC (hs.1 42 59 (by unfold iv_k; omega)) (fun b => hs.1 71 b (by unfold iv_k; omega)) hs.2.1⟩
def an_xt (ls : pt_L) (v1 v2 : Int32) : Int64 := if lt_k ls v1 = 1 ∧ ¬ v2 < 0 ∧ ¬ 1 < v2 then (match xE ls (lt_i ls v1) with | none => -9223372036854775808 | some q => if v2 = 0 then q.1 else q.2) else -9223372036854775808
theorem an_xt_n {ls : pt_L} {v1 v2 : Int32} (h : lt_k ls v1 = 1 ∧ ¬ v2 < 0 ∧ ¬ 1 < v2) (e : xE ls (lt_i ls v1) = none) : an_xt ls v1 v2 = -9223372036854775808 := by unfold an_xt; rw [if_pos h, e]
theorem an_xt_s {ls : pt_L} {v1 v2 : Int32} {q : Int64 × Int64} (h : lt_k ls v1 = 1 ∧ ¬ v2 < 0 ∧ ¬ 1 < v2) (e : xE ls (lt_i ls v1) = some q) : an_xt ls v1 v2 = if v2 = 0 then q.1 else q.2 := by unfold an_xt; rw [if_pos h, e]
theorem an_xt_o {ls : pt_L} {v1 v2 : Int32} (h : ¬ (lt_k ls v1 = 1 ∧ ¬ v2 < 0 ∧ ¬ 1 < v2)) : an_xt ls v1 v2 = -9223372036854775808 := by unfold an_xt; rw [if_neg h]
/-- what the reference keeps of a letter -/
theorem xw_at {ls : pt_L} {I : Nat → Nat → Int32} {L : Nat → Nat → Int64} (hwf : pt_wf ls) (h : xw ls (pt_nn ls) I L) {v : Int32} (hl : lt_k ls v = 1) : (xE ls (lt_i ls v) = none → I 71 v.toNatClampNeg = 0) ∧ (∀ q, xE ls (lt_i ls v) = some q → I 71 v.toNatClampNeg = 1 ∧ L 69 v.toNatClampNeg = q.1 ∧ L 70 v.toNatClampNeg = q.2) := by
  obtain ⟨_, _, _, _, b, T, q1, q2, q3⟩ := lt_x (ls := ls) (v := v) (by omega)
  have hb : b = false := by
    cases b with
    | false => rfl
    | true => rw [hl] at q3; exact absurd q3 (by decide)
  subst hb
  obtain ⟨k, hk, hx⟩ := lets_of q1 rfl
  rw [xE_at hwf q1, if_neg (show ¬ (false = true) by decide)]
  exact h k _ hk hx
section EXACT
variable {ext : Nat → List Value → am_M → Option am_R} {d : Nat} (D : Nat → Nat → UInt64) {ls : pt_L} {I : Nat → Nat → Int32} {L : Nat → Nat → Int64}
theorem c102 (xi xp xc : Nat) (hP : iv_P ls I) (hx : xl (xE ls) 18 L) (v1 v2 : Int32) : am_Rn ext 400 102 [.ref 0, .int v1, .int v2] (I, L, D, am_rf (2, 11, xi, xp, 2, xc)) (some (.long (an_xt ls v1 v2)), (I, L, D, am_rf (2, 11, xi, xp, 2, xc))) := by
  have h18 := hP.2.2.2.1
  have r1 := am_up (c111 (ext := ext) (d := 0) L D xi xp 2 xc hP.1 h18 v1) (show 2 ≤ 399 by omega)
  by_cases good : lt_k ls v1 = 1 ∧ ¬ v2 < 0 ∧ ¬ 1 < v2
  · obtain ⟨g1, g2, g3⟩ := good
    obtain ⟨_, _, _, _, b, T, q1, q2, q3⟩ := lt_x (ls := ls) (v := v1) (by omega)
    rw [if_pos g1] at r1
    have R21 := am_up (c21 (ext := ext) (d := 0) D (2, 11, xi, xp, 2, xc) (I := I) (L := L) (show lt_i ls v1 < 18 by omega)) (show 1 ≤ 399 by omega)
    have R22 := am_up (c22 (ext := ext) (d := 0) D (2, 11, xi, xp, 2, xc) (I := I) (L := L) (show lt_i ls v1 < 18 by omega)) (show 2 ≤ 399 by omega)
    have R23 := am_up (c23 (ext := ext) (d := 0) D (2, 11, xi, xp, 2, xc) (I := I) (L := L) (show lt_i ls v1 < 18 by omega)) (show 2 ≤ 399 by omega)
    obtain ⟨y0, y1⟩ := hx (lt_i ls v1) (by omega)
    cases hq : xE ls (lt_i ls v1) with
    | none =>
      rw [an_xt_n ⟨g1, g2, g3⟩ hq]
      rw [if_pos (y0 hq)] at R21
      exact am_rn_of (d := 399) mh_102 rfl (w102_0 I L D _ v1 v2 ⟨_, I, L, D, r1, fun z => absurd z (ni_nn (by omega)), fun _ => ⟨fun z => absurd z g2, fun _ => ⟨fun z => absurd z g3, fun _ => ⟨_, I, L, D, R21, fun z => absurd rfl z, fun _ => rfl⟩⟩⟩⟩)
    | some q =>
      obtain ⟨e1, e2, e3⟩ := y1 q hq
      have n0 : ¬ L 31 (lt_i ls v1) = 0 := by rw [e2]; exact e3
      rw [an_xt_s ⟨g1, g2, g3⟩ hq]
      rw [if_neg n0] at R21 R22 R23
      rw [e1] at R22
      rw [e2] at R23
      exact am_rn_of (d := 399) mh_102 rfl (w102_0 I L D _ v1 v2 ⟨_, I, L, D, r1, fun z => absurd z (ni_nn (by omega)), fun _ => ⟨fun z => absurd z g2, fun _ => ⟨fun z => absurd z g3, fun _ => ⟨_, I, L, D, R21, fun _ => ⟨fun z => ⟨_, I, L, D, R23, by rw [if_neg z]⟩, fun z => ⟨_, I, L, D, R22, by rw [if_pos z]⟩⟩, fun z => absurd z (by decide)⟩⟩⟩⟩)
  · rw [an_xt_o good]
    refine am_rn_of (d := 399) mh_102 rfl (w102_0 I L D _ v1 v2 ⟨_, I, L, D, r1, fun _ => rfl, fun z1 => ⟨fun _ => rfl, fun z2 => ⟨fun _ => rfl, fun z3 => absurd ⟨?_, z2, z3⟩ good⟩⟩⟩)
    by_cases q : lt_k ls v1 = 1
    · exact q
    · rw [if_neg q] at z1; exact absurd (by decide) z1
theorem c181 (X : am_Rf) (hP : iv_P ls I) (hC : Cx ls I L) (v1 v2 : Int32) : ∃ I' L', am_Rn ext 400 181 [.ref 42, .int v1, .int v2] (I, L, D, am_rf X) (some (.long (an_xt ls v1 v2)), (I', L', D, am_rf X)) ∧ fx ls I I' L' := by
  have s2 : iv_s I L D (am_uI I 42 2 0) L D := iv_s_I (iv_2 I 0) (fun _ _ _ => rfl)
  have hP2 := iv_P_s hP s2.1
  have hC2 := (fx_s hC s2).2
  have r1 := am_up (c148 (ext := ext) (d := 0) (I := am_uI I 42 2 0) L D X hP2.2.1 v1) (show 2 ≤ 399 by omega)
  have r2 := am_up (c117 (ext := ext) (d := 0) (L := L) (I := am_uI I 42 2 0) D X v2 0 1) (show 1 ≤ 399 by omega)
  by_cases good : lt_k ls v1 = 1 ∧ ¬ v2 < 0 ∧ ¬ 1 < v2
  · obtain ⟨g1, g2, g3⟩ := good
    obtain ⟨I1, L1, r3, f1, f2, f3⟩ := c180 (ext := ext) (d := 395) D X hP2 hC2
    obtain ⟨p1, p2, _⟩ := lt_x (ls := ls) (v := v1) (by omega)
    have hb := ni_inb (n := 26) p1 (by omega)
    rw [← p2] at hb
    obtain ⟨y0, y1⟩ := xw_at hP.2.2.1 f3 g1
    refine ⟨I1, L1, am_rn_of (d := 399) mh_181 rfl (w181_0 I L D X v1 v2 ⟨_, _, L, D, r1, fun z => ?_, fun _ => ⟨_, _, L, D, r2, fun _ => ⟨I1, L1, D, r3, hb, fun z => ?_, fun z => ?_⟩, fun z => ?_⟩⟩), fx_of s2 hC2 f1 f2 f3⟩
    · rw [if_pos g1] at z; exact absurd z (by decide)
    · cases hq : xE ls (lt_i ls v1) with
      | none => exact absurd (y0 hq) z
      | some q =>
        obtain ⟨_, e2, e3⟩ := y1 q hq
        rw [an_xt_s ⟨g1, g2, g3⟩ hq, e2, e3]
        exact ⟨fun y => ⟨hb, by rw [if_neg y]⟩, fun y => ⟨hb, by rw [if_pos y]⟩⟩
    · cases hq : xE ls (lt_i ls v1) with
      | none => rw [an_xt_n ⟨g1, g2, g3⟩ hq]
      | some q => rw [(y1 q hq).1] at z; exact absurd z (by decide)
    · rcases in_0 z with q | q
      · exact absurd q g2
      · exact absurd q g3
  · rw [an_xt_o good]
    refine ⟨_, L, am_rn_of (d := 399) mh_181 rfl (w181_0 I L D X v1 v2 ⟨_, _, L, D, r1, fun _ => rfl, fun z1 => ⟨_, _, L, D, r2, fun z2 => absurd ⟨?_, (in_1 z2).1, (in_1 z2).2⟩ good, fun _ => rfl⟩⟩), fx_s hC s2⟩
    by_cases q : lt_k ls v1 = 1
    · exact q
    · rw [if_neg q] at z1; exact absurd rfl z1
theorem ow_8 {Cd : iv_Cd} (hd : okd Cd) : lw_t8 ext (iv (Cc2 Cd)) := by
  intro v1 v2 m hm
  obtain ⟨I, L, D, xi, xp, xc, ls, rfl, hT, hP, hc⟩ := hm
  obtain ⟨I2, L2, r2, f⟩ := c181 (ext := ext) (L := L) D (2, 11, xi, xp, 2, xc) hP hc.1 v1 v2
  exact ⟨_, _, _, c102 (ext := ext) (L := L) D xi xp xc hP hc.1.1 v1 v2, r2, Or.inl (fx_go hd hT hP hc.2 f)⟩
end EXACT
/-! compare -/
def cp_w (o p : Option (Int64 × Int64)) (w : Nat) : Int32 := match o, p with
  | some a, some b => if b.1 ≤ a.2 then (if a.1 ≤ b.2 then 0 else -nI w) else nI w
  | _, _ => 0
def cp_r (ls : pt_L) (i j : Nat) : Nat → Nat → Int32
  | 0, _ => 0
  | k + 1, w => if cp_w (aq_o w ls i 0 0) (aq_o w ls j 0 0) w = 0 then cp_r ls i j k (w + 4) else cp_w (aq_o w ls i 0 0) (aq_o w ls j 0 0) w
def cp_e (ls : pt_L) (i j : Nat) : Bool := match xE ls i, xE ls j with
  | some p, some q => p.1 == q.1 && p.2 == q.2
  | _, _ => false
def cp_s (ls : pt_L) (i j : Nat) : Int32 := if cp_e ls i j = true then 0 else if i = j ∧ ¬ aq_o 20 ls i 0 0 = none then 0 else 1
def cp_f (ls : pt_L) (i j k w : Nat) : Int32 := if cp_r ls i j k w = 0 then cp_s ls i j else cp_r ls i j k w
theorem cp_f_0 {ls : pt_L} {i j k w : Nat} (h : cp_w (aq_o w ls i 0 0) (aq_o w ls j 0 0) w = 0) : cp_f ls i j (k + 1) w = cp_f ls i j k (w + 4) := by
  have : cp_r ls i j (k + 1) w = cp_r ls i j k (w + 4) := by rw [cp_r, if_pos h]
  unfold cp_f; rw [this]
theorem cp_f_1 {ls : pt_L} {i j k w : Nat} (h : ¬ cp_w (aq_o w ls i 0 0) (aq_o w ls j 0 0) w = 0) : cp_f ls i j (k + 1) w = cp_w (aq_o w ls i 0 0) (aq_o w ls j 0 0) w := by
  have : cp_r ls i j (k + 1) w = cp_w (aq_o w ls i 0 0) (aq_o w ls j 0 0) w := by rw [cp_r, if_neg h]
  unfold cp_f; rw [this, if_neg h]
theorem cp_w_ii {ls : pt_L} (hwf : pt_wf ls) {i w : Nat} (hw : w ≤ 20) : cp_w (aq_o w ls i 0 0) (aq_o w ls i 0 0) w = 0 := by
  cases ho : aq_o w ls i 0 0 with
  | none => rfl
  | some a =>
    have g := (aq_gd hw hwf i (gd2_0 w) a ho).1
    show (if a.1 ≤ a.2 then (if a.1 ≤ a.2 then (0 : Int32) else -nI w) else nI w) = 0
    have : a.1 ≤ a.2 := by rw [Int64.le_iff_toInt_le]; exact g
    rw [if_pos this, if_pos this]
def an_cp (ls : pt_L) (v1 v2 : Int32) : Int32 := if lt_k ls v1 = 1 ∧ lt_k ls v2 = 1 then cp_f ls (lt_i ls v1) (lt_i ls v2) 5 4 else -2147483648
section COMPARE
variable {ext : Nat → List Value → am_M → Option am_R} {d : Nat} (D : Nat → Nat → UInt64) {ls : pt_L}
theorem c104 (xi xp xc : Nat) {I : Nat → Nat → Int32} {L : Nat → Nat → Int64} (hP : iv_P ls I) {i j w : Nat} (hi : i < ls.length) (hj : j < ls.length) (hw : w ≤ 20) : ∃ I' L' xp', am_Rn ext 399 104 [.ref 0, .int (nI i), .int (nI j), .int (nI w)] (I, L, D, am_rf (2, 11, xi, xp, 2, xc)) (some (.int (cp_w (aq_o w ls i 0 0) (aq_o w ls j 0 0) w)), (I', L', D, am_rf (2, 11, xi, xp', 2, xc))) ∧ iv_s I L D I' L' D := by
  have h18 := hP.2.2.2.1
  by_cases hij : i = j
  · subst hij
    rw [cp_w_ii hP.2.2.1 hw]
    exact ⟨I, L, xp, am_rn_of (d := 398) mh_104 rfl (w104_0 I L D xc xi xp 11 2 2 _ _ _ ⟨fun _ => rfl, fun z => absurd rfl z⟩), iv_s_0 I L D⟩
  · have hne : ¬ nI i = nI j := fun z => hij ((ni_eq (by omega) (by omega)).mp z)
    obtain ⟨I1, L1, r1, K1⟩ := c60 (ext := ext) (L := L) D 2 11 xi xp 2 xc hw hP.2.2.1 h18 hP.2.2.2.2.1 hi (gd2_0 w) hP.1
    have s1 := rk_iv (D := D) K1
    have hP1 := iv_P_s hP s1.1
    obtain ⟨I2, L2, r2, K2⟩ := c60 (ext := ext) (L := L1) D 2 11 xi 2 2 xc hw hP.2.2.1 h18 hP.2.2.2.2.1 hj (gd2_0 w) hP1.1
    have s2 := iv_s_t s1 (rk_iv (D := D) K2)
    cases ho : aq_o w ls i 0 0 with
    | none =>
      rw [ho, if_pos rfl] at r1
      exact ⟨I1, L1, 2, am_rn_of (d := 398) mh_104 rfl (w104_0 I L D xc xi xp 11 2 2 _ _ _ ⟨fun z => absurd z hne, fun _ => ⟨_, I1, L1, D, am_up r1 (by omega), fun z => absurd rfl z, fun _ => rfl⟩⟩), s1⟩
    | some a =>
      rw [ho, if_neg (by intro h; cases h)] at r1
      cases hp : aq_o w ls j 0 0 with
      | none =>
        rw [hp, if_pos rfl] at r2
        exact ⟨I2, L2, 2, am_rn_of (d := 398) mh_104 rfl (w104_0 I L D xc xi xp 11 2 2 _ _ _ ⟨fun z => absurd z hne, fun _ => ⟨_, I1, L1, D, am_up r1 (by omega), fun _ => ⟨_, I2, L2, D, am_up r2 (by omega), fun z => absurd rfl z, fun _ => rfl⟩, fun z => absurd z (by decide)⟩⟩), s2⟩
      | some b =>
        rw [hp, if_neg (by intro h; cases h)] at r2
        have l1 : L1 25 9 = a.1 := by rw [K1.2.1, ho]; rfl
        have l2 : L1 25 10 = a.2 := by rw [K1.2.2.1, ho]; rfl
        have l3 : L2 25 9 = b.1 := by rw [K2.2.1, hp]; rfl
        have l4 : L2 25 10 = b.2 := by rw [K2.2.2.1, hp]; rfl
        refine ⟨I2, L2, 2, am_rn_of (d := 398) mh_104 rfl (w104_0 I L D xc xi xp 11 2 2 _ _ _ ⟨fun z => absurd z hne, fun _ => ⟨_, I1, L1, D, am_up r1 (by omega), fun _ => ⟨_, I2, L2, D, am_up r2 (by omega), fun _ => ?_, fun z => absurd z (by decide)⟩, fun z => absurd z (by decide)⟩⟩), s2⟩
        rw [l1, l2, l3, l4]
        refine ⟨fun z => ⟨fun y => ?_, fun y => ?_⟩, fun z => ?_⟩
        · show _ = (some (Value.int (if b.1 ≤ a.2 then (if a.1 ≤ b.2 then (0 : Int32) else -nI w) else nI w)), _)
          rw [if_pos z, if_pos y]
        · show _ = (some (Value.int (if b.1 ≤ a.2 then (if a.1 ≤ b.2 then (0 : Int32) else -nI w) else nI w)), _)
          rw [if_pos z, if_neg y]
        · show _ = (some (Value.int (if b.1 ≤ a.2 then (if a.1 ≤ b.2 then (0 : Int32) else -nI w) else nI w)), _)
          rw [if_neg z]
theorem c24 (X : am_Rf) {I : Nat → Nat → Int32} {L : Nat → Nat → Int64} (hx : xl (xE ls) 18 L) {i j : Nat} (hi : i < 18) (hj : j < 18) : am_Rn ext (d + 2) 24 [.ref 29, .int (nI i), .int (nI j)] (I, L, D, am_rf X) (some (.int (if cp_e ls i j = true then 1 else 0)), (I, L, D, am_rf X)) := by
  have R1 := c21 (ext := ext) (d := d) D X (I := I) (L := L) hi
  have R2 := c21 (ext := ext) (d := d) D X (I := I) (L := L) hj
  obtain ⟨y0, y1⟩ := hx i hi
  obtain ⟨z0, z1⟩ := hx j hj
  have b1 : am_inb (nI i) 18 = true := ni_inb hi (by omega)
  have b2 : am_inb (nI j) 18 = true := ni_inb hj (by omega)
  cases hp : xE ls i with
  | none =>
    have e : cp_e ls i j = false := by unfold cp_e; rw [hp]
    rw [if_pos (y0 hp)] at R1
    rw [e]
    exact am_rn_of mh_24 rfl (w24_0 I L D X _ _ ⟨_, I, L, D, R1, fun _ => rfl, fun z => absurd rfl z⟩)
  | some p =>
    obtain ⟨p1, p2, p3⟩ := y1 p hp
    rw [if_neg (by rw [p2]; exact p3)] at R1
    cases hq : xE ls j with
    | none =>
      have e : cp_e ls i j = false := by unfold cp_e; rw [hp, hq]
      rw [if_pos (z0 hq)] at R2
      rw [e]
      exact am_rn_of mh_24 rfl (w24_0 I L D X _ _ ⟨_, I, L, D, R1, fun z => absurd z (by decide), fun _ => ⟨_, I, L, D, R2, fun _ => rfl, fun z => absurd rfl z⟩⟩)
    | some q =>
      obtain ⟨q1, q2, q3⟩ := z1 q hq
      rw [if_neg (by rw [q2]; exact q3)] at R2
      have e : cp_e ls i j = (p.1 == q.1 && p.2 == q.2) := by unfold cp_e; rw [hp, hq]
      rw [e]
      refine am_rn_of mh_24 rfl (w24_0 I L D X _ _ ⟨_, I, L, D, R1, fun z => absurd z (by decide), fun _ => ⟨_, I, L, D, R2, fun z => absurd z (by decide), fun _ => ⟨b1, b2, ?_⟩⟩⟩)
      rw [ni_nat (by omega), ni_nat (by omega), p1, p2, q1, q2]
      refine ⟨fun z => ?_, fun z => ⟨b1, b2, fun y => ?_, fun y => ?_⟩⟩
      · rw [if_neg (by simp [z])]
      · rw [if_neg (by simp [y])]
      · rw [if_pos (by simp [z, y])]
theorem c103 (xi xp xc : Nat) {I0 : Nat → Nat → Int32} {L0 : Nat → Nat → Int64} (hP0 : iv_P ls I0) (hx0 : xl (xE ls) 18 L0) (v1 v2 : Int32) : ∃ I' L' xp', am_Rn ext 400 103 [.ref 0, .int v1, .int v2] (I0, L0, D, am_rf (2, 11, xi, xp, 2, xc)) (some (.int (an_cp ls v1 v2)), (I', L', D, am_rf (2, 11, xi, xp', 2, xc))) ∧ iv_s I0 L0 D I' L' D := by
  have h18 := hP0.2.2.2.1
  have r1 := am_up (c111 (ext := ext) (d := 0) L0 D xi xp 2 xc hP0.1 h18 v1) (show 2 ≤ 399 by omega)
  have r2 := am_up (c111 (ext := ext) (d := 0) L0 D xi xp 2 xc hP0.1 h18 v2) (show 2 ≤ 399 by omega)
  by_cases good : lt_k ls v1 = 1 ∧ lt_k ls v2 = 1
  · have ea : an_cp ls v1 v2 = cp_f ls (lt_i ls v1) (lt_i ls v2) 5 4 := by unfold an_cp; rw [if_pos good]
    obtain ⟨_, _, _, _, _, _, _, hi, _⟩ := lt_x (ls := ls) (v := v1) (by omega)
    obtain ⟨_, _, _, _, _, _, _, hj, _⟩ := lt_x (ls := ls) (v := v2) (by omega)
    rw [if_pos good.1] at r1
    rw [if_pos good.2] at r2
    rw [ea]
    generalize lt_i ls v1 = i at *
    generalize lt_i ls v2 = j at *
    have key : ∀ (k w : Nat) (I : Nat → Nat → Int32) (L : Nat → Nat → Int64) (xp : Nat), w + 4 * k = 24 → iv_s I0 L0 D I L D → am_wp ext 399 mz_103 (28, [some (.ref 0), none, none, some (.int (nI i)), some (.int (nI j)), some (.int (nI w)), none], [], (I, L, D, am_rf (2, 11, xi, xp, 2, xc))) (fun r => ∃ I' L' xp', r = (some (.int (cp_f ls i j k w)), (I', L', D, am_rf (2, 11, xi, xp', 2, xc))) ∧ iv_s I0 L0 D I' L' D) := by
      intro k
      induction k with
      | zero =>
        intro w I L xp hw hs
        have e : w = 24 := by omega
        subst e
        have hP := iv_P_s hP0 hs.1
        have hx : xl (xE ls) 18 L := fun t ht => by rw [hs.2.1 30 t (by omega), hs.2.1 31 t (by omega)]; exact hx0 t ht
        have r24 := am_up (c24 (ext := ext) (d := 0) D (2, 11, xi, xp, 2, xc) (I := I) hx (show i < 18 by omega) (show j < 18 by omega)) (show 2 ≤ 399 by omega)
        have ef : cp_f ls i j 0 24 = cp_s ls i j := rfl
        rw [ef]
        refine w103_28 I L D xc xi xp 11 2 2 _ _ _ ⟨fun _ => ⟨_, I, L, D, r24, fun z => ?_, fun z => ?_⟩, fun z => absurd (by decide) z⟩
        · have he : ¬ cp_e ls i j = true := fun q => by rw [if_pos q] at z; exact absurd z (by decide)
          refine ⟨fun y => ⟨fun _ => ?_, fun q => absurd rfl q⟩, fun y => ?_⟩
          · have hne : ¬ i = j := fun q => y (by rw [q])
            refine ⟨I, L, xp, ?_, hs⟩
            unfold cp_s; rw [if_neg he, if_neg (fun q => hne q.1)]
          · have hij : i = j := (ni_eq (by omega) (by omega)).mp y
            obtain ⟨I1, L1, r3, K⟩ := c60 (ext := ext) (L := L) D 2 11 xi xp 2 xc (w := 20) (by omega) hP.2.2.1 h18 hP.2.2.2.2.1 hi (gd2_0 20) hP.1
            have hs1 := iv_s_t hs (rk_iv (D := D) K)
            refine ⟨_, I1, L1, D, am_up r3 (by omega), fun x => ⟨fun _ => ⟨I1, L1, 2, ?_, hs1⟩, fun q => absurd rfl q⟩, fun x => ⟨fun q => absurd q (by decide), fun _ => ⟨I1, L1, 2, ?_, hs1⟩⟩⟩
            · have ho : aq_o 20 ls i 0 0 = none := by
                by_cases q : aq_o 20 ls i 0 0 = none
                · exact q
                · rw [if_neg q] at x; exact absurd x (by decide)
              unfold cp_s; rw [if_neg he, if_neg (fun q => q.2 ho)]
            · have ho : ¬ aq_o 20 ls i 0 0 = none := fun q => x (by rw [if_pos q])
              unfold cp_s; rw [if_neg he, if_pos ⟨hij, ho⟩]
        · have he : cp_e ls i j = true := by
            cases h : cp_e ls i j with
            | true => rfl
            | false => rw [h] at z; exact absurd rfl z
          refine ⟨I, L, xp, ?_, hs⟩
          unfold cp_s; rw [if_pos he]
      | succ k ih =>
        intro w I L xp hw hs
        have n20 : ¬ (20 : Int32) < nI w := fun z => by have := (ni_lt (a := 20) (by omega) (by omega)).mp z; omega
        have e4 : nI w + 4 = nI (w + 4) := by rw [show (4 : Int32) = nI 4 from rfl, ni_add (by omega)]
        have hP := iv_P_s hP0 hs.1
        obtain ⟨I1, L1, xp1, r3, s1⟩ := c104 (ext := ext) (L := L) D xi xp xc hP hi hj (show w ≤ 20 by omega)
        have hs1 := iv_s_t hs s1
        refine w103_28 I L D xc xi xp 11 2 2 _ _ _ ⟨fun z => absurd z n20, fun _ => ⟨xp1, _, I1, L1, D, r3, fun z => ?_, fun z => ⟨I1, L1, xp1, by rw [cp_f_1 z], hs1⟩⟩⟩
        rw [e4, cp_f_0 z]
        exact ih (w + 4) I1 L1 xp1 (by omega) hs1
    obtain ⟨r, rr, I', L', xp', e, hs⟩ := am_of_wp (ext := ext) (d := 399) (as := [.ref 0, .int v1, .int v2]) mh_103 rfl (w103_0 I0 L0 D xc xi xp 11 2 2 v1 v2 ⟨_, I0, L0, D, r1, _, I0, L0, D, r2, fun z => absurd z (ni_nn (by omega)), fun _ => ⟨fun _ => key 5 4 I0 L0 xp rfl (iv_s_0 I0 L0 D), fun z => absurd (by rw [show (0 : Int32) = nI 0 from rfl, ni_le (by omega) (by omega)]; omega) z⟩⟩)
    rw [e] at rr
    exact ⟨I', L', xp', rr, hs⟩
  · have ea : an_cp ls v1 v2 = -2147483648 := by unfold an_cp; rw [if_neg good]
    rw [ea]
    refine ⟨I0, L0, xp, am_rn_of (d := 399) mh_103 rfl (w103_0 I0 L0 D xc xi xp 11 2 2 v1 v2 ⟨_, I0, L0, D, r1, _, I0, L0, D, r2, fun _ => rfl, fun z1 => ⟨fun z2 => absurd ⟨?_, ?_⟩ good, fun _ => rfl⟩⟩), iv_s_0 I0 L0 D⟩
    · by_cases q : lt_k ls v1 = 1
      · exact q
      · rw [if_neg q] at z1; exact absurd (by decide) z1
    · by_cases q : lt_k ls v2 = 1
      · exact q
      · rw [if_neg q] at z2; exact absurd z2 (by decide)
theorem c182 (X : am_Rf) {I0 : Nat → Nat → Int32} {L0 : Nat → Nat → Int64} (hP0 : iv_P ls I0) (hC0 : Cx ls I0 L0) (v1 v2 : Int32) : ∃ I' L', am_Rn ext 400 182 [.ref 42, .int v1, .int v2] (I0, L0, D, am_rf X) (some (.int (an_cp ls v1 v2)), (I', L', D, am_rf X)) ∧ fx ls I0 I' L' := by
  have s2 : iv_s I0 L0 D (am_uI I0 42 2 0) L0 D := iv_s_I (iv_2 I0 0) (fun _ _ _ => rfl)
  have hP2 := iv_P_s hP0 s2.1
  have r1 := am_up (c148 (ext := ext) (d := 0) (I := am_uI I0 42 2 0) L0 D X hP2.2.1 v1) (show 2 ≤ 399 by omega)
  have r2 := am_up (c148 (ext := ext) (d := 0) (I := am_uI I0 42 2 0) L0 D X hP2.2.1 v2) (show 2 ≤ 399 by omega)
  by_cases good : lt_k ls v1 = 1 ∧ lt_k ls v2 = 1
  · have ea : an_cp ls v1 v2 = cp_f ls (lt_i ls v1) (lt_i ls v2) 5 4 := by unfold an_cp; rw [if_pos good]
    obtain ⟨p1, p2, _, _, _, T1, t1, hi, _⟩ := lt_x (ls := ls) (v := v1) (by omega)
    obtain ⟨p3, p4, _, _, _, T2, t2, hj, _⟩ := lt_x (ls := ls) (v := v2) (by omega)
    have veq : v1 = v2 ↔ lt_i ls v1 = lt_i ls v2 := ⟨fun h => by rw [h], fun h => by
      rw [h, t2] at t1
      have : v2.toNatClampNeg = v1.toNatClampNeg := by injection t1 with t1; injection t1
      rw [p2, p4, this]⟩
    have hb1 := ni_inb (n := 26) p1 (by omega)
    rw [← p2] at hb1
    have hb2 := ni_inb (n := 26) p3 (by omega)
    rw [← p4] at hb2
    rw [ea]
    have key : ∀ (k w : Nat) (I : Nat → Nat → Int32) (L : Nat → Nat → Int64) (v3 : Int32), w + 4 * k = 24 → 4 ≤ w → (k = 0 → (v3 = 0 ↔ aq_o 20 ls (lt_i ls v1) 0 0 = none)) → iv_s I0 L0 D I L D → am_wp ext 399 mz_182 (30, [some (.ref 42), some (.int v1), some (.int v2), some (.int v3), some (.int (nI w)), none, none, none, none, none], [], (I, L, D, am_rf X)) (fun r => ∃ I' L', r = (some (.int (cp_f ls (lt_i ls v1) (lt_i ls v2) k w)), (I', L', D, am_rf X)) ∧ fx ls I0 I' L') := by
      intro k
      induction k with
      | zero =>
        intro w I L v3 hw h4 h3 hs
        have e : w = 24 := by omega
        subst e
        have hP := iv_P_s hP0 hs.1
        have hC := (fx_s hC0 hs).2
        obtain ⟨I1, L1, r3, f1, f2, f3⟩ := c180 (ext := ext) (d := 395) D X hP hC
        obtain ⟨y0, y1⟩ := xw_at hP.2.2.1 f3 good.1
        obtain ⟨z0, z1⟩ := xw_at hP.2.2.1 f3 good.2
        have F := fx_of hs hC f1 f2 f3
        have ef : cp_f ls (lt_i ls v1) (lt_i ls v2) 0 24 = cp_s ls (lt_i ls v1) (lt_i ls v2) := rfl
        rw [ef]
        have g3 := h3 rfl
        -- not the same by fractions
        have no : cp_e ls (lt_i ls v1) (lt_i ls v2) = false → ((¬ (0 : Int32) = 0 → (fun r : am_R => ∃ I' L', r = (some (.int (cp_s ls (lt_i ls v1) (lt_i ls v2))), (I', L', D, am_rf X)) ∧ fx ls I0 I' L') (some (.int 0), (I1, L1, D, am_rf X))) ∧ ((0 : Int32) = 0 → ((¬ v1 = v2 → (fun r : am_R => ∃ I' L', r = (some (.int (cp_s ls (lt_i ls v1) (lt_i ls v2))), (I', L', D, am_rf X)) ∧ fx ls I0 I' L') (some (.int 1), (I1, L1, D, am_rf X))) ∧ (v1 = v2 → ((v3 = 0 → (fun r : am_R => ∃ I' L', r = (some (.int (cp_s ls (lt_i ls v1) (lt_i ls v2))), (I', L', D, am_rf X)) ∧ fx ls I0 I' L') (some (.int 1), (I1, L1, D, am_rf X))) ∧ (¬ v3 = 0 → (fun r : am_R => ∃ I' L', r = (some (.int (cp_s ls (lt_i ls v1) (lt_i ls v2))), (I', L', D, am_rf X)) ∧ fx ls I0 I' L') (some (.int 0), (I1, L1, D, am_rf X)))))))) := by
          intro he
          refine ⟨fun q => absurd rfl q, fun _ => ⟨fun y => ⟨I1, L1, ?_, F⟩, fun y => ⟨fun x => ⟨I1, L1, ?_, F⟩, fun x => ⟨I1, L1, ?_, F⟩⟩⟩⟩
          · unfold cp_s; rw [he, if_neg (by decide), if_neg (fun q => y (veq.mpr q.1))]
          · unfold cp_s; rw [he, if_neg (by decide), if_neg (fun q => q.2 (g3.mp x))]
          · unfold cp_s; rw [he, if_neg (by decide), if_pos ⟨veq.mp y, fun q => x (g3.mpr q)⟩]
        refine w182_30 I L D X v1 v2 v3 _ ⟨fun _ => ⟨I1, L1, D, r3, hb1, ?_⟩, fun z => absurd (by decide) z⟩
        cases hp : xE ls (lt_i ls v1) with
        | none => exact ⟨fun _ => no (by unfold cp_e; rw [hp]), fun z => absurd (y0 hp) z⟩
        | some p =>
          obtain ⟨a0, a1, a2⟩ := y1 p hp
          refine ⟨fun z => (by rw [a0] at z; exact absurd z (by decide)), fun _ => ⟨hb2, ?_⟩⟩
          cases hq : xE ls (lt_i ls v2) with
          | none => exact ⟨fun _ => no (by unfold cp_e; rw [hp, hq]), fun z => absurd (z0 hq) z⟩
          | some q =>
            obtain ⟨b0, b1, b2⟩ := z1 q hq
            have he : cp_e ls (lt_i ls v1) (lt_i ls v2) = (p.1 == q.1 && p.2 == q.2) := by unfold cp_e; rw [hp, hq]
            refine ⟨fun z => (by rw [b0] at z; exact absurd z (by decide)), fun _ => ⟨hb1, hb2, ?_⟩⟩
            rw [a1, b1]
            refine ⟨fun z => no (by rw [he]; simp [z]), fun z => ⟨hb1, hb2, ?_⟩⟩
            rw [a2, b2]
            refine ⟨fun y => no (by rw [he]; simp [y]), fun y => ⟨fun _ => ⟨I1, L1, ?_, F⟩, fun x => absurd x (by decide)⟩⟩
            unfold cp_s; rw [he, if_pos (by simp [z, y])]
      | succ k ih =>
        intro w I L v3 hw h4 h3 hs
        have n20 : ¬ (20 : Int32) < nI w := fun z => by have := (ni_lt (a := 20) (by omega) (by omega)).mp z; omega
        have e4 : nI w + 4 = nI (w + 4) := by rw [show (4 : Int32) = nI 4 from rfl, ni_add (by omega)]
        have hP := iv_P_s hP0 hs.1
        obtain ⟨I1, L1, r3, K1⟩ := c170 (ext := ext) (d := 391) (L := L) D X hP (show w ≤ 20 by omega) good.1
        have hs1 := iv_s_t hs (iv_s_t (iv_s_I (iv_48 I (nI w)) (fun _ _ _ => rfl)) (mk_iv (D := D) K1))
        have hP1 := iv_P_s hP0 hs1.1
        obtain ⟨I2, L2, r4, K2⟩ := c170 (ext := ext) (d := 391) (L := L1) D X hP1 (show w ≤ 20 by omega) good.2
        have hs2 := iv_s_t hs1 (iv_s_t (iv_s_I (iv_48 I1 (nI w)) (fun _ _ _ => rfl)) (mk_iv (D := D) K2))
        have h20 : ∀ v : Int32, (v = 0 ↔ aq_o w ls (lt_i ls v1) 0 0 = none) → (k = 0 → (v = 0 ↔ aq_o 20 ls (lt_i ls v1) 0 0 = none)) := fun v hv h0 => by
          have : w = 20 := by omega
          rw [this] at hv; exact hv
        have m1 := K1.2.1
        have m2 := K2.2.1
        refine w182_30 I L D X v1 v2 v3 _ ⟨fun z => absurd z n20, fun _ => ⟨I1, L1, D, r3, I2, L2, D, r4, ?_⟩⟩
        rw [e4]
        cases ho : aq_o w ls (lt_i ls v1) 0 0 with
        | none =>
          rw [ho] at m1 h20
          have i50 := me_v0 m1
          rw [i50]
          refine ⟨fun _ => ?_, fun z => absurd rfl z⟩
          rw [cp_f_0 (by rw [ho]; rfl)]
          exact ih (w + 4) I2 L2 0 (by omega) (by omega) (h20 0 ⟨fun _ => rfl, fun _ => rfl⟩) hs2
        | some a =>
          rw [ho] at m1 h20
          obtain ⟨i50, l51, l52⟩ := me_v1 m1
          rw [i50, l51, l52]
          have h20' := h20 1 ⟨fun z => absurd z (by decide), fun z => by cases z⟩
          refine ⟨fun z => absurd z (by decide), fun _ => ?_⟩
          cases hp : aq_o w ls (lt_i ls v2) 0 0 with
          | none =>
            rw [hp] at m2
            rw [me_v0 m2]
            refine ⟨fun z => absurd rfl z, fun _ => ?_⟩
            rw [cp_f_0 (by rw [ho, hp]; rfl)]
            exact ih (w + 4) I2 L2 1 (by omega) (by omega) h20' hs2
          | some b =>
            rw [hp] at m2
            obtain ⟨j50, k51, k52⟩ := me_v1 m2
            rw [j50, k51, k52]
            have ew : cp_w (aq_o w ls (lt_i ls v1) 0 0) (aq_o w ls (lt_i ls v2) 0 0) w = if b.1 ≤ a.2 then (if a.1 ≤ b.2 then 0 else -nI w) else nI w := by rw [ho, hp]; rfl
            have w0 : ¬ nI w = 0 := fun q => by have := (ni_eq (b := 0) (by omega) (by omega)).mp q; omega
            have w1 : ¬ -nI w = 0 := fun q => w0 (by
              have := congrArg (fun x => -x) q
              simpa using this)
            refine ⟨fun _ => ⟨fun z => ⟨fun y => ?_, fun y => ⟨I2, L2, ?_, fx_s hC0 hs2⟩⟩, fun z => ⟨I2, L2, ?_, fx_s hC0 hs2⟩⟩, fun z => absurd z (by decide)⟩
            · rw [cp_f_0 (by rw [ew, if_pos z, if_pos y])]
              exact ih (w + 4) I2 L2 1 (by omega) (by omega) h20' hs2
            · rw [cp_f_1 (by rw [ew, if_pos z, if_neg y]; exact w1), ew, if_pos z, if_neg y]
            · rw [cp_f_1 (by rw [ew, if_neg z]; exact w0), ew, if_neg z]
    obtain ⟨r, rr, I', L', e, hs⟩ := am_of_wp (ext := ext) (d := 399) (as := [.ref 42, .int v1, .int v2]) mh_182 rfl (w182_0 I0 L0 D X v1 v2 ⟨_, _, L0, D, r1, fun z => (by rw [if_pos good.1] at z; exact absurd z (by decide)), fun _ => ⟨_, _, L0, D, r2, fun _ => key 5 4 _ L0 0 rfl (by omega) (fun z => absurd z (by decide)) s2, fun z => (by rw [if_pos good.2] at z; exact absurd z (by decide))⟩⟩)
    rw [e] at rr
    exact ⟨I', L', rr, hs⟩
  · have ea : an_cp ls v1 v2 = -2147483648 := by unfold an_cp; rw [if_neg good]
    rw [ea]
    refine ⟨_, L0, am_rn_of (d := 399) mh_182 rfl (w182_0 I0 L0 D X v1 v2 ⟨_, _, L0, D, r1, fun _ => rfl, fun z1 => ⟨_, _, L0, D, r2, fun z2 => absurd ⟨?_, ?_⟩ good, fun _ => rfl⟩⟩), fx_s hC0 s2⟩
    · by_cases q : lt_k ls v1 = 1
      · exact q
      · rw [if_neg q] at z1; exact absurd rfl z1
    · by_cases q : lt_k ls v2 = 1
      · exact q
      · rw [if_neg q] at z2; exact absurd rfl z2
theorem ow_9 {Cd : iv_Cd} (hd : okd Cd) : lw_t9 ext (iv (Cc2 Cd)) := by
  intro v1 v2 m hm
  obtain ⟨I, L, D, xi, xp, xc, ls, rfl, hT, hP, hc⟩ := hm
  obtain ⟨I1, L1, xp', r1, s1⟩ := c103 (ext := ext) D xi xp xc hP hc.1.1 v1 v2
  have hP1 := iv_P_s hP s1.1
  have hc1 := ok2 hd ls I L D I1 L1 D hP hc s1
  obtain ⟨I2, L2, r2, f⟩ := c182 (ext := ext) D (2, 11, xi, xp', 2, xc) hP1 hc1.1 v1 v2
  exact ⟨_, _, _, r1, r2, Or.inl (fx_go hd (iv_T_s hT s1.1) hP1 hc1.2 f)⟩
end COMPARE
