/-! ===== ask, digits ===== -/
def as_th (w p : Nat) : Int64 := 1 <<< ((Int32.toInt64 (nI w - nI p)) &&& 63)
def as_r (ls : pt_L) (i p : Nat) : Nat → Nat → Option (Int64 × Int64) → Option Nat × Option (Int64 × Int64)
  | 0, _, la => (none, la)
  | k + 1, w, la => if w < p then as_r ls i p k (w + 4) la else match aq_o w ls i 0 0 with
    | none => as_r ls i p k (w + 4) la
    | some q => if as_th w p < q.2 - q.1 then as_r ls i p k (w + 4) (some q) else (some w, some q)
theorem as_r_n {ls : pt_L} {i p k w : Nat} {la : Option (Int64 × Int64)} (h : ¬ w < p) (ho : aq_o w ls i 0 0 = none) : as_r ls i p (k + 1) w la = as_r ls i p k (w + 4) la := by rw [as_r, if_neg h, ho]
theorem as_r_s {ls : pt_L} {i p k w : Nat} {la : Option (Int64 × Int64)} {q : Int64 × Int64} (h : ¬ w < p) (ho : aq_o w ls i 0 0 = some q) : as_r ls i p (k + 1) w la = if as_th w p < q.2 - q.1 then as_r ls i p k (w + 4) (some q) else (some w, some q) := by rw [as_r, if_neg h, ho]
theorem as_r_k {ls : pt_L} {i p k w : Nat} {la : Option (Int64 × Int64)} (h : w < p) : as_r ls i p (k + 1) w la = as_r ls i p k (w + 4) la := by rw [as_r, if_pos h]
def as_a (what : Int32) (r : Option Nat × Option (Int64 × Int64)) : Int64 := if what = 0 then (match r.1 with | none => -1 | some w => Int32.toInt64 (nI w)) else (match r.2 with | none => -9223372036854775808 | some q => if what = 1 then q.1 else q.2)
def an_as (ls : pt_L) (v1 v2 v3 : Int32) : Int64 := if lt_k ls v1 = 1 ∧ ¬ v2 < 0 ∧ ¬ 16 < v2 ∧ ¬ v3 < 0 ∧ ¬ 2 < v3 then as_a v3 (as_r ls (lt_i ls v1) v2.toNatClampNeg 5 4 none) else -9223372036854775808
theorem p_i {v : Int32} (h1 : ¬ v < 0) (h2 : ¬ 16 < v) : v.toNatClampNeg ≤ 16 ∧ v = nI v.toNatClampNeg := by
  have z : (0 : Int32).toInt = 0 := rfl
  have t : (16 : Int32).toInt = 16 := rfl
  rw [Int32.lt_iff_toInt_lt, z] at h1
  rw [Int32.lt_iff_toInt_lt, t] at h2
  have e : v.toNatClampNeg = v.toInt.toNat := rfl
  refine ⟨by omega, ?_⟩
  rw [← Int32.toInt_inj, nI_toInt (by omega)]
  omega
theorem iv_s_0 (I : Nat → Nat → Int32) (L : Nat → Nat → Int64) (D : Nat → Nat → UInt64) : iv_s I L D I L D := iv_s_I (fun _ _ _ => rfl) (fun _ _ _ => rfl)
section ASK
variable {ext : Nat → List Value → am_M → Option am_R} {d : Nat} (D : Nat → Nat → UInt64) {ls : pt_L}
theorem c100 (xi xc : Nat) {I0 : Nat → Nat → Int32} {L0 : Nat → Nat → Int64} (hP0 : iv_P ls I0) (xp : Nat) (v1 v2 v3 : Int32) : ∃ I' L' xp', am_Rn ext 400 100 [.ref 0, .int v1, .int v2, .int v3] (I0, L0, D, am_rf (2, 11, xi, xp, 2, xc)) (some (.long (an_as ls v1 v2 v3)), (I', L', D, am_rf (2, 11, xi, xp', 2, xc))) ∧ iv_s I0 L0 D I' L' D := by
  have r1 := am_up (c111 (ext := ext) (d := 0) L0 D xi xp 2 xc hP0.1 hP0.2.2.2.1 v1) (show 2 ≤ 399 by omega)
  have le : ¬ 2 < v3 ↔ v3 ≤ 2 := by rw [Int32.le_iff_toInt_le, Int32.lt_iff_toInt_lt]; omega
  by_cases good : lt_k ls v1 = 1 ∧ ¬ v2 < 0 ∧ ¬ 16 < v2 ∧ ¬ v3 < 0 ∧ ¬ 2 < v3
  · have ea : an_as ls v1 v2 v3 = as_a v3 (as_r ls (lt_i ls v1) v2.toNatClampNeg 5 4 none) := by unfold an_as; rw [if_pos good]
    obtain ⟨g1, g2, g3, g4, g5⟩ := good
    obtain ⟨p1, p2⟩ := p_i g2 g3
    obtain ⟨_, _, _, _, b, T, q1, q2, q3⟩ := lt_x (ls := ls) (v := v1) (by omega)
    rw [ea]
    generalize v2.toNatClampNeg = p at *
    subst p2
    rw [if_pos g1] at r1
    have fin : ∀ (I : Nat → Nat → Int32) (L : Nat → Nat → Int64) (xp : Nat) (v5 : Int64) (v7 : Int32) (v8 v10 : Int64) (gi : Option Nat) (la : Option (Int64 × Int64)), (v5 = match gi with | none => -1 | some w => Int32.toInt64 (nI w)) → ((la = none ∧ v7 = 0) ∨ (∃ q, la = some q ∧ v7 = 1 ∧ v8 = q.1 ∧ v10 = q.2)) → iv_s I0 L0 D I L D → am_wp ext 399 mz_100 (147, [none, none, none, some (.int v3), none, some (.long v5), none, some (.int v7), some (.long v8), none, some (.long v10), none, none], [], (I, L, D, am_rf (2, 11, xi, xp, 2, xc))) (fun r => ∃ I' L' xp', r = (some (.long (as_a v3 (gi, la))), (I', L', D, am_rf (2, 11, xi, xp', 2, xc))) ∧ iv_s I0 L0 D I' L' D) := by
      intro I L xp v5 v7 v8 v10 gi la h5 h7 hs
      refine w100_147 I L D xc xi xp 11 2 2 v3 v5 v7 v8 v10 ⟨fun z => ⟨fun y => ?_, fun y => ?_⟩, fun z => ⟨I, L, xp, ?_, hs⟩⟩
      · rcases h7 with ⟨_, e⟩ | ⟨q, e1, e2, e3, e4⟩
        · exact absurd e y
        · subst e1
          refine ⟨fun x => ⟨I, L, xp, ?_, hs⟩, fun x => ⟨I, L, xp, ?_, hs⟩⟩
          · unfold as_a; rw [if_neg z, e4]; simp only; rw [if_neg x]
          · unfold as_a; rw [if_neg z, e3]; simp only; rw [if_pos x]
      · rcases h7 with ⟨e, _⟩ | ⟨q, e1, e2, e3, e4⟩
        · subst e
          exact ⟨I, L, xp, by unfold as_a; rw [if_neg z], hs⟩
        · rw [e2] at y; exact absurd y (by decide)
      · unfold as_a; rw [if_pos z, h5]
    have key : ∀ (k w : Nat) (la : Option (Int64 × Int64)) (I : Nat → Nat → Int32) (L : Nat → Nat → Int64) (xp : Nat) (v7 : Int32) (v8 v10 : Int64), w + 4 * k = 24 → ((la = none ∧ v7 = 0) ∨ (∃ q, la = some q ∧ v7 = 1 ∧ v8 = q.1 ∧ v10 = q.2)) → iv_s I0 L0 D I L D → am_wp ext 399 mz_100 (52, [some (.ref 0), none, some (.int (nI p)), some (.int v3), some (.int (nI (lt_i ls v1))), some (.long (-1)), none, some (.int v7), some (.long v8), none, some (.long v10), none, some (.int (nI w))], [], (I, L, D, am_rf (2, 11, xi, xp, 2, xc))) (fun r => ∃ I' L' xp', r = (some (.long (as_a v3 (as_r ls (lt_i ls v1) p k w la))), (I', L', D, am_rf (2, 11, xi, xp', 2, xc))) ∧ iv_s I0 L0 D I' L' D) := by
      intro k
      induction k with
      | zero =>
        intro w la I L xp v7 v8 v10 hw h7 hs
        have e : w = 24 := by omega
        subst e
        exact w100_52 I L D xc xi xp 11 2 2 (nI p) v3 _ (-1) v7 v8 v10 (nI 24) ⟨fun _ => fin I L xp _ v7 v8 v10 none la rfl h7 hs, fun z => absurd (by decide) z⟩
      | succ k ih =>
        intro w la I L xp v7 v8 v10 hw h7 hs
        have n20 : ¬ (20 : Int32) < nI w := fun z => by have := (ni_lt (a := 20) (by omega) (by omega)).mp z; omega
        have e4 : nI w + 4 = nI (w + 4) := by rw [show (4 : Int32) = nI 4 from rfl, ni_add (by omega)]
        refine w100_52 I L D xc xi xp 11 2 2 (nI p) v3 _ (-1) v7 v8 v10 (nI w) ⟨fun z => absurd z n20, fun _ => ⟨fun z => absurd rfl z, fun _ => ⟨fun z => ?_, fun z => ?_⟩⟩⟩
        · rw [e4, as_r_k ((ni_lt (by omega) (by omega)).mp z)]
          exact ih (w + 4) la I L xp v7 v8 v10 (by omega) h7 hs
        · have nlt : ¬ w < p := fun q => z ((ni_lt (by omega) (by omega)).mpr q)
          have hP := iv_P_s hP0 hs.1
          obtain ⟨I1, L1, r3, K⟩ := c60 (ext := ext) (L := L) D 2 11 xi xp 2 xc (show w ≤ 20 by omega) hP.2.2.1 hP.2.2.2.1 hP.2.2.2.2.1 q2 (gd2_0 w) hP.1
          have hs1 := iv_s_t hs (rk_iv (D := D) K)
          refine ⟨_, I1, L1, D, am_up r3 (by omega), fun y => ?_, fun y => ?_⟩
          · have ho : aq_o w ls (lt_i ls v1) 0 0 = none := by
              by_cases q : aq_o w ls (lt_i ls v1) 0 0 = none
              · exact q
              · rw [if_neg q] at y; exact absurd y (by decide)
            rw [e4, as_r_n nlt ho]
            exact ih (w + 4) la I1 L1 2 v7 v8 v10 (by omega) h7 hs1
          · have hne : ¬ aq_o w ls (lt_i ls v1) 0 0 = none := fun q => y (by rw [if_pos q])
            obtain ⟨q, ho⟩ : ∃ q, aq_o w ls (lt_i ls v1) 0 0 = some q := Option.ne_none_iff_exists'.mp hne
            have l9 : L1 25 9 = q.1 := by rw [K.2.1, ho]; rfl
            have l10 : L1 25 10 = q.2 := by rw [K.2.2.1, ho]; rfl
            rw [l9, l10, as_r_s nlt ho, e4]
            refine ⟨fun x => ?_, fun x => ?_⟩
            · have x' : as_th w p < q.2 - q.1 := x
              rw [if_pos x']
              exact ih (w + 4) (some q) I1 L1 2 1 q.1 q.2 (by omega) (Or.inr ⟨q, rfl, rfl, rfl, rfl⟩) hs1
            · have x' : ¬ as_th w p < q.2 - q.1 := x
              rw [if_neg x']
              have fi := fin I1 L1 2 (Int32.toInt64 (nI w)) 1 q.1 q.2 (some w) (some q) rfl (Or.inr ⟨q, rfl, rfl, rfl, rfl⟩) hs1
              refine w100_52 I1 L1 D xc xi 2 11 2 2 (nI p) v3 _ (Int32.toInt64 (nI w)) 1 q.1 q.2 (nI (w + 4)) ⟨fun _ => fi, fun _ => ⟨fun _ => fi, fun t => ?_⟩⟩
              rw [← Int64.toInt_inj, Int32.toInt_toInt64, nI_toInt (by omega)] at t
              have : (-1 : Int64).toInt = -1 := rfl
              omega
    obtain ⟨r, rr, I', L', xp', e, hs⟩ := am_of_wp (ext := ext) (d := 399) (as := [.ref 0, .int v1, .int (nI p), .int v3]) mh_100 rfl (w100_0 I0 L0 D xc xi xp 11 2 2 v1 (nI p) v3 ⟨_, I0, L0, D, r1, fun z => absurd z (ni_nn (by have := hP0.2.2.2.1; omega)), fun _ => ⟨fun z => absurd z g2, fun _ => ⟨fun z => absurd z g3, fun _ => ⟨fun z => absurd z g4, fun _ => ⟨fun _ => key 5 4 none I0 L0 xp 0 0 0 rfl (Or.inl ⟨rfl, rfl⟩) (iv_s_0 I0 L0 D), fun z => absurd (le.mp g5) z⟩⟩⟩⟩⟩)
    rw [e] at rr
    exact ⟨I', L', xp', rr, hs⟩
  · have e : an_as ls v1 v2 v3 = -9223372036854775808 := by unfold an_as; rw [if_neg good]
    rw [e]
    refine ⟨I0, L0, xp, am_rn_of (d := 399) mh_100 rfl (w100_0 I0 L0 D xc xi xp 11 2 2 v1 v2 v3 ⟨_, I0, L0, D, r1, fun _ => rfl, fun z1 => ⟨fun _ => rfl, fun z2 => ⟨fun _ => rfl, fun z3 => ⟨fun _ => rfl, fun z4 => ⟨fun z5 => absurd ⟨?_, z2, z3, z4, le.mpr z5⟩ good, fun _ => rfl⟩⟩⟩⟩⟩), iv_s_0 I0 L0 D⟩
    by_cases q : lt_k ls v1 = 1
    · exact q
    · rw [if_neg q] at z1; exact absurd (by decide) z1
theorem c174 (X : am_Rf) {I0 : Nat → Nat → Int32} {L0 : Nat → Nat → Int64} (hP0 : iv_P ls I0) (v1 v2 v3 : Int32) : ∃ I' L', am_Rn ext 400 174 [.ref 42, .int v1, .int v2, .int v3] (I0, L0, D, am_rf X) (some (.long (an_as ls v1 v2 v3)), (I', L', D, am_rf X)) ∧ iv_s I0 L0 D I' L' D := by
  have s2 : iv_s I0 L0 D (am_uI I0 42 2 0) L0 D := iv_s_I (iv_2 I0 0) (fun _ _ _ => rfl)
  have hP2 := iv_P_s hP0 s2.1
  have r1 := am_up (c148 (ext := ext) (d := 0) (I := am_uI I0 42 2 0) L0 D X hP2.2.1 v1) (show 2 ≤ 399 by omega)
  have R := fun (v a b : Int32) => am_up (c117 (ext := ext) (d := 0) (L := L0) (I := am_uI I0 42 2 0) D X v a b) (show 1 ≤ 399 by omega)
  by_cases good : lt_k ls v1 = 1 ∧ ¬ v2 < 0 ∧ ¬ 16 < v2 ∧ ¬ v3 < 0 ∧ ¬ 2 < v3
  · have ea : an_as ls v1 v2 v3 = as_a v3 (as_r ls (lt_i ls v1) v2.toNatClampNeg 5 4 none) := by unfold an_as; rw [if_pos good]
    obtain ⟨g1, g2, g3, g4, g5⟩ := good
    obtain ⟨p1, p2⟩ := p_i g2 g3
    rw [ea]
    generalize v2.toNatClampNeg = p at *
    subst p2
    have key : ∀ (k w : Nat) (la : Option (Int64 × Int64)) (I : Nat → Nat → Int32) (L : Nat → Nat → Int64) (v4 v6 : Int64), w + 4 * k = 24 → p ≤ w → 4 ≤ w → ((la = none ∧ v4 = -9223372036854775808 ∧ v6 = -9223372036854775808) ∨ (∃ q, la = some q ∧ v4 = q.1 ∧ v6 = q.2)) → iv_s I0 L0 D I L D → am_wp ext 399 mz_174 (64, [some (.ref 42), some (.int v1), some (.int (nI p)), some (.int v3), some (.long v4), none, some (.long v6), none, some (.int (nI w))], [], (I, L, D, am_rf X)) (fun r => ∃ I' L', r = (some (.long (as_a v3 (as_r ls (lt_i ls v1) p k w la))), (I', L', D, am_rf X)) ∧ iv_s I0 L0 D I' L' D) := by
      intro k
      induction k with
      | zero =>
        intro w la I L v4 v6 hw hp h4 h7 hs
        have e : w = 24 := by omega
        subst e
        refine w174_64 I L D X v1 (nI p) v3 v4 v6 (nI 24) ⟨fun _ => ⟨fun z => ?_, fun z => ⟨I, L, ?_, hs⟩⟩, fun z => absurd (by decide) z⟩
        · rcases h7 with ⟨e, e4, e6⟩ | ⟨q, e, e4, e6⟩
          · subst e
            refine ⟨fun y => ⟨I, L, ?_, hs⟩, fun y => ⟨I, L, ?_, hs⟩⟩
            · rw [as_r]; unfold as_a; rw [if_neg z, e6]
            · rw [as_r]; unfold as_a; rw [if_neg z, e4]
          · subst e
            refine ⟨fun y => ⟨I, L, ?_, hs⟩, fun y => ⟨I, L, ?_, hs⟩⟩
            · rw [as_r]; unfold as_a; rw [if_neg z, e6]; simp only; rw [if_neg y]
            · rw [as_r]; unfold as_a; rw [if_neg z, e4]; simp only; rw [if_pos y]
        · rw [as_r]; unfold as_a; rw [if_pos z]
      | succ k ih =>
        intro w la I L v4 v6 hw hp h4 h7 hs
        have n20 : ¬ (20 : Int32) < nI w := fun z => by have := (ni_lt (a := 20) (by omega) (by omega)).mp z; omega
        have e4 : nI w + 4 = nI (w + 4) := by rw [show (4 : Int32) = nI 4 from rfl, ni_add (by omega)]
        have nlt : ¬ w < p := by omega
        have hP := iv_P_s hP0 hs.1
        obtain ⟨I1, L1, r3, K⟩ := c170 (ext := ext) (d := 0) (L := L) D X hP (show w ≤ 20 by omega) g1
        have hs1 := iv_s_t hs (iv_s_t (iv_s_I (iv_48 I (nI w)) (fun _ _ _ => rfl)) (mk_iv (D := D) K))
        refine w174_64 I L D X v1 (nI p) v3 v4 v6 (nI w) ⟨fun z => absurd z n20, fun _ => ⟨I1, L1, D, am_up r3 (by omega), fun y => ?_, fun y => ?_⟩⟩
        · have V := K.2.1
          cases ho : aq_o w ls (lt_i ls v1) 0 0 with
          | none => rw [ho] at V; exact absurd (me_v0 V) y
          | some q =>
            rw [ho] at V
            obtain ⟨_, l1, l2⟩ := me_v1 V
            rw [l1, l2, as_r_s nlt ho, e4]
            refine ⟨fun x => ?_, fun x => ⟨fun z => ⟨fun t => ⟨I1, L1, ?_, hs1⟩, fun t => ⟨I1, L1, ?_, hs1⟩⟩, fun z => ⟨I1, L1, ?_, hs1⟩⟩⟩
            · have x' : as_th w p < q.2 - q.1 := x
              rw [if_pos x']
              exact ih (w + 4) (some q) I1 L1 q.1 q.2 (by omega) (by omega) (by omega) (Or.inr ⟨q, rfl, rfl, rfl⟩) hs1
            · have x' : ¬ as_th w p < q.2 - q.1 := x
              rw [if_neg x']; unfold as_a; rw [if_neg z]; simp only; rw [if_neg t]
            · have x' : ¬ as_th w p < q.2 - q.1 := x
              rw [if_neg x']; unfold as_a; rw [if_neg z]; simp only; rw [if_pos t]
            · have x' : ¬ as_th w p < q.2 - q.1 := x
              rw [if_neg x']; unfold as_a; rw [if_pos z]
        · have V := K.2.1
          cases ho : aq_o w ls (lt_i ls v1) 0 0 with
          | none =>
            rw [e4, as_r_n nlt ho]
            exact ih (w + 4) la I1 L1 v4 v6 (by omega) (by omega) (by omega) h7 hs1
          | some q => rw [ho] at V; rw [(me_v1 V).1] at y; exact absurd y (by decide)
    have start : ∃ k w, w + 4 * k = 24 ∧ p ≤ w ∧ 4 ≤ w ∧ (4 ≤ p → ((nI p + 3) / 4) * 4 = nI w) ∧ (¬ 4 ≤ p → w = 4) ∧ as_r ls (lt_i ls v1) p 5 4 none = as_r ls (lt_i ls v1) p k w none := by
      have dv : ∀ n : Fin 17, ((nI n.val + 3) / 4) * 4 = nI ((n.val + 3) / 4 * 4) := by decide
      by_cases a : p ≤ 4
      · refine ⟨5, 4, rfl, a, by omega, fun h => ?_, fun _ => rfl, rfl⟩
        have : p = 4 := by omega
        subst this
        decide
      · have D := dv ⟨p, by omega⟩
        simp only at D
        by_cases b : p ≤ 8
        · exact ⟨4, 8, rfl, b, by omega, fun _ => by rw [D]; congr 1; omega, fun h => by omega, by rw [as_r_k (show 4 < p by omega)]⟩
        · by_cases c : p ≤ 12
          · exact ⟨3, 12, rfl, c, by omega, fun _ => by rw [D]; congr 1; omega, fun h => by omega, by rw [as_r_k (show 4 < p by omega), as_r_k (show 4 + 4 < p by omega)]⟩
          · exact ⟨2, 16, rfl, by omega, by omega, fun _ => by rw [D]; congr 1; omega, fun h => by omega, by rw [as_r_k (show 4 < p by omega), as_r_k (show 4 + 4 < p by omega), as_r_k (show 4 + 4 + 4 < p by omega)]⟩
    obtain ⟨k, w, k1, k2, k3, k4, k5, k6⟩ := start
    have kk := key k w none (am_uI I0 42 2 0) L0 (-9223372036854775808) (-9223372036854775808) k1 k2 k3 (Or.inl ⟨rfl, rfl, rfl⟩) s2
    rw [← k6] at kk
    obtain ⟨r, rr, I', L', e, hs⟩ := am_of_wp (ext := ext) (d := 399) (as := [.ref 42, .int v1, .int (nI p), .int v3]) mh_174 rfl (w174_0 I0 L0 D X v1 (nI p) v3 ⟨_, _, L0, D, r1, fun z => absurd (by rw [if_pos g1] at z; exact z) (by decide), fun _ => ⟨_, _, L0, D, R (nI p) 0 16, fun z => absurd (in_0 z) (fun q => q.elim g2 g3), fun _ => ⟨_, _, L0, D, R v3 0 2, fun _ => ⟨fun z => by rw [k4 ((ni_le (a := 4) (by omega) (by omega)).mp z)]; exact kk, fun z => by have e := k5 (fun q => z ((ni_le (a := 4) (by omega) (by omega)).mpr q)); rw [e] at kk; exact kk⟩, fun z => absurd (in_0 z) (fun q => q.elim g4 g5)⟩⟩⟩)
    rw [e] at rr
    exact ⟨I', L', rr, hs⟩
  · have e : an_as ls v1 v2 v3 = -9223372036854775808 := by unfold an_as; rw [if_neg good]
    rw [e]
    refine ⟨_, L0, am_rn_of (d := 399) mh_174 rfl (w174_0 I0 L0 D X v1 v2 v3 ⟨_, _, L0, D, r1, fun _ => rfl, fun z1 => ⟨_, _, L0, D, R v2 0 16, fun _ => rfl, fun z2 => ⟨_, _, L0, D, R v3 0 2, fun z3 => absurd ⟨?_, (in_1 z2).1, (in_1 z2).2, (in_1 z3).1, (in_1 z3).2⟩ good, fun _ => rfl⟩⟩⟩), s2⟩
    by_cases q : lt_k ls v1 = 1
    · exact q
    · rw [if_neg q] at z1; exact absurd rfl z1
theorem ow_6 {Cc : iv_C} (hC : iv_ok Cc) : lw_t6 ext (iv Cc) := by
  intro v1 v2 v3 m hm
  obtain ⟨I, L, D, xi, xp, xc, ls, rfl, hT, hP, hc⟩ := hm
  obtain ⟨I1, L1, xp', r1, s1⟩ := c100 (ext := ext) (L0 := L) D xi xc hP xp v1 v2 v3
  have hP1 := iv_P_s hP s1.1
  obtain ⟨I2, L2, r2, s2⟩ := c174 (ext := ext) (L0 := L1) D (2, 11, xi, xp', 2, xc) hP1 v1 v2 v3
  exact ⟨_, _, _, r1, r2, Or.inl (iv_go hC hT hP hc (iv_s_t s1 s2))⟩
/-! digits -/
def dg_r : Nat → Int32 → Int32 → Int64 → Int64 → Int32
  | 0, _, best, _, _ => best
  | k + 1, n, best, lo, hi => dg_r k (n + 1) (if (lo >>> ((Int32.toInt64 20) &&& 63)) = (hi >>> ((Int32.toInt64 20) &&& 63)) then n else best) (lo * 10) (hi * 10)
def an_dg (ls : pt_L) (v1 : Int32) : Int32 := if lt_k ls v1 = 1 then (match aq_o 20 ls (lt_i ls v1) 0 0 with | none => -2 | some q => dg_r 6 0 (-1) q.1 q.2) else -1
theorem c101 (xi xc : Nat) {I : Nat → Nat → Int32} {L : Nat → Nat → Int64} (hP : iv_P ls I) (xp : Nat) (v1 : Int32) : ∃ I' L' xp', am_Rn ext 400 101 [.ref 0, .int v1] (I, L, D, am_rf (2, 11, xi, xp, 2, xc)) (some (.int (an_dg ls v1)), (I', L', D, am_rf (2, 11, xi, xp', 2, xc))) ∧ iv_s I L D I' L' D := by
  have r1 := am_up (c111 (ext := ext) (d := 0) L D xi xp 2 xc hP.1 hP.2.2.2.1 v1) (show 2 ≤ 399 by omega)
  by_cases g1 : lt_k ls v1 = 1
  · obtain ⟨_, _, _, _, b, T, q1, q2, q3⟩ := lt_x (ls := ls) (v := v1) (by omega)
    obtain ⟨I1, L1, r3, K⟩ := c60 (ext := ext) (L := L) D 2 11 xi xp 2 xc (show 20 ≤ 20 by omega) hP.2.2.1 hP.2.2.2.1 hP.2.2.2.2.1 q2 (gd2_0 20) hP.1
    have r3' := am_up r3 (show 83 ≤ 399 by omega)
    rw [if_pos g1] at r1
    have n0 : 0 ≤ nI (lt_i ls v1) := (ni_le (a := 0) (by omega) (by have := hP.2.2.2.1; omega)).mpr (by omega)
    cases ho : aq_o 20 ls (lt_i ls v1) 0 0 with
    | none =>
      have e : an_dg ls v1 = -2 := by unfold an_dg; rw [if_pos g1, ho]
      rw [e]
      rw [ho] at r3'
      exact ⟨I1, L1, 2, am_rn_of (d := 399) mh_101 rfl (w101_0 I L D xc xi xp 11 2 2 v1 ⟨_, I, L, D, r1, fun _ => ⟨_, I1, L1, D, r3', fun z => absurd rfl z, fun _ => rfl⟩, fun z => absurd n0 z⟩), rk_iv K⟩
    | some q =>
      have e : an_dg ls v1 = dg_r 6 0 (-1) q.1 q.2 := by unfold an_dg; rw [if_pos g1, ho]
      have l9 : L1 25 9 = q.1 := by rw [K.2.1, ho]; rfl
      have l10 : L1 25 10 = q.2 := by rw [K.2.2.1, ho]; rfl
      rw [e]
      rw [ho, if_neg (by intro q; cases q)] at r3'
      have key : ∀ (k n : Nat) (best : Int32) (lo hi : Int64), n + k = 6 → am_wp ext 399 mz_101 (57, [none, none, none, some (.long lo), none, some (.long hi), none, some (.int best), some (.int (nI n))], [], (I1, L1, D, am_rf (2, 11, xi, 2, 2, xc))) (fun r => r = (some (.int (dg_r k (nI n) best lo hi)), (I1, L1, D, am_rf (2, 11, xi, 2, 2, xc)))) := by
        intro k
        induction k with
        | zero =>
          intro n best lo hi hn
          have : n = 6 := by omega
          subst this
          exact w101_57 I1 L1 D xc xi 11 2 2 lo hi best (nI 6) ⟨fun _ => rfl, fun z => absurd (by decide) z⟩
        | succ k ih =>
          intro n best lo hi hn
          have n5 : ¬ (5 : Int32) < nI n := fun z => by have := (ni_lt (a := 5) (by omega) (by omega)).mp z; omega
          have e1 : nI n + 1 = nI (n + 1) := by rw [show (1 : Int32) = nI 1 from rfl, ni_add (by omega)]
          refine w101_57 I1 L1 D xc xi 11 2 2 lo hi best (nI n) ⟨fun z => absurd z n5, fun _ => ⟨fun z => ?_, fun z => ?_⟩⟩
          · rw [dg_r, if_neg z, e1]; exact ih (n + 1) best _ _ (by omega)
          · rw [dg_r, if_pos z, e1]; exact ih (n + 1) (nI n) _ _ (by omega)
      refine ⟨I1, L1, 2, am_rn_of (d := 399) mh_101 rfl (w101_0 I L D xc xi xp 11 2 2 v1 ⟨_, I, L, D, r1, fun _ => ⟨_, I1, L1, D, r3', fun _ => ?_, fun z => absurd z (by decide)⟩, fun z => absurd n0 z⟩), rk_iv K⟩
      rw [l9, l10]
      exact key 6 0 (-1) q.1 q.2 rfl
  · have e : an_dg ls v1 = -1 := by unfold an_dg; rw [if_neg g1]
    rw [e]
    rw [if_neg g1] at r1
    exact ⟨I, L, xp, am_rn_of (d := 399) mh_101 rfl (w101_0 I L D xc xi xp 11 2 2 v1 ⟨_, I, L, D, r1, fun z => absurd z (by decide), fun _ => rfl⟩), iv_s_0 I L D⟩
theorem c175 (X : am_Rf) {I : Nat → Nat → Int32} {L : Nat → Nat → Int64} (hP : iv_P ls I) (v1 : Int32) : ∃ I' L', am_Rn ext 400 175 [.ref 42, .int v1] (I, L, D, am_rf X) (some (.int (an_dg ls v1)), (I', L', D, am_rf X)) ∧ iv_s I L D I' L' D := by
  have s2 : iv_s I L D (am_uI I 42 2 0) L D := iv_s_I (iv_2 I 0) (fun _ _ _ => rfl)
  have hP2 := iv_P_s hP s2.1
  have r1 := am_up (c148 (ext := ext) (d := 0) (I := am_uI I 42 2 0) L D X hP2.2.1 v1) (show 2 ≤ 399 by omega)
  by_cases g1 : lt_k ls v1 = 1
  · obtain ⟨I1, L1, r3, K⟩ := c170 (ext := ext) (d := 0) (L := L) D X hP2 (show 20 ≤ 20 by omega) g1
    have r3' := am_up r3 (show 0 + 8 ≤ 399 by omega)
    rw [if_pos g1] at r1
    have hs := iv_s_t s2 (iv_s_t (iv_s_I (iv_48 _ (nI 20)) (fun _ _ _ => rfl)) (mk_iv (D := D) K))
    have V := K.2.1
    cases ho : aq_o 20 ls (lt_i ls v1) 0 0 with
    | none =>
      have e : an_dg ls v1 = -2 := by unfold an_dg; rw [if_pos g1, ho]
      rw [e]
      rw [ho] at V
      exact ⟨I1, L1, am_rn_of (d := 399) mh_175 rfl (w175_0 I L D X v1 ⟨_, _, L, D, r1, fun _ => ⟨I1, L1, D, r3', fun z => absurd (me_v0 V) z, fun _ => rfl⟩, fun z => absurd z (by decide)⟩), hs⟩
    | some q =>
      have e : an_dg ls v1 = dg_r 6 0 (-1) q.1 q.2 := by unfold an_dg; rw [if_pos g1, ho]
      rw [e]
      rw [ho] at V
      obtain ⟨v0, l1, l2⟩ := me_v1 V
      have key : ∀ (k n : Nat) (best : Int32) (ten lo hi : Int64), n + k = 6 → lo = q.1 * ten → hi = q.2 * ten → am_wp ext 399 mz_175 (39, [some (.ref 42), none, some (.int best), some (.long ten), none, some (.int (nI n))], [], (I1, L1, D, am_rf X)) (fun r => r = (some (.int (dg_r k (nI n) best lo hi)), (I1, L1, D, am_rf X))) := by
        intro k
        induction k with
        | zero =>
          intro n best ten lo hi hn h1 h2
          have : n = 6 := by omega
          subst this
          exact w175_39 I1 L1 D X best ten (nI 6) ⟨fun _ => rfl, fun z => absurd (by decide) z⟩
        | succ k ih =>
          intro n best ten lo hi hn h1 h2
          have n5 : ¬ (6 : Int32) ≤ nI n := fun z => by have := (ni_le (a := 6) (by omega) (by omega)).mp z; omega
          have e1 : nI n + 1 = nI (n + 1) := by rw [show (1 : Int32) = nI 1 from rfl, ni_add (by omega)]
          refine w175_39 I1 L1 D X best ten (nI n) ⟨fun z => absurd z n5, fun _ => ?_⟩
          rw [l1, l2, ← h1, ← h2, e1]
          refine ⟨fun z => ?_, fun z => ?_⟩
          · rw [dg_r, if_neg z, e1]; exact ih (n + 1) best _ _ _ (by omega) (by rw [h1, Int64.mul_assoc]) (by rw [h2, Int64.mul_assoc])
          · rw [dg_r, if_pos z, e1]; exact ih (n + 1) (nI n) _ _ _ (by omega) (by rw [h1, Int64.mul_assoc]) (by rw [h2, Int64.mul_assoc])
      exact ⟨I1, L1, am_rn_of (d := 399) mh_175 rfl (w175_0 I L D X v1 ⟨_, _, L, D, r1, fun _ => ⟨I1, L1, D, r3', fun _ => key 6 0 (-1) 1 q.1 q.2 rfl (by rw [Int64.mul_one]) (by rw [Int64.mul_one]), fun z => absurd (by rw [v0] at z; exact z) (by decide)⟩, fun z => absurd z (by decide)⟩), hs⟩
  · have e : an_dg ls v1 = -1 := by unfold an_dg; rw [if_neg g1]
    rw [e]
    rw [if_neg g1] at r1
    exact ⟨_, L, am_rn_of (d := 399) mh_175 rfl (w175_0 I L D X v1 ⟨_, _, L, D, r1, fun z => absurd rfl z, fun _ => rfl⟩), s2⟩
theorem ow_7 {Cc : iv_C} (hC : iv_ok Cc) : lw_t7 ext (iv Cc) := by
  intro v1 m hm
  obtain ⟨I, L, D, xi, xp, xc, ls, rfl, hT, hP, hc⟩ := hm
  obtain ⟨I1, L1, xp', r1, s1⟩ := c101 (ext := ext) (L := L) D xi xc hP xp v1
  have hP1 := iv_P_s hP s1.1
  obtain ⟨I2, L2, r2, s2⟩ := c175 (ext := ext) (L := L1) D (2, 11, xi, xp', 2, xc) hP1 v1
  exact ⟨_, _, _, r1, r2, Or.inl (iv_go hC hT hP hc (iv_s_t s1 s2))⟩
end ASK
