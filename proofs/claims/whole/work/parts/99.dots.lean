/-! ===== dots ===== -/
def dn_in (K : Int32 → Int32) (y m kd : Int32) : Nat → Nat → Int32 → Int32
  | 0, _, c => c
  | k + 1, n, c => if m ≤ nI n then c else if 63 < y + nI n then c else dn_in K y m kd k (n + 1) (if K (y + nI n) = kd then c + 1 else c)
theorem dn_in_s {K : Int32 → Int32} {y m kd : Int32} {k n : Nat} {c : Int32} : dn_in K y m kd (k + 1) n c = if m ≤ nI n then c else if 63 < y + nI n then c else dn_in K y m kd k (n + 1) (if K (y + nI n) = kd then c + 1 else c) := rfl
def dn_out (K : Int32 → Int32 → Int32) (x y m kd : Int32) : Nat → Nat → Int32 → Int32
  | 0, _, c => c
  | k + 1, n, c => if 63 < x + nI n then c else dn_out K x y m kd k (n + 1) (dn_in (K (x + nI n)) y m kd 17 0 c)
def dn_ok (ls : pt_L) (v1 v2 v3 v4 v5 : Int32) : Prop := lt_k ls v1 = 2 ∧ sq_ok v2 ∧ sq_ok v3 ∧ ¬ v4 < 1 ∧ ¬ 16 < v4 ∧ ¬ v5 < 0 ∧ ¬ 2 < v5
theorem sq_add {x : Int32} (h : sq_ok x) {n : Nat} (hn : n ≤ 20) (h2 : ¬ 63 < x + nI n) : sq_ok (x + nI n) := by
  have hx := sq_i h
  refine ⟨?_, h2⟩
  rw [Int32.lt_iff_toInt_lt, Int32.toInt_add, nI_toInt (by omega), show (-64 : Int32).toInt = -64 from rfl, Int.bmod_eq_of_le (by omega) (by omega)]
  omega
theorem i32_64 (v : Int32) : 64 ≤ v ↔ 63 < v := by
  rw [Int32.le_iff_toInt_le, Int32.lt_iff_toInt_lt, show (63 : Int32).toInt = 63 from rfl, show (64 : Int32).toInt = 64 from rfl]
  omega
theorem m_17 {v : Int32} (h : ¬ 16 < v) : v ≤ nI 17 := by
  rw [Int32.lt_iff_toInt_lt, show (16 : Int32).toInt = 16 from rfl] at h
  rw [Int32.le_iff_toInt_le, nI_toInt (by omega)]
  omega
section DOTS
variable {ext : Nat → List Value → am_M → Option am_R} (D : Nat → Nat → UInt64) {ls : pt_L}
theorem c107 (xi xc xp : Nat) {I0 : Nat → Nat → Int32} {L0 : Nat → Nat → Int64} (hP0 : iv_P ls I0) {v1 v2 v3 v4 v5 : Int32} (hok : dn_ok ls v1 v2 v3 v4 v5) : ∃ I' L' xp' xc', am_Rn ext 400 107 [.ref 0, .int v1, .int v2, .int v3, .int v4, .int v5] (I0, L0, D, am_rf (2, 11, xi, xp, 2, xc)) (some (.int (dn_out (dt ls (lt_i ls v1)) v2 v3 v4 v5 16 0 0)), (I', L', D, am_rf (2, 11, xi, xp', 2, xc'))) ∧ iv_s I0 L0 D I' L' D := by
  obtain ⟨g1, g2, g3, g4, g5, g6, g7⟩ := hok
  obtain ⟨_, _, _, _, b, T, q1, q2, q3⟩ := lt_x (ls := ls) (v := v1) (by omega)
  have r1 := am_up (c112 (ext := ext) (d := 0) L0 D xi xp 2 xc hP0.1 hP0.2.2.2.1 v1) (show 2 ≤ 399 by omega)
  rw [if_pos g1] at r1
  have Q := fun (v : Int32) => am_up (c114 (ext := ext) (d := 0) D (2, 11, xi, xp, 2, xc) (I := I0) (L := L0) v) (show 1 ≤ 399 by omega)
  have le : v5 ≤ 2 := by rw [Int32.lt_iff_toInt_lt] at g7; rw [Int32.le_iff_toInt_le]; omega
  generalize hl : lt_i ls v1 = l at *
  have out : ∀ (k n : Nat) (c : Int32) (I : Nat → Nat → Int32) (L : Nat → Nat → Int64) (xp xc : Nat), n + k = 16 → iv_s I0 L0 D I L D → am_wp ext 399 mz_107 (60, [some (.ref 0), none, some (.int v2), some (.int v3), some (.int v4), some (.int v5), some (.int (nI l)), some (.int c), some (.int (nI n)), none], [], (I, L, D, am_rf (2, 11, xi, xp, 2, xc))) (fun r => ∃ I' L' xp' xc', r = (some (.int (dn_out (dt ls l) v2 v3 v4 v5 k n c)), (I', L', D, am_rf (2, 11, xi, xp', 2, xc'))) ∧ iv_s I0 L0 D I' L' D) := by
    intro k
    induction k with
    | zero =>
      intro n c I L xp xc hn hs
      have : n = 16 := by omega
      subst this
      exact w107_60 I L D xc xi xp 11 2 2 v2 v3 v4 v5 (nI l) c (nI 16) ⟨fun _ => ⟨I, L, xp, xc, rfl, hs⟩, fun z => absurd (by decide) z⟩
    | succ k ih =>
      intro n c I L xp xc hn hs
      have n16 : ¬ (16 : Int32) ≤ nI n := fun z => by have := (ni_le (a := 16) (by omega) (by omega)).mp z; omega
      have e1 : nI n + 1 = nI (n + 1) := by rw [show (1 : Int32) = nI 1 from rfl, ni_add (by omega)]
      have hP := iv_P_s hP0 hs.1
      by_cases h63 : 63 < v2 + nI n
      · refine w107_60 I L D xc xi xp 11 2 2 v2 v3 v4 v5 (nI l) c (nI n) ⟨fun z => absurd z n16, fun _ => ⟨fun _ => ⟨I, L, xp, xc, ?_, hs⟩, fun z => absurd h63 z⟩⟩
        rw [dn_out, if_pos h63]
      · have hx := sq_add g2 (show n ≤ 20 by omega) h63
        obtain ⟨I1, L1, rg, s1, c1'⟩ := c1 (ext := ext) (L := L) D xi xc xp hP q2 hx
        have hs1 := iv_s_t hs s1
        have inn : ∀ (j i : Nat) (c' : Int32) (I : Nat → Nat → Int32) (L : Nat → Nat → Int64) (m : Nat), i + j = 17 → iv_s I0 L0 D I L D → cv ls l (v2 + nI n) m I L → dn_in (dt ls l (v2 + nI n)) v3 v4 v5 17 0 c = dn_in (dt ls l (v2 + nI n)) v3 v4 v5 j i c' → am_wp ext 399 mz_107 (96, [some (.ref 0), none, some (.int v2), some (.int v3), some (.int v4), some (.int v5), some (.int (nI l)), some (.int c'), some (.int (nI n)), some (.int (nI i))], [], (I, L, D, am_rf (2, 11, xi, 2, 2, 2))) (fun r => ∃ I' L' xp' xc', r = (some (.int (dn_out (dt ls l) v2 v3 v4 v5 (k + 1) n c)), (I', L', D, am_rf (2, 11, xi, xp', 2, xc'))) ∧ iv_s I0 L0 D I' L' D) := by
          have ed : dn_out (dt ls l) v2 v3 v4 v5 (k + 1) n c = dn_out (dt ls l) v2 v3 v4 v5 k (n + 1) (dn_in (dt ls l (v2 + nI n)) v3 v4 v5 17 0 c) := by rw [dn_out, if_neg h63]
          intro j
          induction j with
          | zero =>
            intro i c' I L m hi hs hc he
            have : i = 17 := by omega
            subst this
            refine w107_96 I L D xi 2 11 2 2 v2 v3 v4 v5 (nI l) c' (nI n) (nI 17) ⟨fun _ => ?_, fun z => absurd (m_17 g5) z⟩
            rw [e1, ed, he]
            exact ih (n + 1) _ I L 2 2 (by omega) hs
          | succ j ihj =>
            intro i c' I L m hi hs hc he
            have e2 : nI i + 1 = nI (i + 1) := by rw [show (1 : Int32) = nI 1 from rfl, ni_add (by omega)]
            rw [dn_in_s (k := j)] at he
            refine w107_96 I L D xi 2 11 2 2 v2 v3 v4 v5 (nI l) c' (nI n) (nI i) ⟨fun z => ?_, fun z => ⟨fun y => ?_, fun y => ?_⟩⟩
            · rw [if_pos z] at he
              rw [e1, ed, he]
              exact ih (n + 1) _ I L 2 2 (by omega) hs
            · rw [if_neg z, if_pos y] at he
              rw [e1, ed, he]
              exact ih (n + 1) _ I L 2 2 (by omega) hs
            · rw [if_neg z, if_neg y] at he
              have hP := iv_P_s hP0 hs.1
              obtain ⟨I2, L2, m', rk, s2, c2'⟩ := c2 (ext := ext) D xi hP q2 hx hc (v3 + nI i)
              refine ⟨_, I2, L2, D, am_up rk (by omega), fun t => ?_, fun t => ?_⟩
              · rw [if_neg t] at he
                rw [e2, show c' + 0 = c' from Int32.add_zero c']
                exact ihj (i + 1) c' I2 L2 m' (by omega) (iv_s_t hs s2) c2' he
              · rw [if_pos t] at he
                rw [e2]
                exact ihj (i + 1) (c' + 1) I2 L2 m' (by omega) (iv_s_t hs s2) c2' he
        refine w107_60 I L D xc xi xp 11 2 2 v2 v3 v4 v5 (nI l) c (nI n) ⟨fun z => absurd z n16, fun _ => ⟨fun z => absurd z h63, fun _ => ⟨I1, L1, D, am_up rg (by omega), inn 17 0 c I1 L1 0 rfl hs1 c1' rfl⟩⟩⟩
  obtain ⟨r, rr, I', L', xp', xc', e, hs⟩ := am_of_wp (ext := ext) (d := 399) (as := [.ref 0, .int v1, .int v2, .int v3, .int v4, .int v5]) mh_107 rfl (w107_0 I0 L0 D xc xi xp 11 2 2 v1 v2 v3 v4 v5 ⟨_, I0, L0, D, r1, fun z => absurd z (ni_nn (by have := hP0.2.2.2.1; omega)), fun _ => ⟨_, I0, L0, D, Q v2, fun z => absurd (in_0 z) (fun q => q.elim g2.1 g2.2), fun _ => ⟨_, I0, L0, D, Q v3, fun _ => ⟨fun z => absurd z g4, fun _ => ⟨fun z => absurd z g5, fun _ => ⟨fun z => absurd z g6, fun _ => ⟨fun _ => out 16 0 0 I0 L0 xp xc rfl (iv_s_0 I0 L0 D), fun z => absurd le z⟩⟩⟩⟩, fun z => absurd (in_0 z) (fun q => q.elim g3.1 g3.2)⟩⟩⟩)
  rw [e] at rr
  exact ⟨I', L', xp', xc', rr, hs⟩
theorem c187 (X : am_Rf) {I0 : Nat → Nat → Int32} {L0 : Nat → Nat → Int64} (hP0 : iv_P ls I0) {v1 v2 v3 v4 v5 : Int32} (hok : dn_ok ls v1 v2 v3 v4 v5) : ∃ I' L', am_Rn ext 400 187 [.ref 42, .int v1, .int v2, .int v3, .int v4, .int v5] (I0, L0, D, am_rf X) (some (.int (dn_out (dt ls (lt_i ls v1)) v2 v3 v4 v5 16 0 0)), (I', L', D, am_rf X)) ∧ iv_s I0 L0 D I' L' D := by
  obtain ⟨g1, g2, g3, g4, g5, g6, g7⟩ := hok
  have s2 : iv_s I0 L0 D (am_uI I0 42 2 0) L0 D := iv_s_I (iv_2 I0 0) (fun _ _ _ => rfl)
  have hP2 := iv_P_s hP0 s2.1
  have r1 := am_up (c149 (ext := ext) (d := 0) (I := am_uI I0 42 2 0) L0 D X hP2.2.1 v1) (show 2 ≤ 399 by omega)
  rw [if_pos g1] at r1
  have R := fun (v a b : Int32) => am_up (c117 (ext := ext) (d := 0) (L := L0) (I := am_uI I0 42 2 0) D X v a b) (show 1 ≤ 399 by omega)
  have out : ∀ (k n : Nat) (c : Int32) (I : Nat → Nat → Int32) (L : Nat → Nat → Int64), n + k = 16 → iv_s I0 L0 D I L D → am_wp ext 399 mz_187 (64, [some (.ref 42), some (.int v1), some (.int v2), some (.int v3), some (.int v4), some (.int v5), some (.int c), some (.int (nI n)), none], [], (I, L, D, am_rf X)) (fun r => ∃ I' L', r = (some (.int (dn_out (dt ls (lt_i ls v1)) v2 v3 v4 v5 k n c)), (I', L', D, am_rf X)) ∧ iv_s I0 L0 D I' L' D) := by
    intro k
    induction k with
    | zero =>
      intro n c I L hn hs
      have : n = 16 := by omega
      subst this
      exact w187_64 I L D X v1 v2 v3 v4 v5 c (nI 16) ⟨fun _ => ⟨I, L, rfl, hs⟩, fun z => absurd (by decide) z⟩
    | succ k ih =>
      intro n c I L hn hs
      have n16 : ¬ (16 : Int32) ≤ nI n := fun z => by have := (ni_le (a := 16) (by omega) (by omega)).mp z; omega
      have e1 : nI n + 1 = nI (n + 1) := by rw [show (1 : Int32) = nI 1 from rfl, ni_add (by omega)]
      by_cases h63 : 63 < v2 + nI n
      · refine w187_64 I L D X v1 v2 v3 v4 v5 c (nI n) ⟨fun z => absurd z n16, fun _ => ⟨fun _ => ⟨I, L, ?_, hs⟩, fun z => absurd ((i32_64 _).mpr h63) z⟩⟩
        rw [dn_out, if_pos h63]
      · have hx := sq_add g2 (show n ≤ 20 by omega) h63
        have ed : dn_out (dt ls (lt_i ls v1)) v2 v3 v4 v5 (k + 1) n c = dn_out (dt ls (lt_i ls v1)) v2 v3 v4 v5 k (n + 1) (dn_in (dt ls (lt_i ls v1) (v2 + nI n)) v3 v4 v5 17 0 c) := by rw [dn_out, if_neg h63]
        have inn : ∀ (j i : Nat) (c' : Int32) (I : Nat → Nat → Int32) (L : Nat → Nat → Int64), i + j = 17 → iv_s I0 L0 D I L D → dn_in (dt ls (lt_i ls v1) (v2 + nI n)) v3 v4 v5 17 0 c = dn_in (dt ls (lt_i ls v1) (v2 + nI n)) v3 v4 v5 j i c' → am_wp ext 399 mz_187 (83, [some (.ref 42), some (.int v1), some (.int v2), some (.int v3), some (.int v4), some (.int v5), some (.int c'), some (.int (nI n)), some (.int (nI i))], [], (I, L, D, am_rf X)) (fun r => ∃ I' L', r = (some (.int (dn_out (dt ls (lt_i ls v1)) v2 v3 v4 v5 (k + 1) n c)), (I', L', D, am_rf X)) ∧ iv_s I0 L0 D I' L' D) := by
          intro j
          induction j with
          | zero =>
            intro i c' I L hi hs he
            have : i = 17 := by omega
            subst this
            refine w187_83 I L D X v1 v2 v3 v4 v5 c' (nI n) (nI 17) ⟨fun _ => ?_, fun z => absurd (m_17 g5) z⟩
            rw [e1, ed, he]
            exact ih (n + 1) _ I L (by omega) hs
          | succ j ihj =>
            intro i c' I L hi hs he
            have e2 : nI i + 1 = nI (i + 1) := by rw [show (1 : Int32) = nI 1 from rfl, ni_add (by omega)]
            rw [dn_in_s (k := j)] at he
            refine w187_83 I L D X v1 v2 v3 v4 v5 c' (nI n) (nI i) ⟨fun z => ?_, fun z => ⟨fun y => ?_, fun y => ?_⟩⟩
            · rw [if_pos z] at he
              rw [e1, ed, he]
              exact ih (n + 1) _ I L (by omega) hs
            · rw [if_neg z, if_pos ((i32_64 _).mp y)] at he
              rw [e1, ed, he]
              exact ih (n + 1) _ I L (by omega) hs
            · have y' : ¬ 63 < v3 + nI i := fun q => y ((i32_64 _).mpr q)
              rw [if_neg z, if_neg y'] at he
              have hP := iv_P_s hP0 hs.1
              obtain ⟨I4, L4, r4, s4⟩ := c185 (ext := ext) (L0 := L) D X hP g1 hx (sq_add g3 (show i ≤ 20 by omega) y')
              refine ⟨_, I4, L4, D, am_up r4 (by omega), fun t => ?_, fun t => ?_⟩
              · rw [if_neg t] at he
                rw [e2, show c' + 0 = c' from Int32.add_zero c']
                exact ihj (i + 1) c' I4 L4 (by omega) (iv_s_t hs s4) he
              · rw [if_pos t] at he
                rw [e2]
                exact ihj (i + 1) (c' + 1) I4 L4 (by omega) (iv_s_t hs s4) he
        exact w187_64 I L D X v1 v2 v3 v4 v5 c (nI n) ⟨fun z => absurd z n16, fun _ => ⟨fun z => absurd ((i32_64 _).mp z) h63, fun _ => inn 17 0 c I L rfl hs rfl⟩⟩
  obtain ⟨r, rr, I', L', e, hs⟩ := am_of_wp (ext := ext) (d := 399) (as := [.ref 42, .int v1, .int v2, .int v3, .int v4, .int v5]) mh_187 rfl (w187_0 I0 L0 D X v1 v2 v3 v4 v5 ⟨_, _, L0, D, r1, fun z => absurd z (by decide), fun _ => ⟨_, _, L0, D, R v2 (-64) 63, fun z => absurd (in_0 z) (fun q => q.elim g2.1 g2.2), fun _ => ⟨_, _, L0, D, R v4 1 16, fun z => absurd (in_0 z) (fun q => q.elim g4 g5), fun _ => ⟨_, _, L0, D, R v3 (-64) 63, fun z => absurd (in_0 z) (fun q => q.elim g3.1 g3.2), fun _ => ⟨_, _, L0, D, R v5 0 2, fun _ => out 16 0 0 _ L0 rfl s2, fun z => absurd (in_0 z) (fun q => q.elim g6 g7)⟩⟩⟩⟩⟩)
  rw [e] at rr
  exact ⟨I', L', rr, hs⟩
theorem ow_12 {Cc : iv_C} (hC : iv_ok Cc) : lw_t12 ext (iv Cc) := by
  intro v1 v2 v3 v4 v5 m hm
  obtain ⟨I, L, D, xi, xp, xc, ls, rfl, hT, hP, hc⟩ := hm
  by_cases good : dn_ok ls v1 v2 v3 v4 v5
  · obtain ⟨I1, L1, xp', xc', r1, s1⟩ := c107 (ext := ext) (L0 := L) D xi xc xp hP good
    have hP1 := iv_P_s hP s1.1
    obtain ⟨I2, L2, r2, s2⟩ := c187 (ext := ext) (L0 := L1) D (2, 11, xi, xp', 2, xc') hP1 good
    exact ⟨_, _, _, r1, r2, Or.inl (iv_go hC hT hP hc (iv_s_t s1 s2))⟩
  · have r1 := am_up (c112 (ext := ext) (d := 0) L D xi xp 2 xc hP.1 hP.2.2.2.1 v1) (show 2 ≤ 399 by omega)
    have Q := fun (v : Int32) => am_up (c114 (ext := ext) (d := 0) D (2, 11, xi, xp, 2, xc) (I := I) (L := L) v) (show 1 ≤ 399 by omega)
    have s3 : iv_s I L D (am_uI I 42 2 0) L D := iv_s_I (iv_2 I 0) (fun _ _ _ => rfl)
    have hP3 := iv_P_s hP s3.1
    have rb := am_up (c149 (ext := ext) (d := 0) (I := am_uI I 42 2 0) L D (2, 11, xi, xp, 2, xc) hP3.2.1 v1) (show 2 ≤ 399 by omega)
    have R := fun (v a b : Int32) => am_up (c117 (ext := ext) (d := 0) (L := L) (I := am_uI I 42 2 0) D (2, 11, xi, xp, 2, xc) v a b) (show 1 ≤ 399 by omega)
    have le : v5 ≤ 2 → ¬ 2 < v5 := fun h => by rw [Int32.le_iff_toInt_le] at h; rw [Int32.lt_iff_toInt_lt]; omega
    have k2 : ¬ (if lt_k ls v1 = 2 then nI (lt_i ls v1) else -1) < 0 → lt_k ls v1 = 2 := fun h => by
      by_cases q : lt_k ls v1 = 2
      · exact q
      · rw [if_neg q] at h; exact absurd (by decide) h
    have k3 : ¬ (if lt_k ls v1 = 2 then (1 : Int32) else 0) = 0 → lt_k ls v1 = 2 := fun h => by
      by_cases q : lt_k ls v1 = 2
      · exact q
      · rw [if_neg q] at h; exact absurd rfl h
    refine ⟨-1, _, _, am_rn_of (d := 399) mh_107 rfl (w107_0 I L D xc xi xp 11 2 2 v1 v2 v3 v4 v5 ⟨_, I, L, D, r1, fun _ => rfl, fun z1 => ⟨_, I, L, D, Q v2, fun _ => rfl, fun z2 => ⟨_, I, L, D, Q v3, fun z3 => ⟨fun _ => rfl, fun z4 => ⟨fun _ => rfl, fun z5 => ⟨fun _ => rfl, fun z6 => ⟨fun z7 => absurd ⟨k2 z1, in_1 z2, in_1 z3, z4, z5, z6, le z7⟩ good, fun _ => rfl⟩⟩⟩⟩, fun _ => rfl⟩⟩⟩), am_rn_of (d := 399) mh_187 rfl (w187_0 I L D _ v1 v2 v3 v4 v5 ⟨_, _, L, D, rb, fun _ => rfl, fun z1 => ⟨_, _, L, D, R v2 (-64) 63, fun _ => rfl, fun z2 => ⟨_, _, L, D, R v4 1 16, fun _ => rfl, fun z3 => ⟨_, _, L, D, R v3 (-64) 63, fun _ => rfl, fun z4 => ⟨_, _, L, D, R v5 0 2, fun z5 => absurd ⟨k3 z1, in_1 z2, in_1 z4, (in_1 z3).1, (in_1 z3).2, (in_1 z5).1, (in_1 z5).2⟩ good, fun _ => rfl⟩⟩⟩⟩⟩), Or.inl (iv_go hC hT hP hc s3)⟩
end DOTS
