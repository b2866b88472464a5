/-! ===== the reference asks: nought, whole ===== -/
theorem am_wp_up {ext : Nat → List Value → am_M → Option am_R} {d d' : Nat} {y : am_Y} {c : am_C} {P : am_R → Prop} (h : am_wp ext d y c P) (hd : d ≤ d') : am_wp ext d' y c P := by
  obtain ⟨r, ⟨n0, h1⟩, h2⟩ := h
  refine ⟨r, ⟨n0, fun n f hn hf => ?_⟩, h2⟩
  have up : ∀ j as m r, am_ex am_Ys ext am_SH n d j as m = some r → am_ex am_Ys ext am_SH n d' j as m = some r := by
    intro j as m r
    induction hd with
    | refl => exact id
    | step _ ih => exact fun q => am_ex_up _ _ _ _ _ (ih q)
  exact am_go_up up _ _ _ (h1 n f hn hf)
section MNOUGHTB
variable {ext : Nat → List Value → am_M → Option am_R} {d : Nat} (D : Nat → Nat → UInt64) (X : am_Rf) {J : Nat → Nat → Int32} {w : Nat} {a b : Int64} {T' : tr_T} {E : Int64 → Int64 → ev_R} {Bf lt : Nat} {i j : Int}
theorem mt_n {p : tr_P} {B : Nat} (hw : w ≤ 20) (hd : 6 ≤ d) (hB : Bf + 1 ≤ B) (b1 : 1 ≤ Bf) (hr : no_J J p.1 0 lt (tr_rt T') i j) (h1 : -64 ≤ i) (h2 : i < j) (h3 : j ≤ 64) (GE : ∀ c e, gd2 w c e → me_G ext d D X J w T' (E c e) c e Bf) (gE : ∀ c e, gd2 w c e → gd w (E c e).1) : me_G ext d D X J w (.leaf p) (ev_n w E (sp_l w (Int32.toInt64 (Int32.ofInt i))) (sp_l w (Int32.toInt64 (Int32.ofInt j)))) a b B := by
  have hlr := no_gd hw h1 (show i ≤ j by omega) h3
  have gl := no_gd hw h1 (Int.le_refl i) (by omega)
  have gr := no_gd hw (show -64 ≤ j by omega) (Int.le_refl j) h3
  obtain ⟨hk, j45, j46, j47, hlt, j48, j49, j52⟩ := hr
  have hl : ∀ x : Int32, x = nI w → (Int32.toInt64 (Int32.ofInt i)) <<< ((Int32.toInt64 x) &&& 63) = sp_l w (Int32.toInt64 (Int32.ofInt i)) := fun x hx => by rw [hx]; rfl
  have hh : ∀ x : Int32, x = nI w → (Int32.toInt64 (Int32.ofInt j)) <<< ((Int32.toInt64 x) &&& 63) = sp_l w (Int32.toInt64 (Int32.ofInt j)) := fun x hx => by rw [hx]; rfl
  generalize sp_l w (Int32.toInt64 (Int32.ofInt i)) = l at *
  generalize sp_l w (Int32.toInt64 (Int32.ofInt j)) = r at *
  have hbk : am_inb (nI p.1) 192 = true := ni_inb hk (by omega)
  have ek : (nI p.1).toNatClampNeg = p.1 := ni_nat (by omega)
  have el : (nI lt).toNatClampNeg = lt := ni_nat (by omega)
  have hbl : am_inb (nI lt) 52 = true := ni_inb (by omega) (by omega)
  have le' : ∀ x y : Int64, x ≤ y ↔ ¬ y < x := fun x y => by rw [Int64.le_iff_toInt_le, Int64.lt_iff_toInt_lt]; omega
  have le : (E l l).2 + (E r r).2 + 1 ≤ (ev_n w E l r).2 := by
    unfold ev_n
    split
    · have := ev_nl_u E (sp_sg (E l l).1) (sp_sg (E r r).1) 64 l r ((E l l).2 + (E r r).2)
      simp only; omega
    · exact Nat.le_refl _
  refine ⟨by omega, fun f u I L P hf hJ S hu on ab => ?_⟩
  have hbf : am_inb (nI f) 128 = true := ni_inb (by omega) (by omega)
  have ef : (nI f).toNatClampNeg = f := ni_nat (by omega)
  -- one call of nought at a step
  have row : ∀ {s : Nat} {I : Nat → Nat → Int32}, me_J J I → me_1 I f s 47 p.1 = nI lt ∧ me_1 I f s 52 lt = nI (tr_rt T') ∧ me_1 I f s 48 p.1 = Int32.ofInt i ∧ me_1 I f s 49 p.1 = Int32.ofInt j := by
    intro s I hJ
    refine ⟨?_, ?_, ?_, ?_⟩
    · rw [me_1_at (by omega), hJ 47 p.1 (by omega) (by omega)]; exact j47
    · rw [me_1_at (by omega), hJ 52 lt (by omega) (by omega)]; exact j52
    · rw [me_1_at (by omega), hJ 48 p.1 (by omega) (by omega)]; exact j48
    · rw [me_1_at (by omega), hJ 49 p.1 (by omega) (by omega)]; exact j49
  have g161 : ∀ {s u' : Nat} {I I' : Nat → Nat → Int32} {L L' : Nat → Nat → Int64}, s < 1000 → me_S w u' f p.1 s a b I L → me_J J I → am_Rn ext 4 167 [.ref 42, .int (nI f), .int (nI p.1), .int (nI s)] (me_1 I f s, L, D, am_rf X) (none, (I', L', D, am_rf X)) → am_Rn ext d 161 [.ref 42, .int (nI f)] (I, L, D, am_rf X) (none, (I', L', D, am_rf X)) := by
    intro s u' I I' L L' hs S hJ q
    refine am_up (c161_15 (ext := ext) (d := 4) D X (mt_Q (by omega) hk hs S hJ j45) (show (0 : Nat) ≤ 3 by omega) ((hJ 46 p.1 (by omega) (by omega)).trans j46) ?_) (by omega)
    rw [if_pos rfl]
    exact q
  have S1 := me_1_S S
  obtain ⟨I2, L2, q2, Ca⟩ := c150 (ext := ext) (d := 2) D X (I := me_1 I f 0) (L := L) S1.1 (by omega) S1.2.2.1 hu (nI (tr_rt T')) l l
  have r1 : am_Rn ext 4 167 [.ref 42, .int (nI f), .int (nI p.1), .int (nI 0)] (me_1 I f 0, L, D, am_rf X) (none, (I2, L2, D, am_rf X)) := by
    obtain ⟨e1, e2, e3, e4⟩ := row (s := 0) hJ
    refine am_rn_of mh_167 rfl (w167_0 _ L D X (nI f) (nI p.1) (nI 0) ?_)
    rw [ef, ek, e1, el, e2, e3, hl _ S1.2.1]
    exact ⟨hbk, hbl, hbk, hbk, fun z => absurd rfl z, fun _ => ⟨I2, L2, D, q2, rfl⟩⟩
  refine me_par (ext := ext) D X S hu (g161 (by omega) S hJ r1) S1 (me_1_fr f 0 I L) (GE l l gl) (by omega) hJ Ca (fun h I3 L3 F S3 V3 => ?_) (fun h I3 L3 F h49 => ab (by omega) I3 L3 F h49)
  have F3 := me_fr_t (me_1_fr f 0 I L) F (by omega)
  have hJ3 := me_J_fr hJ F3
  have S4 := me_1_S S3
  have V4 := me_v_1 (f := f) (s := 1) V3
  obtain ⟨I5, L5, r5, K5⟩ := c160 (ext := ext) (d := 2) D X (I := me_1 I3 f 1) (L := L3) (show f < 128 by omega) (me_v01 V4)
  have S5 := me_K_S S4 K5
  have F5 := me_fr_t (me_1_fr f 1 I3 L3) (me_K_fr K5) (Nat.le_refl _)
  obtain ⟨I6, L6, q6, Cb⟩ := c150 (ext := ext) (d := 2) D X (I := I5) (L := L5) S5.1 (by omega) S5.2.2.1 h (nI (tr_rt T')) r r
  have r6 : am_Rn ext 4 167 [.ref 42, .int (nI f), .int (nI p.1), .int (nI 1)] (me_1 I3 f 1, L3, D, am_rf X) (none, (I6, L6, D, am_rf X)) := by
    obtain ⟨e1, e2, e3, e4⟩ := row (s := 1) hJ3
    refine am_rn_of mh_167 rfl (w167_0 _ L3 D X (nI f) (nI p.1) (nI 1) ?_)
    rw [ef, ek, e1, el, e2, e4, hh _ S4.2.1]
    exact ⟨hbk, hbl, hbk, hbk, fun _ => ⟨fun z => absurd rfl z, fun _ => ⟨I5, L5, D, r5, I6, L6, D, q6, rfl⟩⟩, fun z => absurd z (by decide)⟩
  refine me_par (ext := ext) D X S3 h (g161 (by omega) S3 hJ3 r6) S5 F5 (GE r r gr) (by omega) hJ3 Cb (fun h' I7 L7 F7 S7 V7 => ?_) (fun h' I7 L7 F7 h49 => ab (by omega) I7 L7 (me_fr_t F3 F7 (by omega)) h49)
  have F8 := me_fr_t F3 (me_fr_t F5 F7 (by omega)) (by omega)
  have hJ7 := me_J_fr hJ F8
  have S8 := me_1_S S7
  have V8 := me_v_1 (f := f) (s := 2) V7
  have gx := gE l l gl
  have gy := gE r r gr
  have er : ev_n w E l r = if sp_sg (E l l).1 * sp_sg (E r r).1 = -1 then (sp_k w (ev_nl E (sp_sg (E l l).1) (sp_sg (E r r).1) 64 l r ((E l l).2 + (E r r).2)).1 (ev_nl E (sp_sg (E l l).1) (sp_sg (E r r).1) 64 l r ((E l l).2 + (E r r).2)).2.1, (ev_nl E (sp_sg (E l l).1) (sp_sg (E r r).1) 64 l r ((E l l).2 + (E r r).2)).2.2 + 1) else (none, (E l l).2 + (E r r).2 + 1) := rfl
  rw [er] at on ab
  clear er le
  generalize hx : E l l = x at *
  generalize hy : E r r = y at *
  rw [show u + 1 + x.2 + y.2 = u + (x.2 + y.2 + 1) by omega] at S7 h'
  have e65 : me_1 I7 f 2 65 f = if x.1 = none then 0 else 1 := by rw [me_1_at (by omega), F7.1 65 f (by omega) (by omega), K5.1]; exact V4.1
  have e63 : ∀ q, x.1 = some q → L7 63 f = q.1 ∧ L7 64 f = q.2 := fun q hq => by rw [F7.2 63 f (by omega) (by omega), F7.2 64 f (by omega) (by omega), K5.2.1, K5.2.2.1]; exact V4.2 q hq
  have F9 := me_fr_t F8 (me_1_fr f 2 I7 L7) (Nat.le_refl _)
  have sx := fun q hq => sg_i (w := w) (q := q) (gx q hq)
  have sy := fun q hq => sg_i (w := w) (q := q) (gy q hq)
  -- from 166 on
  have to166 : ∀ (I' : Nat → Nat → Int32) (L' : Nat → Nat → Int64), am_wp ext 3 mz_167 (166, [some (.ref 42), some (.int (nI f)), none, none, some (.int (nI (tr_rt T'))), some (.long l), none, some (.long r), none, some (.int (if sp_sg x.1 = -1 ∧ sp_sg y.1 = 1 then 1 else 0)), none, none], [.int (if sp_sg x.1 = 1 ∧ sp_sg y.1 = -1 then 1 else 0)], (me_1 I7 f 2, L7, D, am_rf X)) (fun q => q = (none, (I', L', D, am_rf X))) → am_Rn ext d 161 [.ref 42, .int (nI f)] (I7, L7, D, am_rf X) (none, (I', L', D, am_rf X)) := by
    intro I' L' W
    have to123 : am_wp ext 3 mz_167 (123, [some (.ref 42), some (.int (nI f)), none, none, some (.int (nI (tr_rt T'))), some (.long l), none, some (.long r), none, none, none, none], [.int (if sp_sg x.1 = -1 ∧ sp_sg y.1 = 1 then 1 else 0)], (me_1 I7 f 2, L7, D, am_rf X)) (fun q => q = (none, (I', L', D, am_rf X))) := by
      have n166 : ¬ (sp_sg x.1 = 1 ∧ sp_sg y.1 = -1) → am_wp ext 3 mz_167 (165, [some (.ref 42), some (.int (nI f)), none, none, some (.int (nI (tr_rt T'))), some (.long l), none, some (.long r), none, some (.int (if sp_sg x.1 = -1 ∧ sp_sg y.1 = 1 then 1 else 0)), none, none], [], (me_1 I7 f 2, L7, D, am_rf X)) (fun q => q = (none, (I', L', D, am_rf X))) := by
        intro hn
        rw [if_neg hn] at W
        exact w167_165 _ L7 D X (nI f) (nI (tr_rt T')) l r _ W
      refine w167_123 _ L7 D X (nI f) (nI (tr_rt T')) l r _ ?_
      rw [ef]
      refine ⟨hbf, fun z => n166 ?_, fun z => ⟨fun y0 => n166 ?_, fun y0 => ⟨hbf, fun t => n166 ?_, fun t => ⟨fun v => n166 ?_, fun v => ?_⟩⟩⟩⟩
      · cases ex : x.1 with
        | none => exact fun q => absurd q.1 (by decide)
        | some q => rw [e65, ex, if_neg (by intro q; cases q)] at z; exact absurd z (by decide)
      · cases ey : y.1 with
        | none => exact fun q => absurd q.2 (by decide)
        | some q => rw [ey] at V8; rw [(me_v1 V8).1] at y0; exact absurd y0 (by decide)
      · cases ex : x.1 with
        | none => exact fun q => absurd q.1 (by decide)
        | some q => rw [(e63 q ex).1] at t; exact fun c => (le' _ _).mp t ((sx q ex).2.mp c.1)
      · cases ey : y.1 with
        | none => exact fun q => absurd q.2 (by decide)
        | some q => rw [ey] at V8; rw [(me_v1 V8).2.2] at v; exact fun c => (le' _ _).mp v ((sy q ey).1.mp c.2)
      · have hc : sp_sg x.1 = 1 ∧ sp_sg y.1 = -1 := by
          cases ex : x.1 with
          | none => rw [e65, if_pos ex] at z; exact absurd rfl z
          | some q =>
            cases ey : y.1 with
            | none => rw [ey] at V8; exact absurd (me_v0 V8) y0
            | some s =>
              rw [ey] at V8
              rw [(e63 q ex).1, le', Decidable.not_not] at t
              rw [(me_v1 V8).2.2, le', Decidable.not_not] at v
              exact ⟨(sx q ex).2.mpr t, (sy s ey).1.mpr v⟩
        rw [if_pos hc] at W
        exact W
    have n123 : ¬ (sp_sg x.1 = -1 ∧ sp_sg y.1 = 1) → am_wp ext 3 mz_167 (122, [some (.ref 42), some (.int (nI f)), none, none, some (.int (nI (tr_rt T'))), some (.long l), none, some (.long r), none, none, none, none], [], (me_1 I7 f 2, L7, D, am_rf X)) (fun q => q = (none, (I', L', D, am_rf X))) := by
      intro hn
      rw [if_neg hn] at to123
      exact w167_122 _ L7 D X (nI f) (nI (tr_rt T')) l r to123
    obtain ⟨e1, e2, e3, e4⟩ := row (s := 2) hJ7
    refine g161 (by omega) S7 hJ7 (am_rn_of mh_167 rfl (w167_0 _ L7 D X (nI f) (nI p.1) (nI 2) ?_))
    rw [ef, ek, e1, el, e2, e3, e4, hl _ S8.2.1, hh _ S8.2.1]
    refine ⟨hbk, hbl, hbk, hbk, fun _ => ⟨fun _ => ⟨fun z => absurd rfl z, fun _ => ⟨hbf, fun z => n123 ?_, fun z => ⟨fun y0 => n123 ?_, fun y0 => ⟨hbf, fun t => n123 ?_, fun t => ⟨fun v => n123 ?_, fun v => ?_⟩⟩⟩⟩⟩, fun z => absurd z (by decide)⟩, fun z => absurd z (by decide)⟩
    · cases ex : x.1 with
      | none => exact fun q => absurd q.1 (by decide)
      | some q => rw [e65, ex, if_neg (by intro q; cases q)] at z; exact absurd z (by decide)
    · cases ey : y.1 with
      | none => exact fun q => absurd q.2 (by decide)
      | some q => rw [ey] at V8; rw [(me_v1 V8).1] at y0; exact absurd y0 (by decide)
    · cases ex : x.1 with
      | none => exact fun q => absurd q.1 (by decide)
      | some q => rw [(e63 q ex).2] at t; exact fun c => (le' _ _).mp t ((sx q ex).1.mp c.1)
    · cases ey : y.1 with
      | none => exact fun q => absurd q.2 (by decide)
      | some q => rw [ey] at V8; rw [(me_v1 V8).2.1] at v; exact fun c => (le' _ _).mp v ((sy q ey).2.mp c.2)
    · have hc : sp_sg x.1 = -1 ∧ sp_sg y.1 = 1 := by
        cases ex : x.1 with
        | none => rw [e65, if_pos ex] at z; exact absurd rfl z
        | some q =>
          cases ey : y.1 with
          | none => rw [ey] at V8; exact absurd (me_v0 V8) y0
          | some s =>
            rw [ey] at V8
            rw [(e63 q ex).2, le', Decidable.not_not] at t
            rw [(me_v1 V8).2.1, le', Decidable.not_not] at v
            exact ⟨(sx q ex).1.mpr t, (sy s ey).2.mpr v⟩
      rw [if_pos hc] at to123
      exact to123
  by_cases hpr : sp_sg x.1 * sp_sg y.1 = -1
  · rw [if_pos hpr] at on ab
    have hff : (sp_sg x.1 = -1 ∧ sp_sg y.1 = 1) ∨ (sp_sg x.1 = 1 ∧ sp_sg y.1 = -1) := by
      obtain ⟨n1, n2, n3⟩ := sp_sg_x hpr
      rcases sp_sg_3 x.1 with c1 | c1 | c1
      · rcases sp_sg_3 y.1 with c2 | c2 | c2
        · exact absurd (c1.trans c2.symm) n3
        · exact absurd c2 n2
        · exact Or.inl ⟨c1, c2⟩
      · exact absurd c1 n1
      · rcases sp_sg_3 y.1 with c2 | c2 | c2
        · exact Or.inr ⟨c1, c2⟩
        · exact absurd c2 n2
        · exact absurd (c1.trans c2.symm) n3
    have hfl : no_f (sp_sg x.1) (sp_sg y.1) (if sp_sg x.1 = -1 ∧ sp_sg y.1 = 1 then 1 else 0) := by
      rcases hff with c | c
      · exact Or.inl ⟨c.1, c.2, if_pos c⟩
      · exact Or.inr ⟨c.1, c.2, if_neg (by rw [c.1]; exact fun q => absurd q.1 (by decide))⟩
    have h01 : (if sp_sg x.1 = -1 ∧ sp_sg y.1 = 1 then (1 : Int32) else 0) = 0 ∨ (if sp_sg x.1 = -1 ∧ sp_sg y.1 = 1 then (1 : Int32) else 0) = 1 := by
      split
      · exact Or.inr rfl
      · exact Or.inl rfl
    have hb := gd_b hw hlr
    have big : (2 : Int) ^ 64 = 18446744073709551616 := by decide
    obtain ⟨Ia, La, W, hq⟩ := mt_nl (ext := ext) (P := P) (u := u) (I0 := I) (L0 := L) (a := a) (b := b) D X hw hd (show f + 1 + Bf ≤ 128 by omega) b1 ⟨hk, j45, j46, j47, hlt, j48, j49, j52⟩ GE gE hfl 64 l r (x.2 + y.2) 3 (am_uI (me_1 I7 f 2) 68 f (if sp_sg x.1 = -1 ∧ sp_sg y.1 = 1 then 1 else 0)) (am_uL (am_uL L7 63 f l) 64 f r) hlr (by omega)
      (me_S_u (me_1_S S7) (fun p q hp => by rw [am_uI_at, if_neg (by omega)]) (fun p q hp => by rw [am_uL_at, if_neg (by omega), am_uL_at, if_neg (by omega)])) h' (fun p q g1 g2 => by rw [am_uI_at, if_neg (by omega), me_1_at (by omega)]; exact hJ7 p q g1 g2) (me_fr_t F9 ⟨fun p q g1 g2 => by rw [am_uI_at, if_neg (by omega)], fun p q g1 g2 => by rw [am_uL_at, if_neg (by omega), am_uL_at, if_neg (by omega)]⟩ (Nat.le_refl _)) (by rw [am_uL_at, if_neg (by omega), am_uL_at, if_pos ⟨rfl, rfl⟩]) (by rw [am_uL_at, if_pos ⟨rfl, rfl⟩]) (by rw [am_uI_at, if_pos ⟨rfl, rfl⟩]) on ab
    have W183 : am_wp ext 3 mz_167 (183, [some (.ref 42), some (.int (nI f)), none, none, some (.int (nI (tr_rt T'))), some (.long l), none, some (.long r), none, some (.int (if sp_sg x.1 = -1 ∧ sp_sg y.1 = 1 then 1 else 0)), none, none], [], (me_1 I7 f 2, L7, D, am_rf X)) (fun q => q = (none, (Ia, La, D, am_rf X))) := by
      refine w167_183 _ L7 D X (nI f) (nI (tr_rt T')) l r _ ?_
      rw [ef]
      exact ⟨hbf, hbf, hbf, h01, am_wp_up W (by omega)⟩
    refine me_step (ext := ext) D X S7.1 (by omega) S7.2.2.1 h' (to166 Ia La (w167_166 _ L7 D X (nI f) (nI (tr_rt T')) l r _ _ ⟨fun _ => W183, fun z => ⟨fun _ => W183, fun t => ?_⟩⟩)) hq
    rcases hff with c | c
    · rw [if_pos c] at z; exact absurd z (by decide)
    · rw [if_pos c] at t; exact absurd t (by decide)
  · rw [if_neg hpr] at on ab
    obtain ⟨Ia, La, qa, Va⟩ := c152 (ext := ext) (d := 1) D X (I := me_1 I7 f 2) (L := L7) S8.1 (by omega)
    have n1 : ¬ (sp_sg x.1 = -1 ∧ sp_sg y.1 = 1) := fun c => hpr (by rw [c.1, c.2]; decide)
    have n2 : ¬ (sp_sg x.1 = 1 ∧ sp_sg y.1 = -1) := fun c => hpr (by rw [c.1, c.2]; decide)
    refine me_val (ext := ext) D X rfl S7 (by omega) h' (to166 Ia La (w167_166 _ L7 D X (nI f) (nI (tr_rt T')) l r _ _ ⟨fun z => absurd (if_neg n1) z, fun _ => ⟨fun z => absurd (if_neg n2) z, fun _ => ⟨Ia, La, D, qa, rfl⟩⟩⟩)) Va F8 on
end MNOUGHTB
