/-! ===== the reference asks: nought ===== -/
theorem me_S_u {w u f k s : Nat} {a b : Int64} {I I' : Nat → Nat → Int32} {L L' : Nat → Nat → Int64} (h : me_S w u f k s a b I L) (hI : ∀ p q, p = 42 ∨ p = 59 ∨ p = 60 → I' p q = I p q) (hL : ∀ p q, p = 61 ∨ p = 62 → L' p q = L p q) : me_S w u f k s a b I' L' :=
  ⟨(hI _ _ (by omega)).trans h.1, (hI _ _ (by omega)).trans h.2.1, (hI _ _ (by omega)).trans h.2.2.1, (hI _ _ (by omega)).trans h.2.2.2.1, (hI _ _ (by omega)).trans h.2.2.2.2.1, (hL _ _ (by omega)).trans h.2.2.2.2.2.1, (hL _ _ (by omega)).trans h.2.2.2.2.2.2⟩
/-- which sign is left, which right; whether it rises -/
def no_f (s1 s2 fl : Int32) : Prop := (s1 = -1 ∧ s2 = 1 ∧ fl = 1) ∨ (s1 = 1 ∧ s2 = -1 ∧ fl = 0)
theorem sg_i {w : Nat} {q : Int64 × Int64} (h : gd2 w q.1 q.2) : (sp_sg (some q) = -1 ↔ q.2 < 0) ∧ (sp_sg (some q) = 1 ↔ 0 < q.1) := by
  have z : (0 : Int64).toInt = 0 := rfl
  have h1 := h.1
  show ((if q.2 < 0 then (-1 : Int32) else if 0 < q.1 then 1 else 0) = -1 ↔ _) ∧ ((if q.2 < 0 then (-1 : Int32) else if 0 < q.1 then 1 else 0) = 1 ↔ _)
  by_cases h2 : q.2 < 0
  · rw [if_pos h2]
    refine ⟨⟨fun _ => h2, fun _ => rfl⟩, ⟨fun x => absurd x (by decide), fun x => ?_⟩⟩
    rw [Int64.lt_iff_toInt_lt] at h2 x
    omega
  · rw [if_neg h2]
    by_cases h3 : 0 < q.1
    · rw [if_pos h3]
      exact ⟨⟨fun x => absurd x (by decide), fun x => absurd x h2⟩, ⟨fun _ => h3, fun _ => rfl⟩⟩
    · rw [if_neg h3]
      exact ⟨⟨fun x => absurd x (by decide), fun x => absurd x h2⟩, ⟨fun x => absurd x (by decide), fun x => absurd x h3⟩⟩
section MNOUGHT
variable {ext : Nat → List Value → am_M → Option am_R} {d : Nat} (D : Nat → Nat → UInt64) (X : am_Rf) {J : Nat → Nat → Int32} {w : Nat} {a b : Int64} {T' : tr_T} {E : Int64 → Int64 → ev_R} {Bf k lt : Nat} {i j : Int}
/-- what stands in the knot's row -/
def no_J (J : Nat → Nat → Int32) (k x lt rt : Nat) (i j : Int) : Prop := k < 192 ∧ J 45 k = nI 15 ∧ J 46 k = nI x ∧ J 47 k = nI lt ∧ lt < 26 ∧ J 48 k = Int32.ofInt i ∧ J 49 k = Int32.ofInt j ∧ J 52 lt = nI rt
theorem mt_nl {P : am_R → Prop} {f u : Nat} {I0 : Nat → Nat → Int32} {L0 : Nat → Nat → Int64} {s1 s2 fl : Int32} (hw : w ≤ 20) (hd : 6 ≤ d) (hf : f + 1 + Bf ≤ 128) (b1 : 1 ≤ Bf) (hr : no_J J k 0 lt (tr_rt T') i j) (GE : ∀ c e, gd2 w c e → me_G ext d D X J w T' (E c e) c e Bf) (gE : ∀ c e, gd2 w c e → gd w (E c e).1) (hs : no_f s1 s2 fl) : ∀ (m : Nat) (l r : Int64) (u0 s : Nat) (I : Nat → Nat → Int32) (L : Nat → Nat → Int64), gd2 w l r → r.toInt - l.toInt ≤ 2 ^ m → me_S w (u + (u0 + 1)) f k s a b I L → u + (u0 + 1) ≤ 20000 → me_J J I → me_fr f I0 L0 I L → L 63 f = l → L 64 f = r → I 68 f = fl →
    (u + ((ev_nl E s1 s2 m l r u0).2.2 + 1) ≤ 20000 → ∀ I' L', me_fr f I0 L0 I' L' → I' 42 47 = nI f → I' 42 49 = nI (u + ((ev_nl E s1 s2 m l r u0).2.2 + 1)) → me_v (sp_k w (ev_nl E s1 s2 m l r u0).1 (ev_nl E s1 s2 m l r u0).2.1) I' L' → me_hd ext d D X I' L' P) →
    (20000 < u + ((ev_nl E s1 s2 m l r u0).2.2 + 1) → ∀ I' L', me_fr f I0 L0 I' L' → I' 42 49 = nI 20001 → me_hd ext d D X I' L' P) →
    ∃ I2 L2, am_wp ext 2 mz_167 (319, [some (.ref 42), some (.int (nI f)), none, none, some (.int (nI (tr_rt T'))), none, none, none, none, none, none, none], [], (I, L, D, am_rf X)) (fun q => q = (none, (I2, L2, D, am_rf X))) ∧ me_hd ext d D X I2 L2 P := by
  obtain ⟨hk, j45, j46, j47, hlt, j48, j49, j52⟩ := hr
  have hbf : am_inb (nI f) 128 = true := ni_inb (by omega) (by omega)
  have ef : (nI f).toNatClampNeg = f := ni_nat (by omega)
  have hbk : am_inb (nI k) 192 = true := ni_inb hk (by omega)
  have ek : (nI k).toNatClampNeg = k := ni_nat (by omega)
  have el : (nI lt).toNatClampNeg = lt := ni_nat (by omega)
  have one : (1 : Int64).toInt = 1 := rfl
  have z0 : (0 : Int64).toInt = 0 := rfl
  have hs12 : ¬ s1 = s2 := by
    rcases hs with ⟨x1, x2, _⟩ | ⟨x1, x2, _⟩ <;> rw [x1, x2] <;> decide
  -- it ends here
  have fin : ∀ (l r : Int64) (u0 s : Nat) (I : Nat → Nat → Int32) (L : Nat → Nat → Int64), ¬ 1 < r - l → me_S w (u + (u0 + 1)) f k s a b I L → u + (u0 + 1) ≤ 20000 → me_fr f I0 L0 I L → L 63 f = l → L 64 f = r → (u + (u0 + 1) ≤ 20000 → ∀ I' L', me_fr f I0 L0 I' L' → I' 42 47 = nI f → I' 42 49 = nI (u + (u0 + 1)) → me_v (sp_k w l r) I' L' → me_hd ext d D X I' L' P) → ∃ I2 L2, am_wp ext 2 mz_167 (319, [some (.ref 42), some (.int (nI f)), none, none, some (.int (nI (tr_rt T'))), none, none, none, none, none, none, none], [], (I, L, D, am_rf X)) (fun q => q = (none, (I2, L2, D, am_rf X))) ∧ me_hd ext d D X I2 L2 P := by
    intro l r u0 s I L hle S hu F h63 h64 on
    have S1 := me_u_S (n := 3) S
    obtain ⟨I2, L2, q, V⟩ := c151_1 (ext := ext) (d := 1) D X (I := am_uI I 60 f (nI 3)) (L := L) S1.1 (by omega) S1.2.1 l r
    refine ⟨I2, L2, w167_319 I L D X (nI f) (nI (tr_rt T')) ?_, on hu I2 L2 (me_fr_t (me_fr_t F (me_u_fr f 3 I L) (Nat.le_refl _)) (me_V_fr V) (Nat.le_refl _)) V.1 ?_ V.2.1⟩
    · rw [ef, h63, h64]
      exact ⟨hbf, hbf, hbf, fun z => absurd z hle, fun _ => ⟨hbf, hbf, I2, L2, D, q, rfl⟩⟩
    · rw [V.2.2.1 42 49 (by omega)]
      exact S1.2.2.1
  intro m
  induction m with
  | zero =>
    intro l r u0 s I L hg hrg S hu hJ F h63 h64 h68 on ab
    have hb := gd_b hw hg
    exact fin l r u0 s I L (fun z => by
      rw [Int64.lt_iff_toInt_lt, i64_sub (by omega) (by omega), one] at z
      have : (2 : Int) ^ 0 = 1 := rfl
      omega) S hu F h63 h64 on
  | succ m ih =>
    intro l r u0 s I L hg hrg S hu hJ F h63 h64 h68 on ab
    have hb := gd_b hw hg
    have erl : (r - l).toInt = r.toInt - l.toInt := i64_sub (by omega) (by omega)
    have le : ∀ x y : Int64, x ≤ y ↔ ¬ y < x := fun x y => by rw [Int64.le_iff_toInt_le, Int64.lt_iff_toInt_lt]; omega
    by_cases hle : r - l ≤ 1
    · have er : ev_nl E s1 s2 (m + 1) l r u0 = (l, r, u0) := by rw [ev_nl, if_pos hle]
      rw [er] at on
      exact fin l r u0 s I L ((le _ _).mp hle) S hu F h63 h64 on
    · obtain ⟨m1, m2⟩ := mid_i hw hg
      have emid : ((l + r) >>> sp_sh 1).toInt = (l.toInt + r.toInt) / 2 := by rw [sh_r _ (by omega), i64_add (by omega) (by omega)]; rfl
      have S1 := me_u_S (n := 3) S
      have F1 := me_u_fr f 3 I L
      have lt1 : 1 < r - l := by
        by_cases q : 1 < r - l
        · exact q
        · exact absurd ((le _ _).mpr q) hle
      have gm : gd2 w ((l + r) >>> sp_sh 1) ((l + r) >>> sp_sh 1) := ⟨Int.le_refl _, by have := hg.2.1; omega, by have := hg.2.2; omega⟩
      obtain ⟨I2, L2, q2, Cc⟩ := c150 (ext := ext) (d := 1) D X (I := am_uI I 60 f (nI 3)) (L := L) S1.1 (by omega) S1.2.2.1 hu (nI (tr_rt T')) ((l + r) >>> sp_sh 1) ((l + r) >>> sp_sh 1)
      have ld := ev_nl_u E s1 s2
      have er : ev_nl E s1 s2 (m + 1) l r u0 = if sp_sg (E ((l + r) >>> sp_sh 1) ((l + r) >>> sp_sh 1)).1 = 0 then (l, r, u0 + (E ((l + r) >>> sp_sh 1) ((l + r) >>> sp_sh 1)).2) else ev_nl E s1 s2 m (if sp_sg (E ((l + r) >>> sp_sh 1) ((l + r) >>> sp_sh 1)).1 = s1 then (l + r) >>> sp_sh 1 else l) (if sp_sg (E ((l + r) >>> sp_sh 1) ((l + r) >>> sp_sh 1)).1 = s2 then (l + r) >>> sp_sh 1 else r) (u0 + (E ((l + r) >>> sp_sh 1) ((l + r) >>> sp_sh 1)).2) := by rw [ev_nl, if_neg hle]
      have GM := GE _ _ gm
      have gM := gE _ _ gm
      rw [er] at on ab
      clear er
      refine ⟨I2, L2, w167_319 I L D X (nI f) (nI (tr_rt T')) ?_, ?_⟩
      · rw [ef, h63, h64]
        exact ⟨hbf, hbf, hbf, fun _ => ⟨hbf, hbf, hbf, hbf, I2, L2, D, q2, rfl⟩, fun z => absurd lt1 z⟩
      · generalize hM : (l + r) >>> sp_sh 1 = M at *
        generalize hx : E M M = x at *
        refine me_sub (ext := ext) D X GM hf (me_J_fr hJ F1) S1 hu Cc (fun h I3 L3 F3 S3 V3 => ?_) (fun h I3 L3 F3 h49 => ab (by
          split
          · simp only; omega
          · have := ld m (if sp_sg x.1 = s1 then M else l) (if sp_sg x.1 = s2 then M else r) (u0 + x.2)
            omega) I3 L3 (me_fr_t F (me_fr_t F1 F3 (by omega)) (Nat.le_refl _)) h49)
        rw [show u + (u0 + 1) + x.2 = u + (u0 + x.2 + 1) by omega] at S3 h
        have F4 := me_fr_t F (me_fr_t F1 F3 (by omega)) (Nat.le_refl _)
        have hJ3 := me_J_fr hJ (me_fr_t F1 F3 (by omega))
        have S4 := me_1_S S3
        have V4 := me_v_1 (f := f) (s := 3) V3
        have g63 : L3 63 f = l := by rw [F3.2 63 f (by omega) (by omega)]; exact h63
        have g64 : L3 64 f = r := by rw [F3.2 64 f (by omega) (by omega)]; exact h64
        have g68 : me_1 I3 f 3 68 f = fl := by rw [me_1_at (by omega), F3.1 68 f (by omega) (by omega), am_uI_at, if_neg (by omega)]; exact h68
        have F5 := me_fr_t F4 (me_1_fr f 3 I3 L3) (Nat.le_refl _)
        -- goesOn, given nought's walk at 248
        have go : ∀ (be : Int32) (I5 : Nat → Nat → Int32) (L5 : Nat → Nat → Int64), (be = if sp_sg x.1 = -1 then 1 else 0) → am_wp ext 2 mz_167 (248, [some (.ref 42), some (.int (nI f)), none, none, some (.int (nI (tr_rt T'))), none, none, none, none, some (.long M), none, none], [.int be], (me_1 I3 f 3, L3, D, am_rf X)) (fun q => q = (none, (I5, L5, D, am_rf X))) → am_Rn ext d 161 [.ref 42, .int (nI f)] (I3, L3, D, am_rf X) (none, (I5, L5, D, am_rf X)) := by
          intro be I5 L5 hbe W
          refine am_up (c161_15 (ext := ext) (d := 3) D X (mt_Q (by omega) hk (by omega) S3 hJ3 j45) (show (0 : Nat) ≤ 3 by omega) ((hJ3 46 k (by omega) (by omega)).trans j46) ?_) (by omega)
          rw [if_pos rfl]
          refine am_rn_of mh_167 rfl (w167_0 _ L3 D X (nI f) (nI k) (nI 3) ?_)
          rw [ef, ek, me_1_at (p := 47) (q := k) (by omega), hJ3 47 k (by omega) (by omega), j47, el, me_1_at (p := 52) (q := lt) (by omega), hJ3 52 lt (by omega) (by omega), j52, g63, g64, show ((l + r) >>> ((Int32.toInt64 1) &&& 63)) = M from hM]
          refine ⟨hbk, ni_inb (by omega) (by omega), hbk, hbk, fun _ => ⟨fun _ => ⟨fun _ => ⟨hbf, hbf, fun z => ?_, fun z => ⟨fun y => ?_, fun y => ?_⟩⟩, fun z => absurd z (by decide)⟩, fun z => absurd z (by decide)⟩, fun z => absurd z (by decide)⟩
          · cases ex : x.1 with
            | none =>
              rw [ex, if_neg (by decide)] at hbe
              subst hbe
              exact w167_247 _ L3 D X (nI f) (nI (tr_rt T')) M W
            | some q =>
              rw [ex] at V4
              rw [(me_v1 V4).1] at z
              exact absurd z (by decide)
          · cases ex : x.1 with
            | none => rw [ex] at V4; exact absurd (me_v0 V4) z
            | some q =>
              rw [ex] at V4 hbe
              rw [(me_v1 V4).2.2] at y
              rw [if_neg (fun q1 => (le _ _).mp y ((sg_i (gM q ex)).1.mp q1))] at hbe
              subst hbe
              exact w167_247 _ L3 D X (nI f) (nI (tr_rt T')) M W
          · cases ex : x.1 with
            | none => rw [ex] at V4; exact absurd (me_v0 V4) z
            | some q =>
              rw [ex] at V4 hbe
              rw [(me_v1 V4).2.2, le, Decidable.not_not] at y
              rw [if_pos ((sg_i (gM q ex)).1.mpr y)] at hbe
              subst hbe
              exact W
        by_cases hsg : sp_sg x.1 = 0
        · rw [if_pos hsg] at on
          obtain ⟨I5, L5, q5, V5⟩ := c151_1 (ext := ext) (d := 1) D X (I := me_1 I3 f 3) (L := L3) S4.1 (by omega) S4.2.1 l r
          have hbe : (0 : Int32) = if sp_sg x.1 = -1 then 1 else 0 := by rw [if_neg (by rw [hsg]; decide)]
          have rr := go 0 I5 L5 hbe (w167_248 _ L3 D X (nI f) (nI (tr_rt T')) M 0 (by
            rw [ef, g63, g64]
            refine ⟨fun z => absurd rfl z, fun _ => ⟨fun _ => ⟨hbf, hbf, I5, L5, D, q5, rfl⟩, fun z => ⟨fun y => ?_, fun _ => ⟨hbf, hbf, I5, L5, D, q5, rfl⟩⟩⟩⟩
            cases ex : x.1 with
            | none => rw [ex] at V4; exact absurd (me_v0 V4) z
            | some q =>
              rw [ex] at V4 hsg
              rw [(me_v1 V4).2.1] at y
              rw [(sg_i (gM q ex)).2.mpr y] at hsg
              exact absurd hsg (by decide)))
          exact me_val (ext := ext) D X (r := (sp_k w l r, u0 + x.2 + 1)) rfl S3 (by omega) h rr V5 F4 on
        · rw [if_neg hsg] at on ab
          -- the new ends
          have hex : ∃ q, x.1 = some q := by
            cases ex : x.1 with
            | none => rw [ex] at hsg; exact absurd rfl hsg
            | some q => exact ⟨q, rfl⟩
          obtain ⟨q, ex⟩ := hex
          have sgq := sg_i (gM q ex)
          rw [← ex] at sgq
          have V4' := V4
          rw [ex] at V4'
          obtain ⟨v0, v1, v2⟩ := me_v1 V4'
          have pw : (2 : Int) ^ (m + 1) = 2 ^ m * 2 := Int.pow_succ ..
          -- the walk from 248 to 289
          have to289 : ∀ (I5 : Nat → Nat → Int32) (L5 : Nat → Nat → Int64), am_wp ext 2 mz_167 (289, [some (.ref 42), some (.int (nI f)), none, none, some (.int (nI (tr_rt T'))), none, none, none, none, some (.long M), none, some (.int (if sp_sg x.1 = -1 then 1 else 0))], [], (me_1 I3 f 3, L3, D, am_rf X)) (fun q => q = (none, (I5, L5, D, am_rf X))) → am_Rn ext d 161 [.ref 42, .int (nI f)] (I3, L3, D, am_rf X) (none, (I5, L5, D, am_rf X)) := by
            intro I5 L5 W
            refine go _ I5 L5 rfl (w167_248 _ L3 D X (nI f) (nI (tr_rt T')) M _ ⟨fun _ => W, fun z => ⟨fun y => ?_, fun _ => ⟨fun _ => W, fun y => ?_⟩⟩⟩)
            · rw [v0] at y; exact absurd y (by decide)
            · rw [v1] at y
              by_cases c : sp_sg x.1 = -1
              · rw [if_pos c] at z; exact absurd z (by decide)
              · rcases sp_sg_3 x.1 with c1 | c1 | c1
                · exact absurd c1 c
                · exact absurd c1 hsg
                · exact absurd (sgq.2.mp c1) y
          by_cases c : sp_sg x.1 = s1
          · have c2 : ¬ sp_sg x.1 = s2 := fun q => hs12 (c.symm.trans q)
            rw [if_pos c, if_neg c2] at on ab
            have hbe : (if sp_sg x.1 = -1 then (1 : Int32) else 0) = fl := by
              rcases hs with ⟨x1, x2, x3⟩ | ⟨x1, x2, x3⟩
              · rw [c, x1, x3, if_pos rfl]
              · rw [c, x1, x3, if_neg (by decide)]
            obtain ⟨I5, L5, W, hh⟩ := ih M r (u0 + x.2) 4 (me_1 I3 f 3) (am_uL L3 63 f M) ⟨m2, by have := hg.2.1; omega, hg.2.2⟩ (by omega) (me_S_u S4 (fun _ _ _ => rfl) (fun p q hp => by rw [am_uL_at, if_neg (by omega)])) h (me_J_fr hJ3 (me_1_fr f 3 I3 L3)) (me_fr_t F5 ⟨fun _ _ _ _ => rfl, fun p q g1 g2 => by rw [am_uL_at, if_neg (by omega)]⟩ (Nat.le_refl _)) (by rw [am_uL_at, if_pos ⟨rfl, rfl⟩]) (by rw [am_uL_at, if_neg (by omega)]; exact g64) g68 on ab
            refine me_step (ext := ext) D X S3.1 (by omega) S3.2.2.1 h (to289 I5 L5 (w167_289 _ L3 D X (nI f) (nI (tr_rt T')) M _ ?_)) hh
            rw [ef, g68, hbe]
            exact ⟨hbf, fun z => absurd rfl z, fun _ => ⟨hbf, W⟩⟩
          · have c2 : sp_sg x.1 = s2 := by
              rcases hs with ⟨x1, x2, x3⟩ | ⟨x1, x2, x3⟩
              · rcases sp_sg_3 x.1 with c1 | c1 | c1
                · exact absurd (c1.trans x1.symm) c
                · exact absurd c1 hsg
                · exact c1.trans x2.symm
              · rcases sp_sg_3 x.1 with c1 | c1 | c1
                · exact c1.trans x2.symm
                · exact absurd c1 hsg
                · exact absurd (c1.trans x1.symm) c
            rw [if_neg c, if_pos c2] at on ab
            have hbe : ¬ (if sp_sg x.1 = -1 then (1 : Int32) else 0) = fl := by
              rcases hs with ⟨x1, x2, x3⟩ | ⟨x1, x2, x3⟩
              · rw [c2, x2, x3, if_neg (by decide)]; decide
              · rw [c2, x2, x3, if_pos rfl]; decide
            obtain ⟨I5, L5, W, hh⟩ := ih l M (u0 + x.2) 4 (me_1 I3 f 3) (am_uL L3 64 f M) ⟨m1, hg.2.1, by have := hg.2.2; omega⟩ (by omega) (me_S_u S4 (fun _ _ _ => rfl) (fun p q hp => by rw [am_uL_at, if_neg (by omega)])) h (me_J_fr hJ3 (me_1_fr f 3 I3 L3)) (me_fr_t F5 ⟨fun _ _ _ _ => rfl, fun p q g1 g2 => by rw [am_uL_at, if_neg (by omega)]⟩ (Nat.le_refl _)) (by rw [am_uL_at, if_neg (by omega)]; exact g63) (by rw [am_uL_at, if_pos ⟨rfl, rfl⟩]) g68 on ab
            refine me_step (ext := ext) D X S3.1 (by omega) S3.2.2.1 h (to289 I5 L5 (w167_289 _ L3 D X (nI f) (nI (tr_rt T')) M _ ?_)) hh
            rw [ef, g68]
            exact ⟨hbf, fun _ => ⟨hbf, W⟩, fun z => absurd z hbe⟩
end MNOUGHT
