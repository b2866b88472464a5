/-! ===== the class asks: nought ===== -/
theorem ev_nl_sh (E : Int64 → Int64 → ev_R) (s1 s2 : Int32) (c : Nat) : ∀ (k : Nat) (l r : Int64) (u : Nat), ev_nl E s1 s2 k l r (c + u) = ((ev_nl E s1 s2 k l r u).1, (ev_nl E s1 s2 k l r u).2.1, c + (ev_nl E s1 s2 k l r u).2.2)
  | 0, l, r, u => rfl
  | k + 1, l, r, u => by
    unfold ev_nl
    split
    · rfl
    · split
      · show (_, _, _) = (_, _, _); rw [Nat.add_assoc]
      · rw [Nat.add_assoc]; exact ev_nl_sh E s1 s2 c k _ _ _
theorem ev_nl_u (E : Int64 → Int64 → ev_R) (s1 s2 : Int32) : ∀ (k : Nat) (l r : Int64) (u : Nat), u ≤ (ev_nl E s1 s2 k l r u).2.2
  | 0, l, r, u => Nat.le_refl _
  | k + 1, l, r, u => by
    unfold ev_nl
    split
    · exact Nat.le_refl _
    · split
      · show _ ≤ _ + _; omega
      · exact Nat.le_trans (Nat.le_add_right _ _) (ev_nl_u E s1 s2 k _ _ _)
/-- the ends stay ends -/
theorem ev_nl_gd {w : Nat} (hw : w ≤ 20) (E : Int64 → Int64 → ev_R) (s1 s2 : Int32) (hs : ¬ s1 = s2) : ∀ (k : Nat) (l r : Int64) (u : Nat), gd2 w l r → gd2 w (ev_nl E s1 s2 k l r u).1 (ev_nl E s1 s2 k l r u).2.1
  | 0, l, r, u, h => h
  | k + 1, l, r, u, h => by
    obtain ⟨m1, m2⟩ := mid_i hw h
    obtain ⟨h1, h2, h3⟩ := h
    unfold ev_nl
    split
    · exact ⟨h1, h2, h3⟩
    · split
      · exact ⟨h1, h2, h3⟩
      · refine ev_nl_gd hw E s1 s2 hs k _ _ _ ?_
        by_cases q1 : sp_sg (E ((l + r) >>> sp_sh 1) ((l + r) >>> sp_sh 1)).1 = s1
        · rw [if_pos q1, if_neg (fun q2 => hs (q1.symm.trans q2))]
          exact ⟨m2, by omega, h3⟩
        · rw [if_neg q1]
          split
          · exact ⟨m1, h2, by omega⟩
          · exact ⟨h1, h2, h3⟩
section CNOUGHT
variable {ext : Nat → List Value → am_M → Option am_R} {dp : Nat} (D : Nat → Nat → UInt64) (xt xs xi xu xc : Nat) {w : Nat} {ls : pt_L} {n : Nat} {i top ch dd : Nat}
theorem ca_o_gd {u : Nat} {r : ev_R} (h : gd w r.1) : gd w (ca_o u r) := by
  intro p hp
  unfold ca_o at hp
  split at hp
  · exact h p hp
  · cases hp
/-- signAt -/
theorem c80 (H : ce_H ext dp D xt xs xi xu xc w ls n) (hdp : 1 ≤ dp) (hi : i < n) (hil : i < ls.length) (hto : top + 1 + pt_ks (ls.take (i + 1)) ≤ 100) (hch : ch + pt_ks (ls.take (i + 1)) ≤ 96) (hdd : dd + i ≤ 18) {u : Nat} (hu : u ≤ 20001) {v : Int64} (hv : gd2 w v v) (hg : gd w (ev_L w ls n i v v).1) {I : Nat → Nat → Int32} {L : Nat → Nat → Int64} (hL : rd_L 2 ls I) (hS : ce_S w u top ch I L) :
    ∃ I' L', am_Rn ext (dp + 1) 80 [.ref 25, .int (nI i), .long v, .int (nI dd)] (I, L, D, am_rf (xt, xs, xi, 2, xu, xc)) (some (.int (sp_sg (ca_o u (ev_L w ls n i v v)))), (I', L', D, am_rf (xt, xs, xi, 2, xu, xc))) ∧ ce_fr top ch I L I' L' ∧ ce_S w (ca_u u (ev_L w ls n i v v).2) top ch I' L' := by
  obtain ⟨I1, L1, r1, F1, S1, V1⟩ := H i top ch u dd v v I L hi hil (by omega) hch hdd hu hv hL hS
  obtain ⟨I2, L2, r2, g3, gf, l9, l10, lf⟩ := c61 (ext := ext) (d := dp - 1) D (xt, xs, xi, 2, xu, xc) S1.2.2.1 (show top < 100 by omega) (gd_le (ca_o_gd hg)) V1
  rw [show dp - 1 + 1 = dp by omega] at r2
  have F2 : ce_fr top ch I L I2 L2 := ce_fr_t F1 ⟨fun p q q1 q2 => gf p q (by omega), fun p q q1 q2 => lf p q (by omega)⟩ (Nat.le_refl _) (Nat.le_refl _)
  have S2 : ce_S w (ca_u u (ev_L w ls n i v v).2) top ch I2 L2 := ⟨(gf 25 6 (by omega)).trans S1.1, (gf 25 8 (by omega)).trans S1.2.1, g3, (gf 25 4 (by omega)).trans S1.2.2.2.1, (lf 25 7 (by omega)).trans S1.2.2.2.2⟩
  refine ⟨I2, L2, ?_, F2, S2⟩
  have nlt : ∀ a b : Int64, a ≤ b ↔ ¬ b < a := fun a b => by rw [Int64.le_iff_toInt_le, Int64.lt_iff_toInt_lt]; omega
  refine am_rn_of mh_80 rfl (w80_0 I L D (xt, xs, xi, 2, xu, xc) (nI i) v (nI dd) ⟨I1, L1, D, r1, _, I2, L2, D, r2, ?_⟩)
  generalize ca_o u (ev_L w ls n i v v) = o at *
  cases o with
  | none =>
    refine ⟨fun z => absurd (if_pos rfl) z, fun _ => rfl⟩
  | some p =>
    have e9 : L2 25 9 = p.1 := l9
    have e10 : L2 25 10 = p.2 := l10
    rw [e9, e10, if_neg (by simp)]
    refine ⟨fun _ => ⟨fun z => ⟨fun y => ?_, fun y => ?_⟩, fun z => ?_⟩, fun z => absurd z (by decide)⟩
    · have : sp_sg (some p) = 0 := by
        show (if p.2 < 0 then (-1 : Int32) else if 0 < p.1 then 1 else 0) = 0
        rw [if_neg ((nlt _ _).mp z), if_neg ((nlt _ _).mp y)]
      rw [this]
    · have : sp_sg (some p) = 1 := by
        show (if p.2 < 0 then (-1 : Int32) else if 0 < p.1 then 1 else 0) = 1
        rw [if_neg ((nlt _ _).mp z), if_pos (Classical.byContradiction fun q => y ((nlt _ _).mpr q))]
      rw [this]
    · have : sp_sg (some p) = -1 := by
        show (if p.2 < 0 then (-1 : Int32) else if 0 < p.1 then 1 else 0) = -1
        rw [if_pos (Classical.byContradiction fun q => z ((nlt _ _).mpr q))]
      rw [this]
/-- nought's loop, where nothing more is halved -/
theorem c79_p {l r : Int64} {s1 s2 g v : Int32} {u : Nat} {I : Nat → Nat → Int32} {L : Nat → Nat → Int64} {P : am_R → Prop} (ht : top < 100) (hS : ce_S w u top ch I L) (hst : 64 ≤ v ∨ g = 0 ∨ r - l ≤ 1) (h : ∀ I' L', pp_P I L top (sp_k w l r) I' L' → P (none, (I', L', D, am_rf (xt, xs, xi, 2, xu, xc)))) :
    am_wp ext (dp + 1) mz_79 (76, [some (.ref 25), some (.int (nI i)), none, some (.int (nI dd)), some (.long l), none, some (.long r), none, some (.int s1), some (.int s2), some (.int g), some (.int v), none, none, none], [], (I, L, D, am_rf (xt, xs, xi, 2, xu, xc))) P := by
  obtain ⟨I', L', r64, g64⟩ := c64p (ext := ext) (d := dp) D (xt, xs, xi, 2, xu, xc) hS.2.2.1 ht hS.2.2.2.2 l r
  refine w79_76 I L D xc xi xs xt xu (nI i) (nI dd) l r s1 s2 g v ⟨fun _ => ⟨I', L', D, r64, h I' L' g64⟩, fun z1 => ⟨fun _ => ⟨I', L', D, r64, h I' L' g64⟩, fun z2 => ⟨fun _ => ⟨I', L', D, r64, h I' L' g64⟩, fun z3 => ?_⟩⟩⟩
  exact absurd hst (fun q => q.elim z1 (fun q => q.elim z2 z3))
theorem c79_l (hw : w ≤ 20) (H : ce_H ext dp D xt xs xi xu xc w ls n) (hdp : 1 ≤ dp) (hi : i < n) (hil : i < ls.length) (hto : top + 1 + pt_ks (ls.take (i + 1)) ≤ 100) (hch : ch + pt_ks (ls.take (i + 1)) ≤ 96) (hdd : dd + i ≤ 18) (hg : ∀ a b, gd2 w a b → gd w (ev_L w ls n i a b).1) {s1 s2 : Int32} (h1 : ¬ s1 = 0) (h2 : ¬ s2 = 0) (h12 : ¬ s1 = s2) :
    ∀ (k : Nat) (l r : Int64) (u : Nat) (I : Nat → Nat → Int32) (L : Nat → Nat → Int64) (P : am_R → Prop), k ≤ 64 → u ≤ 20000 → gd2 w l r → rd_L 2 ls I → ce_S w u top ch I L →
    (∀ I' L', ce_fr top ch I L I' L' → ce_S w (ca_u 0 (ev_nl (ev_L w ls n i) s1 s2 k l r u).2.2) (top + 1) ch I' L' → ((ev_nl (ev_L w ls n i) s1 s2 k l r u).2.2 ≤ 20000 → st_v (sp_k w (ev_nl (ev_L w ls n i) s1 s2 k l r u).1 (ev_nl (ev_L w ls n i) s1 s2 k l r u).2.1) top L') → P (none, (I', L', D, am_rf (xt, xs, xi, 2, xu, xc)))) →
    am_wp ext (dp + 1) mz_79 (76, [some (.ref 25), some (.int (nI i)), none, some (.int (nI dd)), some (.long l), none, some (.long r), none, some (.int s1), some (.int s2), some (.int 1), some (.int (nI (64 - k))), none, none, none], [], (I, L, D, am_rf (xt, xs, xi, 2, xu, xc))) P := by
  have cu : ∀ {x : Nat}, x ≤ 20000 → ca_u 0 x = x := fun h => by unfold ca_u; rw [if_pos (by omega)]; omega
  intro k
  induction k with
  | zero =>
    intro l r u I L P hk hu hlr hL hS h
    refine c79_p (ext := ext) D xt xs xi xu xc (by omega) hS (Or.inl (by decide)) (fun I' L' g => h I' L' (ce_fr_p g) ?_ (fun _ => g.2.2.1))
    show ce_S w (ca_u 0 u) (top + 1) ch I' L'
    rw [cu hu]
    exact ce_S_p hS g
  | succ k ih =>
    intro l r u I L P hk hu hlr hL hS h
    by_cases hd1 : r - l ≤ 1
    · have en : ev_nl (ev_L w ls n i) s1 s2 (k + 1) l r u = (l, r, u) := by unfold ev_nl; rw [if_pos hd1]
      rw [en] at h
      refine c79_p (ext := ext) D xt xs xi xu xc (by omega) hS (Or.inr (Or.inr hd1)) (fun I' L' g => h I' L' (ce_fr_p g) ?_ (fun _ => g.2.2.1))
      show ce_S w (ca_u 0 u) (top + 1) ch I' L'
      rw [cu hu]
      exact ce_S_p hS g
    · obtain ⟨m1, m2⟩ := mid_i hw hlr
      obtain ⟨g1, g2, g3⟩ := hlr
      have gm : gd2 w ((l + r) >>> sp_sh 1) ((l + r) >>> sp_sh 1) := ⟨Int.le_refl _, by omega, by omega⟩
      obtain ⟨I1, L1, r80, F1, S1⟩ := c80 (ext := ext) (dp := dp) D xt xs xi xu xc H hdp hi hil hto hch hdd (show u ≤ 20001 by omega) gm (hg _ _ gm) hL hS
      have v64 : ¬ (64 : Int32) ≤ nI (64 - (k + 1)) := by rw [show (64 : Int32) = nI 64 from rfl, ni_le (by omega) (by omega)]; omega
      have vp : nI (64 - (k + 1)) + 1 = nI (64 - k) := by rw [show (1 : Int32) = nI 1 from rfl, ni_add (by omega)]; congr 1; omega
      -- a stop
      have stop : sp_sg (ca_o u (ev_L w ls n i ((l + r) >>> sp_sh 1) ((l + r) >>> sp_sh 1))) = 0 → (∀ I' L', pp_P I1 L1 top (sp_k w l r) I' L' → P (none, (I', L', D, am_rf (xt, xs, xi, 2, xu, xc)))) → am_wp ext (dp + 1) mz_79 (76, [some (.ref 25), some (.int (nI i)), none, some (.int (nI dd)), some (.long l), none, some (.long r), none, some (.int s1), some (.int s2), some (.int 1), some (.int (nI (64 - (k + 1)))), none, none, none], [], (I, L, D, am_rf (xt, xs, xi, 2, xu, xc))) P := by
        intro hsg hP
        refine w79_76 I L D xc xi xs xt xu (nI i) (nI dd) l r s1 s2 1 _ ⟨fun z => absurd z v64, fun _ => ⟨fun z => absurd z (by decide), fun _ => ⟨fun z => absurd z hd1, fun _ => ⟨_, I1, L1, D, am_up r80 (by omega), fun _ => ?_, fun z => absurd hsg z⟩⟩⟩⟩
        refine w79_127 I1 L1 D xc xi xs xt xu (nI i) (nI dd) l r s1 s2 _ _ _ 0 ⟨fun _ => ⟨fun _ => ?_, fun z => absurd (z.symm.trans hsg) h2⟩, fun z => absurd (z.symm.trans hsg) h1⟩
        exact c79_p (ext := ext) D xt xs xi xu xc (by omega) S1 (Or.inr (Or.inl rfl)) hP
      by_cases h20 : u + (ev_L w ls n i ((l + r) >>> sp_sh 1) ((l + r) >>> sp_sh 1)).2 ≤ 20000
      · have eo : ca_o u (ev_L w ls n i ((l + r) >>> sp_sh 1) ((l + r) >>> sp_sh 1)) = (ev_L w ls n i ((l + r) >>> sp_sh 1) ((l + r) >>> sp_sh 1)).1 := by unfold ca_o; rw [if_pos h20]
        have eu : ca_u u (ev_L w ls n i ((l + r) >>> sp_sh 1) ((l + r) >>> sp_sh 1)).2 = u + (ev_L w ls n i ((l + r) >>> sp_sh 1) ((l + r) >>> sp_sh 1)).2 := by unfold ca_u; rw [if_pos h20]
        rw [eu] at S1
        rw [eo] at stop r80
        by_cases hsg : sp_sg (ev_L w ls n i ((l + r) >>> sp_sh 1) ((l + r) >>> sp_sh 1)).1 = 0
        · have en : ev_nl (ev_L w ls n i) s1 s2 (k + 1) l r u = (l, r, u + (ev_L w ls n i ((l + r) >>> sp_sh 1) ((l + r) >>> sp_sh 1)).2) := by
            rw [ev_nl]; rw [if_neg hd1, if_pos hsg]
          rw [en] at h
          refine stop hsg (fun I' L' g => h I' L' (ce_fr_t F1 (ce_fr_p g) (Nat.le_refl _) (Nat.le_refl _)) ?_ (fun _ => g.2.2.1))
          show ce_S w (ca_u 0 (u + _)) (top + 1) ch I' L'
          rw [cu h20]
          exact ce_S_p S1 g
        · have en : ev_nl (ev_L w ls n i) s1 s2 (k + 1) l r u = ev_nl (ev_L w ls n i) s1 s2 k (if sp_sg (ev_L w ls n i ((l + r) >>> sp_sh 1) ((l + r) >>> sp_sh 1)).1 = s1 then (l + r) >>> sp_sh 1 else l) (if sp_sg (ev_L w ls n i ((l + r) >>> sp_sh 1) ((l + r) >>> sp_sh 1)).1 = s2 then (l + r) >>> sp_sh 1 else r) (u + (ev_L w ls n i ((l + r) >>> sp_sh 1) ((l + r) >>> sp_sh 1)).2) := by
            rw [ev_nl]; rw [if_neg hd1, if_neg hsg]
          rw [en] at h
          have gn : gd2 w (if sp_sg (ev_L w ls n i ((l + r) >>> sp_sh 1) ((l + r) >>> sp_sh 1)).1 = s1 then (l + r) >>> sp_sh 1 else l) (if sp_sg (ev_L w ls n i ((l + r) >>> sp_sh 1) ((l + r) >>> sp_sh 1)).1 = s2 then (l + r) >>> sp_sh 1 else r) := by
            by_cases q1 : sp_sg (ev_L w ls n i ((l + r) >>> sp_sh 1) ((l + r) >>> sp_sh 1)).1 = s1
            · rw [if_pos q1, if_neg (fun q2 => h12 (q1.symm.trans q2))]
              exact ⟨m2, by omega, g3⟩
            · rw [if_neg q1]
              split
              · exact ⟨m1, g2, by omega⟩
              · exact ⟨g1, g2, g3⟩
          have go := ih _ _ _ I1 L1 P (by omega) h20 gn (rd_L2_fr hL F1) S1 (fun I' L' F S V => h I' L' (ce_fr_t F1 F (Nat.le_refl _) (Nat.le_refl _)) S V)
          refine w79_76 I L D xc xi xs xt xu (nI i) (nI dd) l r s1 s2 1 _ ⟨fun z => absurd z v64, fun _ => ⟨fun z => absurd z (by decide), fun _ => ⟨fun z => absurd z hd1, fun _ => ⟨_, I1, L1, D, am_up r80 (by omega), fun z => absurd z hsg, fun _ => ?_⟩⟩⟩⟩
          refine w79_127 I1 L1 D xc xi xs xt xu (nI i) (nI dd) l r s1 s2 _ _ _ 1 ⟨fun q1 => ⟨fun q2 => ?_, fun q2 => ?_⟩, fun q1 => ⟨fun q2 => ?_, fun q2 => absurd (q1.symm.trans q2) h12⟩⟩
          · rw [if_neg q1, if_neg q2] at go
            rw [vp]; exact go
          · rw [if_neg q1, if_pos q2] at go
            rw [vp]; exact go
          · rw [if_pos q1, if_neg q2] at go
            rw [vp]; exact go
      · have eo : ca_o u (ev_L w ls n i ((l + r) >>> sp_sh 1) ((l + r) >>> sp_sh 1)) = none := by unfold ca_o; rw [if_neg h20]
        have eu : ca_u u (ev_L w ls n i ((l + r) >>> sp_sh 1) ((l + r) >>> sp_sh 1)).2 = 20001 := by unfold ca_u; rw [if_neg h20]
        rw [eu] at S1
        have big : ¬ (ev_nl (ev_L w ls n i) s1 s2 (k + 1) l r u).2.2 ≤ 20000 := by
          rw [ev_nl, if_neg hd1]
          split
          · exact h20
          · have := ev_nl_u (ev_L w ls n i) s1 s2 k (if sp_sg (ev_L w ls n i ((l + r) >>> sp_sh 1) ((l + r) >>> sp_sh 1)).1 = s1 then (l + r) >>> sp_sh 1 else l) (if sp_sg (ev_L w ls n i ((l + r) >>> sp_sh 1) ((l + r) >>> sp_sh 1)).1 = s2 then (l + r) >>> sp_sh 1 else r) (u + (ev_L w ls n i ((l + r) >>> sp_sh 1) ((l + r) >>> sp_sh 1)).2)
            omega
        refine stop (by rw [eo]; rfl) (fun I' L' g => h I' L' (ce_fr_t F1 (ce_fr_p g) (Nat.le_refl _) (Nat.le_refl _)) ?_ (fun z => absurd z big))
        have e2 : ca_u 0 (ev_nl (ev_L w ls n i) s1 s2 (k + 1) l r u).2.2 = 20001 := by unfold ca_u; rw [if_neg (by omega)]
        rw [e2]
        exact ce_S_p S1 g
end CNOUGHT
