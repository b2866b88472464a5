/-! ===== the class asks: nought ===== -/
theorem ev_nl_sh (E : Int64 → Int64 → ev_R) (s1 s2 : Int32) (c : Nat) : ∀ (k : Nat) (l r : Int64) (u : Nat), ev_nl E s1 s2 k l r (c + u) = ((ev_nl E s1 s2 k l r u).1, (ev_nl E s1 s2 k l r u).2.1, c + (ev_nl E s1 s2 k l r u).2.2)
  | 0, l, r, u => rfl
  | k + 1, l, r, u => by
    unfold ev_nl
    split
    · rfl
    · split
      · show (_, _, _) = (_, _, _); rw [Nat.add_assoc]
      · rw [Nat.add_assoc]; exact ev_nl_sh E s1 s2 c k _ _ _
theorem ev_nl_u (E : Int64 → Int64 → ev_R) (s1 s2 : Int32) : ∀ (k : Nat) (l r : Int64) (u : Nat), u ≤ (ev_nl E s1 s2 k l r u).2.2
  | 0, l, r, u => Nat.le_refl _
  | k + 1, l, r, u => by
    unfold ev_nl
    split
    · exact Nat.le_refl _
    · split
      · show _ ≤ _ + _; omega
      · exact Nat.le_trans (Nat.le_add_right _ _) (ev_nl_u E s1 s2 k _ _ _)
/-- the ends stay ends -/
theorem ev_nl_gd {w : Nat} (hw : w ≤ 20) (E : Int64 → Int64 → ev_R) (s1 s2 : Int32) (hs : ¬ s1 = s2) : ∀ (k : Nat) (l r : Int64) (u : Nat), gd2 w l r → gd2 w (ev_nl E s1 s2 k l r u).1 (ev_nl E s1 s2 k l r u).2.1
  | 0, l, r, u, h => h
  | k + 1, l, r, u, h => by
    obtain ⟨m1, m2⟩ := mid_i hw h
    obtain ⟨h1, h2, h3⟩ := h
    unfold ev_nl
    split
    · exact ⟨h1, h2, h3⟩
    · split
      · exact ⟨h1, h2, h3⟩
      · refine ev_nl_gd hw E s1 s2 hs k _ _ _ ?_
        by_cases q1 : sp_sg (E ((l + r) >>> sp_sh 1) ((l + r) >>> sp_sh 1)).1 = s1
        · rw [if_pos q1, if_neg (fun q2 => hs (q1.symm.trans q2))]
          exact ⟨m2, by omega, h3⟩
        · rw [if_neg q1]
          split
          · exact ⟨m1, h2, by omega⟩
          · exact ⟨h1, h2, h3⟩
section CNOUGHT
variable {ext : Nat → List Value → am_M → Option am_R} {dp : Nat} (D : Nat → Nat → UInt64) (xt xs xi xu xc : Nat) {w : Nat} {ls : pt_L} {n : Nat} {i top ch dd : Nat}
theorem ca_o_gd {u : Nat} {r : ev_R} (h : gd w r.1) : gd w (ca_o u r) := by
  intro p hp
  unfold ca_o at hp
  split at hp
  · exact h p hp
  · cases hp
/-- signAt -/
theorem c80 (H : ce_H ext dp D xt xs xi xu xc w ls n) (hdp : 1 ≤ dp) (hi : i < n) (hil : i < ls.length) (hto : top + 1 + pt_ks (ls.take (i + 1)) ≤ 100) (hch : ch + pt_ks (ls.take (i + 1)) ≤ 96) (hdd : dd + i ≤ 18) {u : Nat} (hu : u ≤ 20001) {v : Int64} (hv : gd2 w v v) (hg : gd w (ev_L w ls n i v v).1) {I : Nat → Nat → Int32} {L : Nat → Nat → Int64} (hL : rd_L 2 ls I) (hS : ce_S w u top ch I L) :
    ∃ I' L', am_Rn ext (dp + 1) 80 [.ref 25, .int (nI i), .long v, .int (nI dd)] (I, L, D, am_rf (xt, xs, xi, 2, xu, xc)) (some (.int (sp_sg (ca_o u (ev_L w ls n i v v)))), (I', L', D, am_rf (xt, xs, xi, 2, xu, xc))) ∧ ce_fr top ch I L I' L' ∧ ce_S w (ca_u u (ev_L w ls n i v v).2) top ch I' L' := by
  obtain ⟨I1, L1, r1, F1, S1, V1⟩ := H i top ch u dd v v I L hi hil (by omega) hch hdd hu hv hL hS
  obtain ⟨I2, L2, r2, g3, gf, l9, l10, lf⟩ := c61 (ext := ext) (d := dp - 1) D (xt, xs, xi, 2, xu, xc) S1.2.2.1 (show top < 100 by omega) (gd_le (ca_o_gd hg)) V1
  rw [show dp - 1 + 1 = dp by omega] at r2
  have F2 : ce_fr top ch I L I2 L2 := ce_fr_t F1 ⟨fun p q q1 q2 => gf p q (by omega), fun p q q1 q2 => lf p q (by omega)⟩ (Nat.le_refl _) (Nat.le_refl _)
  have S2 : ce_S w (ca_u u (ev_L w ls n i v v).2) top ch I2 L2 := ⟨(gf 25 6 (by omega)).trans S1.1, (gf 25 8 (by omega)).trans S1.2.1, g3, (gf 25 4 (by omega)).trans S1.2.2.2.1, (lf 25 7 (by omega)).trans S1.2.2.2.2⟩
  refine ⟨I2, L2, ?_, F2, S2⟩
  have nlt : ∀ a b : Int64, a ≤ b ↔ ¬ b < a := fun a b => by rw [Int64.le_iff_toInt_le, Int64.lt_iff_toInt_lt]; omega
  refine am_rn_of mh_80 rfl (w80_0 I L D (xt, xs, xi, 2, xu, xc) (nI i) v (nI dd) ⟨I1, L1, D, r1, _, I2, L2, D, r2, ?_⟩)
  generalize ca_o u (ev_L w ls n i v v) = o at *
  cases o with
  | none =>
    refine ⟨fun z => absurd (if_pos rfl) z, fun _ => rfl⟩
  | some p =>
    have e9 : L2 25 9 = p.1 := l9
    have e10 : L2 25 10 = p.2 := l10
    rw [e9, e10, if_neg (by simp)]
    refine ⟨fun _ => ⟨fun z => ⟨fun y => ?_, fun y => ?_⟩, fun z => ?_⟩, fun z => absurd z (by decide)⟩
    · have : sp_sg (some p) = 0 := by
        show (if p.2 < 0 then (-1 : Int32) else if 0 < p.1 then 1 else 0) = 0
        rw [if_neg ((nlt _ _).mp z), if_neg ((nlt _ _).mp y)]
      rw [this]
    · have : sp_sg (some p) = 1 := by
        show (if p.2 < 0 then (-1 : Int32) else if 0 < p.1 then 1 else 0) = 1
        rw [if_neg ((nlt _ _).mp z), if_pos (Classical.byContradiction fun q => y ((nlt _ _).mpr q))]
      rw [this]
    · have : sp_sg (some p) = -1 := by
        show (if p.2 < 0 then (-1 : Int32) else if 0 < p.1 then 1 else 0) = -1
        rw [if_pos (Classical.byContradiction fun q => z ((nlt _ _).mpr q))]
      rw [this]
end CNOUGHT
