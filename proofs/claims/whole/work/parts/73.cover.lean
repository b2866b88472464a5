/-! ===== the class asks: over a span ===== -/
theorem sp_sg_3 (o : Option (Int64 × Int64)) : sp_sg o = -1 ∨ sp_sg o = 0 ∨ sp_sg o = 1 := by
  unfold sp_sg
  split
  · exact Or.inr (Or.inl rfl)
  · split
    · exact Or.inl rfl
    · split
      · exact Or.inr (Or.inr rfl)
      · exact Or.inr (Or.inl rfl)
theorem sp_sg_x {o p : Option (Int64 × Int64)} (h : sp_sg o * sp_sg p = -1) : ¬ sp_sg o = 0 ∧ ¬ sp_sg p = 0 ∧ ¬ sp_sg o = sp_sg p := by
  rcases sp_sg_3 o with h1 | h1 | h1 <;> rcases sp_sg_3 p with h2 | h2 | h2 <;> rw [h1, h2] at h ⊢ <;> revert h <;> decide
section COVER
variable {ext : Nat → List Value → am_M → Option am_R} {dp : Nat} (D : Nat → Nat → UInt64) (xt xs xi xu xc : Nat) {w : Nat} {ls : pt_L} {n : Nat} {i top ch dd : Nat}
/-- nought -/
theorem c79 (hw : w ≤ 20) (H : ce_H ext dp D xt xs xi xu xc w ls n) (hdp : 1 ≤ dp) (hi : i < n) (hil : i < ls.length) (hto : top + 1 + pt_ks (ls.take (i + 1)) ≤ 100) (hch : ch + pt_ks (ls.take (i + 1)) ≤ 96) (hdd : dd + i ≤ 18) (hg : ∀ a b, gd2 w a b → gd w (ev_L w ls n i a b).1) {s u : Nat} (hs : s < 288) (hu : u ≤ 20001) {f t : Int32} {I : Nat → Nat → Int32} {L : Nat → Nat → Int64} (h9 : I 9 s = f) (h10 : I 10 s = t) (hgd : gd2 w (sp_l w (Int32.toInt64 f)) (sp_l w (Int32.toInt64 t))) (hL : rd_L 2 ls I) (hS : ce_S w u top ch I L) :
    ∃ I' L' W, am_Rn ext (dp + 2) 79 [.ref 25, .int (nI i), .int (nI s), .int (nI dd)] (I, L, D, am_rf (xt, xs, xi, 2, xu, xc)) (none, (I', L', D, am_rf (xt, xs, xi, 2, xu, xc))) ∧ (ev_n w (ev_L w ls n i) (sp_l w (Int32.toInt64 f)) (sp_l w (Int32.toInt64 t))).2 = W + 1 ∧ ce_fr top ch I L I' L' ∧ ce_S w (ca_u u W) (top + 1) ch I' L' ∧ (u + W ≤ 20000 → st_v (ev_n w (ev_L w ls n i) (sp_l w (Int32.toInt64 f)) (sp_l w (Int32.toInt64 t))).1 top L') := by
  have es : (nI s).toNatClampNeg = s := ni_nat (by omega)
  have hb : am_inb (nI s) 288 = true := ni_inb hs (by omega)
  generalize hl : sp_l w (Int32.toInt64 f) = l at *
  generalize hr : sp_l w (Int32.toInt64 t) = r at *
  have gl : gd2 w l l := ⟨Int.le_refl _, hgd.2.1, by have := hgd.1; have := hgd.2.2; omega⟩
  have gr : gd2 w r r := ⟨Int.le_refl _, by have := hgd.1; have := hgd.2.1; omega, hgd.2.2⟩
  obtain ⟨I1, L1, r1, F1, S1⟩ := c80 (ext := ext) (dp := dp) D xt xs xi xu xc H hdp hi hil hto hch hdd hu gl (hg _ _ gl) hL hS
  have hu1 : ca_u u (ev_L w ls n i l l).2 ≤ 20001 := by unfold ca_u; split <;> omega
  obtain ⟨I2, L2, r2, F2, S2⟩ := c80 (ext := ext) (dp := dp) D xt xs xi xu xc H hdp hi hil hto hch hdd hu1 gr (hg _ _ gr) (rd_L2_fr hL F1) S1
  have F12 := ce_fr_t F1 F2 (Nat.le_refl _) (Nat.le_refl _)
  have e1 : (Int32.toInt64 (I 9 (nI s).toNatClampNeg)) <<< ((Int32.toInt64 (I 25 6)) &&& 63) = l := by rw [es, h9, hS.1]; exact hl
  have e2 : (Int32.toInt64 (I 10 (nI s).toNatClampNeg)) <<< ((Int32.toInt64 (I 25 6)) &&& 63) = r := by rw [es, h10, hS.1]; exact hr
  -- nothing is found at once
  have no : ∀ {W : Nat}, ¬ sp_sg (ca_o u (ev_L w ls n i l l)) * sp_sg (ca_o (ca_u u (ev_L w ls n i l l).2) (ev_L w ls n i r r)) = -1 → (ev_n w (ev_L w ls n i) l r).2 = W + 1 → ca_u (ca_u u (ev_L w ls n i l l).2) (ev_L w ls n i r r).2 = ca_u u W → (u + W ≤ 20000 → (ev_n w (ev_L w ls n i) l r).1 = none) → ∃ I' L' W, am_Rn ext (dp + 2) 79 [.ref 25, .int (nI i), .int (nI s), .int (nI dd)] (I, L, D, am_rf (xt, xs, xi, 2, xu, xc)) (none, (I', L', D, am_rf (xt, xs, xi, 2, xu, xc))) ∧ (ev_n w (ev_L w ls n i) l r).2 = W + 1 ∧ ce_fr top ch I L I' L' ∧ ce_S w (ca_u u W) (top + 1) ch I' L' ∧ (u + W ≤ 20000 → st_v (ev_n w (ev_L w ls n i) l r).1 top L') := by
    intro W hne hW hcu hnone
    obtain ⟨I3, L3, r3, g3⟩ := c64n (ext := ext) (d := dp) D (xt, xs, xi, 2, xu, xc) S2.2.2.1 (show top < 100 by omega) S2.2.2.2.2
    refine ⟨I3, L3, W, am_rn_of mh_79 rfl (w79_0 I L D xc xi xs xt xu (nI i) (nI s) (nI dd) ⟨hb, hb, ?_⟩), hW, ce_fr_t F12 (ce_fr_p g3) (Nat.le_refl _) (Nat.le_refl _), by rw [← hcu]; exact ce_S_p S2 g3, fun h => by rw [hnone h]; exact g3.2.2.1⟩
    rw [e1, e2]
    exact ⟨_, I1, L1, D, r1, _, I2, L2, D, r2, fun z => absurd z hne, fun _ => ⟨I3, L3, D, r3, rfl⟩⟩
  by_cases h20 : u + (ev_L w ls n i l l).2 + (ev_L w ls n i r r).2 ≤ 20000
  · have eo1 : ca_o u (ev_L w ls n i l l) = (ev_L w ls n i l l).1 := by unfold ca_o; rw [if_pos (by omega)]
    have eu1 : ca_u u (ev_L w ls n i l l).2 = u + (ev_L w ls n i l l).2 := by unfold ca_u; rw [if_pos (by omega)]
    have eo2 : ca_o (u + (ev_L w ls n i l l).2) (ev_L w ls n i r r) = (ev_L w ls n i r r).1 := by unfold ca_o; rw [if_pos h20]
    have eu2 : ca_u (u + (ev_L w ls n i l l).2) (ev_L w ls n i r r).2 = u + ((ev_L w ls n i l l).2 + (ev_L w ls n i r r).2) := by unfold ca_u; rw [if_pos h20]; omega
    rw [eu1] at S2 r2 no
    rw [eo1] at r1 no
    rw [eo2] at r2 no
    rw [eu2] at S2 no
    by_cases hx : sp_sg (ev_L w ls n i l l).1 * sp_sg (ev_L w ls n i r r).1 = -1
    · obtain ⟨x1, x2, x3⟩ := sp_sg_x hx
      have en : ev_n w (ev_L w ls n i) l r = (sp_k w (ev_nl (ev_L w ls n i) (sp_sg (ev_L w ls n i l l).1) (sp_sg (ev_L w ls n i r r).1) 64 l r ((ev_L w ls n i l l).2 + (ev_L w ls n i r r).2)).1 (ev_nl (ev_L w ls n i) (sp_sg (ev_L w ls n i l l).1) (sp_sg (ev_L w ls n i r r).1) 64 l r ((ev_L w ls n i l l).2 + (ev_L w ls n i r r).2)).2.1, (ev_nl (ev_L w ls n i) (sp_sg (ev_L w ls n i l l).1) (sp_sg (ev_L w ls n i r r).1) 64 l r ((ev_L w ls n i l l).2 + (ev_L w ls n i r r).2)).2.2 + 1) := by
        unfold ev_n; rw [if_pos hx]
      have loop := c79_l (ext := ext) (dp := dp) D xt xs xi xu xc hw H hdp hi hil hto hch hdd hg x1 x2 x3 64 l r (u + ((ev_L w ls n i l l).2 + (ev_L w ls n i r r).2)) I2 L2 (fun q => ∃ I' L' W, q = (none, (I', L', D, am_rf (xt, xs, xi, 2, xu, xc))) ∧ (ev_n w (ev_L w ls n i) l r).2 = W + 1 ∧ ce_fr top ch I L I' L' ∧ ce_S w (ca_u u W) (top + 1) ch I' L' ∧ (u + W ≤ 20000 → st_v (ev_n w (ev_L w ls n i) l r).1 top L')) (by omega) (by omega) hgd (rd_L2_fr hL F12) S2 (fun I' L' F S V => by
          rw [ev_nl_sh] at S V
          rw [en]
          refine ⟨I', L', _, rfl, rfl, ce_fr_t F12 F (Nat.le_refl _) (Nat.le_refl _), ?_, V⟩
          have e0 : ∀ W : Nat, ca_u 0 (u + W) = ca_u u W := fun W => by unfold ca_u; rw [Nat.zero_add]
          rw [← e0]; exact S)
      obtain ⟨q, rq, I', L', W, eq, h1, h2, h3, h4⟩ := am_of_wp (ext := ext) (d := dp + 1) (as := [.ref 25, .int (nI i), .int (nI s), .int (nI dd)]) mh_79 rfl (w79_0 I L D xc xi xs xt xu (nI i) (nI s) (nI dd) ⟨hb, hb, by
        rw [e1, e2]
        exact ⟨_, I1, L1, D, r1, _, I2, L2, D, r2, fun _ => loop, fun z => absurd hx z⟩⟩)
      rw [eq] at rq
      exact ⟨I', L', W, rq, h1, h2, h3, h4⟩
    · have en : ev_n w (ev_L w ls n i) l r = (none, (ev_L w ls n i l l).2 + (ev_L w ls n i r r).2 + 1) := by unfold ev_n; rw [if_neg hx]
      exact no hx (by rw [en]) (by unfold ca_u; rw [if_pos (by omega)]) (fun _ => by rw [en])
  · have hbig : ∃ W, (ev_n w (ev_L w ls n i) l r).2 = W + 1 ∧ ¬ u + W ≤ 20000 := by
      unfold ev_n
      split
      · have := ev_nl_u (ev_L w ls n i) (sp_sg (ev_L w ls n i l l).1) (sp_sg (ev_L w ls n i r r).1) 64 l r ((ev_L w ls n i l l).2 + (ev_L w ls n i r r).2)
        exact ⟨_, rfl, by omega⟩
      · exact ⟨_, rfl, by omega⟩
    obtain ⟨W, hW, hWb⟩ := hbig
    have eo2 : ca_o (ca_u u (ev_L w ls n i l l).2) (ev_L w ls n i r r) = none := by
      unfold ca_o
      rw [if_neg]
      unfold ca_u
      split <;> omega
    have eu2 : ca_u (ca_u u (ev_L w ls n i l l).2) (ev_L w ls n i r r).2 = 20001 := by
      have : ¬ ca_u u (ev_L w ls n i l l).2 + (ev_L w ls n i r r).2 ≤ 20000 := by unfold ca_u; split <;> omega
      generalize ca_u u (ev_L w ls n i l l).2 = z at *
      unfold ca_u
      rw [if_neg this]
    refine no ?_ hW ?_ (fun z => absurd z hWb)
    · rw [eo2]
      show ¬ _ * (0 : Int32) = -1
      rw [Int32.mul_zero]
      decide
    · rw [eu2]
      unfold ca_u
      rw [if_neg hWb]
end COVER
