/-! ===== the class asks: over pieces ===== -/
theorem ev_pl_sh (w : Nat) (E : Int64 → Int64 → ev_R) (kd : Nat) (pe : Nat → Int64) (c : Nat) : ∀ (m k : Nat) (lo hi : Int64) (u : Nat), ev_pl w E kd pe m k lo hi (c + u) = ((ev_pl w E kd pe m k lo hi u).1, c + (ev_pl w E kd pe m k lo hi u).2)
  | 0, k, lo, hi, u => by
    show (_, _) = (_, _)
    rw [Nat.add_assoc]; rfl
  | m + 1, k, lo, hi, u => by
    unfold ev_pl
    split
    · show (_, _) = (_, _)
      congr 1
      show c + u + _ + 1 = c + (u + _ + 1)
      omega
    · split
      · rw [Nat.add_assoc]; exact ev_pl_sh w E kd pe c m _ _ _ _
      · split
        · rw [Nat.add_assoc]; exact ev_pl_sh w E kd pe c m _ _ _ _
        · split
          · rw [Nat.add_assoc]; exact ev_pl_sh w E kd pe c m _ _ _ _
          · rw [Nat.add_assoc]; exact ev_pl_sh w E kd pe c m _ _ _ _
theorem ev_pl_u (w : Nat) (E : Int64 → Int64 → ev_R) (kd : Nat) (pe : Nat → Int64) : ∀ (m k : Nat) (lo hi : Int64) (u : Nat), u + 1 ≤ (ev_pl w E kd pe m k lo hi u).2
  | 0, k, lo, hi, u => Nat.le_refl _
  | m + 1, k, lo, hi, u => by
    have ih := ev_pl_u w E kd pe m
    unfold ev_pl
    split
    · show _ ≤ _ + _ + 1; omega
    · split
      · exact Nat.le_trans (by omega) (ih _ _ _ _)
      · split
        · exact Nat.le_trans (by omega) (ih _ _ _ _)
        · split
          · exact Nat.le_trans (by omega) (ih _ _ _ _)
          · exact Nat.le_trans (by omega) (ih _ _ _ _)
/-- what comes behind a piece -/
def pl_lo (w kd : Nat) (pe : Nat → Int64) (k : Nat) (lo : Int64) (p : Int64 × Int64) : Int64 := if kd = 16 then lo + sp_r w (p.1 * (pe (k + 1) - pe k)) else if k = 0 then p.1 else if kd = 17 then sp_mx lo p.1 else sp_mn lo p.1
def pl_hi (w kd : Nat) (pe : Nat → Int64) (k : Nat) (hi : Int64) (p : Int64 × Int64) : Int64 := if kd = 16 then hi + sp_up w (p.2 * (pe (k + 1) - pe k)) else if k = 0 then p.2 else if kd = 17 then sp_mx hi p.2 else sp_mn hi p.2
theorem ev_pl_s {w : Nat} {E : Int64 → Int64 → ev_R} {kd : Nat} {pe : Nat → Int64} {m k : Nat} {lo hi : Int64} {u : Nat} {p : Int64 × Int64} (h : (E (pe k) (pe (k + 1))).1 = some p) : ev_pl w E kd pe (m + 1) k lo hi u = ev_pl w E kd pe m (k + 1) (pl_lo w kd pe k lo p) (pl_hi w kd pe k hi p) (u + (E (pe k) (pe (k + 1))).2) := by
  rw [ev_pl, h]
  simp only
  unfold pl_lo pl_hi
  by_cases h1 : kd = 16
  · rw [if_pos h1, if_pos h1, if_pos h1]
  · rw [if_neg h1, if_neg h1, if_neg h1]
    by_cases h2 : k = 0
    · rw [if_pos h2, if_pos h2, if_pos h2]
    · rw [if_neg h2, if_neg h2, if_neg h2]
      by_cases h3 : kd = 17
      · rw [if_pos h3, if_pos h3, if_pos h3]
      · rw [if_neg h3, if_neg h3, if_neg h3]
section CPIECE
variable {ext : Nat → List Value → am_M → Option am_R} {dp : Nat} (D : Nat → Nat → UInt64) (xt xs xi xu xc : Nat) {w : Nat} {ls : pt_L} {n : Nat} {i top ch dd : Nat}
theorem c81_l (H : ce_H ext dp D xt xs xi xu xc w ls n) (hdp : 1 ≤ dp) (hin : i < n) (hil : i < ls.length) (hto : top + 1 + pt_ks (ls.take (i + 1)) ≤ 100) (hch : ch + pt_ks (ls.take (i + 1)) ≤ 96) (hdd : dd + i ≤ 18) (hg : ∀ a b, gd2 w a b → gd w (ev_L w ls n i a b).1) {s : Nat} (hs : s < 288) {f t : Int} {N kd : Nat} {op : Int32} (hN : N ≤ 1000) (hop : kd = 16 ∧ op = 5 ∨ kd = 17 ∧ op = 6 ∨ kd = 18 ∧ op = 7) (hpe : ∀ k, k < N → gd2 w (sp_pe w f t k) (sp_pe w f t (k + 1))) :
    ∀ (m k : Nat) (lo hi : Int64) (u : Nat) (I : Nat → Nat → Int32) (L : Nat → Nat → Int64) (P : am_R → Prop), k + m = N → u ≤ 20001 → I 9 s = Int32.ofInt f → I 10 s = Int32.ofInt t → rd_L 2 ls I → ce_S w u top ch I L →
    (∀ I' L' W, (ev_pl w (ev_L w ls n i) kd (sp_pe w f t) m k lo hi u).2 = W + 1 → ce_fr top ch I L I' L' → ce_S w (ca_u 0 W) (top + 1) ch I' L' → (W ≤ 20000 → st_v (ev_pl w (ev_L w ls n i) kd (sp_pe w f t) m k lo hi u).1 top L') → P (none, (I', L', D, am_rf (xt, xs, xi, 2, xu, xc)))) →
    am_wp ext dp mz_81 (19, [some (.ref 25), some (.int op), some (.int (nI i)), some (.int (nI s)), some (.int (nI dd)), some (.int (nI N)), some (.long lo), none, some (.long hi), none, some (.int (nI k)), none, none, none, none], [], (I, L, D, am_rf (xt, xs, xi, 2, xu, xc))) P := by
  have es : (nI s).toNatClampNeg = s := ni_nat (by omega)
  have hb : am_inb (nI s) 288 = true := ni_inb hs (by omega)
  have cu : ∀ {x : Nat}, x ≤ 20001 → ca_u 0 x = x := fun h => by unfold ca_u; split <;> omega
  have up : ∀ {j : Nat} {as : List Value} {m : am_M} {r : am_R}, am_Rn ext 1 j as m r → am_Rn ext dp j as m r := fun r => am_up r hdp
  intro m
  induction m with
  | zero =>
    intro k lo hi u I L P hk hu h9 h10 hL hS h
    obtain ⟨I', L', r, g⟩ := c64p (ext := ext) (d := 0) D (xt, xs, xi, 2, xu, xc) hS.2.2.1 (show top < 100 by omega) hS.2.2.2.2 lo hi
    refine w81_19 I L D xc xi xs xt xu op (nI i) (nI s) (nI dd) (nI N) lo hi (nI k) ⟨fun _ => ⟨I', L', D, up r, h I' L' u rfl (ce_fr_p g) (by rw [cu hu]; exact ce_S_p hS g) (fun _ => g.2.2.1)⟩, fun z => absurd ?_ z⟩
    rw [ni_le (by omega) (by omega)]
    omega
  | succ m ih =>
    intro k lo hi u I L P hk hu h9 h10 hL hS h
    have gp := hpe k (by omega)
    have rA := c82 (ext := ext) (d := 0) L D (xt, xs, xi, 2, xu, xc) I w k f t
    have rB := c82 (ext := ext) (d := 0) L D (xt, xs, xi, 2, xu, xc) I w (k + 1) f t
    have kp : nI k + 1 = nI (k + 1) := by rw [show (1 : Int32) = nI 1 from rfl, ni_add (by omega)]
    generalize hp1 : sp_pe w f t k = p1 at *
    generalize hp2 : sp_pe w f t (k + 1) = p2 at *
    obtain ⟨I4, L4, r4, F4, S4, V4⟩ := H i top ch u dd p1 p2 I L hin hil (by omega) hch hdd hu gp hL hS
    obtain ⟨I5, L5, r5, g3, gf, l9, l10, lf⟩ := c61 (ext := ext) (d := dp - 1) D (xt, xs, xi, 2, xu, xc) S4.2.2.1 (show top < 100 by omega) (gd_le (ca_o_gd (hg _ _ gp))) V4
    rw [show dp - 1 + 1 = dp by omega] at r5
    have F5 : ce_fr top ch I L I5 L5 := ce_fr_t F4 ⟨fun p q q1 q2 => gf p q (by omega), fun p q q1 q2 => lf p q (by omega)⟩ (Nat.le_refl _) (Nat.le_refl _)
    have S5 : ce_S w (ca_u u (ev_L w ls n i p1 p2).2) top ch I5 L5 := ⟨(gf 25 6 (by omega)).trans S4.1, (gf 25 8 (by omega)).trans S4.2.1, g3, (gf 25 4 (by omega)).trans S4.2.2.2.1, (lf 25 7 (by omega)).trans S4.2.2.2.2⟩
    have nN : ¬ nI N ≤ nI k := by rw [ni_le (by omega) (by omega)]; omega
    have hu5 : ca_u u (ev_L w ls n i p1 p2).2 ≤ 20001 := by unfold ca_u; split <;> omega
    cases ho : ca_o u (ev_L w ls n i p1 p2) with
    | none =>
      rw [ho, if_pos rfl] at r5
      obtain ⟨I6, L6, r6, g6⟩ := c64n (ext := ext) (d := 0) D (xt, xs, xi, 2, xu, xc) S5.2.2.1 (show top < 100 by omega) S5.2.2.2.2
      refine w81_19 I L D xc xi xs xt xu op (nI i) (nI s) (nI dd) (nI N) lo hi (nI k) ⟨fun z => absurd z nN, fun _ => ⟨hb, hb, p1, I, L, D, by rw [es, h9, h10, hS.1]; exact up rA, hb, hb, p2, I, L, D, by rw [es, h9, h10, hS.1, kp]; exact up rB, I4, L4, D, r4, _, I5, L5, D, r5, fun z => absurd rfl z, fun _ => ⟨I6, L6, D, up r6, ?_⟩⟩⟩
      have F6 := ce_fr_t F5 (ce_fr_p g6) (Nat.le_refl _) (Nat.le_refl _)
      have S6 := ce_S_p S5 g6
      by_cases h20 : u + (ev_L w ls n i p1 p2).2 ≤ 20000
      · have en : (ev_L w ls n i p1 p2).1 = none := by unfold ca_o at ho; rw [if_pos h20] at ho; exact ho
        have ee : ev_pl w (ev_L w ls n i) kd (sp_pe w f t) (m + 1) k lo hi u = (none, u + (ev_L w ls n i p1 p2).2 + 1) := by
          rw [ev_pl, hp1, hp2, en]
        refine h I6 L6 (u + (ev_L w ls n i p1 p2).2) (by rw [ee]) F6 ?_ (fun _ => by rw [ee]; exact g6.2.2.1)
        have e1 : ca_u 0 (u + (ev_L w ls n i p1 p2).2) = ca_u u (ev_L w ls n i p1 p2).2 := by unfold ca_u; rw [Nat.zero_add]
        rw [e1]; exact S6
      · have hbig : ∃ W, (ev_pl w (ev_L w ls n i) kd (sp_pe w f t) (m + 1) k lo hi u).2 = W + 1 ∧ ¬ W ≤ 20000 := by
          cases hq : (ev_L w ls n i p1 p2).1 with
          | none =>
            refine ⟨u + (ev_L w ls n i p1 p2).2, ?_, h20⟩
            rw [ev_pl, hp1, hp2, hq]
          | some p =>
            have e := ev_pl_s (w := w) (E := ev_L w ls n i) (kd := kd) (pe := sp_pe w f t) (m := m) (k := k) (lo := lo) (hi := hi) (u := u) (p := p) (by rw [hp1, hp2]; exact hq)
            rw [hp1, hp2] at e
            rw [e]
            have := ev_pl_u w (ev_L w ls n i) kd (sp_pe w f t) m (k + 1) (pl_lo w kd (sp_pe w f t) k lo p) (pl_hi w kd (sp_pe w f t) k hi p) (u + (ev_L w ls n i p1 p2).2)
            exact ⟨(ev_pl w (ev_L w ls n i) kd (sp_pe w f t) m (k + 1) (pl_lo w kd (sp_pe w f t) k lo p) (pl_hi w kd (sp_pe w f t) k hi p) (u + (ev_L w ls n i p1 p2).2)).2 - 1, by omega, by omega⟩
        obtain ⟨W, hW, hWb⟩ := hbig
        refine h I6 L6 W hW F6 ?_ (fun z => absurd z hWb)
        have e1 : ca_u u (ev_L w ls n i p1 p2).2 = 20001 := by unfold ca_u; rw [if_neg h20]
        have e2 : ca_u 0 W = 20001 := by unfold ca_u; rw [if_neg (by omega)]
        rw [e2, ← e1]; exact S6
    | some p =>
      have h20 : u + (ev_L w ls n i p1 p2).2 ≤ 20000 := by
        unfold ca_o at ho
        split at ho
        · assumption
        · cases ho
      have hq : (ev_L w ls n i p1 p2).1 = some p := by unfold ca_o at ho; rw [if_pos h20] at ho; exact ho
      rw [ho, if_neg (by simp)] at r5
      have e9 : L5 25 9 = p.1 := by rw [l9, ho]; rfl
      have e10 : L5 25 10 = p.2 := by rw [l10, ho]; rfl
      have eu : ca_u u (ev_L w ls n i p1 p2).2 = u + (ev_L w ls n i p1 p2).2 := by unfold ca_u; rw [if_pos h20]
      rw [eu] at S5
      have e := ev_pl_s (w := w) (E := ev_L w ls n i) (kd := kd) (pe := sp_pe w f t) (m := m) (k := k) (lo := lo) (hi := hi) (u := u) (p := p) (by rw [hp1, hp2]; exact hq)
      rw [hp1, hp2] at e
      rw [e] at h
      have go := ih (k + 1) (pl_lo w kd (sp_pe w f t) k lo p) (pl_hi w kd (sp_pe w f t) k hi p) _ I5 L5 P (by omega) (by omega) ((F5.1 9 s (by omega) (by omega)).trans h9) ((F5.1 10 s (by omega) (by omega)).trans h10) (rd_L2_fr hL F5) S5 (fun I' L' W hW F S V => h I' L' W hW (ce_fr_t F5 F (Nat.le_refl _) (Nat.le_refl _)) S V)
      unfold pl_lo pl_hi at go
      rw [hp1, hp2] at go
      have k0 : nI k = 0 ↔ k = 0 := by rw [show (0 : Int32) = nI 0 from rfl, ni_eq (by omega) (by omega)]
      refine w81_19 I L D xc xi xs xt xu op (nI i) (nI s) (nI dd) (nI N) lo hi (nI k) ⟨fun z => absurd z nN, fun _ => ⟨hb, hb, p1, I, L, D, by rw [es, h9, h10, hS.1]; exact up rA, hb, hb, p2, I, L, D, by rw [es, h9, h10, hS.1, kp]; exact up rB, I4, L4, D, r4, _, I5, L5, D, r5, fun _ => ?_, fun z => absurd z (by decide)⟩⟩
      rw [e9, e10, kp]
      rcases hop with ⟨q1, q2⟩ | ⟨q1, q2⟩ | ⟨q1, q2⟩
      · subst q2
        rw [if_pos q1, if_pos q1] at go
        refine ⟨fun z => absurd rfl z, fun _ => ⟨_, I5, L5, D, up (c70 L5 D (xt, xs, xi, 2, xu, xc) I5 S5.1 _), ?_⟩⟩
        rw [e10]
        exact ⟨_, I5, L5, D, up (c71 L5 D (xt, xs, xi, 2, xu, xc) I5 S5.1 _), go⟩
      · subst q2
        rw [if_neg (show ¬ kd = 16 by omega), if_neg (show ¬ kd = 16 by omega)] at go
        refine ⟨fun _ => ⟨fun z => ⟨fun y => absurd rfl y, fun _ => ?_⟩, fun z => ?_⟩, fun z => absurd z (by decide)⟩
        · rw [if_neg (fun q => z (k0.mpr q)), if_neg (fun q => z (k0.mpr q)), if_pos q1, if_pos q1] at go
          refine ⟨_, I5, L5, D, up (c203 L5 D (xt, xs, xi, 2, xu, xc) I5 _ _), ?_⟩
          rw [e10]
          exact ⟨_, I5, L5, D, up (c203 L5 D (xt, xs, xi, 2, xu, xc) I5 _ _), go⟩
        · rw [if_pos (k0.mp z), if_pos (k0.mp z)] at go
          exact go
      · subst q2
        rw [if_neg (show ¬ kd = 16 by omega), if_neg (show ¬ kd = 16 by omega)] at go
        refine ⟨fun _ => ⟨fun z => ⟨fun _ => ?_, fun y => absurd y (by decide)⟩, fun z => ?_⟩, fun z => absurd z (by decide)⟩
        · rw [if_neg (fun q => z (k0.mpr q)), if_neg (fun q => z (k0.mpr q)), if_neg (show ¬ kd = 17 by omega), if_neg (show ¬ kd = 17 by omega)] at go
          refine ⟨_, I5, L5, D, up (c204 L5 D (xt, xs, xi, 2, xu, xc) I5 _ _), ?_⟩
          rw [e10]
          exact ⟨_, I5, L5, D, up (c204 L5 D (xt, xs, xi, 2, xu, xc) I5 _ _), go⟩
        · rw [if_pos (k0.mp z), if_pos (k0.mp z)] at go
          exact go
end CPIECE
