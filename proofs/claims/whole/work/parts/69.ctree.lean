/-! ===== the class asks: a tree ===== -/
theorem pt_ks_mono (ls : pt_L) {i j : Nat} (h : i ≤ j) : pt_ks (ls.take i) ≤ pt_ks (ls.take j) := by
  have e : ls.take j = ls.take i ++ (ls.drop i).take (j - i) := by
    rw [← List.take_add]
    congr 1
    omega
  rw [e, pt_ks_2]
  omega
theorem ce_S_p {w u top0 top ch : Nat} {J I' : Nat → Nat → Int32} {L L' : Nat → Nat → Int64} {o : Option (Int64 × Int64)} (h : ce_S w u top0 ch J L) (g : pp_P J L top o I' L') : ce_S w u (top + 1) ch I' L' := by
  obtain ⟨s6, s8, s3, s4, s7⟩ := h
  exact ⟨by rw [g.2.1 25 6 (by omega)]; exact s6, by rw [g.2.1 25 8 (by omega)]; exact s8, g.1, by rw [g.2.1 25 4 (by omega)]; exact s4, by rw [g.2.2.2 25 7 (by omega)]; exact s7⟩
theorem ce_fr_r {top ch : Nat} {I I' : Nat → Nat → Int32} {L L' : Nat → Nat → Int64} (hf : ce_fr top ch I L I' L') (a : Nat) (ha : a ≤ 24) : I' a = I a := funext fun b => hf.1 a b (by omega) (by omega)
section CTREE
variable {ext : Nat → List Value → am_M → Option am_R} {d : Nat} (D : Nat → Nat → UInt64) (xt xs xi xu xc : Nat) {w : Nat} {ls : pt_L} {n m : Nat} {fn : Bool} {a b : Int64} {dd vB cB en : Nat}
/-- what the class's run does with the code of a tree -/
def ce_G (ext : Nat → List Value → am_M → Option am_R) (d : Nat) (D : Nat → Nat → UInt64) (xt xs xi xu xc w : Nat) (ls : pt_L) (n m : Nat) (a b : Int64) (dd vB cB en : Nat) (T : tr_T) : Prop := ∀ (s top ch u : Nat) (I : Nat → Nat → Int32) (L : Nat → Nat → Int64) (P : am_R → Prop), tr_cc (I 7) (I 8) (I 9) (I 10) T s → s + tr_cz T ≤ en → rd_L 2 ls I → ce_S w u top ch I L → u ≤ 20000 → top + tr_sz T + pt_ks (ls.take m) ≤ 100 → ch + tr_sz T + pt_ks (ls.take m) ≤ 96 →
  (u + (ev_T w (ev_L w ls n) T a b).2 ≤ 20000 → ∀ I' L', ce_fr top ch I L I' L' → ce_S w (u + (ev_T w (ev_L w ls n) T a b).2) (top + 1) ch I' L' → st_v (ev_T w (ev_L w ls n) T a b).1 top L' → ce_hd ext d D xt xs xi xu xc a b dd vB cB en (nI (s + tr_cz T)) I' L' P) →
  (¬ u + (ev_T w (ev_L w ls n) T a b).2 ≤ 20000 → ∀ I' L' pl, ce_fr top ch I L I' L' → I' 25 6 = nI w → I' 25 8 = nI 20001 → L' 25 7 = sp_lim w → ce_hd ext d D xt xs xi xu xc a b dd vB cB en pl I' L' P) →
  ce_hd ext d D xt xs xi xu xc a b dd vB cB en (nI s) I L P
/-- the state behind work++ -/
theorem ce_S_w {u top ch : Nat} {I : Nat → Nat → Int32} {L : Nat → Nat → Int64} (h : ce_S w u top ch I L) : ce_S w (u + 1) top ch (am_uI I 25 8 (nI (u + 1))) L := by
  obtain ⟨s6, s8, s3, s4, s7⟩ := h
  exact ⟨by rw [am_uI_at, if_neg (by omega)]; exact s6, by rw [am_uI_at, if_pos ⟨rfl, rfl⟩], by rw [am_uI_at, if_neg (by omega)]; exact s3, by rw [am_uI_at, if_neg (by omega)]; exact s4, s7⟩
theorem ce_fr_w (top ch : Nat) (I : Nat → Nat → Int32) (L : Nat → Nat → Int64) (x : Int32) : ce_fr top ch I L (am_uI I 25 8 x) L := ⟨fun a b q1 q2 => by rw [am_uI_at, if_neg (by omega)], fun _ _ _ _ => rfl⟩
theorem ce_tree (hd : 8 ≤ d) (hen : en ≤ pt_cs ls) (hcs : pt_cs ls ≤ 288) (hmn : m ≤ n) (hml : m ≤ ls.length) (hdd : dd + m ≤ 18) (hab2 : gd2 w a b) (hz : gd2 w 0 0) (H : ce_H ext (d - 2) D xt xs xi xu xc w ls n) (hgE : ∀ i a b, i < n → i < ls.length → gd2 w a b → gd w (ev_L w ls n i a b).1)
    (hgT : ∀ T q, tr_ok (pt_ev (ls.take m) fn) T q → gd w (ev_T w (ev_L w ls n) T a b).1)
    (hov : ∀ p, tr_k0 (pt_ev (ls.take m) fn) p → 15 ≤ p.2.1 → ce_G ext d D xt xs xi xu xc w ls n m a b dd vB cB en (.leaf p)) :
    ∀ (T : tr_T) (q : Nat), tr_ok (pt_ev (ls.take m) fn) T q → ce_G ext d D xt xs xi xu xc w ls n m a b dd vB cB en T := by
  -- a letter's line lies below m
  have lnb : ∀ l : Nat, ¬ pt_tl (ls.take m) l = 0 → pt_ix (ls.take m) l < m ∧ pt_ix (ls.take m) l < ls.length := by
    intro l hl
    obtain ⟨_, _, _, _, h⟩ := pt_ix_at (ls.take m) l hl
    rw [List.length_take] at h
    omega
  have mono : ∀ i, i < m → pt_ks (ls.take (i + 1)) ≤ pt_ks (ls.take m) := fun i hi => pt_ks_mono ls (by omega)
  have e88 : ∀ {J : Nat → Nat → Int32}, rd_L 2 ls J → J 2 8 = nI (pt_cs ls) := fun h => h.2.2.2.1
  have ddi : nI dd + 1 = nI (dd + 1) := by rw [show (1 : Int32) = nI 1 from rfl, ni_add (by omega)]
  -- a knot behind its parts that are on the row
  have fin : ∀ {s to top ch u : Nat} {I J : Nat → Nat → Int32} {L LJ : Nat → Nat → Int64} {P : am_R → Prop} {op : Int32} {N : Nat} {o : Option (Int64 × Int64)} {I' : Nat → Nat → Int32} {L' : Nat → Nat → Int64} {top0 : Nat}, s < en → s ≤ to → to ≤ 288 → u ≤ 20000 → J 7 s = op → ¬ op = 1 → ¬ op = 19 → ¬ op = 20 → ce_S w u top0 ch J LJ → ce_fr top ch I L J LJ →
      am_Rn ext d 63 [.ref 25, .int op, .int (nI s), .int (nI dd)] (am_uI J 25 8 (nI (u + 1)), LJ, D, am_rf (xt, xs, xi, 2, xu, xc)) (some (.int (nI to)), (I', L', D, am_rf (xt, xs, xi, 2, xu, xc))) → pp_P (am_uI J 25 8 (nI (u + 1))) LJ top o I' L' →
      (u + 1 ≤ 20000 → ∀ I' L', ce_fr top ch I L I' L' → ce_S w (u + 1) (top + 1) ch I' L' → st_v o top L' → ce_hd ext d D xt xs xi xu xc a b dd vB cB en (nI (to + 1)) I' L' P) →
      (¬ u + 1 ≤ 20000 → ∀ I' L' pl, ce_fr top ch I L I' L' → I' 25 6 = nI w → I' 25 8 = nI 20001 → L' 25 7 = sp_lim w → ce_hd ext d D xt xs xi xu xc a b dd vB cB en pl I' L' P) →
      ce_hd ext d D xt xs xi xu xc a b dd vB cB en (nI s) J LJ P := by
    intro s to top ch u I J L LJ P op N o I' L' top0 hs hst hto hu hop h1 h19 h20 hS hf r g hok hab
    have S1 := ce_S_p (ce_S_w hS) g
    have F1 := ce_fr_t hf (ce_fr_t (ce_fr_w top ch J LJ (nI (u + 1))) (ce_fr_p g) (Nat.le_refl _) (Nat.le_refl _)) (Nat.le_refl _) (Nat.le_refl _)
    refine ce_step (ext := ext) D xt xs xi xu xc (by omega) hs (by omega) hu hS hop h1 h19 h20 hst hto r ?_
    by_cases h20' : u + 1 ≤ 20000
    · exact hok h20' I' L' F1 S1 g.2.2.1
    · have e : u + 1 = 20001 := by omega
      rw [e] at S1
      exact hab h20' I' L' _ F1 S1.1 S1.2.1 S1.2.2.2.2
  -- two parts
  have two : ∀ (p : tr_P) (A B : tr_T) (qA qB : Nat), 6 ≤ p.2.1 → p.2.1 ≤ 11 → tr_ok (pt_ev (ls.take m) fn) A qA → tr_ok (pt_ev (ls.take m) fn) B qB → ce_G ext d D xt xs xi xu xc w ls n m a b dd vB cB en A → ce_G ext d D xt xs xi xu xc w ls n m a b dd vB cB en B → ce_G ext d D xt xs xi xu xc w ls n m a b dd vB cB en (tr_2 p A B) := by
    intro p A B qA qB hk1 hk2 hA hB ihA ihB s top ch u I L P hcc hse hL hS hu hto hch hok hab
    simp only [tr_cc, tr_cz, tr_sz] at hcc hse hto hch hok
    obtain ⟨ccA, ccB, c7⟩ := hcc
    have gA := hgT A _ hA
    have gB := hgT B _ hB
    have zA := tr_pos A
    have zB := tr_pos B
    have ez : s + (1 + (tr_cz A + tr_cz B + if (0 : Nat) = 4 then 2 else 0) + if (2 : Nat) = 4 then 2 else 0) = s + tr_cz A + tr_cz B + 1 := by rw [if_neg (by omega), if_neg (by omega)]; omega
    rw [ez] at hok hse
    have erT : ev_T w (ev_L w ls n) (tr_2 p A B) a b = ev_2 w p (ev_T w (ev_L w ls n) A a b) (ev_T w (ev_L w ls n) B a b) := rfl
    rw [erT] at hok hab
    have ev2 : ev_2 w p (ev_T w (ev_L w ls n) A a b) (ev_T w (ev_L w ls n) B a b) = (sp_m2 w p.2.1 (ev_T w (ev_L w ls n) A a b).1 (ev_T w (ev_L w ls n) B a b).1, (ev_T w (ev_L w ls n) A a b).2 + (ev_T w (ev_L w ls n) B a b).2 + 1) := by
      unfold ev_2 sp_m2
      cases (ev_T w (ev_L w ls n) A a b).1 with
      | none => rfl
      | some q => cases (ev_T w (ev_L w ls n) B a b).1 with
        | none => rfl
        | some r => rfl
    rw [ev2] at hok hab
    simp only at hok hab
    refine ihA s top ch u I L P ccA (by omega) hL hS hu (by omega) (by omega) (fun hA20 J LJ F S V => ?_) (fun hA20 I' L' pl F i6 i8 l7 => hab (by omega) I' L' pl F i6 i8 l7)
    have ccB' : tr_cc (J 7) (J 8) (J 9) (J 10) B (s + tr_cz A) := by
      rw [ce_fr_r F 7 (by omega), ce_fr_r F 8 (by omega), ce_fr_r F 9 (by omega), ce_fr_r F 10 (by omega)]; exact ccB
    refine ihB (s + tr_cz A) (top + 1) ch _ J LJ P ccB' (by omega) (rd_L2_fr hL F) S hA20 (by omega) (by omega) (fun hB20 K LK F2 S2 V2 => ?_) (fun hB20 I' L' pl F2 i6 i8 l7 => hab (by omega) I' L' pl (ce_fr_t F F2 (by omega) (by omega)) i6 i8 l7)
    have F3 : ce_fr top ch I L K LK := ce_fr_t F F2 (by omega) (by omega)
    have LK' := rd_L2_fr hL F3
    have V1 : st_v (ev_T w (ev_L w ls n) A a b).1 top LK := ⟨(F2.2 26 top (by omega) (by omega)).trans V.1, (F2.2 27 top (by omega) (by omega)).trans V.2⟩
    have c7' : K 7 (s + tr_cz A + tr_cz B) = tr_op p := (F3.1 7 _ (by omega) (by omega)).trans c7
    generalize hrA : ev_T w (ev_L w ls n) A a b = rA at *
    generalize hrB : ev_T w (ev_L w ls n) B a b = rB at *
    generalize hs2 : s + tr_cz A + tr_cz B = s2 at *
    have SJ := ce_S_w S2
    have J8 : (am_uI K 25 8 (nI (u + rA.2 + rB.2 + 1))) 2 8 = nI (pt_cs ls) := by rw [am_uI_at, if_neg (by omega)]; exact e88 LK'
    have r39 := c39 (ext := ext) (d := 0) (L := LK) (I := am_uI K 25 8 (nI (u + rA.2 + rB.2 + 1))) D (xt, xs, xi, 2, xu, xc) J8 hcs (show s2 < pt_cs ls by omega)
    have hop : tr_op p = nI (p.2.1 + 5) := by
      have hk6 : p.2.1 = 6 ∨ p.2.1 = 7 ∨ p.2.1 = 8 ∨ p.2.1 = 9 ∨ p.2.1 = 10 ∨ p.2.1 = 11 := by omega
      unfold tr_op
      rcases hk6 with h | h | h | h | h | h <;> rw [h] <;> rfl
    obtain ⟨I', L', r, g⟩ := c67 (ext := ext) (d := 0) D (xt, xs, xi, 2, xu, xc) ⟨hk1, hk2⟩ SJ.2.2.1 (show top + 1 < 100 by omega) SJ.1 SJ.2.2.2.2 (gd_le gA) (gd_le gB) V1 V2
    have ne : ∀ k : Nat, k < 100 → ¬ k = p.2.1 + 5 → ¬ nI (p.2.1 + 5) = nI k := fun k hk h z => by rw [ni_eq (by omega) (by omega)] at z; omega
    have r63 : am_Rn ext d 63 [.ref 25, .int (nI (p.2.1 + 5)), .int (nI s2), .int (nI dd)] (am_uI K 25 8 (nI (u + rA.2 + rB.2 + 1)), LK, D, am_rf (xt, xs, xi, 2, xu, xc)) (some (.int (nI s2)), (I', L', D, am_rf (xt, xs, xi, 2, xu, xc))) := by
      have := am_rn_of (ext := ext) (d := d - 1) (as := [.ref 25, .int (nI (p.2.1 + 5)), .int (nI s2), .int (nI dd)]) (r := (some (.int (nI s2)), (I', L', D, am_rf (xt, xs, xi, 2, xu, xc)))) mh_63 rfl (w63_0 _ LK D xc xi xs xt xu _ (nI s2) (nI dd) ⟨_, _, LK, D, am_up r39 (by omega), fun z => absurd z (ne 0 (by omega) (by omega)), fun z => absurd z (ne 2 (by omega) (by omega)), fun z => absurd z (ne 3 (by omega) (by omega)), fun z => absurd z (ne 4 (by omega) (by omega)), fun z => absurd z (fun q => q.elim (ne 5 (by omega) (by omega)) (fun q => q.elim (ne 6 (by omega) (by omega)) (ne 7 (by omega) (by omega)))), fun z => absurd z (fun q => q.elim (ne 8 (by omega) (by omega)) (fun q => q.elim (ne 9 (by omega) (by omega)) (ne 10 (by omega) (by omega)))), fun z => absurd z (fun q => q.elim (ne 17 (by omega) (by omega)) (ne 18 (by omega) (by omega))), fun _ => ⟨I', L', D, am_up r (by omega), rfl⟩⟩)
      rwa [show d - 1 + 1 = d by omega] at this
    exact fin (N := 0) (by omega) (Nat.le_refl s2) (by omega) hB20 (c7'.trans hop) (ne 1 (by omega) (by omega)) (ne 19 (by omega) (by omega)) (ne 20 (by omega) (by omega)) S2 F3 r63 g (fun h I' L' F' S' V' => hok (by omega) I' L' F' (by rw [show u + (rA.2 + rB.2 + 1) = u + rA.2 + rB.2 + 1 by omega]; exact S') V') (fun h I' L' pl F' x1 x2 x3 => hab (by omega) I' L' pl F' x1 x2 x3)
  refine tr_ind ?_ ?_ ?_ ?_ ?_
  · -- leaves
    intro p q0 hp hk0
    by_cases h15 : 15 ≤ p.2.1
    · exact hov p hk0 h15
    · intro s top ch u I L P hcc hse hL hS hu hto hch hok hab
      simp only [tr_cz, tr_sz] at hse hto hch hok
      obtain ⟨c7, c8, _, _⟩ := hcc
      have hk3 : p.2.1 = 0 ∨ p.2.1 = 1 ∨ p.2.1 = 2 := by rcases hk0 with ⟨h, _⟩ | ⟨h, _⟩ | ⟨h, _⟩ | ⟨h, _⟩ <;> omega
      have J8 : (am_uI I 25 8 (nI (u + 1))) 2 8 = nI (pt_cs ls) := by rw [am_uI_at, if_neg (by omega)]; exact e88 hL
      have r39 := c39 (ext := ext) (d := 0) (L := L) (I := am_uI I 25 8 (nI (u + 1))) D (xt, xs, xi, 2, xu, xc) J8 hcs (show s < pt_cs ls by omega)
      have e8s : (am_uI I 25 8 (nI (u + 1))) 8 s = tr_ar p := by rw [am_uI_at, if_neg (by omega)]; exact c8
      rw [e8s] at r39
      have SJ := ce_S_w hS
      rcases hk3 with hk | hk | hk
      · -- a number
        have er : ev_T w (ev_L w ls n) (.leaf p) a b = (sp_k w (sp_l w (Int32.toInt64 (nI p.2.2.1))) (sp_l w (Int32.toInt64 (nI p.2.2.1))), 1) := by
          show ev_0 w (ev_L w ls n) p a b = _
          unfold ev_0
          rw [if_pos hk]
        rw [er] at hok hab
        have hop : tr_op p = 0 := by unfold tr_op; rw [hk]; rfl
        have har : tr_ar p = nI p.2.2.1 := by unfold tr_ar; rw [if_pos hk]
        obtain ⟨I', L', r, g⟩ := c64p (ext := ext) (d := 0) D (xt, xs, xi, 2, xu, xc) SJ.2.2.1 (show top < 100 by omega) SJ.2.2.2.2 (sp_l w (Int32.toInt64 (nI p.2.2.1))) (sp_l w (Int32.toInt64 (nI p.2.2.1)))
        rw [har] at r39
        have r63 : am_Rn ext d 63 [.ref 25, .int 0, .int (nI s), .int (nI dd)] (am_uI I 25 8 (nI (u + 1)), L, D, am_rf (xt, xs, xi, 2, xu, xc)) (some (.int (nI s)), (I', L', D, am_rf (xt, xs, xi, 2, xu, xc))) := by
          have := am_rn_of (ext := ext) (d := d - 1) (as := [.ref 25, .int 0, .int (nI s), .int (nI dd)]) (r := (some (.int (nI s)), (I', L', D, am_rf (xt, xs, xi, 2, xu, xc)))) mh_63 rfl (w63_0 _ L D xc xi xs xt xu 0 (nI s) (nI dd) ⟨_, _, L, D, am_up r39 (by omega), fun _ => ⟨I', L', D, by rw [SJ.1]; exact am_up r (by omega), rfl⟩, fun z => absurd z (by decide), fun z => absurd z (by decide), fun z => absurd z (by decide), fun z => absurd z (by decide), fun z => absurd z (by decide), fun z => absurd z (by decide), fun z => absurd rfl z.1⟩)
          rwa [show d - 1 + 1 = d by omega] at this
        exact fin (N := 0) (by omega) (Nat.le_refl s) (by omega) hu (c7.trans hop) (by decide) (by decide) (by decide) hS (ce_fr_0 top ch I L) r63 g hok hab
      · -- t
        have er : ev_T w (ev_L w ls n) (.leaf p) a b = (sp_k w a b, 1) := by
          show ev_0 w (ev_L w ls n) p a b = _
          unfold ev_0
          rw [if_neg (by omega), if_pos hk]
        rw [er] at hok hab
        have hop : tr_op p = 1 := by unfold tr_op; rw [hk]; rfl
        refine ce_t (ext := ext) D xt xs xi xu xc (by omega) (by omega) (by omega) hu (by omega) hS (c7.trans hop) ?_
        intro I' L' g
        have S1 := ce_S_p SJ g
        have F1 := ce_fr_t (ce_fr_w top ch I L (nI (u + 1))) (ce_fr_p g) (Nat.le_refl _) (Nat.le_refl _)
        by_cases h20' : u + 1 ≤ 20000
        · exact hok h20' I' L' F1 S1 g.2.2.1
        · have e : u + 1 = 20001 := by omega
          rw [e] at S1
          exact hab h20' I' L' _ F1 S1.1 S1.2.1 S1.2.2.2.2
      · -- a number's letter
        have hl : p.2.2.1 < 26 ∧ pt_tl (ls.take m) p.2.2.1 = 1 ∧ p.2.2.2.1 = pt_ix (ls.take m) p.2.2.1 := by
          rcases hk0 with ⟨h, _⟩ | ⟨h, _⟩ | ⟨_, h1, h2, h3⟩ | ⟨h, _⟩
          · omega
          · omega
          · exact ⟨h1, h2, h3⟩
          · omega
        have hln := lnb p.2.2.1 (by rw [hl.2.1]; omega)
        rw [← hl.2.2] at hln
        have er : ev_T w (ev_L w ls n) (.leaf p) a b = ((ev_L w ls n p.2.2.2.1 0 0).1, (ev_L w ls n p.2.2.2.1 0 0).2 + 1) := by
          show ev_0 w (ev_L w ls n) p a b = _
          unfold ev_0
          rw [if_neg (by omega), if_neg (by omega), if_pos hk]
        rw [er] at hok hab
        have hop : tr_op p = 2 := by unfold tr_op; rw [hk]; rfl
        have har : tr_ar p = nI p.2.2.2.1 := by unfold tr_ar; rw [if_neg (by omega), if_pos (Or.inl hk)]
        rw [har] at r39
        have hm := mono _ hln.1
        have LJ : rd_L 2 ls (am_uI I 25 8 (nI (u + 1))) := rd_L2_fr hL (ce_fr_w top ch I L (nI (u + 1)))
        obtain ⟨I', L', r, F, S', V⟩ := H p.2.2.2.1 top ch (u + 1) (dd + 1) 0 0 (am_uI I 25 8 (nI (u + 1))) L (by omega) hln.2 (by omega) (by omega) (by omega) (by omega) hz LJ SJ
        have r63 : am_Rn ext d 63 [.ref 25, .int 2, .int (nI s), .int (nI dd)] (am_uI I 25 8 (nI (u + 1)), L, D, am_rf (xt, xs, xi, 2, xu, xc)) (some (.int (nI s)), (I', L', D, am_rf (xt, xs, xi, 2, xu, xc))) := by
          have := am_rn_of (ext := ext) (d := d - 1) (as := [.ref 25, .int 2, .int (nI s), .int (nI dd)]) (r := (some (.int (nI s)), (I', L', D, am_rf (xt, xs, xi, 2, xu, xc)))) mh_63 rfl (w63_0 _ L D xc xi xs xt xu 2 (nI s) (nI dd) ⟨_, _, L, D, am_up r39 (by omega), fun z => absurd z (by decide), fun _ => ⟨I', L', D, by rw [ddi]; exact am_up r (by omega), rfl⟩, fun z => absurd z (by decide), fun z => absurd z (by decide), fun z => absurd z (by decide), fun z => absurd z (by decide), fun z => absurd z (by decide), fun z => absurd rfl z.2.1⟩)
          rwa [show d - 1 + 1 = d by omega] at this
        have F1 := ce_fr_t (ce_fr_w top ch I L (nI (u + 1))) F (Nat.le_refl _) (Nat.le_refl _)
        refine ce_step (ext := ext) D xt xs xi xu xc (by omega) (by omega) (by omega) hu hS (c7.trans hop) (by decide) (by decide) (by decide) (Nat.le_refl s) (by omega) r63 ?_
        by_cases h20' : u + ((ev_L w ls n p.2.2.2.1 0 0).2 + 1) ≤ 20000
        · have eu : ca_u (u + 1) (ev_L w ls n p.2.2.2.1 0 0).2 = u + ((ev_L w ls n p.2.2.2.1 0 0).2 + 1) := by unfold ca_u; rw [if_pos (by omega)]; omega
          have eo : ca_o (u + 1) (ev_L w ls n p.2.2.2.1 0 0) = (ev_L w ls n p.2.2.2.1 0 0).1 := by unfold ca_o; rw [if_pos (by omega)]
          rw [eu] at S'
          rw [eo] at V
          exact hok h20' I' L' F1 S' V
        · have eu : ca_u (u + 1) (ev_L w ls n p.2.2.2.1 0 0).2 = 20001 := by unfold ca_u; rw [if_neg (by omega)]
          rw [eu] at S'
          exact hab h20' I' L' _ F1 S'.1 S'.2.1 S'.2.2.2.2
  · -- one part
    intro p A q0 hp hk1 hA ih s top ch u I L P hcc hse hL hS hu hto hch hok hab
    simp only [tr_cc, tr_cz, tr_sz] at hcc hse hto hch hok
    obtain ⟨ccA, c7, c8⟩ := hcc
    have gA := hgT A _ hA
    have ez : s + (1 + tr_cz A + if (1 : Nat) = 4 then 2 else 0) = s + tr_cz A + 1 := by rw [if_neg (by omega)]; omega
    rw [ez] at hok hse
    have erT : ev_T w (ev_L w ls n) (tr_1 p A) a b = ev_1 w (ev_L w ls n) p (ev_T w (ev_L w ls n) A a b) := rfl
    rw [erT] at hok hab
    have hmore : (ev_T w (ev_L w ls n) A a b).2 + 1 ≤ (ev_1 w (ev_L w ls n) p (ev_T w (ev_L w ls n) A a b)).2 := by
      unfold ev_1
      split
      · exact Nat.le_refl _
      · split
        · show _ ≤ _ + 1 + _; omega
        · exact Nat.le_refl _
    refine ih s top ch u I L P ccA (by omega) hL hS hu (by omega) (by omega) (fun hA20 J LJ F S V => ?_) (fun hA20 I' L' pl F i6 i8 l7 => hab (by omega) I' L' pl F i6 i8 l7)
    have LJ' := rd_L2_fr hL F
    have c7' : J 7 (s + tr_cz A) = tr_op p := (F.1 7 _ (by omega) (by omega)).trans c7
    have c8' : J 8 (s + tr_cz A) = tr_ar p := (F.1 8 _ (by omega) (by omega)).trans c8
    generalize hrA : ev_T w (ev_L w ls n) A a b = rA at *
    generalize hs2 : s + tr_cz A = s2 at *
    have SJ := ce_S_w S
    have J8 : (am_uI J 25 8 (nI (u + rA.2 + 1))) 2 8 = nI (pt_cs ls) := by rw [am_uI_at, if_neg (by omega)]; exact e88 LJ'
    have r39 := c39 (ext := ext) (d := 0) (L := LJ) (I := am_uI J 25 8 (nI (u + rA.2 + 1))) D (xt, xs, xi, 2, xu, xc) J8 hcs (show s2 < pt_cs ls by omega)
    have e8s : (am_uI J 25 8 (nI (u + rA.2 + 1))) 8 s2 = tr_ar p := by rw [am_uI_at, if_neg (by omega)]; exact c8'
    rw [e8s] at r39
    by_cases h14 : p.2.1 = 14
    · -- a call
      have hl : p.2.2.1 < 26 ∧ pt_tl (ls.take m) p.2.2.1 = 2 ∧ p.2.2.2.1 = pt_ix (ls.take m) p.2.2.1 := by
        rcases hk1 with h | h | h | ⟨_, h1, h2, h3⟩
        · omega
        · omega
        · omega
        · exact ⟨h1, h2, h3⟩
      have hln := lnb p.2.2.1 (by rw [hl.2.1]; omega)
      rw [← hl.2.2] at hln
      have hm := mono _ hln.1
      have hop : tr_op p = 3 := by unfold tr_op; rw [h14]; rfl
      have har : tr_ar p = nI p.2.2.2.1 := by unfold tr_ar; rw [if_neg (by omega), if_pos (Or.inr (by omega))]
      rw [har] at r39
      have t1 : (am_uI J 25 8 (nI (u + rA.2 + 1))) 25 3 - 1 = nI top := by rw [SJ.2.2.1, show (1 : Int32) = nI 1 from rfl, ni_sub (by omega) (by omega)]; rfl
      have t2 : (1 : Int32) ≤ (am_uI J 25 8 (nI (u + rA.2 + 1))) 25 3 := by rw [SJ.2.2.1, show (1 : Int32) = nI 1 from rfl, ni_le (by omega) (by omega)]; omega
      have hb : am_inb ((am_uI J 25 8 (nI (u + rA.2 + 1))) 25 3 - 1) 100 = true := by rw [t1]; exact ni_inb (by omega) (by omega)
      have tc : ((am_uI J 25 8 (nI (u + rA.2 + 1))) 25 3 - 1).toNatClampNeg = top := by rw [t1, ni_nat (by omega)]
      have S3 : ce_S w (u + rA.2 + 1) top ch (am_uI (am_uI J 25 8 (nI (u + rA.2 + 1))) 25 3 (nI top)) LJ := by
        obtain ⟨s6, s8, s3, s4, s7⟩ := SJ
        exact ⟨by rw [am_uI_at, if_neg (by omega)]; exact s6, by rw [am_uI_at, if_neg (by omega)]; exact s8, by rw [am_uI_at, if_pos ⟨rfl, rfl⟩], by rw [am_uI_at, if_neg (by omega)]; exact s4, s7⟩
      have F3 : ce_fr top ch I L (am_uI (am_uI J 25 8 (nI (u + rA.2 + 1))) 25 3 (nI top)) LJ := ce_fr_t F ⟨fun x y q1 q2 => by rw [am_uI_at, if_neg (by omega), am_uI_at, if_neg (by omega)], fun _ _ _ _ => rfl⟩ (Nat.le_refl _) (Nat.le_refl _)
      have up63 : ∀ {I' : Nat → Nat → Int32} {L' : Nat → Nat → Int64}, am_Rn ext (d - 1) 65 [.ref 25, .int (nI p.2.2.2.1), .int (nI (dd + 1))] (am_uI J 25 8 (nI (u + rA.2 + 1)), LJ, D, am_rf (xt, xs, xi, 2, xu, xc)) (none, (I', L', D, am_rf (xt, xs, xi, 2, xu, xc))) → am_Rn ext d 63 [.ref 25, .int 3, .int (nI s2), .int (nI dd)] (am_uI J 25 8 (nI (u + rA.2 + 1)), LJ, D, am_rf (xt, xs, xi, 2, xu, xc)) (some (.int (nI s2)), (I', L', D, am_rf (xt, xs, xi, 2, xu, xc))) := by
        intro I' L' r65
        have := am_rn_of (ext := ext) (d := d - 1) (as := [.ref 25, .int 3, .int (nI s2), .int (nI dd)]) (r := (some (.int (nI s2)), (I', L', D, am_rf (xt, xs, xi, 2, xu, xc)))) mh_63 rfl (w63_0 _ LJ D xc xi xs xt xu 3 (nI s2) (nI dd) ⟨_, _, LJ, D, am_up r39 (by omega), fun z => absurd z (by decide), fun z => absurd z (by decide), fun _ => ⟨I', L', D, by rw [ddi]; exact r65, rfl⟩, fun z => absurd z (by decide), fun z => absurd z (by decide), fun z => absurd z (by decide), fun z => absurd z (by decide), fun z => absurd rfl z.2.2.1⟩)
        rwa [show d - 1 + 1 = d by omega] at this
      cases hr1 : rA.1 with
      | none =>
        rw [hr1] at V
        obtain ⟨I', L', r, g⟩ := c64n (ext := ext) (d := 0) D (xt, xs, xi, 2, xu, xc) S3.2.2.1 (show top < 100 by omega) S3.2.2.2.2
        have r65 : am_Rn ext (d - 1) 65 [.ref 25, .int (nI p.2.2.2.1), .int (nI (dd + 1))] (am_uI J 25 8 (nI (u + rA.2 + 1)), LJ, D, am_rf (xt, xs, xi, 2, xu, xc)) (none, (I', L', D, am_rf (xt, xs, xi, 2, xu, xc))) := by
          refine am_up (am_rn_of (ext := ext) (d := 1) mh_65 rfl (w65_0 _ LJ D (xt, xs, xi, 2, xu, xc) _ _ ⟨fun _ => ⟨hb, hb, fun z => absurd z ?_, fun _ => ⟨I', L', D, by rw [t1]; exact am_up r (by omega), rfl⟩⟩, fun z => absurd t2 z⟩)) (by omega)
          rw [tc, V.1, V.2]; decide
        have ev1 : ev_1 w (ev_L w ls n) p rA = (none, rA.2 + 1) := by unfold ev_1; rw [hr1]
        rw [ev1] at hok hab
        exact fin (N := 0) (by omega) (Nat.le_refl s2) (by omega) (by omega) (c7'.trans hop) (by decide) (by decide) (by decide) S F (up63 r65) (pp_P_u g) (fun h I' L' F' S' V' => hok (by show u + (rA.2 + 1) ≤ 20000; omega) I' L' F' S' V') (fun h I' L' pl F' x1 x2 x3 => hab (by show ¬ u + (rA.2 + 1) ≤ 20000; omega) I' L' pl F' x1 x2 x3)
      | some q =>
        rw [hr1] at V
        have gq : gd2 w q.1 q.2 := gA q hr1
        have L3 : rd_L 2 ls (am_uI (am_uI J 25 8 (nI (u + rA.2 + 1))) 25 3 (nI top)) := rd_L2_fr hL F3
        obtain ⟨I', L', r, F', S', V'⟩ := H p.2.2.2.1 top ch (u + rA.2 + 1) (dd + 1) q.1 q.2 _ LJ (by omega) hln.2 (by omega) (by omega) (by omega) (by omega) gq L3 S3
        have r65 : am_Rn ext (d - 1) 65 [.ref 25, .int (nI p.2.2.2.1), .int (nI (dd + 1))] (am_uI J 25 8 (nI (u + rA.2 + 1)), LJ, D, am_rf (xt, xs, xi, 2, xu, xc)) (none, (I', L', D, am_rf (xt, xs, xi, 2, xu, xc))) := by
          have v26 : LJ 26 top = q.1 := V.1
          have v27 : LJ 27 top = q.2 := V.2
          have := am_rn_of (ext := ext) (d := d - 2) (as := [.ref 25, .int (nI p.2.2.2.1), .int (nI (dd + 1))]) (r := (none, (I', L', D, am_rf (xt, xs, xi, 2, xu, xc)))) mh_65 rfl (w65_0 _ LJ D (xt, xs, xi, 2, xu, xc) _ _ ⟨fun _ => ⟨hb, hb, fun _ => ⟨hb, hb, I', L', D, by rw [tc, t1, v26, v27]; exact r, rfl⟩, fun z => absurd (by rw [tc, v26, v27]; exact (sp_le_n (o := some q) (gd_le (fun p' hp' => by cases hp'; exact gq))).2.mpr (by simp)) z⟩, fun z => absurd t2 z⟩)
          rwa [show d - 2 + 1 = d - 1 by omega] at this
        have ev1 : ev_1 w (ev_L w ls n) p rA = ((ev_L w ls n p.2.2.2.1 q.1 q.2).1, rA.2 + 1 + (ev_L w ls n p.2.2.2.1 q.1 q.2).2) := by unfold ev_1; rw [hr1]; simp only; rw [if_pos h14]
        rw [ev1] at hok hab
        have F4 := ce_fr_t F3 F' (Nat.le_refl _) (Nat.le_refl _)
        refine ce_step (ext := ext) D xt xs xi xu xc (by omega) (by omega) (by omega) (by omega) S (c7'.trans hop) (by decide) (by decide) (by decide) (Nat.le_refl s2) (by omega) (up63 r65) ?_
        by_cases h20' : u + rA.2 + 1 + (ev_L w ls n p.2.2.2.1 q.1 q.2).2 ≤ 20000
        · have eu : ca_u (u + rA.2 + 1) (ev_L w ls n p.2.2.2.1 q.1 q.2).2 = u + (rA.2 + 1 + (ev_L w ls n p.2.2.2.1 q.1 q.2).2) := by unfold ca_u; rw [if_pos (by omega)]; omega
          have eo : ca_o (u + rA.2 + 1) (ev_L w ls n p.2.2.2.1 q.1 q.2) = (ev_L w ls n p.2.2.2.1 q.1 q.2).1 := by unfold ca_o; rw [if_pos (by omega)]
          rw [eu] at S'
          rw [eo] at V'
          exact hok (by show u + (rA.2 + 1 + _) ≤ 20000; omega) I' L' F4 S' V'
        · have eu : ca_u (u + rA.2 + 1) (ev_L w ls n p.2.2.2.1 q.1 q.2).2 = 20001 := by unfold ca_u; rw [if_neg (by omega)]
          rw [eu] at S'
          exact hab (by show ¬ u + (rA.2 + 1 + _) ≤ 20000; omega) I' L' _ F4 S'.1 S'.2.1 S'.2.2.2.2
    · have hk3 : p.2.1 = 3 ∨ p.2.1 = 4 ∨ p.2.1 = 5 := by rcases hk1 with h | h | h | ⟨h, _⟩ <;> omega
      have hop : tr_op p = nI (p.2.1 + 5) := by unfold tr_op; rcases hk3 with h | h | h <;> rw [h] <;> rfl
      obtain ⟨I', L', r, g⟩ := c66 (ext := ext) (d := 0) D (xt, xs, xi, 2, xu, xc) hk3 SJ.2.2.1 (show top < 100 by omega) SJ.1 SJ.2.2.2.2 (gd_le gA) V
      have r63 : am_Rn ext d 63 [.ref 25, .int (nI (p.2.1 + 5)), .int (nI s2), .int (nI dd)] (am_uI J 25 8 (nI (u + rA.2 + 1)), LJ, D, am_rf (xt, xs, xi, 2, xu, xc)) (some (.int (nI s2)), (I', L', D, am_rf (xt, xs, xi, 2, xu, xc))) := by
        have ne : ∀ k : Nat, k < 100 → ¬ k = p.2.1 + 5 → ¬ nI (p.2.1 + 5) = nI k := fun k hk h z => by rw [ni_eq (by omega) (by omega)] at z; omega
        have yes : nI (p.2.1 + 5) = 8 ∨ nI (p.2.1 + 5) = 9 ∨ nI (p.2.1 + 5) = 10 := by rcases hk3 with h | h | h <;> rw [h] <;> decide
        have := am_rn_of (ext := ext) (d := d - 1) (as := [.ref 25, .int (nI (p.2.1 + 5)), .int (nI s2), .int (nI dd)]) (r := (some (.int (nI s2)), (I', L', D, am_rf (xt, xs, xi, 2, xu, xc)))) mh_63 rfl (w63_0 _ LJ D xc xi xs xt xu _ (nI s2) (nI dd) ⟨_, _, LJ, D, am_up r39 (by omega), fun z => absurd z (ne 0 (by omega) (by omega)), fun z => absurd z (ne 2 (by omega) (by omega)), fun z => absurd z (ne 3 (by omega) (by omega)), fun z => absurd z (ne 4 (by omega) (by omega)), fun z => absurd z (fun q => q.elim (ne 5 (by omega) (by omega)) (fun q => q.elim (ne 6 (by omega) (by omega)) (ne 7 (by omega) (by omega)))), fun _ => ⟨I', L', D, am_up r (by omega), rfl⟩, fun z => absurd z (fun q => q.elim (ne 17 (by omega) (by omega)) (ne 18 (by omega) (by omega))), fun z => absurd yes (fun q => q.elim z.2.2.2.2.2.2.2.1 (fun q => q.elim z.2.2.2.2.2.2.2.2.1 z.2.2.2.2.2.2.2.2.2.1))⟩)
        rwa [show d - 1 + 1 = d by omega] at this
      have ev1 : ev_1 w (ev_L w ls n) p rA = (sp_m1 w p.2.1 rA.1, rA.2 + 1) := by
        unfold ev_1 sp_m1
        cases rA.1 with
        | none => rfl
        | some q => simp only; rw [if_neg h14]
      rw [ev1] at hok hab
      have n1 : ∀ k : Nat, k = 1 ∨ k = 19 ∨ k = 20 → ¬ nI (p.2.1 + 5) = nI k := fun k hk z => by rw [ni_eq (by omega) (by omega)] at z; omega
      exact fin (N := 0) (by omega) (Nat.le_refl s2) (by omega) (by omega) (c7'.trans hop) (n1 1 (by omega)) (n1 19 (by omega)) (n1 20 (by omega)) S F r63 g (fun h I' L' F' S' V' => hok (by show u + (rA.2 + 1) ≤ 20000; omega) I' L' F' S' V') (fun h I' L' pl F' x1 x2 x3 => hab (by show ¬ u + (rA.2 + 1) ≤ 20000; omega) I' L' pl F' x1 x2 x3)
  · intro p A B q0 h6 h9 _ hA hB ihA ihB
    exact two p A B _ _ h6 (by omega) hA hB ihA ihB
  · intro p A B q0 h6 _ hA hB ihA ihB
    exact two p A B _ _ (by omega) (by omega) hA hB ihA ihB
  · -- a choice
    intro p A B V W q0 hk hp hA hB hV hW ihA ihB ihV ihW s top ch u I L P hcc hse hL hS hu hto hch hok hab
    simp only [tr_cc, tr_sz] at hcc hto hch
    obtain ⟨ccA, ccB, c7i, c8i, ccV, c7s, c8s, ccW, c7j⟩ := hcc
    have gA := hgT A _ hA
    have gB := hgT B _ hB
    have gV := hgT V _ hV
    have gW := hgT W _ hW
    have zA := tr_pos A
    have zB := tr_pos B
    have zV := tr_pos V
    have zW := tr_pos W
    have ez : s + tr_cz (tr_4 p A B V W) = s + tr_cz A + tr_cz B + 1 + tr_cz V + 1 + tr_cz W + 1 := by
      show s + (1 + (tr_cz A + tr_cz B + (if (0 : Nat) = 4 then 2 else 0) + (tr_cz V + tr_cz W + if (0 : Nat) = 4 then 2 else 0) + if (0 : Nat) = 4 then 2 else 0) + if (4 : Nat) = 4 then 2 else 0) = _
      rw [if_neg (show ¬ (0 : Nat) = 4 by omega), if_pos rfl]; omega
    rw [ez] at hok hse
    have erT : ev_T w (ev_L w ls n) (tr_4 p A B V W) a b = ev_4 w p (ev_T w (ev_L w ls n) A a b) (ev_T w (ev_L w ls n) B a b) (ev_T w (ev_L w ls n) V a b) (ev_T w (ev_L w ls n) W a b) := rfl
    rw [erT] at hok hab
    have hmore : (ev_T w (ev_L w ls n) A a b).2 + (ev_T w (ev_L w ls n) B a b).2 + 1 ≤ (ev_4 w p (ev_T w (ev_L w ls n) A a b) (ev_T w (ev_L w ls n) B a b) (ev_T w (ev_L w ls n) V a b) (ev_T w (ev_L w ls n) W a b)).2 := by
      unfold ev_4
      split
      · split
        · show _ ≤ _ + 1 + _; omega
        · split
          · show _ ≤ _ + 1 + _; omega
          · show _ ≤ _ + 1 + _ + _; omega
      · exact Nat.le_refl _
    refine ihA s top ch u I L P ccA (by omega) hL hS hu (by omega) (by omega) (fun hA20 J LJ F S VA => ?_) (fun hA20 I' L' pl F i6 i8 l7 => hab (by omega) I' L' pl F i6 i8 l7)
    have ccB' : tr_cc (J 7) (J 8) (J 9) (J 10) B (s + tr_cz A) := by
      rw [ce_fr_r F 7 (by omega), ce_fr_r F 8 (by omega), ce_fr_r F 9 (by omega), ce_fr_r F 10 (by omega)]; exact ccB
    refine ihB (s + tr_cz A) (top + 1) ch _ J LJ P ccB' (by omega) (rd_L2_fr hL F) S hA20 (by omega) (by omega) (fun hB20 K LK F2 S2 V2 => ?_) (fun hB20 I' L' pl F2 i6 i8 l7 => hab (by omega) I' L' pl (ce_fr_t F F2 (by omega) (by omega)) i6 i8 l7)
    have F3 : ce_fr top ch I L K LK := ce_fr_t F F2 (by omega) (by omega)
    have LK' := rd_L2_fr hL F3
    have V1 : st_v (ev_T w (ev_L w ls n) A a b).1 top LK := ⟨(F2.2 26 top (by omega) (by omega)).trans VA.1, (F2.2 27 top (by omega) (by omega)).trans VA.2⟩
    have c7' : K 7 (s + tr_cz A + tr_cz B) = tr_op p := (F3.1 7 _ (by omega) (by omega)).trans c7i
    have c8' : K 8 (s + tr_cz A + tr_cz B) = nI (s + tr_cz A + tr_cz B + 1 + tr_cz V) := (F3.1 8 _ (by omega) (by omega)).trans c8i
    have c8s' : K 8 (s + tr_cz A + tr_cz B + 1 + tr_cz V) = nI (s + tr_cz A + tr_cz B + 1 + tr_cz V + 1 + tr_cz W) := (F3.1 8 _ (by omega) (by omega)).trans c8s
    clear F S VA ccB'
    generalize hrA : ev_T w (ev_L w ls n) A a b = rA at *
    generalize hrB : ev_T w (ev_L w ls n) B a b = rB at *
    generalize hrV : ev_T w (ev_L w ls n) V a b = rV at *
    generalize hrW : ev_T w (ev_L w ls n) W a b = rW at *
    have jl : s + tr_cz A + tr_cz B + 1 + tr_cz V + 1 + tr_cz W < pt_cs ls := by omega
    generalize hsi : s + tr_cz A + tr_cz B = si at *
    generalize hsc : si + 1 + tr_cz V = sc at *
    generalize hjn : sc + 1 + tr_cz W = jn at *
    generalize hu2 : u + rA.2 + rB.2 = u2 at *
    have SJ := ce_S_w S2
    have J8 : (am_uI K 25 8 (nI (u2 + 1))) 2 8 = nI (pt_cs ls) := by rw [am_uI_at, if_neg (by omega)]; exact e88 LK'
    have r39 := c39 (ext := ext) (d := 0) (L := LK) (I := am_uI K 25 8 (nI (u2 + 1))) D (xt, xs, xi, 2, xu, xc) J8 hcs (show si < pt_cs ls by omega)
    have e8s : (am_uI K 25 8 (nI (u2 + 1))) 8 si = nI sc := by rw [am_uI_at, if_neg (by omega)]; exact c8'
    rw [e8s] at r39
    have hop : tr_op p = nI (p.2.1 + 5) := by
      unfold tr_op
      rcases hk with h | h <;> rw [h] <;> rfl
    have ne : ∀ k : Nat, k < 100 → ¬ k = p.2.1 + 5 → ¬ nI (p.2.1 + 5) = nI k := fun k hk h z => by rw [ni_eq (by omega) (by omega)] at z; omega
    have yes : nI (p.2.1 + 5) = 17 ∨ nI (p.2.1 + 5) = 18 := by rcases hk with h | h <;> rw [h] <;> decide
    have up63 : ∀ {I' : Nat → Nat → Int32} {L' : Nat → Nat → Int64} {v : Int32}, am_Rn ext (d - 1) 76 [.ref 25, .int (nI (p.2.1 + 5)), .int (nI sc), .int (nI si)] (am_uI K 25 8 (nI (u2 + 1)), LK, D, am_rf (xt, xs, xi, 2, xu, xc)) (some (.int v), (I', L', D, am_rf (xt, xs, xi, 2, xu, xc))) → am_Rn ext d 63 [.ref 25, .int (nI (p.2.1 + 5)), .int (nI si), .int (nI dd)] (am_uI K 25 8 (nI (u2 + 1)), LK, D, am_rf (xt, xs, xi, 2, xu, xc)) (some (.int v), (I', L', D, am_rf (xt, xs, xi, 2, xu, xc))) := by
      intro I' L' v r
      have := am_rn_of (ext := ext) (d := d - 1) (as := [.ref 25, .int (nI (p.2.1 + 5)), .int (nI si), .int (nI dd)]) (r := (some (.int v), (I', L', D, am_rf (xt, xs, xi, 2, xu, xc)))) mh_63 rfl (w63_0 _ LK D xc xi xs xt xu _ (nI si) (nI dd) ⟨_, _, LK, D, am_up r39 (by omega), fun z => absurd z (ne 0 (by omega) (by omega)), fun z => absurd z (ne 2 (by omega) (by omega)), fun z => absurd z (ne 3 (by omega) (by omega)), fun z => absurd z (ne 4 (by omega) (by omega)), fun z => absurd z (fun q => q.elim (ne 5 (by omega) (by omega)) (fun q => q.elim (ne 6 (by omega) (by omega)) (ne 7 (by omega) (by omega)))), fun z => absurd z (fun q => q.elim (ne 8 (by omega) (by omega)) (fun q => q.elim (ne 9 (by omega) (by omega)) (ne 10 (by omega) (by omega)))), fun _ => ⟨_, I', L', D, r, rfl⟩, fun z => absurd yes (fun q => q.elim z.2.2.2.2.2.2.2.2.2.2.1 z.2.2.2.2.2.2.2.2.2.2.2)⟩)
      rwa [show d - 1 + 1 = d by omega] at this
    have c76' := c76 (ext := ext) (d := 0) (I := am_uI K 25 8 (nI (u2 + 1))) (L := LK) (w := w) (top := top) (ch := ch) (o := rA.1) (p := rB.1) (kd := p.2.1) (s := pt_cs ls) (sc := sc) (pl := si) (jn := jn) D xt xs xi xu xc hk SJ.2.2.1 (by omega) SJ.2.2.2.1 (by omega) SJ.2.2.2.2 (gd_le gA) (gd_le gB) V1 V2 J8 hcs (by omega) (by rw [am_uI_at, if_neg (by omega)]; exact c8s')
    by_cases hnn : rA.1 = none ∨ rB.1 = none
    · obtain ⟨I', L', r, g⟩ := c76'.1 hnn
      have ev4 : ev_4 w p rA rB rV rW = (none, rA.2 + rB.2 + 1) := by
        unfold ev_4
        rcases hnn with h | h
        · rw [h]
        · rw [h]
          cases rA.1 <;> rfl
      rw [ev4] at hok hab
      simp only at hok hab
      exact fin (N := 0) (by omega) (show si ≤ jn by omega) (by omega) hB20 (c7'.trans hop) (ne 1 (by omega) (by omega)) (ne 19 (by omega) (by omega)) (ne 20 (by omega) (by omega)) S2 F3 (up63 (am_up r (by omega))) g (fun h I' L' F' S' V' => hok (by omega) I' L' F' (by rw [show u + (rA.2 + rB.2 + 1) = u2 + 1 by omega]; exact S') V') (fun h I' L' pl F' x1 x2 x3 => hab (by omega) I' L' pl F' x1 x2 x3)
    · obtain ⟨q, hq⟩ : ∃ q, rA.1 = some q := by
        cases h : rA.1 with
        | none => exact absurd (Or.inl h) hnn
        | some q => exact ⟨q, rfl⟩
      obtain ⟨r, hr⟩ : ∃ r, rB.1 = some r := by
        cases h : rB.1 with
        | none => exact absurd (Or.inr h) hnn
        | some q => exact ⟨q, rfl⟩
      obtain ⟨K2, rr, k3, k4, k28, kfr⟩ := c76'.2 q r hq hr
      have S3 : ce_S w (u2 + 1) top (ch + 1) K2 LK := ⟨(kfr 25 6 (by omega) (by omega)).trans SJ.1, (kfr 25 8 (by omega) (by omega)).trans SJ.2.1, k3, k4, SJ.2.2.2.2⟩
      have F4 : ce_fr top ch I L K2 LK := ce_fr_t F3 ⟨fun x y q1 q2 => by rw [kfr x y (by omega) (by omega), am_uI_at, if_neg (by omega)], fun _ _ _ _ => rfl⟩ (Nat.le_refl _) (Nat.le_refl _)
      have L4 := rd_L2_fr hL F4
      have cc4 : ∀ {T : tr_T} {x : Nat}, tr_cc (I 7) (I 8) (I 9) (I 10) T x → tr_cc (K2 7) (K2 8) (K2 9) (K2 10) T x := by
        intro T x h
        rw [ce_fr_r F4 7 (by omega), ce_fr_r F4 8 (by omega), ce_fr_r F4 9 (by omega), ce_fr_r F4 10 (by omega)]; exact h
      by_cases h20 : u2 + 1 ≤ 20000
      · -- passing SECOND
        have sec : ∀ {M : Nat → Nat → Int32} {LM : Nat → Nat → Int64} {u3 c : Nat}, u3 ≤ 20000 → ce_fr top ch I L M LM → ce_S w u3 (top + 1) (ch + 1) M LM → M 28 ch = nI c → c ≤ 3 → (∀ M', M' 25 4 = nI (if c = 1 then ch else ch + 1) → (∀ a b, ¬ (a = 25 ∧ b = 4) → M' a b = M a b) → ce_hd ext d D xt xs xi xu xc a b dd vB cB en (nI ((if c = 1 then jn else sc) + 1)) M' LM P) → ce_hd ext d D xt xs xi xu xc a b dd vB cB en (nI sc) M LM P := by
          intro M LM u3 c h3 FM SM m28 hc hgo
          have LMM := rd_L2_fr hL FM
          have m7 : M 7 sc = 19 := (FM.1 7 _ (by omega) (by omega)).trans c7s
          have m8 : M 8 sc = nI jn := (FM.1 8 _ (by omega) (by omega)).trans c8s
          obtain ⟨M', r77, g4, gf⟩ := c77_s (ext := ext) (d := 0) (L := LM) (I := M) D xt xs xi xu xc SM.2.2.2.1 (show ch < 96 by omega) m28 hc (e88 LMM) hcs (show sc < pt_cs ls by omega) m8
          have ei : (if c = 1 then nI jn else nI sc) = nI (if c = 1 then jn else sc) := by split <;> rfl
          rw [ei] at r77
          exact ce_mark (ext := ext) D xt xs xi xu xc (by omega) (show sc < en by omega) (by omega) h3 SM m7 (Or.inl rfl) (show sc ≤ (if c = 1 then jn else sc) by split <;> omega) (show (if c = 1 then jn else sc) ≤ 288 by split <;> omega) (am_up r77 (by omega)) (hgo M' g4 gf)
        have m7j : ∀ {M : Nat → Nat → Int32} {LM : Nat → Nat → Int64}, ce_fr top ch I L M LM → M 7 jn = 20 := fun FM => (FM.1 7 _ (by omega) (by omega)).trans c7j
        have hsp : sp_ch p.2.1 q r = 1 ∨ sp_ch p.2.1 q r = 2 ∨ sp_ch p.2.1 q r = 3 := by
          unfold sp_ch
          repeat' split
          all_goals simp
        rcases hsp with hc | hc | hc
        · -- the first alone
          rw [hc] at rr k28
          have ev4 : ev_4 w p rA rB rV rW = (rV.1, rA.2 + rB.2 + 1 + rV.2) := by unfold ev_4; rw [hq, hr]; simp only; rw [if_pos hc]
          rw [ev4] at hok hab
          simp only at hok hab
          rw [if_neg (by omega)] at rr
          refine ce_step (ext := ext) D xt xs xi xu xc (by omega) (by omega) (by omega) hB20 S2 (c7'.trans hop) (ne 1 (by omega) (by omega)) (ne 19 (by omega) (by omega)) (ne 20 (by omega) (by omega)) (Nat.le_refl si) (by omega) (up63 (am_up rr (by omega))) ?_
          refine ihV (si + 1) top (ch + 1) (u2 + 1) K2 LK P (cc4 ccV) (by omega) L4 S3 h20 (by omega) (by omega) (fun hV20 M LM FM SM VM => ?_) (fun hV20 I' L' pl FM i6 i8 l7 => hab (by simp only [hrV, hrW] at hV20; omega) I' L' pl (ce_fr_t F4 FM (by omega) (by omega)) i6 i8 l7)
          rw [hsc]
          rw [hrV] at SM VM hV20
          have F5 := ce_fr_t F4 FM (Nat.le_refl _) (by omega)
          refine sec (c := 1) hV20 F5 SM ((FM.1 28 ch (by omega) (by omega)).trans k28) (by omega) (fun M' g4 gf => ?_)
          rw [if_pos rfl] at g4 ⊢
          refine hok (by omega) M' LM (ce_fr_t F5 ⟨fun x y q1 q2 => gf x y (by omega), fun _ _ _ _ => rfl⟩ (Nat.le_refl _) (Nat.le_refl _)) ⟨(gf 25 6 (by omega)).trans SM.1, ?_, (gf 25 3 (by omega)).trans SM.2.2.1, g4, SM.2.2.2.2⟩ VM
          rw [gf 25 8 (by omega), SM.2.1]
          congr 1; omega
        · -- the second alone
          rw [hc] at rr k28
          have ev4 : ev_4 w p rA rB rV rW = (rW.1, rA.2 + rB.2 + 1 + rW.2) := by unfold ev_4; rw [hq, hr]; simp only; rw [if_neg (by omega), if_pos hc]
          rw [ev4] at hok hab
          simp only at hok hab
          rw [if_pos rfl] at rr
          refine ce_step (ext := ext) D xt xs xi xu xc (by omega) (by omega) (by omega) hB20 S2 (c7'.trans hop) (ne 1 (by omega) (by omega)) (ne 19 (by omega) (by omega)) (ne 20 (by omega) (by omega)) (show si ≤ sc by omega) (by omega) (up63 (am_up rr (by omega))) ?_
          refine ihW (sc + 1) top (ch + 1) (u2 + 1) K2 LK P (cc4 ccW) (by omega) L4 S3 h20 (by omega) (by omega) (fun hV20 M LM FM SM VM => ?_) (fun hV20 I' L' pl FM i6 i8 l7 => hab (by simp only [hrV, hrW] at hV20; omega) I' L' pl (ce_fr_t F4 FM (by omega) (by omega)) i6 i8 l7)
          rw [hjn]
          rw [hrW] at SM VM hV20
          have F5 := ce_fr_t F4 FM (Nat.le_refl _) (by omega)
          obtain ⟨M', r77, g4, gf⟩ := (c77_j (ext := ext) (d := 0) (L := LM) (I := M) (w := w) (top := top) (pl := jn) (o := none) (p := none) D xt xs xi xu xc SM.2.2.2.1 (show ch < 96 by omega) ((FM.1 28 ch (by omega) (by omega)).trans k28) (by omega) SM.2.2.2.2).1 (by omega)
          refine ce_mark (ext := ext) D xt xs xi xu xc (by omega) (show jn < en by omega) (by omega) hV20 SM (m7j F5) (Or.inr rfl) (Nat.le_refl jn) (by omega) (am_up r77 (by omega)) ?_
          refine hok (by omega) M' LM (ce_fr_t F5 ⟨fun x y q1 q2 => gf x y (by omega), fun _ _ _ _ => rfl⟩ (Nat.le_refl _) (Nat.le_refl _)) ⟨(gf 25 6 (by omega)).trans SM.1, ?_, (gf 25 3 (by omega)).trans SM.2.2.1, g4, SM.2.2.2.2⟩ VM
          rw [gf 25 8 (by omega), SM.2.1]
          congr 1; omega
        · -- both
          rw [hc] at rr k28
          have ev4 : ev_4 w p rA rB rV rW = (sp_j w rV.1 rW.1, rA.2 + rB.2 + 1 + rV.2 + rW.2) := by unfold ev_4; rw [hq, hr]; simp only; rw [if_neg (by omega), if_neg (by omega)]
          rw [ev4] at hok hab
          simp only at hok hab
          rw [if_neg (by omega)] at rr
          refine ce_step (ext := ext) D xt xs xi xu xc (by omega) (by omega) (by omega) hB20 S2 (c7'.trans hop) (ne 1 (by omega) (by omega)) (ne 19 (by omega) (by omega)) (ne 20 (by omega) (by omega)) (Nat.le_refl si) (by omega) (up63 (am_up rr (by omega))) ?_
          refine ihV (si + 1) top (ch + 1) (u2 + 1) K2 LK P (cc4 ccV) (by omega) L4 S3 h20 (by omega) (by omega) (fun hV20 M LM FM SM VM => ?_) (fun hV20 I' L' pl FM i6 i8 l7 => hab (by simp only [hrV, hrW] at hV20; omega) I' L' pl (ce_fr_t F4 FM (by omega) (by omega)) i6 i8 l7)
          rw [hsc]
          rw [hrV] at SM VM hV20
          have F5 := ce_fr_t F4 FM (Nat.le_refl _) (by omega)
          refine sec (c := 3) hV20 F5 SM ((FM.1 28 ch (by omega) (by omega)).trans k28) (by omega) (fun M' g4 gf => ?_)
          rw [if_neg (by omega)] at g4 ⊢
          have F6 : ce_fr top ch I L M' LM := ce_fr_t F5 ⟨fun x y q1 q2 => gf x y (by omega), fun _ _ _ _ => rfl⟩ (Nat.le_refl _) (Nat.le_refl _)
          have S6 : ce_S w (u2 + 1 + rV.2) (top + 1) (ch + 1) M' LM := ⟨(gf 25 6 (by omega)).trans SM.1, (gf 25 8 (by omega)).trans SM.2.1, (gf 25 3 (by omega)).trans SM.2.2.1, g4, SM.2.2.2.2⟩
          have cc6 : tr_cc (M' 7) (M' 8) (M' 9) (M' 10) W (sc + 1) := by
            rw [ce_fr_r F6 7 (by omega), ce_fr_r F6 8 (by omega), ce_fr_r F6 9 (by omega), ce_fr_r F6 10 (by omega)]; exact ccW
          have m28 : M' 28 ch = nI 3 := (gf 28 ch (by omega)).trans ((FM.1 28 ch (by omega) (by omega)).trans k28)
          refine ihW (sc + 1) (top + 1) (ch + 1) _ M' LM P cc6 (by omega) (rd_L2_fr hL F6) S6 hV20 (by omega) (by omega) (fun hW20 N LN FN SN VN => ?_) (fun hW20 I' L' pl FN i6 i8 l7 => hab (by simp only [hrV, hrW] at hW20; omega) I' L' pl (ce_fr_t F6 FN (by omega) (by omega)) i6 i8 l7)
          rw [hjn]
          rw [hrW] at SN VN hW20
          have F7 : ce_fr top ch I L N LN := ce_fr_t F6 FN (by omega) (by omega)
          have VN1 : st_v rV.1 top LN := ⟨(FN.2 26 top (by omega) (by omega)).trans VM.1, (FN.2 27 top (by omega) (by omega)).trans VM.2⟩
          obtain ⟨N', LN', r77, g⟩ := (c77_j (ext := ext) (d := 0) (L := LN) (I := N) (w := w) (top := top) (pl := jn) (o := rV.1) (p := rW.1) D xt xs xi xu xc SN.2.2.2.1 (show ch < 96 by omega) ((FN.1 28 ch (by omega) (by omega)).trans m28) (by omega) SN.2.2.2.2).2 rfl SN.2.2.1 (by omega) (gd_le gV) (gd_le gW) VN1 VN
          refine ce_mark (ext := ext) D xt xs xi xu xc (by omega) (show jn < en by omega) (by omega) hW20 SN (m7j F7) (Or.inr rfl) (Nat.le_refl jn) (by omega) (am_up r77 (by omega)) ?_
          have S7 : ce_S w (u + (rA.2 + rB.2 + 1 + rV.2 + rW.2)) (top + 1 + 1) ch (am_uI N 25 4 (nI ch)) LN := ⟨by rw [am_uI_at, if_neg (by omega)]; exact SN.1, by rw [am_uI_at, if_neg (by omega), SN.2.1]; congr 1; omega, by rw [am_uI_at, if_neg (by omega)]; exact SN.2.2.1, by rw [am_uI_at, if_pos ⟨rfl, rfl⟩], SN.2.2.2.2⟩
          refine hok (by omega) N' LN' (ce_fr_t F7 ⟨fun x y q1 q2 => by rw [g.2.1 x y (by omega), am_uI_at, if_neg (by omega)], fun x y q1 q2 => g.2.2.2 x y (by omega)⟩ (Nat.le_refl _) (Nat.le_refl _)) (ce_S_p S7 g) g.2.2.1
      · have e1 : u2 + 1 = 20001 := by omega
        by_cases hc2 : sp_ch p.2.1 q r = 2
        · rw [if_pos hc2] at rr
          refine ce_step (ext := ext) D xt xs xi xu xc (by omega) (by omega) (by omega) hB20 S2 (c7'.trans hop) (ne 1 (by omega) (by omega)) (ne 19 (by omega) (by omega)) (ne 20 (by omega) (by omega)) (show si ≤ sc by omega) (by omega) (up63 (am_up rr (by omega))) ?_
          exact hab (by omega) K2 LK _ F4 S3.1 (by rw [← e1]; exact S3.2.1) S3.2.2.2.2
        · rw [if_neg hc2] at rr
          refine ce_step (ext := ext) D xt xs xi xu xc (by omega) (by omega) (by omega) hB20 S2 (c7'.trans hop) (ne 1 (by omega) (by omega)) (ne 19 (by omega) (by omega)) (ne 20 (by omega) (by omega)) (Nat.le_refl si) (by omega) (up63 (am_up rr (by omega))) ?_
          exact hab (by omega) K2 LK _ F4 S3.1 (by rw [← e1]; exact S3.2.1) S3.2.2.2.2
end CTREE
