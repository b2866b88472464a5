/-! ===== the class asks: a tree ===== -/
theorem pt_ks_mono (ls : pt_L) {i j : Nat} (h : i ≤ j) : pt_ks (ls.take i) ≤ pt_ks (ls.take j) := by
  have e : ls.take j = ls.take i ++ (ls.drop i).take (j - i) := by
    rw [← List.take_add]
    congr 1
    omega
  rw [e, pt_ks_2]
  omega
theorem ce_S_p {w u top0 top ch : Nat} {J I' : Nat → Nat → Int32} {L L' : Nat → Nat → Int64} {o : Option (Int64 × Int64)} (h : ce_S w u top0 ch J L) (g : pp_P J L top o I' L') : ce_S w u (top + 1) ch I' L' := by
  obtain ⟨s6, s8, s3, s4, s7⟩ := h
  exact ⟨by rw [g.2.1 25 6 (by omega)]; exact s6, by rw [g.2.1 25 8 (by omega)]; exact s8, g.1, by rw [g.2.1 25 4 (by omega)]; exact s4, by rw [g.2.2.2 25 7 (by omega)]; exact s7⟩
section CTREE
variable {ext : Nat → List Value → am_M → Option am_R} {d : Nat} (D : Nat → Nat → UInt64) (xt xs xi xu xc : Nat) {w : Nat} {ls : pt_L} {n m : Nat} {fn : Bool} {a b : Int64} {dd vB cB en : Nat}
/-- what the class's run does with the code of a tree -/
def ce_G (ext : Nat → List Value → am_M → Option am_R) (d : Nat) (D : Nat → Nat → UInt64) (xt xs xi xu xc w : Nat) (ls : pt_L) (n m : Nat) (a b : Int64) (dd vB cB en : Nat) (T : tr_T) : Prop := ∀ (s top ch u : Nat) (I : Nat → Nat → Int32) (L : Nat → Nat → Int64) (P : am_R → Prop), tr_cc (I 7) (I 8) (I 9) (I 10) T s → s + tr_cz T ≤ en → rd_L 2 ls I → ce_S w u top ch I L → u ≤ 20000 → top + tr_sz T + pt_ks (ls.take m) ≤ 100 → ch + tr_sz T + pt_ks (ls.take m) ≤ 96 →
  (u + (ev_T w (ev_L w ls n) T a b).2 ≤ 20000 → ∀ I' L', ce_fr top ch I L I' L' → ce_S w (u + (ev_T w (ev_L w ls n) T a b).2) (top + 1) ch I' L' → st_v (ev_T w (ev_L w ls n) T a b).1 top L' → ce_hd ext d D xt xs xi xu xc a b dd vB cB en (nI (s + tr_cz T)) I' L' P) →
  (¬ u + (ev_T w (ev_L w ls n) T a b).2 ≤ 20000 → ∀ I' L' pl, ce_fr top ch I L I' L' → I' 25 6 = nI w → I' 25 8 = nI 20001 → L' 25 7 = sp_lim w → ce_hd ext d D xt xs xi xu xc a b dd vB cB en pl I' L' P) →
  ce_hd ext d D xt xs xi xu xc a b dd vB cB en (nI s) I L P
/-- the state behind work++ -/
theorem ce_S_w {u top ch : Nat} {I : Nat → Nat → Int32} {L : Nat → Nat → Int64} (h : ce_S w u top ch I L) : ce_S w (u + 1) top ch (am_uI I 25 8 (nI (u + 1))) L := by
  obtain ⟨s6, s8, s3, s4, s7⟩ := h
  exact ⟨by rw [am_uI_at, if_neg (by omega)]; exact s6, by rw [am_uI_at, if_pos ⟨rfl, rfl⟩], by rw [am_uI_at, if_neg (by omega)]; exact s3, by rw [am_uI_at, if_neg (by omega)]; exact s4, s7⟩
theorem ce_fr_w (top ch : Nat) (I : Nat → Nat → Int32) (L : Nat → Nat → Int64) (x : Int32) : ce_fr top ch I L (am_uI I 25 8 x) L := ⟨fun a b q1 q2 => by rw [am_uI_at, if_neg (by omega)], fun _ _ _ _ => rfl⟩
theorem ce_tree (hd : 8 ≤ d) (hen : en ≤ pt_cs ls) (hcs : pt_cs ls ≤ 288) (hmn : m ≤ n) (hml : m ≤ ls.length) (hdd : dd + m ≤ 18) (hab2 : gd2 w a b) (hz : gd2 w 0 0) (H : ce_H ext (d - 2) D xt xs xi xu xc w ls n) (hgE : ∀ i a b, i < n → i < ls.length → gd2 w a b → gd w (ev_L w ls n i a b).1)
    (hgT : ∀ T q, tr_ok (pt_ev (ls.take m) fn) T q → gd w (ev_T w (ev_L w ls n) T a b).1)
    (hov : ∀ p, tr_k0 (pt_ev (ls.take m) fn) p → 15 ≤ p.2.1 → ce_G ext d D xt xs xi xu xc w ls n m a b dd vB cB en (.leaf p)) :
    ∀ (T : tr_T) (q : Nat), tr_ok (pt_ev (ls.take m) fn) T q → ce_G ext d D xt xs xi xu xc w ls n m a b dd vB cB en T := by
  -- a letter's line lies below m
  have lnb : ∀ l : Nat, ¬ pt_tl (ls.take m) l = 0 → pt_ix (ls.take m) l < m ∧ pt_ix (ls.take m) l < ls.length := by
    intro l hl
    obtain ⟨_, _, _, _, h⟩ := pt_ix_at (ls.take m) l hl
    rw [List.length_take] at h
    omega
  have mono : ∀ i, i < m → pt_ks (ls.take (i + 1)) ≤ pt_ks (ls.take m) := fun i hi => pt_ks_mono ls (by omega)
  have e88 : ∀ {J : Nat → Nat → Int32}, rd_L 2 ls J → J 2 8 = nI (pt_cs ls) := fun h => h.2.2.2.1
  have ddi : nI dd + 1 = nI (dd + 1) := by rw [show (1 : Int32) = nI 1 from rfl, ni_add (by omega)]
  -- a knot behind its parts that are on the row
  have fin : ∀ {s to top ch u : Nat} {I J : Nat → Nat → Int32} {L LJ : Nat → Nat → Int64} {P : am_R → Prop} {op : Int32} {N : Nat} {o : Option (Int64 × Int64)} {I' : Nat → Nat → Int32} {L' : Nat → Nat → Int64} {top0 : Nat}, s < en → s ≤ to → to ≤ 288 → u ≤ 20000 → J 7 s = op → ¬ op = 1 → ¬ op = 19 → ¬ op = 20 → ce_S w u top0 ch J LJ → ce_fr top ch I L J LJ →
      am_Rn ext d 63 [.ref 25, .int op, .int (nI s), .int (nI dd)] (am_uI J 25 8 (nI (u + 1)), LJ, D, am_rf (xt, xs, xi, 2, xu, xc)) (some (.int (nI to)), (I', L', D, am_rf (xt, xs, xi, 2, xu, xc))) → pp_P (am_uI J 25 8 (nI (u + 1))) LJ top o I' L' →
      (u + 1 ≤ 20000 → ∀ I' L', ce_fr top ch I L I' L' → ce_S w (u + 1) (top + 1) ch I' L' → st_v o top L' → ce_hd ext d D xt xs xi xu xc a b dd vB cB en (nI (to + 1)) I' L' P) →
      (¬ u + 1 ≤ 20000 → ∀ I' L' pl, ce_fr top ch I L I' L' → I' 25 6 = nI w → I' 25 8 = nI 20001 → L' 25 7 = sp_lim w → ce_hd ext d D xt xs xi xu xc a b dd vB cB en pl I' L' P) →
      ce_hd ext d D xt xs xi xu xc a b dd vB cB en (nI s) J LJ P := by
    intro s to top ch u I J L LJ P op N o I' L' top0 hs hst hto hu hop h1 h19 h20 hS hf r g hok hab
    have S1 := ce_S_p (ce_S_w hS) g
    have F1 := ce_fr_t hf (ce_fr_t (ce_fr_w top ch J LJ (nI (u + 1))) (ce_fr_p g) (Nat.le_refl _) (Nat.le_refl _)) (Nat.le_refl _) (Nat.le_refl _)
    refine ce_step (ext := ext) D xt xs xi xu xc (by omega) hs (by omega) hu hS hop h1 h19 h20 hst hto r ?_
    by_cases h20' : u + 1 ≤ 20000
    · exact hok h20' I' L' F1 S1 g.2.2.1
    · have e : u + 1 = 20001 := by omega
      rw [e] at S1
      exact hab h20' I' L' _ F1 S1.1 S1.2.1 S1.2.2.2.2
  refine tr_ind ?_ ?_ ?_ ?_ ?_
  · -- leaves
    intro p q0 hp hk0
    by_cases h15 : 15 ≤ p.2.1
    · exact hov p hk0 h15
    · intro s top ch u I L P hcc hse hL hS hu hto hch hok hab
      simp only [tr_cz, tr_sz] at hse hto hch hok
      obtain ⟨c7, c8, _, _⟩ := hcc
      have hk3 : p.2.1 = 0 ∨ p.2.1 = 1 ∨ p.2.1 = 2 := by rcases hk0 with ⟨h, _⟩ | ⟨h, _⟩ | ⟨h, _⟩ | ⟨h, _⟩ <;> omega
      have J8 : (am_uI I 25 8 (nI (u + 1))) 2 8 = nI (pt_cs ls) := by rw [am_uI_at, if_neg (by omega)]; exact e88 hL
      have r39 := c39 (ext := ext) (d := 0) (L := L) (I := am_uI I 25 8 (nI (u + 1))) D (xt, xs, xi, 2, xu, xc) J8 hcs (show s < pt_cs ls by omega)
      have e8s : (am_uI I 25 8 (nI (u + 1))) 8 s = tr_ar p := by rw [am_uI_at, if_neg (by omega)]; exact c8
      rw [e8s] at r39
      have SJ := ce_S_w hS
      rcases hk3 with hk | hk | hk
      · -- a number
        have er : ev_T w (ev_L w ls n) (.leaf p) a b = (sp_k w (sp_l w (Int32.toInt64 (nI p.2.2.1))) (sp_l w (Int32.toInt64 (nI p.2.2.1))), 1) := by
          show ev_0 w (ev_L w ls n) p a b = _
          unfold ev_0
          rw [if_pos hk]
        rw [er] at hok hab
        have hop : tr_op p = 0 := by unfold tr_op; rw [hk]; rfl
        have har : tr_ar p = nI p.2.2.1 := by unfold tr_ar; rw [if_pos hk]
        obtain ⟨I', L', r, g⟩ := c64p (ext := ext) (d := 0) D (xt, xs, xi, 2, xu, xc) SJ.2.2.1 (show top < 100 by omega) SJ.2.2.2.2 (sp_l w (Int32.toInt64 (nI p.2.2.1))) (sp_l w (Int32.toInt64 (nI p.2.2.1)))
        rw [har] at r39
        have r63 : am_Rn ext d 63 [.ref 25, .int 0, .int (nI s), .int (nI dd)] (am_uI I 25 8 (nI (u + 1)), L, D, am_rf (xt, xs, xi, 2, xu, xc)) (some (.int (nI s)), (I', L', D, am_rf (xt, xs, xi, 2, xu, xc))) := by
          have := am_rn_of (ext := ext) (d := d - 1) (as := [.ref 25, .int 0, .int (nI s), .int (nI dd)]) (r := (some (.int (nI s)), (I', L', D, am_rf (xt, xs, xi, 2, xu, xc)))) mh_63 rfl (w63_0 _ L D xc xi xs xt xu 0 (nI s) (nI dd) ⟨_, _, L, D, am_up r39 (by omega), fun _ => ⟨I', L', D, by rw [SJ.1]; exact am_up r (by omega), rfl⟩, fun z => absurd z (by decide), fun z => absurd z (by decide), fun z => absurd z (by decide), fun z => absurd z (by decide), fun z => absurd z (by decide), fun z => absurd z (by decide), fun z => absurd rfl z.1⟩)
          rwa [show d - 1 + 1 = d by omega] at this
        exact fin (N := 0) (by omega) (Nat.le_refl s) (by omega) hu (c7.trans hop) (by decide) (by decide) (by decide) hS (ce_fr_0 top ch I L) r63 g hok hab
      · -- t
        have er : ev_T w (ev_L w ls n) (.leaf p) a b = (sp_k w a b, 1) := by
          show ev_0 w (ev_L w ls n) p a b = _
          unfold ev_0
          rw [if_neg (by omega), if_pos hk]
        rw [er] at hok hab
        have hop : tr_op p = 1 := by unfold tr_op; rw [hk]; rfl
        refine ce_t (ext := ext) D xt xs xi xu xc (by omega) (by omega) (by omega) hu (by omega) hS (c7.trans hop) ?_
        intro I' L' g
        have S1 := ce_S_p SJ g
        have F1 := ce_fr_t (ce_fr_w top ch I L (nI (u + 1))) (ce_fr_p g) (Nat.le_refl _) (Nat.le_refl _)
        by_cases h20' : u + 1 ≤ 20000
        · exact hok h20' I' L' F1 S1 g.2.2.1
        · have e : u + 1 = 20001 := by omega
          rw [e] at S1
          exact hab h20' I' L' _ F1 S1.1 S1.2.1 S1.2.2.2.2
      · -- a number's letter
        have hl : p.2.2.1 < 26 ∧ pt_tl (ls.take m) p.2.2.1 = 1 ∧ p.2.2.2.1 = pt_ix (ls.take m) p.2.2.1 := by
          rcases hk0 with ⟨h, _⟩ | ⟨h, _⟩ | ⟨_, h1, h2, h3⟩ | ⟨h, _⟩
          · omega
          · omega
          · exact ⟨h1, h2, h3⟩
          · omega
        have hln := lnb p.2.2.1 (by rw [hl.2.1]; omega)
        rw [← hl.2.2] at hln
        have er : ev_T w (ev_L w ls n) (.leaf p) a b = ((ev_L w ls n p.2.2.2.1 0 0).1, (ev_L w ls n p.2.2.2.1 0 0).2 + 1) := by
          show ev_0 w (ev_L w ls n) p a b = _
          unfold ev_0
          rw [if_neg (by omega), if_neg (by omega), if_pos hk]
        rw [er] at hok hab
        have hop : tr_op p = 2 := by unfold tr_op; rw [hk]; rfl
        have har : tr_ar p = nI p.2.2.2.1 := by unfold tr_ar; rw [if_neg (by omega), if_pos (Or.inl hk)]
        rw [har] at r39
        have hm := mono _ hln.1
        have LJ : rd_L 2 ls (am_uI I 25 8 (nI (u + 1))) := rd_L2_fr hL (ce_fr_w top ch I L (nI (u + 1)))
        obtain ⟨I', L', r, F, S', V⟩ := H p.2.2.2.1 top ch (u + 1) (dd + 1) 0 0 (am_uI I 25 8 (nI (u + 1))) L (by omega) hln.2 (by omega) (by omega) (by omega) (by omega) hz LJ SJ
        have r63 : am_Rn ext d 63 [.ref 25, .int 2, .int (nI s), .int (nI dd)] (am_uI I 25 8 (nI (u + 1)), L, D, am_rf (xt, xs, xi, 2, xu, xc)) (some (.int (nI s)), (I', L', D, am_rf (xt, xs, xi, 2, xu, xc))) := by
          have := am_rn_of (ext := ext) (d := d - 1) (as := [.ref 25, .int 2, .int (nI s), .int (nI dd)]) (r := (some (.int (nI s)), (I', L', D, am_rf (xt, xs, xi, 2, xu, xc)))) mh_63 rfl (w63_0 _ L D xc xi xs xt xu 2 (nI s) (nI dd) ⟨_, _, L, D, am_up r39 (by omega), fun z => absurd z (by decide), fun _ => ⟨I', L', D, by rw [ddi]; exact am_up r (by omega), rfl⟩, fun z => absurd z (by decide), fun z => absurd z (by decide), fun z => absurd z (by decide), fun z => absurd z (by decide), fun z => absurd z (by decide), fun z => absurd rfl z.2.1⟩)
          rwa [show d - 1 + 1 = d by omega] at this
        have F1 := ce_fr_t (ce_fr_w top ch I L (nI (u + 1))) F (Nat.le_refl _) (Nat.le_refl _)
        refine ce_step (ext := ext) D xt xs xi xu xc (by omega) (by omega) (by omega) hu hS (c7.trans hop) (by decide) (by decide) (by decide) (Nat.le_refl s) (by omega) r63 ?_
        by_cases h20' : u + ((ev_L w ls n p.2.2.2.1 0 0).2 + 1) ≤ 20000
        · have eu : ca_u (u + 1) (ev_L w ls n p.2.2.2.1 0 0).2 = u + ((ev_L w ls n p.2.2.2.1 0 0).2 + 1) := by unfold ca_u; rw [if_pos (by omega)]; omega
          have eo : ca_o (u + 1) (ev_L w ls n p.2.2.2.1 0 0) = (ev_L w ls n p.2.2.2.1 0 0).1 := by unfold ca_o; rw [if_pos (by omega)]
          rw [eu] at S'
          rw [eo] at V
          exact hok h20' I' L' F1 S' V
        · have eu : ca_u (u + 1) (ev_L w ls n p.2.2.2.1 0 0).2 = 20001 := by unfold ca_u; rw [if_neg (by omega)]
          rw [eu] at S'
          exact hab h20' I' L' _ F1 S'.1 S'.2.1 S'.2.2.2.2
  · -- one part
    intro p A q0 hp hk1 hA ih s top ch u I L P hcc hse hL hS hu hto hch hok hab
    simp only [tr_cc, tr_cz, tr_sz] at hcc hse hto hch hok
    obtain ⟨ccA, c7, c8⟩ := hcc
    have gA := hgT A _ hA
    have ez : s + (1 + tr_cz A + if (1 : Nat) = 4 then 2 else 0) = s + tr_cz A + 1 := by rw [if_neg (by omega)]; omega
    rw [ez] at hok hse
    have erT : ev_T w (ev_L w ls n) (tr_1 p A) a b = ev_1 w (ev_L w ls n) p (ev_T w (ev_L w ls n) A a b) := rfl
    rw [erT] at hok hab
    have hmore : (ev_T w (ev_L w ls n) A a b).2 + 1 ≤ (ev_1 w (ev_L w ls n) p (ev_T w (ev_L w ls n) A a b)).2 := by
      unfold ev_1
      split
      · exact Nat.le_refl _
      · split
        · show _ ≤ _ + 1 + _; omega
        · exact Nat.le_refl _
    refine ih s top ch u I L P ccA (by omega) hL hS hu (by omega) (by omega) (fun hA20 J LJ F S V => ?_) (fun hA20 I' L' pl F i6 i8 l7 => hab (by omega) I' L' pl F i6 i8 l7)
    have LJ' := rd_L2_fr hL F
    have c7' : J 7 (s + tr_cz A) = tr_op p := (F.1 7 _ (by omega) (by omega)).trans c7
    have c8' : J 8 (s + tr_cz A) = tr_ar p := (F.1 8 _ (by omega) (by omega)).trans c8
    generalize hrA : ev_T w (ev_L w ls n) A a b = rA at *
    generalize hs2 : s + tr_cz A = s2 at *
    have SJ := ce_S_w S
    have J8 : (am_uI J 25 8 (nI (u + rA.2 + 1))) 2 8 = nI (pt_cs ls) := by rw [am_uI_at, if_neg (by omega)]; exact e88 LJ'
    have r39 := c39 (ext := ext) (d := 0) (L := LJ) (I := am_uI J 25 8 (nI (u + rA.2 + 1))) D (xt, xs, xi, 2, xu, xc) J8 hcs (show s2 < pt_cs ls by omega)
    have e8s : (am_uI J 25 8 (nI (u + rA.2 + 1))) 8 s2 = tr_ar p := by rw [am_uI_at, if_neg (by omega)]; exact c8'
    rw [e8s] at r39
    by_cases h14 : p.2.1 = 14
    · -- a call
      have hl : p.2.2.1 < 26 ∧ pt_tl (ls.take m) p.2.2.1 = 2 ∧ p.2.2.2.1 = pt_ix (ls.take m) p.2.2.1 := by
        rcases hk1 with h | h | h | ⟨_, h1, h2, h3⟩
        · omega
        · omega
        · omega
        · exact ⟨h1, h2, h3⟩
      have hln := lnb p.2.2.1 (by rw [hl.2.1]; omega)
      rw [← hl.2.2] at hln
      have hm := mono _ hln.1
      have hop : tr_op p = 3 := by unfold tr_op; rw [h14]; rfl
      have har : tr_ar p = nI p.2.2.2.1 := by unfold tr_ar; rw [if_neg (by omega), if_pos (Or.inr (by omega))]
      rw [har] at r39
      have t1 : (am_uI J 25 8 (nI (u + rA.2 + 1))) 25 3 - 1 = nI top := by rw [SJ.2.2.1, show (1 : Int32) = nI 1 from rfl, ni_sub (by omega) (by omega)]; rfl
      have t2 : (1 : Int32) ≤ (am_uI J 25 8 (nI (u + rA.2 + 1))) 25 3 := by rw [SJ.2.2.1, show (1 : Int32) = nI 1 from rfl, ni_le (by omega) (by omega)]; omega
      have hb : am_inb ((am_uI J 25 8 (nI (u + rA.2 + 1))) 25 3 - 1) 100 = true := by rw [t1]; exact ni_inb (by omega) (by omega)
      have tc : ((am_uI J 25 8 (nI (u + rA.2 + 1))) 25 3 - 1).toNatClampNeg = top := by rw [t1, ni_nat (by omega)]
      have S3 : ce_S w (u + rA.2 + 1) top ch (am_uI (am_uI J 25 8 (nI (u + rA.2 + 1))) 25 3 (nI top)) LJ := by
        obtain ⟨s6, s8, s3, s4, s7⟩ := SJ
        exact ⟨by rw [am_uI_at, if_neg (by omega)]; exact s6, by rw [am_uI_at, if_neg (by omega)]; exact s8, by rw [am_uI_at, if_pos ⟨rfl, rfl⟩], by rw [am_uI_at, if_neg (by omega)]; exact s4, s7⟩
      have F3 : ce_fr top ch I L (am_uI (am_uI J 25 8 (nI (u + rA.2 + 1))) 25 3 (nI top)) LJ := ce_fr_t F ⟨fun x y q1 q2 => by rw [am_uI_at, if_neg (by omega), am_uI_at, if_neg (by omega)], fun _ _ _ _ => rfl⟩ (Nat.le_refl _) (Nat.le_refl _)
      have up63 : ∀ {I' : Nat → Nat → Int32} {L' : Nat → Nat → Int64}, am_Rn ext (d - 1) 65 [.ref 25, .int (nI p.2.2.2.1), .int (nI (dd + 1))] (am_uI J 25 8 (nI (u + rA.2 + 1)), LJ, D, am_rf (xt, xs, xi, 2, xu, xc)) (none, (I', L', D, am_rf (xt, xs, xi, 2, xu, xc))) → am_Rn ext d 63 [.ref 25, .int 3, .int (nI s2), .int (nI dd)] (am_uI J 25 8 (nI (u + rA.2 + 1)), LJ, D, am_rf (xt, xs, xi, 2, xu, xc)) (some (.int (nI s2)), (I', L', D, am_rf (xt, xs, xi, 2, xu, xc))) := by
        intro I' L' r65
        have := am_rn_of (ext := ext) (d := d - 1) (as := [.ref 25, .int 3, .int (nI s2), .int (nI dd)]) (r := (some (.int (nI s2)), (I', L', D, am_rf (xt, xs, xi, 2, xu, xc)))) mh_63 rfl (w63_0 _ LJ D xc xi xs xt xu 3 (nI s2) (nI dd) ⟨_, _, LJ, D, am_up r39 (by omega), fun z => absurd z (by decide), fun z => absurd z (by decide), fun _ => ⟨I', L', D, by rw [ddi]; exact r65, rfl⟩, fun z => absurd z (by decide), fun z => absurd z (by decide), fun z => absurd z (by decide), fun z => absurd z (by decide), fun z => absurd rfl z.2.2.1⟩)
        rwa [show d - 1 + 1 = d by omega] at this
      cases hr1 : rA.1 with
      | none =>
        rw [hr1] at V
        obtain ⟨I', L', r, g⟩ := c64n (ext := ext) (d := 0) D (xt, xs, xi, 2, xu, xc) S3.2.2.1 (show top < 100 by omega) S3.2.2.2.2
        have r65 : am_Rn ext (d - 1) 65 [.ref 25, .int (nI p.2.2.2.1), .int (nI (dd + 1))] (am_uI J 25 8 (nI (u + rA.2 + 1)), LJ, D, am_rf (xt, xs, xi, 2, xu, xc)) (none, (I', L', D, am_rf (xt, xs, xi, 2, xu, xc))) := by
          refine am_up (am_rn_of (ext := ext) (d := 1) mh_65 rfl (w65_0 _ LJ D (xt, xs, xi, 2, xu, xc) _ _ ⟨fun _ => ⟨hb, hb, fun z => absurd z ?_, fun _ => ⟨I', L', D, by rw [t1]; exact am_up r (by omega), rfl⟩⟩, fun z => absurd t2 z⟩)) (by omega)
          rw [tc, V.1, V.2]; decide
        have ev1 : ev_1 w (ev_L w ls n) p rA = (none, rA.2 + 1) := by unfold ev_1; rw [hr1]
        rw [ev1] at hok hab
        exact fin (N := 0) (by omega) (Nat.le_refl s2) (by omega) (by omega) (c7'.trans hop) (by decide) (by decide) (by decide) S F (up63 r65) (pp_P_u g) (fun h I' L' F' S' V' => hok (by show u + (rA.2 + 1) ≤ 20000; omega) I' L' F' S' V') (fun h I' L' pl F' x1 x2 x3 => hab (by show ¬ u + (rA.2 + 1) ≤ 20000; omega) I' L' pl F' x1 x2 x3)
      | some q =>
        rw [hr1] at V
        have gq : gd2 w q.1 q.2 := gA q hr1
        have L3 : rd_L 2 ls (am_uI (am_uI J 25 8 (nI (u + rA.2 + 1))) 25 3 (nI top)) := rd_L2_fr hL F3
        obtain ⟨I', L', r, F', S', V'⟩ := H p.2.2.2.1 top ch (u + rA.2 + 1) (dd + 1) q.1 q.2 _ LJ (by omega) hln.2 (by omega) (by omega) (by omega) (by omega) gq L3 S3
        have r65 : am_Rn ext (d - 1) 65 [.ref 25, .int (nI p.2.2.2.1), .int (nI (dd + 1))] (am_uI J 25 8 (nI (u + rA.2 + 1)), LJ, D, am_rf (xt, xs, xi, 2, xu, xc)) (none, (I', L', D, am_rf (xt, xs, xi, 2, xu, xc))) := by
          have v26 : LJ 26 top = q.1 := V.1
          have v27 : LJ 27 top = q.2 := V.2
          have := am_rn_of (ext := ext) (d := d - 2) (as := [.ref 25, .int (nI p.2.2.2.1), .int (nI (dd + 1))]) (r := (none, (I', L', D, am_rf (xt, xs, xi, 2, xu, xc)))) mh_65 rfl (w65_0 _ LJ D (xt, xs, xi, 2, xu, xc) _ _ ⟨fun _ => ⟨hb, hb, fun _ => ⟨hb, hb, I', L', D, by rw [tc, t1, v26, v27]; exact r, rfl⟩, fun z => absurd (by rw [tc, v26, v27]; exact (sp_le_n (o := some q) (gd_le (fun p' hp' => by cases hp'; exact gq))).2.mpr (by simp)) z⟩, fun z => absurd t2 z⟩)
          rwa [show d - 2 + 1 = d - 1 by omega] at this
        have ev1 : ev_1 w (ev_L w ls n) p rA = ((ev_L w ls n p.2.2.2.1 q.1 q.2).1, rA.2 + 1 + (ev_L w ls n p.2.2.2.1 q.1 q.2).2) := by unfold ev_1; rw [hr1]; simp only; rw [if_pos h14]
        rw [ev1] at hok hab
        have F4 := ce_fr_t F3 F' (Nat.le_refl _) (Nat.le_refl _)
        refine ce_step (ext := ext) D xt xs xi xu xc (by omega) (by omega) (by omega) (by omega) S (c7'.trans hop) (by decide) (by decide) (by decide) (Nat.le_refl s2) (by omega) (up63 r65) ?_
        by_cases h20' : u + rA.2 + 1 + (ev_L w ls n p.2.2.2.1 q.1 q.2).2 ≤ 20000
        · have eu : ca_u (u + rA.2 + 1) (ev_L w ls n p.2.2.2.1 q.1 q.2).2 = u + (rA.2 + 1 + (ev_L w ls n p.2.2.2.1 q.1 q.2).2) := by unfold ca_u; rw [if_pos (by omega)]; omega
          have eo : ca_o (u + rA.2 + 1) (ev_L w ls n p.2.2.2.1 q.1 q.2) = (ev_L w ls n p.2.2.2.1 q.1 q.2).1 := by unfold ca_o; rw [if_pos (by omega)]
          rw [eu] at S'
          rw [eo] at V'
          exact hok (by show u + (rA.2 + 1 + _) ≤ 20000; omega) I' L' F4 S' V'
        · have eu : ca_u (u + rA.2 + 1) (ev_L w ls n p.2.2.2.1 q.1 q.2).2 = 20001 := by unfold ca_u; rw [if_neg (by omega)]
          rw [eu] at S'
          exact hab (by show ¬ u + (rA.2 + 1 + _) ≤ 20000; omega) I' L' _ F4 S'.1 S'.2.1 S'.2.2.2.2
    · have hk3 : p.2.1 = 3 ∨ p.2.1 = 4 ∨ p.2.1 = 5 := by rcases hk1 with h | h | h | ⟨h, _⟩ <;> omega
      have hop : tr_op p = nI (p.2.1 + 5) := by unfold tr_op; rcases hk3 with h | h | h <;> rw [h] <;> rfl
      obtain ⟨I', L', r, g⟩ := c66 (ext := ext) (d := 0) D (xt, xs, xi, 2, xu, xc) hk3 SJ.2.2.1 (show top < 100 by omega) SJ.1 SJ.2.2.2.2 (gd_le gA) V
      have r63 : am_Rn ext d 63 [.ref 25, .int (nI (p.2.1 + 5)), .int (nI s2), .int (nI dd)] (am_uI J 25 8 (nI (u + rA.2 + 1)), LJ, D, am_rf (xt, xs, xi, 2, xu, xc)) (some (.int (nI s2)), (I', L', D, am_rf (xt, xs, xi, 2, xu, xc))) := by
        have ne : ∀ k : Nat, k < 100 → ¬ k = p.2.1 + 5 → ¬ nI (p.2.1 + 5) = nI k := fun k hk h z => by rw [ni_eq (by omega) (by omega)] at z; omega
        have yes : nI (p.2.1 + 5) = 8 ∨ nI (p.2.1 + 5) = 9 ∨ nI (p.2.1 + 5) = 10 := by rcases hk3 with h | h | h <;> rw [h] <;> decide
        have := am_rn_of (ext := ext) (d := d - 1) (as := [.ref 25, .int (nI (p.2.1 + 5)), .int (nI s2), .int (nI dd)]) (r := (some (.int (nI s2)), (I', L', D, am_rf (xt, xs, xi, 2, xu, xc)))) mh_63 rfl (w63_0 _ LJ D xc xi xs xt xu _ (nI s2) (nI dd) ⟨_, _, LJ, D, am_up r39 (by omega), fun z => absurd z (ne 0 (by omega) (by omega)), fun z => absurd z (ne 2 (by omega) (by omega)), fun z => absurd z (ne 3 (by omega) (by omega)), fun z => absurd z (ne 4 (by omega) (by omega)), fun z => absurd z (fun q => q.elim (ne 5 (by omega) (by omega)) (fun q => q.elim (ne 6 (by omega) (by omega)) (ne 7 (by omega) (by omega)))), fun _ => ⟨I', L', D, am_up r (by omega), rfl⟩, fun z => absurd z (fun q => q.elim (ne 17 (by omega) (by omega)) (ne 18 (by omega) (by omega))), fun z => absurd yes (fun q => q.elim z.2.2.2.2.2.2.2.1 (fun q => q.elim z.2.2.2.2.2.2.2.2.1 z.2.2.2.2.2.2.2.2.2.1))⟩)
        rwa [show d - 1 + 1 = d by omega] at this
      have ev1 : ev_1 w (ev_L w ls n) p rA = ((match rA.1 with | none => none | some q => sp_1 w p.2.1 q.1 q.2), rA.2 + 1) := by
        unfold ev_1
        cases rA.1 with
        | none => rfl
        | some q => simp only; rw [if_neg h14]
      rw [ev1] at hok hab
      have n1 : ∀ k : Nat, k = 1 ∨ k = 19 ∨ k = 20 → ¬ nI (p.2.1 + 5) = nI k := fun k hk z => by rw [ni_eq (by omega) (by omega)] at z; omega
      exact fin (N := 0) (by omega) (Nat.le_refl s2) (by omega) (by omega) (c7'.trans hop) (n1 1 (by omega)) (n1 19 (by omega)) (n1 20 (by omega)) S F r63 g (fun h I' L' F' S' V' => hok (by show u + (rA.2 + 1) ≤ 20000; omega) I' L' F' S' V') (fun h I' L' pl F' x1 x2 x3 => hab (by show ¬ u + (rA.2 + 1) ≤ 20000; omega) I' L' pl F' x1 x2 x3)
  · sorry
  · sorry
  · sorry
end CTREE
