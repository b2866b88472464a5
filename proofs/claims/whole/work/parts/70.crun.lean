/-! ===== the class asks: a line ===== -/
section CRUN
variable {ext : Nat → List Value → am_M → Option am_R} {d : Nat} (D : Nat → Nat → UInt64) (xt xs xi xu xc : Nat) {w : Nat} {ls : pt_L} {n : Nat} {a b : Int64} {dd en : Nat}
theorem c34_2 {L : Nat → Nat → Int64} {I : Nat → Nat → Int32} (X : am_Rf) {s i : Nat} (h9 : I 2 9 = nI s) (hs : s ≤ 18) (hi : i < s) : am_Rn ext (d + 1) 34 [.ref 2, .int (nI i)] (I, L, D, am_rf X) (some (.int 1), (I, L, D, am_rf X)) := by
  refine am_rn_of mh_34 rfl (w34_0_2 I L D X (nI i) ⟨fun z => absurd z (ni_nn (by omega)), fun _ => ⟨fun z => absurd z ?_, fun _ => rfl⟩⟩)
  rw [h9, ni_le (by omega) (by omega)]
  omega
/-- too much work: the rest is left -/
theorem ce_abort {top ch : Nat} {I : Nat → Nat → Int32} {L : Nat → Nat → Int64} {P : am_R → Prop} {pl : Int32} (hd : 1 ≤ d) (ht : top < 100) (h8 : I 25 8 = nI 20001) (h7 : L 25 7 = sp_lim w) (h : ∀ I' L', pp_P (am_uI (am_uI I 25 3 (nI top)) 25 4 (nI ch)) L top none I' L' → P (none, (I', L', D, am_rf (xt, xs, xi, 2, xu, xc)))) : ce_hd ext d D xt xs xi xu xc a b dd top ch en pl I L P := by
  have e : am_wp ext d mz_62 (183, [some (.ref 25), none, none, none, none, none, none, some (.int (nI top)), some (.int (nI ch)), none, none, none], [], (I, L, D, am_rf (xt, xs, xi, 2, xu, xc))) P := by
    obtain ⟨I', L', r, g⟩ := c64n (ext := ext) (d := d - 1) (I := am_uI (am_uI I 25 3 (nI top)) 25 4 (nI ch)) D (xt, xs, xi, 2, xu, xc) (by rw [am_uI_at, if_neg (by omega), am_uI_at, if_pos ⟨rfl, rfl⟩]) ht h7
    rw [show d - 1 + 1 = d by omega] at r
    refine w62_183 I L D xc xi xs xt xu _ _ ⟨fun z => absurd z ?_, fun _ => ⟨I', L', D, r, h I' L' g⟩⟩
    rw [h8]
    decide
  refine w62_73 I L D xc xi xs xt xu a b _ _ _ _ _ ⟨fun _ => e, fun _ => ⟨fun _ => e, fun z => absurd ?_ z⟩⟩
  rw [h8]
  decide
theorem ce_end {u top0 ch top vB cB : Nat} {I : Nat → Nat → Int32} {L : Nat → Nat → Int64} {P : am_R → Prop} (hu : u ≤ 20000) (hS : ce_S w u top0 ch I L) (h : P (none, (I, L, D, am_rf (xt, xs, xi, 2, xu, xc)))) : ce_hd ext d D xt xs xi xu xc a b dd vB cB en (nI en) I L P := by
  refine w62_73 I L D xc xi xs xt xu a b _ _ _ _ _ ⟨fun _ => w62_183 I L D xc xi xs xt xu _ _ ⟨fun _ => h, fun z => absurd ?_ z⟩, fun z => absurd ?_ z⟩
  · rw [hS.2.1, show (20000 : Int32) = nI 20000 from rfl, ni_le (by omega) (by omega)]
    exact hu
  · rw [Int32.le_iff_toInt_le]; exact Int.le_refl _
/-- run, at a line whose tree's code does as it should -/
theorem c62_of {i top ch u : Nat} {x : Nat × Bool × tr_T} {I : Nat → Nat → Int32} {L : Nat → Nat → Int64} (hd : 1 ≤ d) (hx : ls[i]? = some x) (hn : ls.length ≤ 18) (hcs : pt_cs ls ≤ 288) (hto : top + pt_ks (ls.take (i + 1)) ≤ 100) (hch : ch + pt_ks (ls.take (i + 1)) ≤ 96) (hdd : dd + i ≤ 18) (hu : u ≤ 20001) (hL : rd_L 2 ls I) (hS : ce_S w u top ch I L) (G : ce_G ext d D xt xs xi xu xc w ls n i a b dd top ch (pt_cs (ls.take i) + tr_cz x.2.2) x.2.2) :
    ∃ I' L', am_Rn ext (d + 1) 62 [.ref 25, .int (nI i), .long a, .long b, .int (nI dd)] (I, L, D, am_rf (xt, xs, xi, 2, xu, xc)) (none, (I', L', D, am_rf (xt, xs, xi, 2, xu, xc))) ∧ ce_fr top ch I L I' L' ∧ ce_S w (ca_u u (ev_L w ls (n + 1) i a b).2) (top + 1) ch I' L' ∧ st_v (ca_o u (ev_L w ls (n + 1) i a b)) top L' := by
  have hil : i < ls.length := (List.getElem?_eq_some_iff.mp hx).1
  have eev : ev_L w ls (n + 1) i a b = ev_T w (ev_L w ls n) x.2.2 a b := by
    show (match ls[i]? with | some x => ev_T w (ev_L w ls n) x.2.2 a b | none => (none, 0)) = _
    rw [hx]
  have hks : pt_ks (ls.take (i + 1)) = pt_ks (ls.take i) + tr_sz x.2.2 := by
    have e : ls.take (i + 1) = ls.take i ++ [x] := by rw [List.take_add_one, hx]; rfl
    rw [e, pt_ks_app]
  have hcl := pt_cs_le hx
  have zT := tr_pos x.2.2
  have hl := hL.2.2.2.2.2.2 i x hx
  have r34 := c34_2 (ext := ext) (d := d - 1) (L := L) D (xt, xs, xi, 2, xu, xc) hL.1 hn hil
  have r202 := c202 (ext := ext) (d := d - 1) (L := L) (I := I) D (xt, xs, xi, 2, xu, xc) (nI (pt_cs (ls.take i) + tr_cz x.2.2)) (nI (pt_cs ls))
  have r201 := c201 (ext := ext) (d := d - 1) (L := L) (I := I) D (xt, xs, xi, 2, xu, xc) (nI (pt_cs (ls.take i))) 0
  rw [if_pos ((ni_le (by omega) (by omega)).mpr (by omega))] at r202
  rw [if_neg (ni_nn (by omega))] at r201
  rw [show d - 1 + 1 = d by omega] at r34 r202 r201
  rw [eev]
  have key : ce_hd ext d D xt xs xi xu xc a b dd top ch (pt_cs (ls.take i) + tr_cz x.2.2) (nI (pt_cs (ls.take i))) I L (fun r => ∃ I' L', r = (none, (I', L', D, am_rf (xt, xs, xi, 2, xu, xc))) ∧ ce_fr top ch I L I' L' ∧ ce_S w (ca_u u (ev_T w (ev_L w ls n) x.2.2 a b).2) (top + 1) ch I' L' ∧ st_v (ca_o u (ev_T w (ev_L w ls n) x.2.2 a b)) top L') := by
    have ab : ∀ {J : Nat → Nat → Int32} {LJ : Nat → Nat → Int64} {pl : Int32}, ¬ u + (ev_T w (ev_L w ls n) x.2.2 a b).2 ≤ 20000 → ce_fr top ch I L J LJ → J 25 6 = nI w → J 25 8 = nI 20001 → LJ 25 7 = sp_lim w → ce_hd ext d D xt xs xi xu xc a b dd top ch (pt_cs (ls.take i) + tr_cz x.2.2) pl J LJ (fun r => ∃ I' L', r = (none, (I', L', D, am_rf (xt, xs, xi, 2, xu, xc))) ∧ ce_fr top ch I L I' L' ∧ ce_S w (ca_u u (ev_T w (ev_L w ls n) x.2.2 a b).2) (top + 1) ch I' L' ∧ st_v (ca_o u (ev_T w (ev_L w ls n) x.2.2 a b)) top L') := by
      intro J LJ pl hno F i6 i8 l7
      refine ce_abort (ext := ext) D xt xs xi xu xc hd (by omega) i8 l7 (fun I' L' g => ⟨I', L', rfl, ?_, ?_, ?_⟩)
      · exact ce_fr_t F ⟨fun p q q1 q2 => by rw [g.2.1 p q (by omega), am_uI_at, if_neg (by omega), am_uI_at, if_neg (by omega)], fun p q q1 q2 => g.2.2.2 p q (by omega)⟩ (Nat.le_refl _) (Nat.le_refl _)
      · have e : ca_u u (ev_T w (ev_L w ls n) x.2.2 a b).2 = 20001 := by unfold ca_u; rw [if_neg hno]
        rw [e]
        exact ⟨by rw [g.2.1 25 6 (by omega), am_uI_at, if_neg (by omega), am_uI_at, if_neg (by omega)]; exact i6, by rw [g.2.1 25 8 (by omega), am_uI_at, if_neg (by omega), am_uI_at, if_neg (by omega)]; exact i8, g.1, by rw [g.2.1 25 4 (by omega), am_uI_at, if_pos ⟨rfl, rfl⟩], by rw [g.2.2.2 25 7 (by omega)]; exact l7⟩
      · have e : ca_o u (ev_T w (ev_L w ls n) x.2.2 a b) = none := by unfold ca_o; rw [if_neg hno]
        rw [e]
        exact g.2.2.1
    by_cases hu' : u ≤ 20000
    · refine G (pt_cs (ls.take i)) top ch u I L _ hl.2.2.2 (Nat.le_refl _) hL hS hu' (by omega) (by omega) (fun h20 I' L' F S V => ?_) (fun h20 I' L' pl F i6 i8 l7 => ab h20 F i6 i8 l7)
      refine ce_end (ext := ext) (top := 0) D xt xs xi xu xc h20 S ⟨I', L', rfl, F, ?_, ?_⟩
      · have e : ca_u u (ev_T w (ev_L w ls n) x.2.2 a b).2 = u + (ev_T w (ev_L w ls n) x.2.2 a b).2 := by unfold ca_u; rw [if_pos h20]
        rw [e]; exact S
      · have e : ca_o u (ev_T w (ev_L w ls n) x.2.2 a b) = (ev_T w (ev_L w ls n) x.2.2 a b).1 := by unfold ca_o; rw [if_pos h20]
        rw [e]; exact V
    · have e : u = 20001 := by omega
      exact ab (by omega) (ce_fr_0 top ch I L) hS.1 (by rw [← e]; exact hS.2.1) hS.2.2.2.2
  have hinb : am_inb (nI i) 18 = true := ni_inb (by omega) (by omega)
  have ei : (nI i).toNatClampNeg = i := ni_nat (by omega)
  obtain ⟨q, rq, I', L', e, h1, h2, h3⟩ := am_of_wp (ext := ext) (d := d) (as := [.ref 25, .int (nI i), .long a, .long b, .int (nI dd)]) mh_62 rfl (w62_0 I L D xc xi xs xt xu (nI i) a b (nI dd) ⟨_, I, L, D, r34, fun z => absurd z (by decide), fun _ => ⟨fun _ => ⟨hinb, _, I, L, D, by rw [ei, hl.2.2.1, hL.2.2.2.1]; exact r202, hinb, _, I, L, D, by rw [ei, hl.2.1]; exact r201, by rw [hS.2.2.1, hS.2.2.2.1]; exact key⟩, fun z => absurd (show nI dd ≤ 18 by rw [show (18 : Int32) = nI 18 from rfl, ni_le (by omega) (by omega)]; omega) z⟩⟩)
  rw [e] at rq
  exact ⟨I', L', rq, h1, h2, h3⟩
end CRUN
