/-! ===== the class's doubles: a line, reckon ===== -/
def fl1 (o : Option UInt64) : Int32 := match o with
  | none => 0
  | some _ => 1
section DLINE
variable {ext : Nat → List Value → am_M → Option am_R} (L : Nat → Nat → Int64) (xt xs xi xp xc : Nat) {ls : pt_L}
theorem de_all (hwf : pt_wf ls) (hlen : ls.length ≤ 18) (hcs : pt_cs ls ≤ 288) : ∀ n, de_H ext (2 + 5 * n) L xt xs xi xp xc ls n := by
  intro n
  induction n with
  | zero => intro i top dd t v I D h1; omega
  | succ n ih =>
    intro i top dd t v I D h1 h2 h3 h4 h5 h6 hL h8 h9
    have hx : ls[i]? = some ls[i] := List.getElem?_eq_getElem h2
    have hcl := pt_cs_le hx
    have hks := pt_ks_s hx
    have G := de_tree (ext := ext) (d := 2 + 5 * n) (n := n) (m := i) (fn := ls[i].2.1) (v := v) (t := t) (dd := dd) (en := pt_cs (ls.take i) + tr_cz ls[i].2.2) L xt xs xi xp xc (by omega) hwf hlen hcl hcs (by omega) h4 h5 h6 ih ls[i].2.2 _ (hwf i _ hx).2.2.2
    rw [show 2 + 5 * n + 4 = 6 + 5 * n by omega] at G
    have zT := tr_pos ls[i].2.2
    have hl := hL.2.2.2.2.2.2 i _ hx
    have r34 := am_up (c34_2 (ext := ext) (d := 0) (L := L) D (xt, xs, xi, xp, 2, xc) hL.1 hlen h2) (show 1 ≤ 6 + 5 * n by omega)
    have r202 := am_up (c202 (ext := ext) (d := 0) (L := L) (I := I) D (xt, xs, xi, xp, 2, xc) (nI (pt_cs (ls.take i) + tr_cz ls[i].2.2)) (nI (pt_cs ls))) (show 1 ≤ 6 + 5 * n by omega)
    have r201 := am_up (c201 (ext := ext) (d := 0) (L := L) (I := I) D (xt, xs, xi, xp, 2, xc) (nI (pt_cs (ls.take i))) 0) (show 1 ≤ 6 + 5 * n by omega)
    rw [if_pos ((ni_le (by omega) (by omega)).mpr (by omega))] at r202
    rw [if_neg (ni_nn (by omega))] at r201
    rw [de_S_at hwf hx, show 2 + 5 * (n + 1) = 6 + 5 * n + 1 by omega]
    have key : de_hd ext (6 + 5 * n) L xt xs xi xp xc v t dd (pt_cs (ls.take i) + tr_cz ls[i].2.2) (nI (pt_cs (ls.take i))) I D (fun r => ∃ I' D', r = (none, (I', L, D', am_rf (xt, xs, xi, xp, 2, xc))) ∧ de_fr top I D I' D' ∧ I' 34 4 = nI (top + 1) ∧ st_d (de_T (de_S ls) t ls[i].2.2) top I' D' ∧ dm_M ls I' D') := by
      refine G (pt_cs (ls.take i)) top I D _ hl.2.2.2 (Nat.le_refl _) hL h8 h9 (by omega) (fun I' D' F t1 v1 M1 => ?_)
      refine w7_59 I' L D' xc xi xp xs xt v (flg t) (nI dd) (nI _) (nI _) ⟨fun _ => ⟨I', D', rfl, F, t1, v1, M1⟩, fun z => absurd ?_ z⟩
      rw [Int32.le_iff_toInt_le]; exact Int.le_refl _
    have hinb : am_inb (nI i) 18 = true := ni_inb (by omega) (by omega)
    have ei : (nI i).toNatClampNeg = i := ni_nat (by omega)
    obtain ⟨q, rq, I', D', e, g1, g2, g3, g4⟩ := am_of_wp (ext := ext) (d := 6 + 5 * n) (as := [.ref 34, .int (nI i), .double v, .int (flg t), .int (nI dd)]) mh_7 rfl (w7_0 I L D xc xi xp xs xt (nI i) v (flg t) (nI dd) ⟨_, I, L, D, r34, fun z => absurd z (by decide), fun _ => ⟨fun _ => ⟨hinb, _, I, L, D, by rw [ei, hl.2.2.1, hL.2.2.2.1]; exact r202, hinb, _, I, L, D, by rw [ei, hl.2.1]; exact r201, key⟩, fun z => absurd (show nI dd ≤ 18 by rw [show (18 : Int32) = nI 18 from rfl, ni_le (by omega) (by omega)]; omega) z⟩⟩)
    rw [e] at rq
    exact ⟨I', D', rq, g1, g2, g3, g4⟩
theorem c4 (hwf : pt_wf ls) (hlen : ls.length ≤ 18) (hks : pt_ks ls ≤ 96) {i : Nat} {x : Nat × Bool × tr_T} (hx : ls[i]? = some x) (hb : x.2.1 = false) {I : Nat → Nat → Int32} {D : Nat → Nat → UInt64} (hL : rd_L 2 ls I) (hM : dm_M ls I D) : ∃ I' D', am_Rn ext 94 4 [.ref 34, .int (nI i)] (I, L, D, am_rf (xt, xs, xi, xp, 2, xc)) (some (.int (fl1 (de_S ls i (some d_0)))), (I', L, D', am_rf (xt, xs, xi, xp, 2, xc))) ∧ D' 34 6 = dbl (de_S ls i (some d_0)) ∧ dm_M ls I' D' ∧ (∀ a b, ¬ a = 34 → ¬ a = 36 → ¬ a = 38 → I' a b = I a b) ∧ (∀ a b, ¬ (34 ≤ a ∧ a ≤ 37) → D' a b = D a b) := by
  have hcs := pt_cs_ks hwf
  have hi : i < ls.length := (List.getElem?_eq_some_iff.mp hx).1
  have hk1 := pt_ks_s hx
  have hk2 := pt_ks_le hx
  have H := de_all (ext := ext) L xt xs xi xp xc hwf hlen (by omega) 18
  have hL0 : rd_L 2 ls (am_uI I 34 4 0) := rd_L2_of hL (fun a ha => funext fun b => by rw [am_uI_at, if_neg (by omega)])
  obtain ⟨I1, D1, r5, F, t1, v1, M1⟩ := c5 (ext := ext) (d := 92) L xt xs xi xp xc (n := 18) (i := i) (top := 0) (dd := 0) (I := am_uI I 34 4 0) (D := D) H (by omega) hx hb (by omega) hlen (by omega) (by omega) (by omega) hL0 (by rw [am_uI_at, if_pos ⟨rfl, rfl⟩]; rfl) (dm_M_of hM (fun b => by rw [am_uI_at, if_neg (by omega)]) (fun _ => rfl))
  have t1' : I1 34 4 = 1 := t1
  have fI : ∀ a b, ¬ a = 34 → ¬ a = 36 → ¬ a = 38 → I1 a b = I a b := fun a b q1 q2 q3 => by rw [F.1 a b (by omega) (by omega) q2, am_uI_at, if_neg (by omega)]
  have fD : ∀ v a b, ¬ (34 ≤ a ∧ a ≤ 37) → am_uD D1 34 6 v a b = D a b := fun v a b q => by rw [am_uD_at, if_neg (by omega), F.2 a b (by omega) (by omega)]
  have fM : ∀ v, dm_M ls I1 (am_uD D1 34 6 v) := fun v => dm_M_of M1 (fun _ => rfl) (fun b => by rw [am_uD_at, if_neg (by omega)])
  cases ho : de_S ls i (some d_0) with
  | none =>
    rw [ho] at v1
    have f1 : I1 38 0 = 1 := v1.1
    refine ⟨I1, am_uD D1 34 6 FP.dconst0, am_rn_of mh_4 rfl (w4_0 I L D _ (nI i) ⟨I1, L, D1, r5, fun z => absurd t1' z, fun _ => ⟨fun _ => ⟨fun _ => rfl, fun z => absurd rfl z⟩, fun z => ?_⟩⟩), by rw [am_uD_at, if_pos ⟨rfl, rfl⟩]; rfl, fM _, fI, fD _⟩
    rw [f1] at z; exact absurd z (by decide)
  | some a =>
    rw [ho] at v1
    have f1 : I1 38 0 = 0 := v1.1
    have f2 : D1 37 0 = a := v1.2 a rfl
    refine ⟨I1, am_uD D1 34 6 (D1 37 0), am_rn_of mh_4 rfl (w4_0 I L D _ (nI i) ⟨I1, L, D1, r5, fun z => absurd t1' z, fun _ => ⟨fun z => absurd f1 z, fun _ => ⟨fun z => absurd z (by decide), fun _ => rfl⟩⟩⟩), by rw [am_uD_at, if_pos ⟨rfl, rfl⟩]; exact f2, fM _, fI, fD _⟩
end DLINE
