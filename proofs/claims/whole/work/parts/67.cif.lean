/-! ===== the class asks: choices ===== -/
section CIF
variable {ext : Nat → List Value → am_M → Option am_R} {d : Nat} {L : Nat → Nat → Int64} (D : Nat → Nat → UInt64) (xt xs xi xu xc : Nat) {I : Nat → Nat → Int32} {w top ch : Nat}
/-- argumentAt, of the told program -/
theorem c39 {s i : Nat} (X : am_Rf) (h8 : I 2 8 = nI s) (hs : s ≤ 288) (hi : i < s) : am_Rn ext (d + 1) 39 [.ref 2, .int (nI i)] (I, L, D, am_rf X) (some (.int (I 8 i)), (I, L, D, am_rf X)) := by
  refine am_rn_of mh_39 rfl (w39_0_2 I L D X (nI i) ⟨fun z => absurd z (ni_nn (by omega)), fun _ => ⟨fun z => absurd z ?_, fun _ => ⟨ni_inb (by omega) (by omega), ?_⟩⟩⟩)
  · rw [h8, ni_le (by omega) (by omega)]
    omega
  · rw [ni_nat (by omega)]
/-- choose -/
theorem c76 {o p : Option (Int64 × Int64)} {kd s sc pl jn : Nat} (hkd : kd = 12 ∨ kd = 13) (h3 : I 25 3 = nI (top + 2)) (ht : top + 1 < 100) (h4 : I 25 4 = nI ch) (hch : ch < 96) (h7 : L 25 7 = sp_lim w) (ho : sp_le o) (hp : sp_le p) (hv : st_v o top L) (hv2 : st_v p (top + 1) L) (h8 : I 2 8 = nI s) (hs : s ≤ 288) (hsc : sc < s) (hjn : I 8 sc = nI jn) :
    (o = none ∨ p = none → ∃ I' L', am_Rn ext (d + 2) 76 [.ref 25, .int (nI (kd + 5)), .int (nI sc), .int (nI pl)] (I, L, D, am_rf (xt, xs, xi, 2, xu, xc)) (some (.int (nI jn)), (I', L', D, am_rf (xt, xs, xi, 2, xu, xc))) ∧ pp_P I L top none I' L') ∧
    (∀ q r, o = some q → p = some r → ∃ I', am_Rn ext (d + 2) 76 [.ref 25, .int (nI (kd + 5)), .int (nI sc), .int (nI pl)] (I, L, D, am_rf (xt, xs, xi, 2, xu, xc)) (some (.int (if sp_ch kd q r = 2 then nI sc else nI pl)), (I', L, D, am_rf (xt, xs, xi, 2, xu, xc))) ∧ I' 25 3 = nI top ∧ I' 25 4 = nI (ch + 1) ∧ I' 28 ch = nI (sp_ch kd q r) ∧ (∀ a b, ¬ (a = 25 ∧ (b = 3 ∨ b = 4)) → ¬ (a = 28 ∧ b = ch) → I' a b = I a b)) := by
  have e1 : I 25 3 - 2 = nI top := by rw [h3, show (2 : Int32) = nI 2 from rfl, ni_sub (by omega) (by omega)]; rfl
  have e1' : I 25 3 - 2 + 1 = nI (top + 1) := by rw [e1, show (1 : Int32) = nI 1 from rfl, ni_add (by omega)]
  have n2 : ¬ I 25 3 < 2 := by rw [h3, show (2 : Int32) = nI 2 from rfl, ni_lt (by omega) (by omega)]; omega
  have l96 : I 25 4 < 96 := by rw [h4, show (96 : Int32) = nI 96 from rfl, ni_lt (by omega) (by omega)]; exact hch
  obtain ⟨v1, v2⟩ := hv
  obtain ⟨u1, u2⟩ := hv2
  have j3 : (am_uI I 25 3 (nI top)) 25 3 = nI top := by rw [am_uI_at, if_pos ⟨rfl, rfl⟩]
  have j3' : (am_uI I 25 3 (nI top)) 25 3 + 1 = nI (top + 1) := by rw [j3, show (1 : Int32) = nI 1 from rfl, ni_add (by omega)]
  have j4 : (am_uI I 25 3 (nI top)) 25 4 = nI ch := by rw [am_uI_at, if_neg (by omega)]; exact h4
  have j8 : (am_uI I 25 3 (nI top)) 2 8 = nI s := by rw [am_uI_at, if_neg (by omega)]; exact h8
  have hb : am_inb ((am_uI I 25 3 (nI top)) 25 3) 100 = true := by rw [j3]; exact ni_inb (by omega) (by omega)
  have hb' : am_inb ((am_uI I 25 3 (nI top)) 25 3 + 1) 100 = true := by rw [j3']; exact ni_inb ht (by omega)
  have k3 : ((am_uI I 25 3 (nI top)) 25 3).toNatClampNeg = top := by rw [j3, ni_nat (by omega)]
  have k3' : ((am_uI I 25 3 (nI top)) 25 3 + 1).toNatClampNeg = top + 1 := by rw [j3', ni_nat (by omega)]
  have kdc : (nI (kd + 5) = 17 ↔ kd = 12) := by rw [show (17 : Int32) = nI 17 from rfl, ni_eq (by omega) (by omega)]; omega
  -- the lesser's and the greater's places
  have start : ∀ {r0 : am_R} (le gr : Nat), (kd = 12 ∧ le = top ∧ gr = top + 1 ∨ kd = 13 ∧ le = top + 1 ∧ gr = top) → am_wp ext (d + 1) mz_76 (69, [some (.ref 25), none, some (.int (nI sc)), some (.int (nI pl)), some (.int (nI le)), none, none], [.int (nI gr)], (am_uI I 25 3 (nI top), L, D, am_rf (xt, xs, xi, 2, xu, xc))) (fun r => r = r0) → am_Rn ext (d + 2) 76 [.ref 25, .int (nI (kd + 5)), .int (nI sc), .int (nI pl)] (I, L, D, am_rf (xt, xs, xi, 2, xu, xc)) r0 := by
    intro r0 le gr hlg wp
    refine am_rn_of mh_76 rfl (w76_0 I L D xc xi xs xt xu _ _ _ ⟨fun z => absurd z n2, fun _ => ⟨fun _ => ⟨fun z => ?_, fun z => ?_⟩, fun z => absurd l96 z⟩⟩)
    · have k13 : kd = 13 := by have : ¬ kd = 12 := fun h => z (kdc.mpr h); omega
      obtain ⟨_, rfl, rfl⟩ := hlg.resolve_left (fun h => by omega)
      rw [e1', e1]
      refine w76_48 _ L D xc xi xs xt xu _ _ _ _ ⟨fun _ => ?_, fun y => absurd y z⟩
      rw [j3]; exact wp
    · have k12 := kdc.mp z
      obtain ⟨_, rfl, rfl⟩ := hlg.resolve_right (fun h => by omega)
      rw [e1]
      refine w76_48 _ L D xc xi xs xt xu _ _ _ _ ⟨fun y => absurd z y, fun _ => ?_⟩
      rw [j3']; exact wp
  have hlg : ∃ le gr, (kd = 12 ∧ le = top ∧ gr = top + 1 ∨ kd = 13 ∧ le = top + 1 ∧ gr = top) := by
    rcases hkd with h | h
    · exact ⟨top, top + 1, Or.inl ⟨h, rfl, rfl⟩⟩
    · exact ⟨top + 1, top, Or.inr ⟨h, rfl, rfl⟩⟩
  obtain ⟨le, gr, hlg⟩ := hlg
  constructor
  · intro hnone
    obtain ⟨I', L', r, g⟩ := c64n (ext := ext) (d := d) D (xt, xs, xi, 2, xu, xc) j3 (by omega) h7
    have g' := pp_P_u g
    have e8' : I' 2 8 = nI s := by rw [g'.2.1 2 8 (by omega)]; exact h8
    have r39 := c39 (ext := ext) (d := d) (L := L') D (xt, xs, xi, 2, xu, xc) e8' hs hsc
    rw [g'.2.1 8 sc (by omega), hjn] at r39
    refine ⟨I', L', start le gr hlg (w76_69 _ L D xc xi xs xt xu _ _ _ _ ⟨hb, hb, fun _ => ⟨I', L', D, r, _, I', L', D, r39, rfl⟩, fun z => ⟨hb', hb', fun y => absurd y ?_, fun _ => ⟨I', L', D, r, _, I', L', D, r39, rfl⟩⟩⟩), g'⟩
    rw [k3, v1, v2] at z
    have ho' : ¬ o = none := fun q => z ((sp_le_n ho).1.mpr q)
    have hp' := hnone.resolve_left ho'
    rw [k3', u1, u2, hp']
    decide
  · intro q r hq hr
    subst hq
    subst hr
    have yo : ¬ L 27 ((am_uI I 25 3 (nI top)) 25 3).toNatClampNeg < L 26 ((am_uI I 25 3 (nI top)) 25 3).toNatClampNeg := by rw [k3, v1, v2]; exact ho q rfl
    have yp : L 26 ((am_uI I 25 3 (nI top)) 25 3 + 1).toNatClampNeg ≤ L 27 ((am_uI I 25 3 (nI top)) 25 3 + 1).toNatClampNeg := by rw [k3', u1, u2]; exact (sp_le_n hp).2.mpr (by simp)
    have v1' : L 26 top = q.1 := v1
    have v2' : L 27 top = q.2 := v2
    have u1' : L 26 (top + 1) = r.1 := u1
    have u2' : L 27 (top + 1) = r.2 := u2
    have nlt : ∀ a b : Int64, a ≤ b ↔ ¬ b < a := fun a b => by rw [Int64.le_iff_toInt_le, Int64.lt_iff_toInt_lt]; omega
    have hle : am_inb (nI le) 100 = true := ni_inb (by omega) (by omega)
    have hgr : am_inb (nI gr) 100 = true := ni_inb (by omega) (by omega)
    have hcb : am_inb ((am_uI I 25 3 (nI top)) 25 4) 96 = true := by rw [j4]; exact ni_inb hch (by omega)
    have kc : ((am_uI I 25 3 (nI top)) 25 4).toNatClampNeg = ch := by rw [j4, ni_nat (by omega)]
    -- the choice
    have hsp : sp_ch kd q r = (if L 27 le < L 26 gr then 1 else if L 27 gr ≤ L 26 le then 2 else 3) := by
      unfold sp_ch
      rcases hlg with ⟨rfl, rfl, rfl⟩ | ⟨rfl, rfl, rfl⟩
      · rw [if_pos rfl, v1', v2', u1', u2']
      · rw [if_neg (by omega), v1', v2', u1', u2']
    have fin : ∀ c : Nat, c ≤ 3 → sp_ch kd q r = c → am_wp ext (d + 1) mz_76 (206, [some (.ref 25), none, some (.int (nI sc)), some (.int (nI pl)), none, none, none], [], (am_uI (am_uI I 25 3 (nI top)) 28 ch (nI c), L, D, am_rf (xt, xs, xi, 2, xu, xc))) (fun r' => r' = (some (.int (if sp_ch kd q r = 2 then nI sc else nI pl)), (am_uI (am_uI (am_uI I 25 3 (nI top)) 28 ch (nI (sp_ch kd q r))) 25 4 (nI (ch + 1)), L, D, am_rf (xt, xs, xi, 2, xu, xc)))) := by
      intro c hc3 hc
      have m4 : (am_uI (am_uI I 25 3 (nI top)) 28 ch (nI c)) 25 4 = nI ch := by rw [am_uI_at, if_neg (by omega)]; exact j4
      have m28 : (am_uI (am_uI I 25 3 (nI top)) 28 ch (nI c)) 28 ch = nI c := by rw [am_uI_at, if_pos ⟨rfl, rfl⟩]
      have inc : nI ch + 1 = nI (ch + 1) := by rw [show (1 : Int32) = nI 1 from rfl, ni_add (by omega)]
      refine w76_206 _ L D xc xi xs xt xu _ _ ⟨by rw [m4]; exact ni_inb hch (by omega), fun z => ?_, fun z => ?_⟩
      · rw [m4, ni_nat (by omega), m28, show (2 : Int32) = nI 2 from rfl, ni_eq (by omega) (by omega)] at z
        rw [hc, if_neg z, m4, inc]
      · rw [m4, ni_nat (by omega), m28, show (2 : Int32) = nI 2 from rfl, ni_eq (by omega) (by omega)] at z
        rw [hc, if_pos z, m4, inc]
    refine ⟨am_uI (am_uI (am_uI I 25 3 (nI top)) 28 ch (nI (sp_ch kd q r))) 25 4 (nI (ch + 1)), start le gr hlg (w76_69 _ L D xc xi xs xt xu _ _ _ _ ⟨hb, hb, fun z => absurd z yo, fun _ => ⟨hb', hb', fun _ => ⟨hle, hgr, fun z => ⟨hle, hgr, fun y => ⟨hcb, ?_⟩, fun y => ⟨hcb, ?_⟩⟩, fun z => ⟨hcb, ?_⟩⟩, fun z => absurd yp z⟩⟩), ?_, ?_, ?_, ?_⟩
    · rw [ni_nat (by omega), ni_nat (by omega)] at z y
      rw [kc]
      refine fin 3 (by omega) ?_
      rw [hsp, if_neg ((nlt _ _).mp z), if_neg (fun h => (nlt _ _).mp h y)]
    · rw [ni_nat (by omega), ni_nat (by omega)] at z y
      rw [kc]
      refine fin 2 (by omega) ?_
      rw [hsp, if_neg ((nlt _ _).mp z), if_pos ((nlt _ _).mpr y)]
    · rw [ni_nat (by omega), ni_nat (by omega)] at z
      rw [kc]
      refine fin 1 (by omega) ?_
      rw [hsp, if_pos]
      by_cases h : L 27 le < L 26 gr
      · exact h
      · exact absurd ((nlt _ _).mpr h) z
    · rw [am_uI_at, if_neg (by omega), am_uI_at, if_neg (by omega), am_uI_at, if_pos ⟨rfl, rfl⟩]
    · rw [am_uI_at, if_pos ⟨rfl, rfl⟩]
    · rw [am_uI_at, if_neg (by omega), am_uI_at, if_pos ⟨rfl, rfl⟩]
    · intro a b q1 q2
      rw [am_uI_at, if_neg (by omega), am_uI_at, if_neg (by omega), am_uI_at, if_neg (by omega)]
/-- passMark at SECOND -/
theorem c77_s {s pl jn c : Nat} (h4 : I 25 4 = nI (ch + 1)) (hch : ch < 96) (h28 : I 28 ch = nI c) (hc : c ≤ 3) (h8 : I 2 8 = nI s) (hs : s ≤ 288) (hpl : pl < s) (hjn : I 8 pl = nI jn) : ∃ I', am_Rn ext (d + 2) 77 [.ref 25, .int 19, .int (nI pl)] (I, L, D, am_rf (xt, xs, xi, 2, xu, xc)) (some (.int (if c = 1 then nI jn else nI pl)), (I', L, D, am_rf (xt, xs, xi, 2, xu, xc))) ∧ I' 25 4 = nI (if c = 1 then ch else ch + 1) ∧ (∀ a b, ¬ (a = 25 ∧ b = 4) → I' a b = I a b) := by
  have e1 : I 25 4 - 1 = nI ch := by rw [h4, show (1 : Int32) = nI 1 from rfl, ni_sub (by omega) (by omega)]; rfl
  have e0 : I 25 4 - 0 = nI (ch + 1) := by rw [h4, show (0 : Int32) = nI 0 from rfl, ni_sub (by omega) (by omega)]; rfl
  have hb : am_inb (I 25 4 - 1) 96 = true := by rw [e1]; exact ni_inb hch (by omega)
  have h1 : (1 : Int32) ≤ I 25 4 := by rw [h4, show (1 : Int32) = nI 1 from rfl, ni_le (by omega) (by omega)]; omega
  have ec : I 28 (I 25 4 - 1).toNatClampNeg = 1 ↔ c = 1 := by rw [e1, ni_nat (by omega), h28, show (1 : Int32) = nI 1 from rfl, ni_eq (by omega) (by omega)]
  by_cases hc1 : c = 1
  · have r39 := c39 (ext := ext) (d := d) (L := L) (I := am_uI I 25 4 (I 25 4 - 1)) D (xt, xs, xi, 2, xu, xc) (by rw [am_uI_at, if_neg (by omega)]; exact h8) hs hpl
    have e8 : (am_uI I 25 4 (I 25 4 - 1)) 8 pl = nI jn := by rw [am_uI_at, if_neg (by omega)]; exact hjn
    rw [e8] at r39
    refine ⟨am_uI I 25 4 (I 25 4 - 1), am_rn_of mh_77 rfl (w77_0 I L D xc xi xs xt xu _ _ ⟨fun _ => ⟨hb, fun z => absurd rfl z, fun _ => ⟨fun z => absurd (ec.mpr hc1) z, fun _ => ⟨fun z => absurd (ec.mpr hc1) z, fun _ => ⟨_, _, L, D, r39, by rw [if_pos hc1]⟩⟩⟩⟩, fun z => absurd h1 z⟩), ?_, fun a b hab => by rw [am_uI_at, if_neg hab]⟩
    rw [am_uI_at, if_pos ⟨rfl, rfl⟩, e1, if_pos hc1]
  · refine ⟨am_uI I 25 4 (I 25 4 - 0), am_rn_of mh_77 rfl (w77_0 I L D xc xi xs xt xu _ _ ⟨fun _ => ⟨hb, fun z => absurd rfl z, fun _ => ⟨fun _ => ⟨fun _ => by rw [if_neg hc1], fun z => absurd (ec.mp z) hc1⟩, fun z => absurd (ec.mp z) hc1⟩⟩, fun z => absurd h1 z⟩), ?_, fun a b hab => by rw [am_uI_at, if_neg hab]⟩
    rw [am_uI_at, if_pos ⟨rfl, rfl⟩, e0, if_neg hc1]
/-- passMark at JOIN -/
theorem c77_j {pl c : Nat} {o p : Option (Int64 × Int64)} (h4 : I 25 4 = nI (ch + 1)) (hch : ch < 96) (h28 : I 28 ch = nI c) (hc : c ≤ 3) (h7 : L 25 7 = sp_lim w) :
    (¬ c = 3 → ∃ I', am_Rn ext (d + 3) 77 [.ref 25, .int 20, .int (nI pl)] (I, L, D, am_rf (xt, xs, xi, 2, xu, xc)) (some (.int (nI pl)), (I', L, D, am_rf (xt, xs, xi, 2, xu, xc))) ∧ I' 25 4 = nI ch ∧ (∀ a b, ¬ (a = 25 ∧ b = 4) → I' a b = I a b)) ∧
    (c = 3 → I 25 3 = nI (top + 2) → top + 1 < 100 → sp_le o → sp_le p → st_v o top L → st_v p (top + 1) L → ∃ I' L', am_Rn ext (d + 3) 77 [.ref 25, .int 20, .int (nI pl)] (I, L, D, am_rf (xt, xs, xi, 2, xu, xc)) (some (.int (nI pl)), (I', L', D, am_rf (xt, xs, xi, 2, xu, xc))) ∧ pp_P (am_uI I 25 4 (nI ch)) L top (sp_j w o p) I' L') := by
  have e1 : I 25 4 - 1 = nI ch := by rw [h4, show (1 : Int32) = nI 1 from rfl, ni_sub (by omega) (by omega)]; rfl
  have hb : am_inb (I 25 4 - 1) 96 = true := by rw [e1]; exact ni_inb hch (by omega)
  have h1 : (1 : Int32) ≤ I 25 4 := by rw [h4, show (1 : Int32) = nI 1 from rfl, ni_le (by omega) (by omega)]; omega
  have ec : I 28 (I 25 4 - 1).toNatClampNeg = 3 ↔ c = 3 := by rw [e1, ni_nat (by omega), h28, show (3 : Int32) = nI 3 from rfl, ni_eq (by omega) (by omega)]
  have n20 : ¬ (20 : Int32) = 19 := by decide
  refine ⟨fun hc3 => ?_, fun hc3 h3 ht ho hp hv hv2 => ?_⟩
  · refine ⟨am_uI I 25 4 (I 25 4 - 1), am_rn_of mh_77 rfl (w77_0 I L D xc xi xs xt xu _ _ ⟨fun _ => ⟨hb, fun _ => ⟨fun _ => rfl, fun z => absurd (ec.mp z) hc3⟩, fun z => absurd z n20⟩, fun z => absurd h1 z⟩), ?_, fun a b hab => by rw [am_uI_at, if_neg hab]⟩
    rw [am_uI_at, if_pos ⟨rfl, rfl⟩, e1]
  · obtain ⟨I', L', r, g⟩ := c78 (ext := ext) (d := d) (I := am_uI I 25 4 (I 25 4 - 1)) D (xt, xs, xi, 2, xu, xc) (by rw [am_uI_at, if_neg (by omega)]; exact h3) ht h7 ho hp hv hv2
    refine ⟨I', L', am_rn_of mh_77 rfl (w77_0 I L D xc xi xs xt xu _ _ ⟨fun _ => ⟨hb, fun _ => ⟨fun z => absurd (ec.mpr hc3) z, fun _ => ⟨I', L', D, r, rfl⟩⟩, fun z => absurd z n20⟩, fun z => absurd h1 z⟩), ?_⟩
    rw [← e1]; exact g
end CIF
