/-! ===== the class asks: a tree's code ===== -/
def gd2 (w : Nat) (a b : Int64) : Prop := a.toInt ≤ b.toInt ∧ -(2048 * 2 ^ w : Int) ≤ a.toInt ∧ b.toInt ≤ (2048 * 2 ^ w : Int)
def gd (w : Nat) (o : Option (Int64 × Int64)) : Prop := ∀ p, o = some p → gd2 w p.1 p.2
theorem gd_le {w : Nat} {o : Option (Int64 × Int64)} (h : gd w o) : sp_le o := by
  intro p hp
  have := (h p hp).1
  rw [Int64.lt_iff_toInt_lt]
  omega
/-- work, and what is found, where 20000 is the most -/
def ca_u (u n : Nat) : Nat := if u + n ≤ 20000 then u + n else 20001
def ca_o (u : Nat) (r : ev_R) : Option (Int64 × Int64) := if u + r.2 ≤ 20000 then r.1 else none
def ce_S (w u top ch : Nat) (I : Nat → Nat → Int32) (L : Nat → Nat → Int64) : Prop := I 25 6 = nI w ∧ I 25 8 = nI u ∧ I 25 3 = nI top ∧ I 25 4 = nI ch ∧ L 25 7 = sp_lim w
def ce_fr (top ch : Nat) (I : Nat → Nat → Int32) (L : Nat → Nat → Int64) (I' : Nat → Nat → Int32) (L' : Nat → Nat → Int64) : Prop := (∀ a b, ¬ (a = 25 ∧ (b = 3 ∨ b = 4 ∨ b = 8)) → ¬ (a = 28 ∧ ch ≤ b) → I' a b = I a b) ∧ (∀ a b, ¬ (a = 25 ∧ (b = 9 ∨ b = 10)) → ¬ ((a = 26 ∨ a = 27) ∧ top ≤ b) → L' a b = L a b)
theorem ce_fr_0 (top ch : Nat) (I : Nat → Nat → Int32) (L : Nat → Nat → Int64) : ce_fr top ch I L I L := ⟨fun _ _ _ _ => rfl, fun _ _ _ _ => rfl⟩
theorem ce_fr_t {top ch top' ch' : Nat} {I I1 I2 : Nat → Nat → Int32} {L L1 L2 : Nat → Nat → Int64} (h1 : ce_fr top ch I L I1 L1) (h2 : ce_fr top' ch' I1 L1 I2 L2) (ht : top ≤ top') (hc : ch ≤ ch') : ce_fr top ch I L I2 L2 :=
  ⟨fun a b q1 q2 => (h2.1 a b q1 (by omega)).trans (h1.1 a b q1 q2), fun a b q1 q2 => (h2.2 a b q1 (by omega)).trans (h1.2 a b q1 q2)⟩
theorem ce_fr_p {top ch : Nat} {I I' : Nat → Nat → Int32} {L L' : Nat → Nat → Int64} {o : Option (Int64 × Int64)} (h : pp_P I L top o I' L') : ce_fr top ch I L I' L' := ⟨fun a b q1 q2 => h.2.1 a b (by omega), fun a b q1 q2 => h.2.2.2 a b (by omega)⟩
theorem rd_L2_fr {top ch : Nat} {ls : pt_L} {I I' : Nat → Nat → Int32} {L L' : Nat → Nat → Int64} (h : rd_L 2 ls I) (hf : ce_fr top ch I L I' L') : rd_L 2 ls I' := by
  have e : ∀ a, a ≤ 10 → I' a = I a := fun a ha => funext fun b => hf.1 a b (by omega) (by omega)
  unfold rd_L at h ⊢
  simp only [Nat.reduceAdd] at h ⊢
  rw [e 2 (by omega), e 3 (by omega), e 4 (by omega), e 5 (by omega), e 6 (by omega), e 7 (by omega), e 8 (by omega), e 9 (by omega), e 10 (by omega)]
  exact h
section CSEG
variable {ext : Nat → List Value → am_M → Option am_R} {d : Nat} (D : Nat → Nat → UInt64) (xt xs xi xu xc : Nat)
theorem c201 {L : Nat → Nat → Int64} {I : Nat → Nat → Int32} (X : am_Rf) (x z : Int32) : am_Rn ext (d + 1) 201 [.int x, .int z] (I, L, D, am_rf X) (some (.int (if x < z then z else x)), (I, L, D, am_rf X)) := by
  refine am_rn_of mh_201 rfl (w201_0 I L D X x z ⟨fun h => ?_, fun h => ?_⟩)
  · rw [if_pos h]
  · rw [if_neg h]
/-- a line's contract: those below n -/
def ce_H (ext : Nat → List Value → am_M → Option am_R) (dp : Nat) (D : Nat → Nat → UInt64) (xt xs xi xu xc w : Nat) (ls : pt_L) (n : Nat) : Prop := ∀ (i top ch u dd : Nat) (a b : Int64) (I : Nat → Nat → Int32) (L : Nat → Nat → Int64), i < n → i < ls.length → top + pt_ks (ls.take (i + 1)) ≤ 100 → ch + pt_ks (ls.take (i + 1)) ≤ 96 → dd + i ≤ 18 → u ≤ 20001 → gd2 w a b → rd_L 2 ls I → ce_S w u top ch I L →
  ∃ I' L', am_Rn ext dp 62 [.ref 25, .int (nI i), .long a, .long b, .int (nI dd)] (I, L, D, am_rf (xt, xs, xi, 2, xu, xc)) (none, (I', L', D, am_rf (xt, xs, xi, 2, xu, xc))) ∧ ce_fr top ch I L I' L' ∧ ce_S w (ca_u u (ev_L w ls n i a b).2) (top + 1) ch I' L' ∧ st_v (ca_o u (ev_L w ls n i a b)) top L'
/-- run's loop at place pl -/
def ce_hd (ext : Nat → List Value → am_M → Option am_R) (d : Nat) (D : Nat → Nat → UInt64) (xt xs xi xu xc : Nat) (a b : Int64) (dd vB cB en : Nat) (pl : Int32) (I : Nat → Nat → Int32) (L : Nat → Nat → Int64) (P : am_R → Prop) : Prop := am_wp ext d mz_62 (73, [some (.ref 25), none, some (.long a), none, some (.long b), none, some (.int (nI dd)), some (.int (nI vB)), some (.int (nI cB)), some (.int (nI en)), some (.int pl), none], [], (I, L, D, am_rf (xt, xs, xi, 2, xu, xc))) P
/-- a knot's code is performed -/
theorem ce_step {w u top ch dd vB cB en s : Nat} {a b : Int64} {I : Nat → Nat → Int32} {L : Nat → Nat → Int64} {P : am_R → Prop} (hd : 1 ≤ d) (hs : s < en) (hen : en ≤ 288) (hu : u ≤ 20000) (hS : ce_S w u top ch I L) {op : Int32} (hop : I 7 s = op) (h1 : ¬ op = 1) (h19 : ¬ op = 19) (h20 : ¬ op = 20) {I' : Nat → Nat → Int32} {L' : Nat → Nat → Int64} {to : Nat} (hto : s ≤ to) (hto2 : to ≤ 288)
    (r : am_Rn ext d 63 [.ref 25, .int op, .int (nI s), .int (nI dd)] (am_uI I 25 8 (nI (u + 1)), L, D, am_rf (xt, xs, xi, 2, xu, xc)) (some (.int (nI to)), (I', L', D, am_rf (xt, xs, xi, 2, xu, xc)))) (h : ce_hd ext d D xt xs xi xu xc a b dd vB cB en (nI (to + 1)) I' L' P) : ce_hd ext d D xt xs xi xu xc a b dd vB cB en (nI s) I L P := by
  obtain ⟨s6, s8, s3, s4, s7⟩ := hS
  have e8 : I 25 8 + 1 = nI (u + 1) := by rw [s8, show (1 : Int32) = nI 1 from rfl, ni_add (by omega)]
  have ec : (nI s).toNatClampNeg = s := ni_nat (by omega)
  have emx : (if nI s < nI to then nI to else nI s) = nI to := by
    by_cases hlt : s < to
    · rw [if_pos ((ni_lt (by omega) (by omega)).mpr hlt)]
    · have : s = to := by omega
      subst this
      rw [if_neg (fun z => by have := (ni_lt (by omega) (by omega)).mp z; omega)]
  have r2 := c201 (ext := ext) (d := 0) (L := L') (I := I') D (xt, xs, xi, 2, xu, xc) (nI s) (nI to)
  rw [emx] at r2
  refine w62_73 I L D xc xi xs xt xu a b (nI dd) (nI vB) (nI cB) (nI en) (nI s) ⟨fun z => ?_, fun _ => ⟨fun z => ?_, fun _ => ⟨ni_inb (by omega) (by omega), ?_⟩⟩⟩
  · rw [ni_le (by omega) (by omega)] at z
    omega
  · rw [s8, show (20000 : Int32) = nI 20000 from rfl, ni_lt (by omega) (by omega)] at z
    omega
  · rw [ec, hop, e8]
    refine ⟨fun z => absurd z h19, fun _ => ⟨fun _ => ⟨fun _ => ⟨_, I', L', D, r, _, I', L', D, am_up r2 hd, ?_⟩, fun z => absurd z h1⟩, fun z => absurd z h20⟩⟩
    rw [show (1 : Int32) = nI 1 from rfl, ni_add (by omega)]
    exact h
/-- t -/
theorem ce_t {w u top ch dd vB cB en s : Nat} {a b : Int64} {I : Nat → Nat → Int32} {L : Nat → Nat → Int64} {P : am_R → Prop} (hd : 1 ≤ d) (hs : s < en) (hen : en ≤ 288) (hu : u ≤ 20000) (ht : top < 100) (hS : ce_S w u top ch I L) (hop : I 7 s = 1) (h : ∀ I' L', pp_P (am_uI I 25 8 (nI (u + 1))) L top (sp_k w a b) I' L' → ce_hd ext d D xt xs xi xu xc a b dd vB cB en (nI (s + 1)) I' L' P) : ce_hd ext d D xt xs xi xu xc a b dd vB cB en (nI s) I L P := by
  obtain ⟨s6, s8, s3, s4, s7⟩ := hS
  have e8 : I 25 8 + 1 = nI (u + 1) := by rw [s8, show (1 : Int32) = nI 1 from rfl, ni_add (by omega)]
  have ec : (nI s).toNatClampNeg = s := ni_nat (by omega)
  obtain ⟨I', L', r, g⟩ := c64p (ext := ext) (d := 0) (I := am_uI I 25 8 (nI (u + 1))) D (xt, xs, xi, 2, xu, xc) (by rw [am_uI_at, if_neg (by omega)]; exact s3) ht s7 a b
  refine w62_73 I L D xc xi xs xt xu a b (nI dd) (nI vB) (nI cB) (nI en) (nI s) ⟨fun z => ?_, fun _ => ⟨fun z => ?_, fun _ => ⟨ni_inb (by omega) (by omega), ?_⟩⟩⟩
  · rw [ni_le (by omega) (by omega)] at z
    omega
  · rw [s8, show (20000 : Int32) = nI 20000 from rfl, ni_lt (by omega) (by omega)] at z
    omega
  · rw [ec, hop, e8]
    refine ⟨fun z => absurd z (by decide), fun _ => ⟨fun _ => ⟨fun z => absurd rfl z, fun _ => ⟨I', L', D, am_up r hd, ?_⟩⟩, fun z => absurd z (by decide)⟩⟩
    rw [show (1 : Int32) = nI 1 from rfl, ni_add (by omega)]
    exact h I' L' g
/-- a mark is passed -/
theorem ce_mark {w u top ch dd vB cB en s : Nat} {a b : Int64} {I : Nat → Nat → Int32} {L : Nat → Nat → Int64} {P : am_R → Prop} (hd : 1 ≤ d) (hs : s < en) (hen : en ≤ 288) (hu : u ≤ 20000) (hS : ce_S w u top ch I L) {op : Int32} (hop : I 7 s = op) (hm : op = 19 ∨ op = 20) {I' : Nat → Nat → Int32} {L' : Nat → Nat → Int64} {to : Nat} (hto : s ≤ to) (hto2 : to ≤ 288)
    (r : am_Rn ext d 77 [.ref 25, .int op, .int (nI s)] (I, L, D, am_rf (xt, xs, xi, 2, xu, xc)) (some (.int (nI to)), (I', L', D, am_rf (xt, xs, xi, 2, xu, xc)))) (h : ce_hd ext d D xt xs xi xu xc a b dd vB cB en (nI (to + 1)) I' L' P) : ce_hd ext d D xt xs xi xu xc a b dd vB cB en (nI s) I L P := by
  obtain ⟨s6, s8, s3, s4, s7⟩ := hS
  have ec : (nI s).toNatClampNeg = s := ni_nat (by omega)
  have emx : (if nI s < nI to then nI to else nI s) = nI to := by
    by_cases hlt : s < to
    · rw [if_pos ((ni_lt (by omega) (by omega)).mpr hlt)]
    · have : s = to := by omega
      subst this
      rw [if_neg (fun z => by have := (ni_lt (by omega) (by omega)).mp z; omega)]
  have r2 := c201 (ext := ext) (d := 0) (L := L') (I := I') D (xt, xs, xi, 2, xu, xc) (nI s) (nI to)
  rw [emx] at r2
  have fin : ∃ r2 I2 L2 D2, am_Rn ext d 201 [.int (nI s), .int (nI to)] (I', L', D, am_rf (xt, xs, xi, 2, xu, xc)) (some (.int r2), (I2, L2, D2, am_rf (xt, xs, xi, 2, xu, xc))) ∧ am_wp ext d mz_62 (73, [some (.ref 25), none, some (.long a), none, some (.long b), none, some (.int (nI dd)), some (.int (nI vB)), some (.int (nI cB)), some (.int (nI en)), some (.int (r2 + 1)), none], [], (I2, L2, D2, am_rf (xt, xs, xi, 2, xu, xc))) P := by
    refine ⟨_, I', L', D, am_up r2 hd, ?_⟩
    rw [show (1 : Int32) = nI 1 from rfl, ni_add (by omega)]
    exact h
  refine w62_73 I L D xc xi xs xt xu a b (nI dd) (nI vB) (nI cB) (nI en) (nI s) ⟨fun z => ?_, fun _ => ⟨fun z => ?_, fun _ => ⟨ni_inb (by omega) (by omega), ?_⟩⟩⟩
  · rw [ni_le (by omega) (by omega)] at z
    omega
  · rw [s8, show (20000 : Int32) = nI 20000 from rfl, ni_lt (by omega) (by omega)] at z
    omega
  · rw [ec, hop]
    refine ⟨fun z => ?_, fun z => ⟨fun y => absurd hm (fun q => q.elim z y), fun y => ?_⟩⟩
    · exact ⟨_, I', L', D, r, fin⟩
    · exact ⟨_, I', L', D, r, fin⟩
end CSEG
