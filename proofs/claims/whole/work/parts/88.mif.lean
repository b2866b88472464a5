/-! ===== the reference asks: if ===== -/
def cho (a b c e : Int64) : Nat := if b < c then 1 else if e ≤ a then 2 else 3
theorem cho_12 (q s : Int64 × Int64) : sp_ch 12 q s = cho q.1 q.2 s.1 s.2 := by unfold sp_ch cho; rw [if_pos rfl]
theorem cho_13 (q s : Int64 × Int64) : sp_ch 13 q s = cho s.1 s.2 q.1 q.2 := by unfold sp_ch cho; rw [if_neg (by omega)]
section MIF
variable {ext : Nat → List Value → am_M → Option am_R} {d : Nat} (D : Nat → Nat → UInt64) (X : am_Rf) {I : Nat → Nat → Int32} {L : Nat → Nat → Int64} {I' : Nat → Nat → Int32} {L' : Nat → Nat → Int64} {f k : Nat}
theorem c165_0 (hf : f < 128) (hk : k < 192) (r : am_Rn ext d 150 [.ref 42, .int (I 47 k), .long (L 61 f), .long (L 62 f)] (I, L, D, am_rf X) (none, (I', L', D, am_rf X))) : am_Rn ext (d + 1) 165 [.ref 42, .int (nI f), .int (nI k), .int (nI 0)] (I, L, D, am_rf X) (none, (I', L', D, am_rf X)) := by
  have hbf : am_inb (nI f) 128 = true := ni_inb hf (by omega)
  have hbk : am_inb (nI k) 192 = true := ni_inb hk (by omega)
  refine am_rn_of mh_165 rfl (w165_0 I L D X (nI f) (nI k) (nI 0) ⟨fun _ => w165_10 I L D X (nI f) (nI k) (nI 0) ⟨fun z => absurd z (by decide), fun _ => ⟨fun z => absurd rfl z, fun _ => ⟨hbk, hbf, hbf, I', L', D, ?_, rfl⟩⟩⟩, fun z => absurd z (by decide)⟩)
  rw [ni_nat (by omega), ni_nat (by omega)]
  exact r
theorem c165_1 {I0 : Nat → Nat → Int32} {L0 : Nat → Nat → Int64} (hf : f < 128) (hk : k < 192) (r0 : am_Rn ext d 160 [.ref 42, .int (nI f)] (I, L, D, am_rf X) (none, (I0, L0, D, am_rf X))) (r : am_Rn ext d 150 [.ref 42, .int (I0 48 k), .long (L0 61 f), .long (L0 62 f)] (I0, L0, D, am_rf X) (none, (I', L', D, am_rf X))) : am_Rn ext (d + 1) 165 [.ref 42, .int (nI f), .int (nI k), .int (nI 1)] (I, L, D, am_rf X) (none, (I', L', D, am_rf X)) := by
  have hbf : am_inb (nI f) 128 = true := ni_inb hf (by omega)
  have hbk : am_inb (nI k) 192 = true := ni_inb hk (by omega)
  refine am_rn_of mh_165 rfl (w165_0 I L D X (nI f) (nI k) (nI 1) ⟨fun z => absurd rfl z, fun _ => ⟨I0, L0, D, r0, w165_10 I0 L0 D X (nI f) (nI k) (nI 1) ⟨fun z => absurd z (by decide), fun _ => ⟨fun _ => ⟨hbk, hbf, hbf, I', L', D, ?_, rfl⟩, fun z => absurd z (by decide)⟩⟩⟩⟩)
  rw [ni_nat (by omega), ni_nat (by omega)]
  exact r
theorem c165_3 {I0 : Nat → Nat → Int32} {L0 : Nat → Nat → Int64} (hf : f < 128) (hk : k < 192) (r0 : am_Rn ext d 160 [.ref 42, .int (nI f)] (I, L, D, am_rf X) (none, (I0, L0, D, am_rf X))) (r : am_Rn ext d 150 [.ref 42, .int (I0 50 k), .long (L0 61 f), .long (L0 62 f)] (I0, L0, D, am_rf X) (none, (I', L', D, am_rf X))) : am_Rn ext (d + 1) 165 [.ref 42, .int (nI f), .int (nI k), .int (nI 3)] (I, L, D, am_rf X) (none, (I', L', D, am_rf X)) := by
  have hbf : am_inb (nI f) 128 = true := ni_inb hf (by omega)
  have hbk : am_inb (nI k) 192 = true := ni_inb hk (by omega)
  refine am_rn_of mh_165 rfl (w165_0 I L D X (nI f) (nI k) (nI 3) ⟨fun _ => w165_10 I L D X (nI f) (nI k) (nI 3) ⟨fun _ => ⟨fun _ => ⟨fun z => absurd rfl z, fun _ => ⟨I0, L0, D, r0, hbk, hbf, hbf, I', L', D, ?_, rfl⟩⟩, fun z => absurd z (by decide)⟩, fun z => absurd (by decide) z⟩, fun z => absurd z (by decide)⟩)
  rw [ni_nat (by omega), ni_nat (by omega)]
  exact r
theorem c165_10 (r : am_Rn ext d 151 [.ref 42, .int (I 42 50), .long (L 42 51), .long (L 42 52)] (I, L, D, am_rf X) (none, (I', L', D, am_rf X))) : am_Rn ext (d + 1) 165 [.ref 42, .int (nI f), .int (nI k), .int (nI 10)] (I, L, D, am_rf X) (none, (I', L', D, am_rf X)) :=
  am_rn_of mh_165 rfl (w165_0 I L D X (nI f) (nI k) (nI 10) ⟨fun _ => w165_10 I L D X (nI f) (nI k) (nI 10) ⟨fun _ => ⟨fun _ => ⟨fun _ => ⟨fun _ => ⟨I', L', D, r, rfl⟩, fun z => absurd z (by decide)⟩, fun z => absurd z (by decide)⟩, fun z => absurd z (by decide)⟩, fun z => absurd (by decide) z⟩, fun z => absurd z (by decide)⟩)
/-- both choices: together -/
theorem c165_4 {g w : Nat} {o1 o2 : Option (Int64 × Int64)} (hf : f < 128) (h47 : I 42 47 = nI (g + 1)) (hg : g < 128) (h48 : I 42 48 = nI w) (h65 : I 65 f = if o1 = none then 0 else 1) (h63 : ∀ q, o1 = some q → L 63 f = q.1 ∧ L 64 f = q.2) (hv : me_v o2 I L) : ∃ I' L', am_Rn ext (d + 2) 165 [.ref 42, .int (nI f), .int (nI k), .int (nI 4)] (I, L, D, am_rf X) (none, (I', L', D, am_rf X)) ∧ me_V g (sp_j w o1 o2) I L I' L' := by
  have hbf : am_inb (nI f) 128 = true := ni_inb hf (by omega)
  have ef : (nI f).toNatClampNeg = f := ni_nat (by omega)
  have M := fun (x y : Int64) => c157 (ext := ext) (d := d) (I := I) (L := L) D X x y
  have N := fun (x y : Int64) => c158 (ext := ext) (d := d) (I := I) (L := L) D X x y
  have no : sp_j w o1 o2 = none → (o1 = none ∨ o2 = none) → ∃ I' L', am_Rn ext (d + 2) 165 [.ref 42, .int (nI f), .int (nI k), .int (nI 4)] (I, L, D, am_rf X) (none, (I', L', D, am_rf X)) ∧ me_V g (sp_j w o1 o2) I L I' L' := by
    intro e ho
    obtain ⟨I', L', r, G⟩ := c151_0 (ext := ext) (d := d) D X (I := I) (L := L) h47 hg (sp_mn (L 63 f) (L 42 51)) (sp_mx (L 64 f) (L 42 52))
    have W : am_wp ext (d + 1) mz_165 (329, [some (.ref 42), some (.int (nI f)), none, none, none, none, none, none, none, none, none, none, none, none, none], [.ref 42], (I, L, D, am_rf X)) (fun r => r = (none, (I', L', D, am_rf X))) := by
      refine w165_329 I L D X (nI f) (w165_330 I L D X (nI f) 0 ?_)
      rw [ef]
      exact ⟨hbf, _, I, L, D, M _ _, hbf, _, I, L, D, N _ _, I', L', D, r, rfl⟩
    refine ⟨I', L', am_rn_of mh_165 rfl (w165_0 I L D X (nI f) (nI k) (nI 4) ⟨fun _ => w165_10 I L D X (nI f) (nI k) (nI 4) ⟨fun _ => ⟨fun _ => ⟨fun _ => ⟨fun z => absurd rfl z, fun _ => ⟨hbf, fun _ => W, fun z => ⟨fun _ => W, fun y => ?_⟩⟩⟩, fun z => absurd z (by decide)⟩, fun z => absurd z (by decide)⟩, fun z => absurd (by decide) z⟩, fun z => absurd z (by decide)⟩), by rw [e]; exact G⟩
    rcases ho with ho | ho
    · exact absurd (by rw [ef, h65, if_pos ho]) z
    · exact absurd (by rw [hv.1, if_pos ho]) y
  cases o1 with
  | none => exact no rfl (Or.inl rfl)
  | some q =>
    cases o2 with
    | none => exact no rfl (Or.inr rfl)
    | some s =>
      obtain ⟨p1, p2⟩ := h63 q rfl
      obtain ⟨v0, v1, v2⟩ := me_v1 hv
      have n65 : ¬ I 65 (nI f).toNatClampNeg = 0 := by rw [ef, h65, if_neg (by intro z; cases z)]; decide
      have nz : ¬ I 42 50 = 0 := by rw [v0]; decide
      obtain ⟨I', L', r, G⟩ := c151_1 (ext := ext) (d := d) D X (I := I) (L := L) h47 hg h48 (sp_mn q.1 s.1) (sp_mx q.2 s.2)
      have W : am_wp ext (d + 1) mz_165 (330, [some (.ref 42), some (.int (nI f)), none, none, none, none, none, none, none, none, none, none, none, none, none], [.int 1, .ref 42], (I, L, D, am_rf X)) (fun r => r = (none, (I', L', D, am_rf X))) := by
        refine w165_330 I L D X (nI f) 1 ?_
        rw [ef, p1, v1]
        exact ⟨hbf, _, I, L, D, M _ _, hbf, _, I, L, D, by rw [p2, v2]; exact N _ _, I', L', D, r, rfl⟩
      exact ⟨I', L', am_rn_of mh_165 rfl (w165_0 I L D X (nI f) (nI k) (nI 4) ⟨fun _ => w165_10 I L D X (nI f) (nI k) (nI 4) ⟨fun _ => ⟨fun _ => ⟨fun _ => ⟨fun z => absurd rfl z, fun _ => ⟨hbf, fun z => absurd z n65, fun _ => ⟨fun z => absurd z nz, fun _ => W⟩⟩⟩, fun z => absurd z (by decide)⟩, fun z => absurd z (by decide)⟩, fun z => absurd (by decide) z⟩, fun z => absurd z (by decide)⟩), G⟩
theorem w165_t {a b c e : Int64} (hf : f < 128) (hk : k < 192) (hx : b < c → ¬ e ≤ a) (r : am_Rn ext d 150 [.ref 42, .int (if cho a b c e = 2 then I 50 k else I 49 k), .long (L 61 f), .long (L 62 f)] (am_uI I 60 f (nI (if cho a b c e = 3 then 3 else 10)), L, D, am_rf X) (none, (I', L', D, am_rf X))) : am_wp ext d mz_165 (175, [some (.ref 42), some (.int (nI f)), some (.int (nI k)), none, none, some (.long a), none, some (.long b), none, some (.long c), none, none, none, none, none], [.long e], (I, L, D, am_rf X)) (fun r => r = (none, (I', L', D, am_rf X))) := by
  have hbf : am_inb (nI f) 128 = true := ni_inb hf (by omega)
  have hbk : am_inb (nI k) 192 = true := ni_inb hk (by omega)
  have ef : (nI f).toNatClampNeg = f := ni_nat (by omega)
  have ek : (nI k).toNatClampNeg = k := ni_nat (by omega)
  have le : ∀ x y : Int64, x ≤ y ↔ ¬ y < x := fun x y => by rw [Int64.le_iff_toInt_le, Int64.lt_iff_toInt_lt]; omega
  refine w165_175 I L D X (nI f) (nI k) a b c e ⟨fun z => ?_, fun z => ?_⟩
  · have nb : ¬ b < c := (le _ _).mp z
    refine w165_190 I L D X (nI f) (nI k) a e 0 ⟨fun y => ?_, fun y => ?_⟩
    · have ch : cho a b c e = 3 := by unfold cho; rw [if_neg nb, if_neg (fun q => (le _ _).mp q y)]
      rw [ch] at r
      refine w165_205 I L D X (nI f) (nI k) 0 0 ⟨fun q => absurd rfl q, fun _ => ⟨fun _ => w165_228 I L D X (nI f) (nI k) 0 3 (nI f) ?_, fun q => absurd rfl q⟩⟩
      rw [ef, ek]
      exact ⟨hbf, fun _ => ⟨hbk, hbf, hbf, I', L', D, r, rfl⟩, fun q => absurd rfl q⟩
    · have ch : cho a b c e = 2 := by unfold cho; rw [if_neg nb, if_pos ((le _ _).mpr y)]
      rw [ch] at r
      refine w165_205 I L D X (nI f) (nI k) 0 1 ⟨fun q => absurd rfl q, fun _ => ⟨fun q => absurd q (by decide), fun _ => w165_222 I L D X (nI f) (nI k) 1 (nI f) (w165_228 I L D X (nI f) (nI k) 1 10 (nI f) ?_)⟩⟩
      rw [ef, ek]
      exact ⟨hbf, fun q => absurd q (by decide), fun _ => ⟨hbk, hbf, hbf, I', L', D, r, rfl⟩⟩
  · have nb : b < c := by
      by_cases q : b < c
      · exact q
      · exact absurd ((le _ _).mpr q) z
    have ch : cho a b c e = 1 := by unfold cho; rw [if_pos nb]
    rw [ch] at r
    have lt : a < e := by
      by_cases q : a < e
      · exact q
      · exact absurd ((le _ _).mpr q) (hx nb)
    refine w165_190 I L D X (nI f) (nI k) a e 1 ⟨fun _ => ?_, fun y => absurd lt y⟩
    refine w165_205 I L D X (nI f) (nI k) 1 0 ⟨fun _ => w165_222 I L D X (nI f) (nI k) 0 (nI f) (w165_228 I L D X (nI f) (nI k) 0 10 (nI f) ?_), fun q => absurd q (by decide)⟩
    rw [ef, ek]
    exact ⟨hbf, fun _ => ⟨hbk, hbf, hbf, I', L', D, r, rfl⟩, fun q => absurd rfl q⟩
theorem c165_2 {w kd : Nat} {q s : Int64 × Int64} (hkd : kd = 12 ∨ kd = 13) (hf : f < 128) (hk : k < 192) (h45 : I 45 k = nI kd) (h65 : I 65 f = 1) (h63 : L 63 f = q.1 ∧ L 64 f = q.2) (hv : me_v (some s) I L) (gq : gd2 w q.1 q.2) (gs : gd2 w s.1 s.2) (r : am_Rn ext d 150 [.ref 42, .int (if sp_ch kd q s = 2 then I 50 k else I 49 k), .long (L 61 f), .long (L 62 f)] (am_uI I 60 f (nI (if sp_ch kd q s = 3 then 3 else 10)), L, D, am_rf X) (none, (I', L', D, am_rf X))) : am_Rn ext (d + 1) 165 [.ref 42, .int (nI f), .int (nI k), .int (nI 2)] (I, L, D, am_rf X) (none, (I', L', D, am_rf X)) := by
  have hbf : am_inb (nI f) 128 = true := ni_inb hf (by omega)
  have hbk : am_inb (nI k) 192 = true := ni_inb hk (by omega)
  have ef : (nI f).toNatClampNeg = f := ni_nat (by omega)
  have ek : (nI k).toNatClampNeg = k := ni_nat (by omega)
  obtain ⟨v0, v1, v2⟩ := me_v1 hv
  obtain ⟨p1, p2⟩ := h63
  have nz : ¬ I 42 50 = 0 := by rw [v0]; decide
  have n65 : ¬ I 65 (nI f).toNatClampNeg = 0 := by rw [ef, h65]; decide
  have g1 := gq.1
  have g2 := gs.1
  have hx1 : q.2 < s.1 → ¬ s.2 ≤ q.1 := fun z y => by rw [Int64.lt_iff_toInt_lt] at z; rw [Int64.le_iff_toInt_le] at y; omega
  have hx2 : s.2 < q.1 → ¬ q.2 ≤ s.1 := fun z y => by rw [Int64.lt_iff_toInt_lt] at z; rw [Int64.le_iff_toInt_le] at y; omega
  refine am_rn_of mh_165 rfl (w165_0 I L D X (nI f) (nI k) (nI 2) ⟨fun _ => w165_10 I L D X (nI f) (nI k) (nI 2) ⟨fun _ => ⟨fun z => absurd rfl z, fun _ => ⟨hbf, fun z => absurd z n65, fun _ => ⟨fun _ => ⟨hbk, fun z => ?_, fun z => ?_⟩, fun z => absurd z nz⟩⟩⟩, fun z => absurd (by decide) z⟩, fun z => absurd z (by decide)⟩)
  · rw [ek, h45] at z
    have e12 : kd = 12 := by
      rcases hkd with h | h
      · exact h
      · subst h; exact absurd rfl z
    subst e12
    rw [cho_12] at r
    refine w165_95 I L D X (nI f) (nI k) 0 ⟨fun _ => ⟨hbf, w165_115 I L D X (nI f) (nI k) 0 _ ⟨fun _ => ⟨hbf, w165_135 I L D X (nI f) (nI k) 0 _ _ ⟨fun _ => w165_155 I L D X (nI f) (nI k) 0 _ _ _ ⟨fun _ => ?_, fun y => absurd rfl y⟩, fun y => absurd rfl y⟩⟩, fun y => absurd rfl y⟩⟩, fun y => absurd rfl y⟩
    rw [ef, p1, p2, v1, v2]
    exact w165_t (ext := ext) D X hf hk hx1 r
  · rw [ek, h45] at z
    have e13 : kd = 13 := by
      rcases hkd with h | h
      · subst h; exact absurd z (by decide)
      · exact h
    subst e13
    rw [cho_13] at r
    refine w165_95 I L D X (nI f) (nI k) 1 ⟨fun y => absurd y (by decide), fun _ => w165_115 I L D X (nI f) (nI k) 1 _ ⟨fun y => absurd y (by decide), fun _ => w165_135 I L D X (nI f) (nI k) 1 _ _ ⟨fun y => absurd y (by decide), fun _ => ⟨hbf, w165_155 I L D X (nI f) (nI k) 1 _ _ _ ⟨fun y => absurd y (by decide), fun _ => ⟨hbf, ?_⟩⟩⟩⟩⟩⟩
    rw [ef, p1, p2, v1, v2]
    exact w165_t (ext := ext) D X hf hk hx2 r
/-- no span of one of them -/
theorem c165_2n {g : Nat} {o1 o2 : Option (Int64 × Int64)} (hf : f < 128) (h47 : I 42 47 = nI (g + 1)) (hg : g < 128) (h65 : I 65 f = if o1 = none then 0 else 1) (hv : me_v o2 I L) (ho : o1 = none ∨ o2 = none) : ∃ I' L', am_Rn ext (d + 3) 165 [.ref 42, .int (nI f), .int (nI k), .int (nI 2)] (I, L, D, am_rf X) (none, (I', L', D, am_rf X)) ∧ me_V g none I L I' L' := by
  have hbf : am_inb (nI f) 128 = true := ni_inb hf (by omega)
  have ef : (nI f).toNatClampNeg = f := ni_nat (by omega)
  obtain ⟨I', L', r, G⟩ := c152 (ext := ext) (d := d) D X (I := I) (L := L) h47 hg
  refine ⟨I', L', am_rn_of mh_165 rfl (w165_0 I L D X (nI f) (nI k) (nI 2) ⟨fun _ => w165_10 I L D X (nI f) (nI k) (nI 2) ⟨fun _ => ⟨fun z => absurd rfl z, fun _ => ⟨hbf, fun _ => ⟨I', L', D, r, rfl⟩, fun z => ⟨fun y => ?_, fun _ => ⟨I', L', D, r, rfl⟩⟩⟩⟩, fun z => absurd (by decide) z⟩, fun z => absurd z (by decide)⟩), G⟩
  rcases ho with ho | ho
  · exact absurd (by rw [ef, h65, if_pos ho]) z
  · exact absurd (by rw [hv.1, if_pos ho]) y
end MIF
