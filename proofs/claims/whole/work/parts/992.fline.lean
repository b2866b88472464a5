/-! ===== the class's fractions: a line's code ===== -/
def xl (E : Nat → Option (Int64 × Int64)) (m : Nat) (L : Nat → Nat → Int64) : Prop := ∀ i, i < m → (E i = none → L 31 i = 0) ∧ (∀ q, E i = some q → L 30 i = q.1 ∧ L 31 i = q.2 ∧ ¬ q.2 = 0)
section FLINE
variable {ext : Nat → List Value → am_M → Option am_R} {d : Nat} (D : Nat → Nat → UInt64) (X : am_Rf)
def xh (ext : Nat → List Value → am_M → Option am_R) (d : Nat) (D : Nat → Nat → UInt64) (X : am_Rf) (en : Nat) (I : Nat → Nat → Int32) (L : Nat → Nat → Int64) (s : Nat) (P : am_R → Prop) : Prop := am_wp ext d mz_26 (58, [some (.ref 29), some (.ref 11), none, some (.int 1), some (.int (nI en)), none, some (.int (nI s))], [], (I, L, D, am_rf X)) P
theorem c39_11 {I : Nat → Nat → Int32} {L : Nat → Nat → Int64} {sz i : Nat} (h8 : I 11 8 = nI sz) (hs : sz ≤ 288) (hi : i < sz) : am_Rn ext (d + 1) 39 [.ref 11, .int (nI i)] (I, L, D, am_rf X) (some (.int (I 17 i)), (I, L, D, am_rf X)) := by
  refine am_rn_of mh_39 rfl (w39_0_11 I L D X (nI i) ⟨fun z => absurd z (ni_nn (by omega)), fun _ => ⟨fun z => ?_, fun _ => ⟨ni_inb (by omega) (by omega), ?_⟩⟩⟩)
  · rw [h8, ni_le (by omega) (by omega)] at z
    omega
  · rw [ni_nat (by omega)]
theorem x_ok {I I' : Nat → Nat → Int32} {L L' : Nat → Nat → Int64} {P : am_R → Prop} {s en sz : Nat} (hd : 1 ≤ d) (h8 : I 11 8 = nI sz) (hsz : sz ≤ 288) (hs : s < en) (hen : en ≤ sz) (r : am_Rn ext d 27 [.ref 29, .int (I 16 s), .int (I 17 s)] (I, L, D, am_rf X) (some (.int 1), (I', L', D, am_rf X))) (h : xh ext d D X en I' L' (s + 1) P) : xh ext d D X en I L s P := by
  have e1 : nI s + 1 = nI (s + 1) := by rw [show (1 : Int32) = nI 1 from rfl, ni_add (by omega)]
  refine w26_58 I L D X 1 (nI en) (nI s) ⟨fun z => ?_, fun _ => ⟨fun z => absurd z (by decide), fun _ => ⟨ni_inb (by omega) (by omega), _, I, L, D, am_up (c39_11 (ext := ext) (d := 0) D X h8 hsz (by omega)) hd, _, I', L', D, by rw [ni_nat (by omega)]; exact r, ?_⟩⟩⟩
  · rw [ni_le (by omega) (by omega)] at z; omega
  · rw [e1]; exact h
theorem x_no {I I' : Nat → Nat → Int32} {L L' : Nat → Nat → Int64} {P : am_R → Prop} {s en sz : Nat} (hd : 1 ≤ d) (h8 : I 11 8 = nI sz) (hsz : sz ≤ 288) (hs : s < en) (hen : en ≤ sz) (r : am_Rn ext d 27 [.ref 29, .int (I 16 s), .int (I 17 s)] (I, L, D, am_rf X) (some (.int 0), (I', L', D, am_rf X))) (h : P (some (.int 0), (I', L', D, am_rf X))) : xh ext d D X en I L s P := by
  refine w26_58 I L D X 1 (nI en) (nI s) ⟨fun z => ?_, fun _ => ⟨fun z => absurd z (by decide), fun _ => ⟨ni_inb (by omega) (by omega), _, I, L, D, am_up (c39_11 (ext := ext) (d := 0) D X h8 hsz (by omega)) hd, _, I', L', D, by rw [ni_nat (by omega)]; exact r, ?_⟩⟩⟩
  · rw [ni_le (by omega) (by omega)] at z; omega
  · exact w26_58 I' L' D X 0 (nI en) _ ⟨fun _ => ⟨Or.inl rfl, h⟩, fun _ => ⟨fun _ => ⟨Or.inl rfl, h⟩, fun z => absurd rfl z⟩⟩
theorem c21 {I : Nat → Nat → Int32} {L : Nat → Nat → Int64} {i : Nat} (hi : i < 18) : am_Rn ext (d + 1) 21 [.ref 29, .int (nI i)] (I, L, D, am_rf X) (some (.int (if L 31 i = 0 then 0 else 1)), (I, L, D, am_rf X)) := by
  refine am_rn_of mh_21 rfl (w21_0 I L D X (nI i) ⟨fun z => absurd z (ni_nn (by omega)), fun _ => ⟨fun z => ?_, fun _ => ⟨ni_inb (by omega) (by omega), ?_⟩⟩⟩)
  · have := (ni_le (a := 18) (by omega) (by omega)).mp z; omega
  · rw [ni_nat (by omega)]
    exact ⟨fun z => by rw [if_pos z], fun z => by rw [if_neg z]⟩
theorem c22 {I : Nat → Nat → Int32} {L : Nat → Nat → Int64} {i : Nat} (hi : i < 18) : am_Rn ext (d + 2) 22 [.ref 29, .int (nI i)] (I, L, D, am_rf X) (some (.long (if L 31 i = 0 then 0 else L 30 i)), (I, L, D, am_rf X)) := by
  refine am_rn_of mh_22 rfl (w22_0 I L D X (nI i) ⟨_, I, L, D, c21 (ext := ext) (d := d) D X hi, fun z => ?_, fun z => ⟨ni_inb (by omega) (by omega), ?_⟩⟩)
  · by_cases h : L 31 i = 0
    · rw [if_pos h]
    · rw [if_neg h] at z; exact absurd z (by decide)
  · have h : ¬ L 31 i = 0 := fun q => z (by rw [if_pos q])
    rw [if_neg h, ni_nat (by omega)]
theorem c23 {I : Nat → Nat → Int32} {L : Nat → Nat → Int64} {i : Nat} (hi : i < 18) : am_Rn ext (d + 2) 23 [.ref 29, .int (nI i)] (I, L, D, am_rf X) (some (.long (if L 31 i = 0 then 0 else L 31 i)), (I, L, D, am_rf X)) := by
  refine am_rn_of mh_23 rfl (w23_0 I L D X (nI i) ⟨_, I, L, D, c21 (ext := ext) (d := d) D X hi, fun z => ?_, fun z => ⟨ni_inb (by omega) (by omega), ?_⟩⟩)
  · by_cases h : L 31 i = 0
    · rw [if_pos h]
    · rw [if_neg h] at z; exact absurd z (by decide)
  · have h : ¬ L 31 i = 0 := fun q => z (by rw [if_pos q])
    rw [if_neg h, ni_nat (by omega)]
theorem in01 {c : Prop} [Decidable c] : (if c then (0 : Int32) else 1) = 0 ∨ (if c then (0 : Int32) else 1) = 1 := by
  split
  · exact Or.inl rfl
  · exact Or.inr rfl
/-- what is not exact -/
theorem c27_no {I : Nat → Nat → Int32} {L : Nat → Nat → Int64} {v : Int32} (a : Int32) (h : ¬ v = 0 ∧ ¬ v = 2 ∧ ¬ v = 8 ∧ ¬ v = 11 ∧ ¬ v = 12 ∧ ¬ v = 13 ∧ ¬ v = 14) : am_Rn ext (d + 1) 27 [.ref 29, .int v, .int a] (I, L, D, am_rf X) (some (.int 0), (I, L, D, am_rf X)) :=
  am_rn_of mh_27 rfl (w27_0 I L D X v a ⟨fun z => absurd z h.1, fun z => absurd z h.2.1, fun z => absurd z h.2.2.1, fun z => by obtain ⟨_, _, _, h1, h2, h3, h4⟩ := h; rcases z with z | z | z | z <;> contradiction, fun _ => rfl⟩)
theorem c27_0 {I : Nat → Nat → Int32} {L : Nat → Nat → Int64} {t : Nat} (h4 : I 29 4 = nI t) (ht : t < 100) (n : Nat) : ∃ I' L', am_Rn ext (d + 4) 27 [.ref 29, .int 0, .int (nI n)] (I, L, D, am_rf X) (some (.int (if xq (Int32.toInt64 (nI n)) 1 = none then 0 else 1)), (I', L', D, am_rf X)) ∧ xp_fr t I L I' L' ∧ (∀ q, xq (Int32.toInt64 (nI n)) 1 = some q → xp_v t q I' L') := by
  obtain ⟨I', L', r, F, V⟩ := c29 (ext := ext) (d := d) D X (L := L) h4 ht (Int32.toInt64 (nI n)) 1
  exact ⟨I', L', am_rn_of mh_27 rfl (w27_0 I L D X 0 (nI n) ⟨fun _ => ⟨_, I', L', D, r, in01, rfl⟩, fun z => absurd z (by decide), fun z => absurd z (by decide), fun z => by rcases z with z | z | z | z <;> exact absurd z (by decide), fun z => absurd rfl z.1⟩), F, V⟩
theorem c27_2 {I : Nat → Nat → Int32} {L : Nat → Nat → Int64} {t : Nat} (h4 : I 29 4 = nI t) (ht : t < 100) {i : Nat} (hi : i < 18) {o : Option (Int64 × Int64)} (h0 : o = none → L 31 i = 0) (h1 : ∀ q, o = some q → L 30 i = q.1 ∧ L 31 i = q.2 ∧ ¬ q.2 = 0) : ∃ I' L', am_Rn ext (d + 4) 27 [.ref 29, .int 2, .int (nI i)] (I, L, D, am_rf X) (some (.int (if xm o = none then 0 else 1)), (I', L', D, am_rf X)) ∧ xp_fr t I L I' L' ∧ (∀ q, xm o = some q → xp_v t q I' L') := by
  have ra := am_up (c22 (ext := ext) (d := 0) D X (I := I) (L := L) hi) (show 2 ≤ d + 3 by omega)
  have rb := am_up (c23 (ext := ext) (d := 0) D X (I := I) (L := L) hi) (show 2 ≤ d + 3 by omega)
  cases o with
  | none =>
    have h := h0 rfl
    rw [if_pos h] at ra rb
    obtain ⟨I', L', r, F, V⟩ := c29 (ext := ext) (d := d) D X (L := L) h4 ht 0 0
    have e : xq 0 0 = none := by unfold xq; rw [if_pos rfl]
    rw [e] at r
    exact ⟨I', L', am_rn_of mh_27 rfl (w27_0 I L D X 2 (nI i) ⟨fun z => absurd z (by decide), fun _ => ⟨_, I, L, D, ra, _, I, L, D, rb, _, I', L', D, r, Or.inl rfl, rfl⟩, fun z => absurd z (by decide), fun z => by rcases z with z | z | z | z <;> exact absurd z (by decide), fun z => absurd rfl z.2.1⟩), F, fun q hq => by cases hq⟩
  | some q =>
    obtain ⟨g1, g2, g3⟩ := h1 q rfl
    have h : ¬ L 31 i = 0 := by rw [g2]; exact g3
    rw [if_neg h, g1] at ra
    rw [if_neg h, g2] at rb
    obtain ⟨I', L', r, F, V⟩ := c29 (ext := ext) (d := d) D X (L := L) h4 ht q.1 q.2
    exact ⟨I', L', am_rn_of mh_27 rfl (w27_0 I L D X 2 (nI i) ⟨fun z => absurd z (by decide), fun _ => ⟨_, I, L, D, ra, _, I, L, D, rb, _, I', L', D, r, in01, rfl⟩, fun z => absurd z (by decide), fun z => by rcases z with z | z | z | z <;> exact absurd z (by decide), fun z => absurd rfl z.2.1⟩), F, V⟩
theorem c27_8 {I : Nat → Nat → Int32} {L : Nat → Nat → Int64} {t : Nat} {q : Int64 × Int64} (hv : xp_v t q I L) (ht : t < 100) (a : Int32) : ∃ I' L', am_Rn ext (d + 4) 27 [.ref 29, .int 8, .int a] (I, L, D, am_rf X) (some (.int (if xq (-q.1) q.2 = none then 0 else 1)), (I', L', D, am_rf X)) ∧ xp_fr t I L I' L' ∧ (∀ s, xq (-q.1) q.2 = some s → xp_v t s I' L') := by
  obtain ⟨v1, v2, v3⟩ := hv
  have e1 : I 29 4 - 1 = nI t := by rw [v1, show (1 : Int32) = nI 1 from rfl, ni_sub (by omega) (by omega)]; rfl
  have le : 1 ≤ I 29 4 := by rw [v1]; exact (ni_le (a := 1) (by omega) (by omega)).mpr (by omega)
  have hb : am_inb (I 29 4 - 1) 100 = true := by rw [e1]; exact ni_inb ht (by omega)
  obtain ⟨I', L', r, F, V⟩ := c29 (ext := ext) (d := d) D X (I := am_uI I 29 4 (nI t)) (L := L) (by rw [am_uI_at, if_pos ⟨rfl, rfl⟩]) ht (-q.1) q.2
  refine ⟨I', L', am_rn_of mh_27 rfl (w27_0 I L D X 8 a ⟨fun z => absurd z (by decide), fun z => absurd z (by decide), fun _ => ⟨fun _ => ⟨hb, hb, _, I', L', D, by rw [e1, ni_nat (by omega), v2, v3]; exact r, in01, rfl⟩, fun z => absurd le z⟩, fun z => by rcases z with z | z | z | z <;> exact absurd z (by decide), fun z => absurd rfl z.2.2.1⟩), ⟨fun a b h => by rw [F.1 a b h, am_uI_at, if_neg h], F.2⟩, V⟩
theorem c28 {I : Nat → Nat → Int32} {L : Nat → Nat → Int64} {t kd : Nat} {q s : Int64 × Int64} (hkd : 6 ≤ kd ∧ kd ≤ 9) (h32 : L 32 t = q.1) (h33 : L 33 t = q.2) (hv : xp_v (t + 1) s I L) (ht : t + 1 < 100) : ∃ I' L', am_Rn ext (d + 4) 28 [.ref 29, .int (nI (kd + 5))] (I, L, D, am_rf X) (some (.int (if xo kd q s = none then 0 else 1)), (I', L', D, am_rf X)) ∧ xp_fr t I L I' L' ∧ (∀ r, xo kd q s = some r → xp_v t r I' L') := by
  obtain ⟨v1, v2, v3⟩ := hv
  have e2 : I 29 4 - 2 = nI t := by rw [v1, show (2 : Int32) = nI 2 from rfl, ni_sub (by omega) (by omega)]; rfl
  have e3 : I 29 4 - 2 + 1 = nI (t + 1) := by rw [e2, show (1 : Int32) = nI 1 from rfl, ni_add (by omega)]
  have le : 2 ≤ I 29 4 := by rw [v1]; exact (ni_le (a := 2) (by omega) (by omega)).mpr (by omega)
  have hb : am_inb (nI t) 100 = true := ni_inb (by omega) (by omega)
  have hb1 : am_inb (nI (t + 1)) 100 = true := ni_inb (by omega) (by omega)
  have R := fun (u l : Int64) => c29 (ext := ext) (d := d) D X (I := am_uI I 29 4 (nI t)) (L := L) (t := t) (by rw [am_uI_at, if_pos ⟨rfl, rfl⟩]) (by omega) u l
  have go : ∀ (u l : Int64), xo kd q s = xq u l → (∀ I' L' x, am_Rn ext (d + 3) 29 [.ref 29, .long u, .long l] (am_uI I 29 4 (nI t), L, D, am_rf X) (some (.int x), (I', L', D, am_rf X)) → (x = 0 ∨ x = 1) → am_Rn ext (d + 4) 28 [.ref 29, .int (nI (kd + 5))] (I, L, D, am_rf X) (some (.int x), (I', L', D, am_rf X))) → ∃ I' L', am_Rn ext (d + 4) 28 [.ref 29, .int (nI (kd + 5))] (I, L, D, am_rf X) (some (.int (if xo kd q s = none then 0 else 1)), (I', L', D, am_rf X)) ∧ xp_fr t I L I' L' ∧ (∀ r, xo kd q s = some r → xp_v t r I' L') := by
    intro u l e W
    obtain ⟨I', L', r, F, V⟩ := R u l
    rw [e]
    exact ⟨I', L', W I' L' _ r in01, ⟨fun a b h => by rw [F.1 a b h, am_uI_at, if_neg h], F.2⟩, V⟩
  have hk : kd = 6 ∨ kd = 7 ∨ kd = 8 ∨ kd = 9 := by omega
  rcases hk with rfl | rfl | rfl | rfl
  · refine go (q.1 * s.2 + s.1 * q.2) (q.2 * s.2) (by unfold xo; rw [if_pos rfl]) (fun I' L' x r hx => am_rn_of mh_28 rfl (w28_0 I L D X (nI 11) ⟨fun _ => ?_, fun z => absurd le z⟩))
    rw [e3, e2, ni_nat (by omega), ni_nat (by omega), h32, h33, v2, v3]
    exact ⟨hb, hb, hb1, hb1, fun _ => ⟨_, I', L', D, r, hx, rfl⟩, fun z => absurd z (by decide), fun z => absurd z (by decide), fun z => absurd rfl z.1⟩
  · refine go (q.1 * s.2 - s.1 * q.2) (q.2 * s.2) (by unfold xo; rw [if_neg (by omega), if_pos rfl]) (fun I' L' x r hx => am_rn_of mh_28 rfl (w28_0 I L D X (nI 12) ⟨fun _ => ?_, fun z => absurd le z⟩))
    rw [e3, e2, ni_nat (by omega), ni_nat (by omega), h32, h33, v2, v3]
    exact ⟨hb, hb, hb1, hb1, fun z => absurd z (by decide), fun _ => ⟨_, I', L', D, r, hx, rfl⟩, fun z => absurd z (by decide), fun z => absurd rfl z.2.1⟩
  · refine go (q.1 * s.1) (q.2 * s.2) (by unfold xo; rw [if_neg (by omega), if_neg (by omega), if_pos rfl]) (fun I' L' x r hx => am_rn_of mh_28 rfl (w28_0 I L D X (nI 13) ⟨fun _ => ?_, fun z => absurd le z⟩))
    rw [e3, e2, ni_nat (by omega), ni_nat (by omega), h32, h33, v2, v3]
    exact ⟨hb, hb, hb1, hb1, fun z => absurd z (by decide), fun z => absurd z (by decide), fun _ => ⟨_, I', L', D, r, hx, rfl⟩, fun z => absurd rfl z.2.2⟩
  · refine go (q.1 * s.2) (q.2 * s.1) (by unfold xo; rw [if_neg (by omega), if_neg (by omega), if_neg (by omega)]) (fun I' L' x r hx => am_rn_of mh_28 rfl (w28_0 I L D X (nI 14) ⟨fun _ => ?_, fun z => absurd le z⟩))
    rw [e3, e2, ni_nat (by omega), ni_nat (by omega), h32, h33, v2, v3]
    exact ⟨hb, hb, hb1, hb1, fun z => absurd z (by decide), fun z => absurd z (by decide), fun z => absurd z (by decide), fun _ => ⟨_, I', L', D, r, hx, rfl⟩⟩
end FLINE
