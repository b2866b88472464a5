/-! ===== the class's reader: sums and products, all together ===== -/
section READ
variable {ext : Nat → List Value → am_M → Option am_R} {d : Nat} (L : Nat → Nat → Int64) (D : Nat → Nat → UInt64) (xt xs xp xu xc : Nat) {t : pt_K} {e : pt_E} {nl : Nat} {c kn op s : Nat} {I : Nat → Nat → Int32} {q : pt_Q}
/-- behind a fault the chain ends -/
theorem c44_f {lv one other : Int32} {f : Nat × Int32} {J : Nat → Nat → Int32} {k : Int32} (h : rd_R t op s I (.inl f) 0 J) : am_wp ext d mz_44 (45, [some (.ref 20), some (.int lv), some (.int one), some (.int other), some (.int 0), some (.int k), none], [], (J, L, D, am_rf (xt, xs, 11, xp, xu, xc))) (fun r => ∃ x I', r = (some (.int x), (I', L, D, am_rf (xt, xs, 11, xp, xu, xc))) ∧ rd_R t op s I (.inl f) x I') :=
  w44_45 J L D xc xp xs xt xu lv one other 0 k ⟨fun _ => ⟨Or.inl rfl, 0, J, rfl, h⟩, fun _ => ⟨fun _ => ⟨Or.inl rfl, 0, J, rfl, h⟩, fun z => absurd rfl z⟩⟩
/-- one more operator, or none -/
theorem c44_45 (hd : 2 ≤ d) (ht : pt_tk t) (hc : c < t.2) (hk : kn ≤ 96) {lv one other : Int32} {k1 k2 : Nat} (hlv : (lv = 0 ∧ one = 43 ∧ other = 45 ∧ k1 = 6 ∧ k2 = 7) ∨ (lv = 1 ∧ one = 42 ∧ other = 47 ∧ k1 = 8 ∧ k2 = 9)) {A : tr_T} {lb k : Nat} (hA : tr_ok e A lb) (hlb : kn = lb + tr_sz A) (hs : s ≤ 3 * lb) (hkk : k ≤ kn) {J : Nat → Nat → Int32} (hJ : rd_R t op s I (.inr (c, kn, A)) 1 J) (hE : rd_E e nl I)
    {nx : Nat → Nat → Nat → pt_R} (h0 : lv = 0 → rd_H ext d L D xt xs xp xu xc t e nl 44 [.ref 20, .int 1] nx op) (h1 : ¬ lv = 0 → rd_H ext d L D xt xs xp xu xc t e nl 46 [.ref 20] nx op) (hg : rd_G t e nx op)
    {more : tr_T → Nat → Nat → pt_R} (hm : ∀ c2 k2' B J2, c2 < t.2 → k2' ≤ 96 → k2' = kn + 1 + tr_sz B → tr_ok e B (kn + 1) → rd_R t op s I (.inr (c2, k2', tr_2 (kn, if pt_k t c = one then k1 else k2, 0, 0, 0, 0) A B)) 1 J2 → more (tr_2 (kn, if pt_k t c = one then k1 else k2, 0, 0, 0, 0) A B) c2 k2' = some q →
      am_wp ext d mz_44 (45, [some (.ref 20), some (.int lv), some (.int one), some (.int other), some (.int 1), some (.int (nI (k + 1))), none], [], (J2, L, D, am_rf (xt, xs, 11, xp, xu, xc))) (fun r => ∃ x I', r = (some (.int x), (I', L, D, am_rf (xt, xs, 11, xp, xu, xc))) ∧ rd_R t op s I q x I'))
    (hq : (if pt_k t c = one ∨ pt_k t c = other then pt_n t c kn fun c1 => pt_b (nx c1 (kn + 1) op) fun c2 k2' B => more (tr_2 (kn, if pt_k t c = one then k1 else k2, 0, 0, 0, 0) A B) c2 k2' else pt_r c kn A) = some q) :
    am_wp ext d mz_44 (45, [some (.ref 20), some (.int lv), some (.int one), some (.int other), some (.int 1), some (.int (nI k)), none], [], (J, L, D, am_rf (xt, xs, 11, xp, xu, xc))) (fun r => ∃ x I', r = (some (.int x), (I', L, D, am_rf (xt, xs, 11, xp, xu, xc))) ∧ rd_R t op s I q x I') := by
  have ht2 := ht.2.1
  obtain ⟨f0, _, S0, cc0⟩ := rd_R_r hJ
  obtain ⟨g1, g2, g3, g4, g5⟩ := rd_S_c (I' := I) S0
  have hzA := tr_cz_le e A _ hA
  have e96 : ¬ (96 : Int32) < nI k := by rw [show (96 : Int32) = nI 96 from rfl, ni_lt (by omega) (by omega)]; omega
  by_cases htk : pt_k t c = one ∨ pt_k t c = other
  · rw [if_pos htk] at hq
    -- the operator's code
    have opc : am_Rn ext 1 45 [.int (J 20 3)] (J, L, D, am_rf (xt, xs, 11, xp, xu, xc)) (some (.int (tr_op (kn, if pt_k t c = one then k1 else k2, 0, 0, 0, 0))), (J, L, D, am_rf (xt, xs, 11, xp, xu, xc))) := by
      rw [g1]
      refine am_rn_of mh_45 rfl (w45_0 J L D (xt, xs, 11, xp, xu, xc) (pt_k t c) ⟨fun z => ?_, fun z => ?_, fun z => ?_, fun z => ?_⟩)
      · rcases hlv with ⟨rfl, rfl, rfl, rfl, rfl⟩ | ⟨rfl, rfl, rfl, rfl, rfl⟩
        · rw [z] at htk; exact absurd htk (by decide)
        · rw [if_pos z]; rfl
      · rcases hlv with ⟨rfl, rfl, rfl, rfl, rfl⟩ | ⟨rfl, rfl, rfl, rfl, rfl⟩
        · rw [if_pos z]; rfl
        · rw [z] at htk; exact absurd htk (by decide)
      · rcases hlv with ⟨rfl, rfl, rfl, rfl, rfl⟩ | ⟨rfl, rfl, rfl, rfl, rfl⟩
        · rw [if_neg (by rw [z]; decide)]; rfl
        · rw [z] at htk; exact absurd htk (by decide)
      · rcases hlv with ⟨rfl, rfl, rfl, rfl, rfl⟩ | ⟨rfl, rfl, rfl, rfl, rfl⟩
        · exact absurd htk (fun y => y.elim z.2.1 z.2.2)
        · rw [if_neg z.1]; rfl
    generalize hop : tr_op (kn, if pt_k t c = one then k1 else k2, 0, 0, 0, 0) = oc at opc
    have go : am_wp ext d mz_44 (73, [some (.ref 20), some (.int lv), some (.int one), some (.int other), none, some (.int (nI k)), none], [], (J, L, D, am_rf (xt, xs, 11, xp, xu, xc))) (fun r => ∃ x I', r = (some (.int x), (I', L, D, am_rf (xt, xs, 11, xp, xu, xc))) ∧ rd_R t op s I q x I') := by
      rcases pt_n_some hq with ⟨hk9, hq⟩ | ⟨hk9, rfl⟩
      · obtain ⟨J1, r1, s1, f1⟩ := (c48 (ext := ext) (d := 0) L D xt xs xp xu xc ht2 hc (by omega) hk S0).1 hk9
        have hc1 := pt_adv_lt hc
        have f01 := rd_fr_t f0 f1 (by omega)
        have nxt : nI k + 1 = nI (k + 1) := by rw [show (1 : Int32) = nI 1 from rfl, ni_add (by omega)]
        rcases pt_b_some hq with ⟨f, hr, rfl⟩ | ⟨c3, k3, B, hr, hq2⟩
        · have both : ∀ x3 J3, rd_R t op (s + tr_cz A) J1 (.inl f) x3 J3 → ∃ y J4, am_Rn ext d 36 [.ref 11, .int oc, .int 0] (J3, L, D, am_rf (xt, xs, 11, xp, xu, xc)) (some (.int y), (J4, L, D, am_rf (xt, xs, 11, xp, xu, xc))) ∧ am_wp ext d mz_44 (45, [some (.ref 20), some (.int lv), some (.int one), some (.int other), some (.int 0), some (.int (nI k + 1)), none], [], (J4, L, D, am_rf (xt, xs, 11, xp, xu, xc))) (fun r => ∃ x I', r = (some (.int x), (I', L, D, am_rf (xt, xs, 11, xp, xu, xc))) ∧ rd_R t op s I (.inl f) x I') := by
            intro x3 J3 q3
            obtain ⟨y, J4, r4, q4⟩ := c36_f (ext := ext) (d := 0) L D xt xs xp xu xc oc 0 (rd_R_f (op := op) f01 (by omega) q3)
            exact ⟨y, J4, am_up r4 (by omega), c44_f (ext := ext) (d := d) L D xt xs xp xu xc (q4 op)⟩
          by_cases hl0 : lv = 0
          · obtain ⟨x3, J3, r3, q3⟩ := h0 hl0 _ _ (s + tr_cz A) J1 _ hc1 (by omega) (by omega) s1 (rd_E_fr hE f01) hr
            obtain ⟨y, J4, r4, w4⟩ := both x3 J3 q3
            obtain rfl := q3.2.1
            exact w44_73 J L D xc xp xs xt xu lv one other (nI k) ⟨_, J, L, D, am_up opc (by omega), 1, J1, L, D, am_up r1 (by omega), fun z => absurd z (by decide), fun _ => ⟨fun z => absurd hl0 z, fun _ => ⟨0, J3, L, D, r3, fun _ => ⟨y, J4, L, D, r4, w4⟩, fun z => absurd rfl z⟩⟩⟩
          · obtain ⟨x3, J3, r3, q3⟩ := h1 hl0 _ _ (s + tr_cz A) J1 _ hc1 (by omega) (by omega) s1 (rd_E_fr hE f01) hr
            obtain ⟨y, J4, r4, w4⟩ := both x3 J3 q3
            obtain rfl := q3.2.1
            exact w44_73 J L D xc xp xs xt xu lv one other (nI k) ⟨_, J, L, D, am_up opc (by omega), 1, J1, L, D, am_up r1 (by omega), fun z => absurd z (by decide), fun _ => ⟨fun _ => ⟨0, J3, L, D, r3, fun _ => ⟨y, J4, L, D, r4, w4⟩, fun z => absurd rfl z⟩, fun z => absurd z hl0⟩⟩
        · obtain ⟨j1, j2, j3, j4⟩ := hg _ _ hc1 (by omega) _ _ _ hr
          have hzB := tr_cz_le e B _ j4
          have both : ∀ x3 J3, rd_R t op (s + tr_cz A) J1 (.inr (c3, k3, B)) x3 J3 → x3 = 1 ∧ ∃ y J4, am_Rn ext d 36 [.ref 11, .int oc, .int 0] (J3, L, D, am_rf (xt, xs, 11, xp, xu, xc)) (some (.int y), (J4, L, D, am_rf (xt, xs, 11, xp, xu, xc))) ∧ am_wp ext d mz_44 (45, [some (.ref 20), some (.int lv), some (.int one), some (.int other), some (.int 1), some (.int (nI k + 1)), none], [], (J4, L, D, am_rf (xt, xs, 11, xp, xu, xc))) (fun r => ∃ x I', r = (some (.int x), (I', L, D, am_rf (xt, xs, 11, xp, xu, xc))) ∧ rd_R t op s I q x I') := by
            intro x3 J3 q3
            obtain ⟨f3, rfl, s3, cc3⟩ := rd_R_r q3
            have r4 := c36 (ext := ext) (d := 0) L D (xt, xs, 11, xp, xu, xc) oc 0 (rd_S_c (I' := I) s3).2.2.2.2 (by omega)
            refine ⟨rfl, _, _, am_up r4 (by omega), ?_⟩
            rw [nxt, ← hop]
            exact hm c3 k3 B _ j1 j2 j3 j4 (rd_2 hA j4 cc0 cc3 s3 f0 (rd_fr_t f1 f3 (Nat.le_refl _)) (rd_fr_0 _ _)) hq2
          by_cases hl0 : lv = 0
          · obtain ⟨x3, J3, r3, q3⟩ := h0 hl0 _ _ (s + tr_cz A) J1 _ hc1 (by omega) (by omega) s1 (rd_E_fr hE f01) hr
            obtain ⟨rfl, y, J4, r4, w4⟩ := both x3 J3 q3
            exact w44_73 J L D xc xp xs xt xu lv one other (nI k) ⟨_, J, L, D, am_up opc (by omega), 1, J1, L, D, am_up r1 (by omega), fun z => absurd z (by decide), fun _ => ⟨fun z => absurd hl0 z, fun _ => ⟨1, J3, L, D, r3, fun z => absurd z (by decide), fun _ => ⟨y, J4, L, D, r4, w4⟩⟩⟩⟩
          · obtain ⟨x3, J3, r3, q3⟩ := h1 hl0 _ _ (s + tr_cz A) J1 _ hc1 (by omega) (by omega) s1 (rd_E_fr hE f01) hr
            obtain ⟨rfl, y, J4, r4, w4⟩ := both x3 J3 q3
            exact w44_73 J L D xc xp xs xt xu lv one other (nI k) ⟨_, J, L, D, am_up opc (by omega), 1, J1, L, D, am_up r1 (by omega), fun z => absurd z (by decide), fun _ => ⟨fun _ => ⟨1, J3, L, D, r3, fun z => absurd z (by decide), fun _ => ⟨y, J4, L, D, r4, w4⟩⟩, fun z => absurd z hl0⟩⟩
      · obtain ⟨J1, r1, q1⟩ := (c48 (ext := ext) (d := 0) L D xt xs xp xu xc ht2 hc (by omega) hk S0).2 hk9
        obtain ⟨y, J4, r4, q4⟩ := c36_f (ext := ext) (d := 0) L D xt xs xp xu xc oc 0 (rd_R_f (op := op) f0 (by omega) (q1 op))
        exact w44_73 J L D xc xp xs xt xu lv one other (nI k) ⟨_, J, L, D, am_up opc (by omega), 0, J1, L, D, am_up r1 (by omega), fun _ => ⟨y, J4, L, D, am_up r4 (by omega), c44_f (ext := ext) (d := d) L D xt xs xp xu xc (q4 op)⟩, fun z => absurd rfl z⟩
    exact w44_45 J L D xc xp xs xt xu lv one other 1 (nI k) ⟨fun z => absurd z e96, fun _ => ⟨fun z => absurd z (by decide), fun _ => ⟨fun _ => go, fun z => ⟨fun zz => absurd zz (fun y => htk.elim (fun h => z (g1.trans h)) (fun h => y (g1.trans h))), fun _ => go⟩⟩⟩⟩
  · rw [if_neg htk] at hq
    cases hq
    exact w44_45 J L D xc xp xs xt xu lv one other 1 (nI k) ⟨fun z => absurd z e96, fun _ => ⟨fun z => absurd z (by decide), fun _ => ⟨fun z => absurd (Or.inl (g1.symm.trans z)) htk, fun _ => ⟨fun _ => ⟨Or.inr rfl, 1, J, rfl, hJ⟩, fun z => absurd (Or.inr (g1.symm.trans z)) htk⟩⟩⟩⟩
theorem rd_E_n {e : pt_E} {s nl : Nat} {I I' : Nat → Nat → Int32} (h : rd_E e nl I) (hf : rd_fr s I I') : rd_E e nl I' := rd_E_fr h hf
/-- ALL: what the class's reader does with an expression -/
theorem c44_all (ht : pt_tk t) (he : pt_en e) : ∀ (n : Nat),
    (∀ (op d : Nat) (A : tr_T), op ≤ 8 → 4 * (8 - op) + 3 ≤ d →
      rd_H ext (d + 4) L D xt xs xp xu xc t e nl 44 [.ref 20, .int 0] (fun c k o => pt_pp t e n 0 A c k o) op ∧
      rd_H ext (d + 3) L D xt xs xp xu xc t e nl 44 [.ref 20, .int 1] (fun c k o => pt_pp t e n 1 A c k o) op) ∧
    (∀ (op d v c kn s : Nat) (A : tr_T) (I : Nat → Nat → Int32) (q : pt_Q), op ≤ 8 → 4 * (8 - op) + 3 ≤ d → c < t.2 → kn ≤ 96 → v ≤ kn → s + v ≤ 3 * kn → rd_S t c kn op s I → rd_E e nl I → pt_pp t e n 2 A c kn op = some q →
      am_wp ext (d + 1) mz_46 (2, [some (.ref 20), some (.int (nI v)), none, none], [], (I, L, D, am_rf (xt, xs, 11, xp, xu, xc))) (fun r => ∃ x' I', r = (some (.int x'), (I', L, D, am_rf (xt, xs, 11, xp, xu, xc))) ∧ rd_V t op s v I q x' I')) ∧
    (∀ (op d c kn s k lb : Nat) (A : tr_T) (I J : Nat → Nat → Int32) (q : pt_Q), op ≤ 8 → 4 * (8 - op) + 3 ≤ d → c < t.2 → kn ≤ 96 → kn = lb + tr_sz A → tr_ok e A lb → s ≤ 3 * lb → k ≤ kn → rd_R t op s I (.inr (c, kn, A)) 1 J → rd_E e nl I →
      (pt_pp t e n 3 A c kn op = some q → am_wp ext (d + 3) mz_44 (45, [some (.ref 20), some (.int 0), some (.int 43), some (.int 45), some (.int 1), some (.int (nI k)), none], [], (J, L, D, am_rf (xt, xs, 11, xp, xu, xc))) (fun r => ∃ x I', r = (some (.int x), (I', L, D, am_rf (xt, xs, 11, xp, xu, xc))) ∧ rd_R t op s I q x I')) ∧
      (pt_pp t e n 4 A c kn op = some q → am_wp ext (d + 2) mz_44 (45, [some (.ref 20), some (.int 1), some (.int 42), some (.int 47), some (.int 1), some (.int (nI k)), none], [], (J, L, D, am_rf (xt, xs, 11, xp, xu, xc))) (fun r => ∃ x I', r = (some (.int x), (I', L, D, am_rf (xt, xs, 11, xp, xu, xc))) ∧ rd_R t op s I q x I'))) := by
  intro n
  induction n with
  | zero =>
    refine ⟨fun op d A _ _ => ⟨?_, ?_⟩, ?_, ?_⟩
    · intro c kn s I q _ _ _ _ _ h; cases h
    · intro c kn s I q _ _ _ _ _ h; cases h
    · intro op d v c kn s A I q _ _ _ _ _ _ _ _ h; cases h
    · intro op d c kn s k lb A I J q _ _ _ _ _ _ _ _ _ _
      exact ⟨fun h => (by cases h), fun h => (by cases h)⟩
  | succ n ih =>
    obtain ⟨ih1, ih2, ih3⟩ := ih
    have part : ∀ (op d : Nat) (A : tr_T), op ≤ 8 → 4 * (8 - op) + 3 ≤ d → rd_H ext (d + 2) L D xt xs xp xu xc t e nl 46 [.ref 20] (fun c k o => pt_pp t e n 2 A c k o) op := by
      intro op d A ho hd c kn s I q hc hk hs hS hE hq
      obtain ⟨r, h1, x, I', rfl, hV⟩ := am_of_wp (as := [.ref 20]) mh_46 rfl (w46_0 I L D xc xp xs xt xu (ih2 op d 0 c kn s A I q ho hd hc hk (by omega) (by omega) hS hE hq))
      refine ⟨x, I', h1, ?_⟩
      match q, hV with
      | .inl f, hV => exact hV
      | .inr (c1, k1, T), hV =>
        obtain ⟨v1, v2, v3, v4, _⟩ := rd_V_r hV
        exact ⟨v1, v2, v3, v4⟩
    refine ⟨fun op d A ho hd => ⟨?_, ?_⟩, ?_, ?_⟩
    · intro c kn s I q hc hk hs hS hE hq
      simp only [pt_pp] at hq
      have go : ∀ {Q : am_R → Prop} (x1 : Int32) (J1 : Nat → Nat → Int32), am_Rn ext (d + 3) 44 [.ref 20, .int 1] (I, L, D, am_rf (xt, xs, 11, xp, xu, xc)) (some (.int x1), (J1, L, D, am_rf (xt, xs, 11, xp, xu, xc))) → am_wp ext (d + 3) mz_44 (45, [some (.ref 20), some (.int 0), some (.int 43), some (.int 45), some (.int x1), some (.int 0), none], [], (J1, L, D, am_rf (xt, xs, 11, xp, xu, xc))) Q → ∃ r, am_Rn ext (d + 4) 44 [.ref 20, .int 0] (I, L, D, am_rf (xt, xs, 11, xp, xu, xc)) r ∧ Q r := fun x1 J1 r1 w => am_of_wp (as := [.ref 20, .int 0]) mh_44 rfl (w44_0 I L D xc xp xs xt xu 0 ⟨fun z => absurd rfl z, fun _ => w44_11 I L D xc xp xs xt xu 0 43 ⟨fun z => absurd rfl z, fun _ => ⟨fun z => absurd rfl z, fun _ => ⟨x1, J1, L, D, r1, w⟩⟩⟩⟩)
      rcases pt_b_some hq with ⟨f, hr, rfl⟩ | ⟨c1, k1, B, hr, hq2⟩
      · obtain ⟨x1, J1, r1, q1⟩ := (ih1 op d A ho hd).2 c kn s I _ hc hk hs hS hE hr
        obtain rfl := q1.2.1
        obtain ⟨r, h1, x, I', rfl, h2⟩ := go 0 J1 r1 (c44_f (ext := ext) (d := d + 3) L D xt xs xp xu xc q1)
        exact ⟨x, I', h1, h2⟩
      · obtain ⟨x1, J1, r1, q1⟩ := (ih1 op d A ho hd).2 c kn s I _ hc hk hs hS hE hr
        obtain ⟨m1, m2, m3, m4⟩ := (pt_good ht he n c kn op A hc hk).2.1 _ _ _ hr
        obtain rfl := (rd_R_r q1).2.1
        obtain ⟨r, h1, x, I', rfl, h2⟩ := go 1 J1 r1 ((ih3 op d c1 k1 s 0 kn B I J1 q ho hd m1 m2 m3 m4 hs (by omega) q1 hE).1 hq2)
        exact ⟨x, I', h1, h2⟩
    · intro c kn s I q hc hk hs hS hE hq
      simp only [pt_pp] at hq
      have go : ∀ {Q : am_R → Prop} (x1 : Int32) (J1 : Nat → Nat → Int32), am_Rn ext (d + 2) 46 [.ref 20] (I, L, D, am_rf (xt, xs, 11, xp, xu, xc)) (some (.int x1), (J1, L, D, am_rf (xt, xs, 11, xp, xu, xc))) → am_wp ext (d + 2) mz_44 (45, [some (.ref 20), some (.int 1), some (.int 42), some (.int 47), some (.int x1), some (.int 0), none], [], (J1, L, D, am_rf (xt, xs, 11, xp, xu, xc))) Q → ∃ r, am_Rn ext (d + 3) 44 [.ref 20, .int 1] (I, L, D, am_rf (xt, xs, 11, xp, xu, xc)) r ∧ Q r := fun x1 J1 r1 w => am_of_wp (as := [.ref 20, .int 1]) mh_44 rfl (w44_0 I L D xc xp xs xt xu 1 ⟨fun _ => w44_11 I L D xc xp xs xt xu 1 42 ⟨fun _ => ⟨fun _ => ⟨x1, J1, L, D, r1, w⟩, fun z => absurd z (by decide)⟩, fun z => absurd z (by decide)⟩, fun z => absurd z (by decide)⟩)
      rcases pt_b_some hq with ⟨f, hr, rfl⟩ | ⟨c1, k1, B, hr, hq2⟩
      · obtain ⟨x1, J1, r1, q1⟩ := part op d A ho hd c kn s I _ hc hk hs hS hE hr
        obtain rfl := q1.2.1
        obtain ⟨r, h1, x, I', rfl, h2⟩ := go 0 J1 r1 (c44_f (ext := ext) (d := d + 2) L D xt xs xp xu xc q1)
        exact ⟨x, I', h1, h2⟩
      · obtain ⟨x1, J1, r1, q1⟩ := part op d A ho hd c kn s I _ hc hk hs hS hE hr
        obtain ⟨m1, m2, m3, m4⟩ := (pt_good ht he n c kn op A hc hk).2.2.1 _ _ _ hr
        obtain rfl := (rd_R_r q1).2.1
        obtain ⟨r, h1, x, I', rfl, h2⟩ := go 1 J1 r1 ((ih3 op d c1 k1 s 0 kn B I J1 q ho hd m1 m2 m3 m4 hs (by omega) q1 hE).2 hq2)
        exact ⟨x, I', h1, h2⟩
    · intro op d v c kn s A I q ho hd hc hk hv hs hS hE hq
      have hq0 := hq
      simp only [pt_pp] at hq
      have g1 := (rd_S_c (I' := I) hS).1
      have ht2 := ht.2.1
      have e96 : ¬ (96 : Int32) < nI v := by rw [show (96 : Int32) = nI 96 from rfl, ni_lt (by omega) (by omega)]; omega
      by_cases h45 : pt_k t c = 45
      · have hq2 := hq
        unfold pt_part at hq2
        rw [if_pos h45] at hq2
        rcases pt_n_some hq2 with ⟨hk9, hq2⟩ | ⟨hk9, rfl⟩
        · obtain ⟨I1, r1, s1, f1⟩ := (c48 (ext := ext) (d := 0) L D xt xs xp xu xc ht2 hc (by omega) hk hS).1 hk9
          have hc1 := pt_adv_lt hc
          have w1 : ∀ q', pt_pp t e n 2 A (pt_adv t c) (kn + 1) op = some q' → am_wp ext (d + 1) mz_46 (2, [some (.ref 20), some (.int (nI v + 1)), none, none], [], (I1, L, D, am_rf (xt, xs, 11, xp, xu, xc))) (fun r => ∃ x' I', r = (some (.int x'), (I', L, D, am_rf (xt, xs, 11, xp, xu, xc))) ∧ rd_V t op s (v + 1) I1 q' x' I') := by
            intro q' h
            rw [show (1 : Int32) = nI 1 from rfl, ni_add (by omega)]
            exact ih2 op d (v + 1) _ _ s A I1 q' ho hd hc1 (by omega) (by omega) (by omega) s1 (rd_E_fr hE f1) h
          refine w46_2 I L D xc xp xs xt xu _ ⟨fun z => absurd z e96, fun _ => ⟨fun z => absurd (g1.trans h45) z, fun _ => ⟨1, I1, L, D, am_up r1 (by omega), fun _ => ?_, fun z => absurd z (by decide)⟩⟩⟩
          rcases pt_b_some hq2 with ⟨f, hr, rfl⟩ | ⟨c1, k1, B, hr, hq3⟩
          · refine am_wp_mono (w1 _ hr) ?_
            rintro r ⟨x', I', rfl, hV⟩
            exact ⟨x', I', rfl, rd_R_f (t := t) (op := op) f1 (Nat.le_refl _) (op' := op) hV⟩
          · cases hq3
            refine am_wp_mono (w1 _ hr) ?_
            rintro r ⟨x', I', rfl, hV⟩
            obtain ⟨v1, v2, v3, v4, v5⟩ := rd_V_r hV
            have ez : tr_cz (tr_1 (kn, 3, 0, 0, 0, 0) B) = tr_cz B + 1 := by simp [tr_cz]; omega
            refine ⟨x', I', rfl, rd_fr_t f1 v1 (Nat.le_refl _), v2, ?_, ⟨v4, ?_, ?_⟩, fun i hi => ?_⟩
            · show rd_S t c1 k1 op (s + tr_cz (tr_1 (kn, 3, 0, 0, 0, 0) B) + v) I'
              rw [ez, show s + (tr_cz B + 1) + v = s + tr_cz B + (v + 1) by omega]
              exact v3
            · have := (v5 0 (by omega)).1
              exact this
            · have := (v5 0 (by omega)).2
              exact this
            · show I' 16 (s + tr_cz (tr_1 (kn, 3, 0, 0, 0, 0) B) + i) = 8 ∧ I' 17 (s + tr_cz (tr_1 (kn, 3, 0, 0, 0, 0) B) + i) = 0
              rw [ez, show s + (tr_cz B + 1) + i = s + tr_cz B + (i + 1) by omega]
              exact v5 (i + 1) (by omega)
        · obtain ⟨I1, r1, q1⟩ := (c48 (ext := ext) (d := 0) L D xt xs xp xu xc ht2 hc (by omega) hk hS).2 hk9
          exact w46_2 I L D xc xp xs xt xu _ ⟨fun z => absurd z e96, fun _ => ⟨fun z => absurd (g1.trans h45) z, fun _ => ⟨0, I1, L, D, am_up r1 (by omega), fun z => absurd rfl z, fun _ => ⟨0, I1, rfl, q1 op⟩⟩⟩⟩
      · refine w46_2 I L D xc xp xs xt xu _ ⟨fun z => absurd z e96, fun _ => ⟨fun _ => ?_, fun z => absurd (g1.symm.trans z) h45⟩⟩
        refine c46_32 (ext := ext) (d := d) L D xt xs xp xu xc (by omega) ht he hc hk ho hv hs hS hE h45 (fun h8 => ?_) (fun h8 c1 k1 h1 h2 => (pt_good ht he n c1 k1 (op + 1) A h1 h2).1) ?_ hq
        · exact rd_H_up L D xt xs xp xu xc (ih1 (op + 1) (d - 4) A (by omega) (by omega)).1 (by omega)
        · have := (pt_good ht he (n + 1) c kn op A hc hk).2.2.1
          simp only [pt_pp] at this
          exact this
    · intro op d c kn s k lb A I J q ho hd hc hk hlb hA hs hkk hJ hE
      constructor
      · intro hq
        simp only [pt_pp] at hq
        refine c44_45 (ext := ext) (d := d + 3) L D xt xs xp xu xc (by omega) ht hc hk (Or.inl ⟨rfl, rfl, rfl, rfl, rfl⟩) hA hlb hs hkk hJ hE (nx := fun c k o => pt_pp t e n 1 A c k o) (fun _ => (ih1 op d A ho hd).2) (fun z => absurd rfl z) (fun c1 k1 h1 h2 => (pt_good ht he n c1 k1 op A h1 h2).2.1) (more := fun T c k => pt_pp t e n 3 T c k op) ?_ hq
        intro c2 k2 B J2 h1 h2 h3 h4 h5 h6
        refine (ih3 op d c2 k2 s (k + 1) lb _ I J2 q ho hd h1 h2 ?_ ?_ hs (by omega) h5 hE).1 h6
        · simp only [tr_sz]; omega
        · refine Or.inl ⟨?_, ?_, hA, hlb, by rw [← hlb]; exact h4⟩
          · by_cases h6 : pt_k t c = 43 <;> simp [h6]
          · by_cases h6 : pt_k t c = 43 <;> simp [h6]
      · intro hq
        simp only [pt_pp] at hq
        refine c44_45 (ext := ext) (d := d + 2) L D xt xs xp xu xc (by omega) ht hc hk (Or.inr ⟨rfl, rfl, rfl, rfl, rfl⟩) hA hlb hs hkk hJ hE (nx := fun c k o => pt_pp t e n 2 A c k o) (fun z => absurd z (by decide)) (fun _ => part op d A ho hd) (fun c1 k1 h1 h2 => (pt_good ht he n c1 k1 op A h1 h2).2.2.1) (more := fun T c k => pt_pp t e n 4 T c k op) ?_ hq
        intro c2 k2 B J2 h1 h2 h3 h4 h5 h6
        refine (ih3 op d c2 k2 s (k + 1) lb _ I J2 q ho hd h1 h2 ?_ ?_ hs (by omega) h5 hE).2 h6
        · simp only [tr_sz]; omega
        · refine Or.inl ⟨?_, ?_, hA, hlb, by rw [← hlb]; exact h4⟩
          · by_cases h6 : pt_k t c = 42 <;> simp [h6]
          · by_cases h6 : pt_k t c = 42 <;> simp [h6]
end READ
