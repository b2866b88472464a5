/-! ===== the class's reader: a part with its signs, sums and products ===== -/
/-- as rd_R, with v signs behind -/
def rd_V (t : pt_K) (op s v : Nat) (I : Nat → Nat → Int32) (r : pt_Q) (x : Int32) (I' : Nat → Nat → Int32) : Prop := rd_fr s I I' ∧ match r with
  | .inl f => x = 0 ∧ I' 20 8 = nI f.1 ∧ I' 20 9 = f.2 ∧ ∃ s', s ≤ s' ∧ s' ≤ 288 ∧ I' 11 8 = nI s'
  | .inr q => x = 1 ∧ rd_S t q.1 q.2.1 op (s + tr_cz q.2.2 + v) I' ∧ tr_cc (I' 16) (I' 17) (I' 18) (I' 19) q.2.2 s ∧ ∀ i, i < v → I' 16 (s + tr_cz q.2.2 + i) = 8 ∧ I' 17 (s + tr_cz q.2.2 + i) = 0
theorem rd_V_r {t : pt_K} {op s v c k : Nat} {T : tr_T} {x : Int32} {I I' : Nat → Nat → Int32} (h : rd_V t op s v I (.inr (c, k, T)) x I') : rd_fr s I I' ∧ x = 1 ∧ rd_S t c k op (s + tr_cz T + v) I' ∧ tr_cc (I' 16) (I' 17) (I' 18) (I' 19) T s ∧ ∀ i, i < v → I' 16 (s + tr_cz T + i) = 8 ∧ I' 17 (s + tr_cz T + i) = 0 := h
section READ
variable {ext : Nat → List Value → am_M → Option am_R} {d : Nat} (L : Nat → Nat → Int64) (D : Nat → Nat → UInt64) (xt xs xp xu xc : Nat) {t : pt_K} {e : pt_E} {nl : Nat} {sum : Nat → Nat → Nat → pt_R} {c kn op s : Nat} {I : Nat → Nat → Int32} {q : pt_Q}
theorem rd_H_up {d' j : Nat} {as : List Value} (h : rd_H ext d L D xt xs xp xu xc t e nl j as sum op) (hd : d ≤ d') : rd_H ext d' L D xt xs xp xu xc t e nl j as sum op := by
  intro c kn s I q h1 h2 h3 h4 h5 h6
  obtain ⟨x, I', r, w⟩ := h c kn s I q h1 h2 h3 h4 h5 h6
  exact ⟨x, I', am_up r hd, w⟩
theorem c46_245f (hd : 2 ≤ d) {f : Nat × Int32} {v : Nat} (hv : v ≤ 96) : ∀ (n k : Nat) (J : Nat → Nat → Int32), k + n = v → rd_R t op s I (.inl f) 0 J → am_wp ext d mz_46 (245, [some (.ref 20), some (.int (nI v)), some (.int 0), some (.int (nI k))], [], (J, L, D, am_rf (xt, xs, 11, xp, xu, xc))) (fun r => ∃ I', r = (some (.int 0), (I', L, D, am_rf (xt, xs, 11, xp, xu, xc))) ∧ rd_R t op s I (.inl f) 0 I') := by
  intro n
  induction n with
  | zero =>
    intro k J hk h
    exact w46_245 J L D xc xp xs xt xu _ _ _ ⟨fun _ => ⟨Or.inl rfl, J, rfl, h⟩, fun z => absurd ((ni_le (by omega) (by omega)).mpr (by omega)) z⟩
  | succ n ih =>
    intro k J hk h
    obtain ⟨y, J1, r1, q1⟩ := c36_f (ext := ext) (d := 0) L D xt xs xp xu xc 8 0 h
    refine w46_245 J L D xc xp xs xt xu _ _ _ ⟨fun z => absurd ((ni_le (by omega) (by omega)).mp z) (by omega), fun _ => ⟨y, J1, L, D, am_up r1 (by omega), ?_⟩⟩
    rw [show (1 : Int32) = nI 1 from rfl, ni_add (by omega)]
    exact ih (k + 1) J1 (by omega) (q1 op)
theorem c46_245s (hd : 2 ≤ d) {T : tr_T} {v lb : Nat} (hv : v ≤ 96) (hT : tr_ok e T lb) (hz : s + tr_cz T + v ≤ 288) : ∀ (n k : Nat) (J : Nat → Nat → Int32), k + n = v → rd_V t op s k I (.inr (c, kn, T)) 1 J → am_wp ext d mz_46 (245, [some (.ref 20), some (.int (nI v)), some (.int 1), some (.int (nI k))], [], (J, L, D, am_rf (xt, xs, 11, xp, xu, xc))) (fun r => ∃ I', r = (some (.int 1), (I', L, D, am_rf (xt, xs, 11, xp, xu, xc))) ∧ rd_V t op s v I (.inr (c, kn, T)) 1 I') := by
  intro n
  induction n with
  | zero =>
    intro k J hk h
    obtain rfl : k = v := by omega
    exact w46_245 J L D xc xp xs xt xu _ _ _ ⟨fun _ => ⟨Or.inr rfl, J, rfl, h⟩, fun z => absurd ((ni_le (by omega) (by omega)).mpr (by omega)) z⟩
  | succ n ih =>
    intro k J hk h
    obtain ⟨f1, _, s1, cc1, v1⟩ := rd_V_r h
    have r1 := c36 (ext := ext) (d := 0) L D (xt, xs, 11, xp, xu, xc) 8 0 (rd_S_c (I' := I) s1).2.2.2.2 (by omega)
    obtain ⟨s5, f5⟩ := rd_S_add s1 8 0 0 0
    refine w46_245 J L D xc xp xs xt xu _ _ _ ⟨fun z => absurd ((ni_le (by omega) (by omega)).mp z) (by omega), fun _ => ⟨_, _, L, D, am_up r1 (by omega), ?_⟩⟩
    rw [show (1 : Int32) = nI 1 from rfl, ni_add (by omega)]
    refine ih (k + 1) _ (by omega) ⟨rd_fr_t f1 f5 (by omega), rfl, s5, rd_cc_fr hT cc1 f5 (by show s + tr_cz T ≤ s + tr_cz T + k; omega), fun i hi => ?_⟩
    show _ = _ ∧ _ = _
    by_cases hik : i = k
    · subst hik
      constructor <;> simp [am_uI_at]
    · rw [f5 16 _ (rd_x_no (by omega) (by show s + tr_cz T + i < _; omega)), f5 17 _ (rd_x_no (by omega) (by show s + tr_cz T + i < _; omega))]
      exact v1 i (by omega)
/-- behind the part proper -/
theorem c46_245 (hd : 2 ≤ d) {v : Nat} {x : Int32} {J : Nat → Nat → Int32} (hv : v ≤ 96) (h : rd_R t op s I q x J) (hg : ∀ c k T, q = .inr (c, k, T) → (∃ lb, tr_ok e T lb) ∧ s + tr_cz T + v ≤ 288) : am_wp ext d mz_46 (245, [some (.ref 20), some (.int (nI v)), some (.int x), some (.int (nI 0))], [], (J, L, D, am_rf (xt, xs, 11, xp, xu, xc))) (fun r => ∃ x' I', r = (some (.int x'), (I', L, D, am_rf (xt, xs, 11, xp, xu, xc))) ∧ rd_V t op s v I q x' I') := by
  match q, h, hg with
  | .inl f, h, hg =>
    obtain rfl := h.2.1
    exact am_wp_mono (c46_245f (ext := ext) (d := d) L D xt xs xp xu xc hd hv v 0 J (by omega) h) (fun r ⟨I', h1, h2⟩ => ⟨0, I', h1, h2⟩)
  | .inr (c, k, T), h, hg =>
    obtain ⟨⟨lb, h1⟩, h2⟩ := hg c k T rfl
    obtain ⟨f1, rfl, s1, cc1⟩ := rd_R_r h
    exact am_wp_mono (c46_245s (ext := ext) (d := d) L D xt xs xp xu xc hd hv h1 h2 v 0 J (by omega) ⟨f1, rfl, s1, cc1, fun i hi => absurd hi (by omega)⟩) (fun r ⟨I', h1, h2⟩ => ⟨1, I', h1, h2⟩)
/-- the part proper -/
theorem c46_32 (hd : 3 ≤ d) (ht : pt_tk t) (he : pt_en e) (hc : c < t.2) (hk : kn ≤ 96) (ho : op ≤ 8) {v : Nat} (hv : v ≤ kn) (hs : s + v ≤ 3 * kn) (hS : rd_S t c kn op s I) (hE : rd_E e nl I) (h45 : ¬ pt_k t c = 45) {neg : Nat → Nat → Nat → pt_R}
    (IH : op < 8 → rd_H ext d L D xt xs xp xu xc t e nl 44 [.ref 20, .int 0] sum (op + 1)) (hg : op < 8 → rd_G t e sum (op + 1)) (hgo : pt_g t e kn (pt_part t e neg sum c kn op)) (hq : pt_part t e neg sum c kn op = some q) :
    am_wp ext (d + 1) mz_46 (32, [some (.ref 20), some (.int (nI v)), none, none], [], (I, L, D, am_rf (xt, xs, 11, xp, xu, xc))) (fun r => ∃ x' I', r = (some (.int x'), (I', L, D, am_rf (xt, xs, 11, xp, xu, xc))) ∧ rd_V t op s v I q x' I') := by
  obtain ⟨g1, g2, g3, g4, g5⟩ := rd_S_c (I' := I) hS
  have ht2 := ht.2.1
  have fin : ∀ {x : Int32} {J : Nat → Nat → Int32}, rd_R t op s I q x J → am_wp ext (d + 1) mz_46 (245, [some (.ref 20), some (.int (nI v)), some (.int x), some (.int 0)], [], (J, L, D, am_rf (xt, xs, 11, xp, xu, xc))) (fun r => ∃ x' I', r = (some (.int x'), (I', L, D, am_rf (xt, xs, 11, xp, xu, xc))) ∧ rd_V t op s v I q x' I') := by
    intro x J h
    refine c46_245 (ext := ext) (e := e) (d := d + 1) L D xt xs xp xu xc (by omega) (by omega) h fun c1 k1 T1 hqq => ?_
    obtain ⟨m1, m2, m3, m4⟩ := hgo c1 k1 T1 (by rw [hq, hqq])
    have := tr_cz_le e T1 _ m4
    exact ⟨⟨_, m4⟩, by omega⟩
  have nk : ∀ w : Int32, ¬ pt_k t c = w → ¬ I 20 3 = w := fun w h z => h (g1.symm.trans z)
  unfold pt_part at hq
  rw [if_neg h45] at hq
  refine w46_32 I L D xc xp xs xt xu (nI v) ⟨fun z => ?_, fun z => ?_, fun z => ?_, fun z => ?_, fun z => ?_, fun z => ?_, fun z => ?_⟩
  · rw [g1] at z
    rw [if_neg (by rw [z]; decide), if_pos z] at hq
    obtain ⟨x, J, r, R⟩ := c49 (ext := ext) (d := d) L D xt xs xp xu xc hd ht hc hk (by omega) hS z hq
    exact ⟨x, J, L, D, r, fin R⟩
  · rw [g1] at z
    rw [if_neg (by rw [z]; decide), if_neg (by rw [z]; decide), if_pos z] at hq
    refine ⟨fun z9 => ?_, fun z9 => ?_⟩
    · rw [g2] at z9
      rw [if_neg z9] at hq
      obtain ⟨x, J, r, R⟩ := c51 (ext := ext) (d := d) L D xt xs xp xu xc hd ht he hc hk ho (by omega) hS hE z IH hg hq
      exact ⟨x, J, L, D, r, fin R⟩
    · rw [g2] at z9
      rw [if_pos z9] at hq
      obtain ⟨x, J, r, R⟩ := c50 (ext := ext) (d := d) L D xt xs xp xu xc hd ht hc hk (by omega) hS hE hq
      exact ⟨x, J, L, D, r, fin R⟩
  · rw [g1] at z
    have n : ∀ w : Int32, (¬ w = 6 ∧ ¬ w = 7) → ¬ pt_k t c = w := fun w hw h => by rcases z with z | z <;> rw [z] at h <;> simp [← h] at hw
    rw [if_neg (n 40 (by decide)), if_neg (n 2 (by decide)), if_neg (n 3 (by decide)), if_pos z] at hq
    refine ⟨fun z6 => ?_, fun z6 => ?_⟩
    · rw [g1] at z6
      rw [if_neg z6] at hq
      obtain ⟨x, J, r, R⟩ := c52 (ext := ext) (d := d) L D xt xs xp xu xc hd ht hc hk ho (by omega) hS hE 5 0 0 rfl IH hg hq
      exact ⟨x, J, L, D, r, fin R⟩
    · rw [g1] at z6
      rw [if_pos z6] at hq
      obtain ⟨x, J, r, R⟩ := c52 (ext := ext) (d := d) L D xt xs xp xu xc hd ht hc hk ho (by omega) hS hE 4 0 0 rfl IH hg hq
      exact ⟨x, J, L, D, r, fin R⟩
  · rw [g1] at z
    have n : ∀ w : Int32, (¬ w = 8 ∧ ¬ w = 9) → ¬ pt_k t c = w := fun w hw h => by rcases z with z | z <;> rw [z] at h <;> simp [← h] at hw
    rw [if_neg (n 40 (by decide)), if_neg (n 2 (by decide)), if_neg (n 3 (by decide)), if_neg (fun y => y.elim (n 6 (by decide)) (n 7 (by decide))), if_pos z] at hq
    refine ⟨fun z6 => ?_, fun z6 => ?_⟩
    · rw [g1] at z6
      rw [if_neg z6] at hq
      obtain ⟨x, J, r, R⟩ := c53 (ext := ext) (d := d) L D xt xs xp xu xc hd ht hc hk ho (by omega) hS hE 11 IH hg hq
      exact ⟨x, J, L, D, r, fin R⟩
    · rw [g1] at z6
      rw [if_pos z6] at hq
      obtain ⟨x, J, r, R⟩ := c53 (ext := ext) (d := d) L D xt xs xp xu xc hd ht hc hk ho (by omega) hS hE 10 IH hg hq
      exact ⟨x, J, L, D, r, fin R⟩
  · rw [g1] at z
    have n : ∀ w : Int32, ¬ w = 10 → ¬ pt_k t c = w := fun w hw h => hw (h.symm.trans z)
    rw [if_neg (n 40 (by decide)), if_neg (n 2 (by decide)), if_neg (n 3 (by decide)), if_neg (fun y => y.elim (n 6 (by decide)) (n 7 (by decide))), if_neg (fun y => y.elim (n 8 (by decide)) (n 9 (by decide))), if_pos z] at hq
    obtain ⟨x, J, r, R⟩ := c54 (ext := ext) (d := d) L D xt xs xp xu xc hd ht hc hk ho (by omega) hS hE IH hg hq
    exact ⟨x, J, L, D, r, fin R⟩
  · rw [g1] at z
    rw [if_pos z] at hq
    rcases pt_o_some hq with ⟨h40, h8, hq⟩ | ⟨h40, h8, rfl⟩ | ⟨h40, rfl⟩
    · obtain ⟨I1, r1, s1, f1⟩ := (c57 (ext := ext) (d := 0) L D xt xs xp xu xc ht2 hc (by omega) ho hS).1 h40 h8
      have hc1 := pt_adv_lt hc
      rcases pt_b_some hq with ⟨f, hr, rfl⟩ | ⟨c3, k3, A, hr, hq2⟩
      · obtain ⟨x3, I3, r3, q3⟩ := IH h8 _ _ s I1 _ hc1 (by omega) (by omega) s1 (rd_E_fr hE f1) hr
        obtain rfl := q3.2.1
        exact ⟨1, I1, L, D, am_up r1 (by omega), fun z => absurd z (by decide), fun _ => ⟨0, I3, L, D, am_up r3 (by omega), fun _ => fin (rd_R_f f1 (Nat.le_refl _) q3), fun z => absurd rfl z⟩⟩
      · obtain ⟨x3, I3, r3, q3⟩ := IH h8 _ _ s I1 _ hc1 (by omega) (by omega) s1 (rd_E_fr hE f1) hr
        obtain ⟨j1, j2, j3, j4⟩ := hg h8 _ _ hc1 (by omega) _ _ _ hr
        have hz := tr_cz_le e A _ j4
        obtain ⟨f3, rfl, s3, k3'⟩ := rd_R_r q3
        rcases pt_x_some hq2 with ⟨h41, hq2⟩ | ⟨h41, rfl⟩
        · cases hq2
          obtain ⟨I4, r4, s4, f4⟩ := (c58 (ext := ext) (d := 0) L D xt xs xp xu xc ht2 j1 (by omega) h8 s3).1 h41
          exact ⟨1, I1, L, D, am_up r1 (by omega), fun z => absurd z (by decide), fun _ => ⟨1, I3, L, D, am_up r3 (by omega), fun z => absurd z (by decide), fun _ => ⟨1, I4, L, D, am_up r4 (by omega), fun z => absurd z (by decide), fun _ => fin ⟨rd_fr_t (rd_fr_t f1 f3 (Nat.le_refl _)) f4 (by omega), rfl, s4, rd_cc_fr j4 k3' f4 (Nat.le_refl _)⟩⟩⟩⟩
        · obtain ⟨I4, r4, q4⟩ := (c58 (ext := ext) (d := 0) L D xt xs xp xu xc ht2 j1 (by omega) h8 s3).2 h41
          exact ⟨1, I1, L, D, am_up r1 (by omega), fun z => absurd z (by decide), fun _ => ⟨1, I3, L, D, am_up r3 (by omega), fun z => absurd z (by decide), fun _ => ⟨0, I4, L, D, am_up r4 (by omega), fun _ => fin (rd_R_f (rd_fr_t f1 f3 (Nat.le_refl _)) (by omega) (q4 op)), fun z => absurd rfl z⟩⟩⟩
    · obtain ⟨I1, r1, q1⟩ := (c57 (ext := ext) (d := 0) L D xt xs xp xu xc ht2 hc (by omega) ho hS).2.1 h40 h8
      exact ⟨0, I1, L, D, am_up r1 (by omega), fun _ => fin (q1 op), fun z => absurd rfl z⟩
    · obtain ⟨I1, r1, q1⟩ := (c57 (ext := ext) (d := 0) L D xt xs xp xu xc ht2 hc (by omega) ho hS).2.2 h40
      exact ⟨0, I1, L, D, am_up r1 (by omega), fun _ => fin (q1 op), fun z => absurd rfl z⟩
  · obtain ⟨z2, z3, z6, z7, z8, z9, z10, z40⟩ := z
    rw [g1] at z2 z3 z6 z7 z8 z9 z10 z40
    rw [if_neg z40, if_neg z2, if_neg z3, if_neg (fun y => y.elim z6 z7), if_neg (fun y => y.elim z8 z9), if_neg z10] at hq
    by_cases h11 : pt_k t c = 11 ∨ pt_k t c = 12 ∨ pt_k t c = 13 ∨ pt_k t c = 14
    · rw [if_pos h11] at hq
      have r47 : am_Rn ext 1 47 [.int (I 20 3)] (I, L, D, am_rf (xt, xs, 11, xp, xu, xc)) (some (.int (nI ((if pt_k t c = 11 then 15 else if pt_k t c = 12 then 16 else if pt_k t c = 13 then 17 else 18) - 11))), (I, L, D, am_rf (xt, xs, 11, xp, xu, xc))) := by
        refine am_rn_of mh_47 rfl (w47_0 I L D (xt, xs, 11, xp, xu, xc) (I 20 3) ⟨fun z => ?_, fun z => ?_, fun z => ?_, fun z => ?_, fun z => ?_⟩)
        · rw [g1] at z; rw [if_pos z]; rfl
        · rw [g1] at z; rw [if_neg (by rw [z]; decide), if_pos z]; rfl
        · rw [g1] at z; rw [if_neg (by rw [z]; decide), if_neg (by rw [z]; decide), if_pos z]; rfl
        · rw [g1] at z; rw [if_neg (by rw [z]; decide), if_neg (by rw [z]; decide), if_neg (by rw [z]; decide)]; rfl
        · rw [g1] at z
          rcases h11 with y | y | y | y
          · exact absurd y z.1
          · exact absurd y z.2.1
          · exact absurd y z.2.2.1
          · exact absurd y z.2.2.2
      have hkd : 15 ≤ (if pt_k t c = 11 then 15 else if pt_k t c = 12 then 16 else if pt_k t c = 13 then 17 else 18) ∧ (if pt_k t c = 11 then 15 else if pt_k t c = 12 then 16 else if pt_k t c = 13 then 17 else 18) ≤ 18 := by
        split
        · omega
        · split
          · omega
          · split <;> omega
      obtain ⟨x, J, r, R⟩ := c55 (ext := ext) (d := d) L D xt xs xp xu xc hd ht hc hk ho (by omega) hS hE _ hkd hq
      exact ⟨_, I, L, D, am_up r47 (by omega), x, J, L, D, r, fin R⟩
    · rw [if_neg h11] at hq
      cases hq
      have r47 : am_Rn ext 1 47 [.int (I 20 3)] (I, L, D, am_rf (xt, xs, 11, xp, xu, xc)) (some (.int (-1)), (I, L, D, am_rf (xt, xs, 11, xp, xu, xc))) := by
        refine am_rn_of mh_47 rfl (w47_0 I L D (xt, xs, 11, xp, xu, xc) (I 20 3) ⟨fun z => absurd (Or.inl (g1.symm.trans z)) h11, fun z => absurd (Or.inr (Or.inl (g1.symm.trans z))) h11, fun z => absurd (Or.inr (Or.inr (Or.inl (g1.symm.trans z)))) h11, fun z => absurd (Or.inr (Or.inr (Or.inr (g1.symm.trans z)))) h11, fun _ => rfl⟩)
      obtain ⟨I1, r1, q1⟩ := c42 (ext := ext) (d := 0) L D xt xs xp xu xc ht2 hc (by omega) hS 1 (by omega)
      have r55 : am_Rn ext (d + 1) 55 [.ref 20, .int (-1)] (I, L, D, am_rf (xt, xs, 11, xp, xu, xc)) (some (.int 0), (I1, L, D, am_rf (xt, xs, 11, xp, xu, xc))) := am_rn_of mh_55 rfl (w55_0 I L D xc xp xs xt xu _ ⟨fun z => absurd rfl z, fun _ => ⟨0, I1, L, D, am_up r1 (by omega), Or.inl rfl, rfl⟩⟩)
      exact ⟨_, I, L, D, am_up r47 (by omega), 0, I1, L, D, r55, fin (q1 op)⟩
end READ
