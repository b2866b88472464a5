/-! ===== the class's reader: parts ===== -/
theorem rd_x_no {s k i : Nat} (hk : k = 16 ∨ k = 17 ∨ k = 18 ∨ k = 19) (h : i < s) : rd_x s k i = false := by
  have hb : Nat.ble s i = false := by
    cases hb : Nat.ble s i with
    | false => rfl
    | true =>
      have := Nat.le_of_ble_eq_true hb
      omega
  unfold rd_x
  rcases hk with rfl | rfl | rfl | rfl <;> simp [hb]
theorem rd_cc_fr {e : pt_E} {T : tr_T} {q s s1 : Nat} {I I' : Nat → Nat → Int32} (hT : tr_ok e T q) (h : tr_cc (I 16) (I 17) (I 18) (I 19) T s) (hf : rd_fr s1 I I') (hs : s + tr_cz T ≤ s1) : tr_cc (I' 16) (I' 17) (I' 18) (I' 19) T s :=
  tr_cc_of T q hT s h (fun i h1 h2 => ⟨hf 16 i (rd_x_no (by omega) (by omega)), hf 17 i (rd_x_no (by omega) (by omega)), hf 18 i (rd_x_no (by omega) (by omega)), hf 19 i (rd_x_no (by omega) (by omega))⟩)
/-- a reading method does as fn says, with op brackets open -/
def rd_H (ext : Nat → List Value → am_M → Option am_R) (d : Nat) (L : Nat → Nat → Int64) (D : Nat → Nat → UInt64) (xt xs xp xu xc : Nat) (t : pt_K) (e : pt_E) (nl j : Nat) (as : List Value) (fn : Nat → Nat → Nat → pt_R) (op : Nat) : Prop := ∀ (c kn s : Nat) (I : Nat → Nat → Int32) (q : pt_Q), c < t.2 → kn ≤ 96 → s ≤ 3 * kn → rd_S t c kn op s I → rd_E e nl I → fn c kn op = some q → ∃ x I', am_Rn ext d j as (I, L, D, am_rf (xt, xs, 11, xp, xu, xc)) (some (.int x), (I', L, D, am_rf (xt, xs, 11, xp, xu, xc))) ∧ rd_R t op s I q x I'
def rd_G (t : pt_K) (e : pt_E) (fn : Nat → Nat → Nat → pt_R) (op : Nat) : Prop := ∀ c kn, c < t.2 → kn ≤ 96 → pt_g t e kn (fn c kn op)
theorem pt_b_some {r : pt_R} {g : Nat → Nat → tr_T → pt_R} {q : pt_Q} (h : pt_b r g = some q) : (∃ f, r = some (.inl f) ∧ q = .inl f) ∨ ∃ c k A, r = some (.inr (c, k, A)) ∧ g c k A = some q := by
  unfold pt_b at h
  split at h
  · cases h
  · next f => cases h; exact Or.inl ⟨f, rfl, rfl⟩
  · next p => exact Or.inr ⟨p.1, p.2.1, p.2.2, rfl, h⟩
theorem pt_n_some {t : pt_K} {c kn : Nat} {g : Nat → pt_R} {q : pt_Q} (h : pt_n t c kn g = some q) : (kn < 96 ∧ g (pt_adv t c) = some q) ∨ (¬ kn < 96 ∧ q = .inl (2, pt_p t c)) := by
  unfold pt_n at h
  split at h
  · next z => exact Or.inl ⟨z, h⟩
  · next z => cases h; exact Or.inr ⟨z, rfl⟩
theorem pt_o_some {t : pt_K} {c op : Nat} {g : Nat → pt_R} {q : pt_Q} (h : pt_o t c op g = some q) : (pt_k t c = 40 ∧ op < 8 ∧ g (pt_adv t c) = some q) ∨ (pt_k t c = 40 ∧ ¬ op < 8 ∧ q = .inl (2, pt_p t c)) ∨ (¬ pt_k t c = 40 ∧ q = .inl (1, pt_p t c)) := by
  unfold pt_o at h
  split at h
  · next z =>
    split at h
    · next z2 => exact Or.inl ⟨z, z2, h⟩
    · next z2 => cases h; exact Or.inr (Or.inl ⟨z, z2, rfl⟩)
  · next z => cases h; exact Or.inr (Or.inr ⟨z, rfl⟩)
theorem pt_x_some {t : pt_K} {w : Int32} {c : Nat} {g : Nat → pt_R} {q : pt_Q} (h : pt_x t w c g = some q) : (pt_k t c = w ∧ g (pt_adv t c) = some q) ∨ (¬ pt_k t c = w ∧ q = .inl (1, pt_p t c)) := by
  unfold pt_x at h
  split at h
  · next z => exact Or.inl ⟨z, h⟩
  · next z => cases h; exact Or.inr ⟨z, rfl⟩
theorem rd_R_r {t : pt_K} {op s c k : Nat} {T : tr_T} {x : Int32} {I I' : Nat → Nat → Int32} (h : rd_R t op s I (.inr (c, k, T)) x I') : rd_fr s I I' ∧ x = 1 ∧ rd_S t c k op (s + tr_cz T) I' ∧ tr_cc (I' 16) (I' 17) (I' 18) (I' 19) T s := h
section READ
variable {ext : Nat → List Value → am_M → Option am_R} {d : Nat} (L : Nat → Nat → Int64) (D : Nat → Nat → UInt64) (xt xs xp xu xc : Nat) {t : pt_K} {e : pt_E} {nl : Nat} {sum : Nat → Nat → Nat → pt_R} {c kn op s : Nat} {I : Nat → Nat → Int32} {q : pt_Q}
/-- one code behind a tree -/
theorem rd_1 {p : tr_P} {A : tr_T} {sq s0 : Nat} {I0 I1 : Nat → Nat → Int32} {a : Int32} (hA : tr_ok e A sq) (hcc : tr_cc (I0 16) (I0 17) (I0 18) (I0 19) A s0) (hS : rd_S t c kn op (s0 + tr_cz A) I1) (hf0 : rd_fr s0 I I0) (hf : rd_fr (s0 + tr_cz A) I0 I1) (ha : a = tr_ar p) :
    rd_R t op s0 I (.inr (c, kn, tr_1 p A)) 1 (am_uI (am_uI (am_uI (am_uI (am_uI I1 16 (s0 + tr_cz A) (tr_op p)) 17 (s0 + tr_cz A) a) 18 (s0 + tr_cz A) 0) 19 (s0 + tr_cz A) 0) 11 8 (nI (s0 + tr_cz A + 1))) := by
  obtain ⟨s5, f5⟩ := rd_S_add hS (tr_op p) a 0 0
  have f6 := rd_fr_t hf f5 (Nat.le_refl _)
  have ez : s0 + tr_cz (tr_1 p A) = s0 + tr_cz A + 1 := by simp [tr_cz]; omega
  refine ⟨rd_fr_t hf0 f6 (by omega), rfl, ?_, ?_⟩
  · show rd_S t c kn op (s0 + tr_cz (tr_1 p A)) _
    rw [ez]
    exact s5
  · refine ⟨rd_cc_fr hA hcc f6 (Nat.le_refl _), ?_, ?_⟩
    · simp [am_uI_at]
    · simp [am_uI_at, ha]
/-- a leaf's code -/
theorem rd_0 {p : tr_P} {I1 : Nat → Nat → Int32} (hS : rd_S t c kn op s I1) (hf : rd_fr s I I1) (h1 : p.2.2.2.2.1 = 0) (h2 : p.2.2.2.2.2 = 0) :
    rd_R t op s I (.inr (c, kn, .leaf p)) 1 (am_uI (am_uI (am_uI (am_uI (am_uI I1 16 s (tr_op p)) 17 s (tr_ar p)) 18 s 0) 19 s 0) 11 8 (nI (s + 1))) := by
  obtain ⟨s5, f5⟩ := rd_S_add hS (tr_op p) (tr_ar p) 0 0
  refine ⟨rd_fr_t hf f5 (Nat.le_refl _), rfl, s5, ?_⟩
  refine ⟨?_, ?_, ?_, ?_⟩
  · simp [am_uI_at]
  · simp [am_uI_at]
  · simp [am_uI_at, h1]
  · simp [am_uI_at, h2]
/-- ofOne -/
theorem c52 (hd : 3 ≤ d) (ht : pt_tk t) (hc : c < t.2) (hk : kn ≤ 96) (ho : op ≤ 8) (hs : s ≤ 3 * kn) (hS : rd_S t c kn op s I) (hE : rd_E e nl I) (kd nu ln : Nat) (ha : tr_ar (kn, kd, nu, ln, 0, 0) = 0)
    (IH : op < 8 → rd_H ext d L D xt xs xp xu xc t e nl 44 [.ref 20, .int 0] sum (op + 1)) (hg : op < 8 → rd_G t e sum (op + 1)) (hq : pt_one t sum kd nu ln c kn op = some q) :
    ∃ x I', am_Rn ext (d + 1) 52 [.ref 20, .int (tr_op (kn, kd, nu, ln, 0, 0))] (I, L, D, am_rf (xt, xs, 11, xp, xu, xc)) (some (.int x), (I', L, D, am_rf (xt, xs, 11, xp, xu, xc))) ∧ rd_R t op s I q x I' := by
  have ht2 := ht.2.1
  rcases pt_n_some hq with ⟨hk9, hq⟩ | ⟨hk9, rfl⟩
  · obtain ⟨I1, r1, s1, f1⟩ := (c48 (ext := ext) (d := 0) L D xt xs xp xu xc ht2 hc (by omega) hk hS).1 hk9
    have hc1 := pt_adv_lt hc
    rcases pt_o_some hq with ⟨h40, h8, hq⟩ | ⟨h40, h8, rfl⟩ | ⟨h40, rfl⟩
    · obtain ⟨I2, r2, s2, f2⟩ := (c57 (ext := ext) (d := 0) L D xt xs xp xu xc ht2 hc1 (by omega) ho s1).1 h40 h8
      have hc2 := pt_adv_lt hc1
      have f12 := rd_fr_t f1 f2 (Nat.le_refl _)
      rcases pt_b_some hq with ⟨f, hr, rfl⟩ | ⟨c3, k3, A, hr, hq2⟩
      · obtain ⟨x3, I3, r3, q3⟩ := IH h8 _ _ s I2 _ hc2 (by omega) (by omega) s2 (rd_E_fr hE f12) hr
        obtain ⟨y, I4, r4, q4⟩ := c36_f (ext := ext) (d := 0) L D xt xs xp xu xc (tr_op (kn, kd, nu, ln, 0, 0)) 0 (rd_R_f (op := op) f12 (Nat.le_refl _) q3)
        obtain rfl := q3.2.1
        exact ⟨0, I4, am_rn_of mh_52 rfl (w52_0 I L D xc xp xs xt xu _ ⟨1, I1, L, D, am_up r1 (by omega), fun z => absurd z (by decide), fun _ => ⟨1, I2, L, D, am_up r2 (by omega), fun z => absurd z (by decide), fun _ => ⟨0, I3, L, D, r3, fun _ => ⟨y, I4, L, D, am_up r4 (by omega), rfl⟩, fun z => absurd rfl z⟩⟩⟩), q4 op⟩
      · obtain ⟨x3, I3, r3, q3⟩ := IH h8 _ _ s I2 _ hc2 (by omega) (by omega) s2 (rd_E_fr hE f12) hr
        obtain ⟨g1, g2, g3, g4⟩ := hg h8 _ _ hc2 (by omega) _ _ _ hr
        have hz := tr_cz_le e A _ g4
        obtain ⟨f3, rfl, s3, k3'⟩ := rd_R_r q3
        have f123 := rd_fr_t f12 f3 (Nat.le_refl _)
        rcases pt_x_some hq2 with ⟨h41, hq2⟩ | ⟨h41, rfl⟩
        · cases hq2
          obtain ⟨I4, r4, s4, f4⟩ := (c58 (ext := ext) (d := 0) L D xt xs xp xu xc ht2 g1 (by omega) h8 s3).1 h41
          have r5 := c36 (ext := ext) (d := 0) L D (xt, xs, 11, xp, xu, xc) (tr_op (kn, kd, nu, ln, 0, 0)) 0 (s := s + tr_cz A) (rd_S_c (I' := I) s4).2.2.2.2 (by omega)
          exact ⟨1, _, am_rn_of mh_52 rfl (w52_0 I L D xc xp xs xt xu _ ⟨1, I1, L, D, am_up r1 (by omega), fun z => absurd z (by decide), fun _ => ⟨1, I2, L, D, am_up r2 (by omega), fun z => absurd z (by decide), fun _ => ⟨1, I3, L, D, r3, fun z => absurd z (by decide), fun _ => ⟨1, I4, L, D, am_up r4 (by omega), fun z => absurd z (by decide), fun _ => ⟨_, _, L, D, am_up r5 (by omega), rfl⟩⟩⟩⟩⟩), rd_1 g4 k3' s4 f123 f4 ha.symm⟩
        · obtain ⟨I4, r4, q4⟩ := (c58 (ext := ext) (d := 0) L D xt xs xp xu xc ht2 g1 (by omega) h8 s3).2 h41
          obtain ⟨y, I5, r5, q5⟩ := c36_f (ext := ext) (d := 0) L D xt xs xp xu xc (tr_op (kn, kd, nu, ln, 0, 0)) 0 (rd_R_f (op := op) f123 (by omega) (q4 op))
          exact ⟨0, I5, am_rn_of mh_52 rfl (w52_0 I L D xc xp xs xt xu _ ⟨1, I1, L, D, am_up r1 (by omega), fun z => absurd z (by decide), fun _ => ⟨1, I2, L, D, am_up r2 (by omega), fun z => absurd z (by decide), fun _ => ⟨1, I3, L, D, r3, fun z => absurd z (by decide), fun _ => ⟨0, I4, L, D, am_up r4 (by omega), fun _ => ⟨y, I5, L, D, am_up r5 (by omega), rfl⟩, fun z => absurd rfl z⟩⟩⟩⟩), q5 op⟩
    · obtain ⟨I2, r2, q2⟩ := (c57 (ext := ext) (d := 0) L D xt xs xp xu xc ht2 hc1 (by omega) ho s1).2.1 h40 h8
      obtain ⟨y, I3, r3, q3⟩ := c36_f (ext := ext) (d := 0) L D xt xs xp xu xc (tr_op (kn, kd, nu, ln, 0, 0)) 0 (rd_R_f (op := op) f1 (Nat.le_refl _) (q2 op))
      exact ⟨0, I3, am_rn_of mh_52 rfl (w52_0 I L D xc xp xs xt xu _ ⟨1, I1, L, D, am_up r1 (by omega), fun z => absurd z (by decide), fun _ => ⟨0, I2, L, D, am_up r2 (by omega), fun _ => ⟨y, I3, L, D, am_up r3 (by omega), rfl⟩, fun z => absurd rfl z⟩⟩), q3 op⟩
    · obtain ⟨I2, r2, q2⟩ := (c57 (ext := ext) (d := 0) L D xt xs xp xu xc ht2 hc1 (by omega) ho s1).2.2 h40
      obtain ⟨y, I3, r3, q3⟩ := c36_f (ext := ext) (d := 0) L D xt xs xp xu xc (tr_op (kn, kd, nu, ln, 0, 0)) 0 (rd_R_f (op := op) f1 (Nat.le_refl _) (q2 op))
      exact ⟨0, I3, am_rn_of mh_52 rfl (w52_0 I L D xc xp xs xt xu _ ⟨1, I1, L, D, am_up r1 (by omega), fun z => absurd z (by decide), fun _ => ⟨0, I2, L, D, am_up r2 (by omega), fun _ => ⟨y, I3, L, D, am_up r3 (by omega), rfl⟩, fun z => absurd rfl z⟩⟩), q3 op⟩
  · obtain ⟨I1, r1, q1⟩ := (c48 (ext := ext) (d := 0) L D xt xs xp xu xc ht2 hc (by omega) hk hS).2 hk9
    obtain ⟨y, I3, r3, q3⟩ := c36_f (ext := ext) (d := 0) L D xt xs xp xu xc (tr_op (kn, kd, nu, ln, 0, 0)) 0 (q1 op)
    exact ⟨0, I3, am_rn_of mh_52 rfl (w52_0 I L D xc xp xs xt xu _ ⟨0, I1, L, D, am_up r1 (by omega), fun _ => ⟨y, I3, L, D, am_up r3 (by omega), rfl⟩, fun z => absurd rfl z⟩), q3 op⟩
end READ
