/-! ===== the class's reader: what its methods do ===== -/
/-- what reading may write, code from s on -/
def rd_x (s a b : Nat) : Bool := (a == 20 && (b == 2 || b == 3 || b == 4 || b == 5 || b == 7 || b == 8 || b == 9)) || ((a == 11 && (b == 8 || b == 12)) || ((a == 16 || a == 17 || a == 18 || a == 19) && Nat.ble s b))
def rd_fr (s : Nat) (I I' : Nat → Nat → Int32) : Prop := ∀ a b, rd_x s a b = false → I' a b = I a b
theorem rd_fr_0 (s : Nat) (I : Nat → Nat → Int32) : rd_fr s I I := fun _ _ _ => rfl
theorem rd_x_le {s s' a b : Nat} (h : s ≤ s') (hx : rd_x s a b = false) : rd_x s' a b = false := by
  unfold rd_x at hx ⊢
  rw [Bool.or_eq_false_iff, Bool.or_eq_false_iff] at hx ⊢
  refine ⟨hx.1, hx.2.1, ?_⟩
  have hz := hx.2.2
  rw [Bool.and_eq_false_iff] at hz ⊢
  rcases hz with z | z
  · exact Or.inl z
  · refine Or.inr ?_
    cases hb : Nat.ble s' b with
    | false => rfl
    | true =>
      have h1 := Nat.le_of_ble_eq_true hb
      rw [Nat.ble_eq_true_of_le (Nat.le_trans h h1)] at z
      cases z
theorem rd_fr_t {s s' : Nat} {I I1 I2 : Nat → Nat → Int32} (h1 : rd_fr s I I1) (h2 : rd_fr s' I1 I2) (h : s ≤ s') : rd_fr s I I2 := fun a b hx => (h2 a b (rd_x_le h hx)).trans (h1 a b hx)
theorem rd_fr_u {s k j : Nat} {x : Int32} {I I1 : Nat → Nat → Int32} (h : rd_fr s I I1) (hx : rd_x s k j = true) : rd_fr s I (am_uI I1 k j x) := by
  intro a b hab
  rw [am_uI_at, if_neg]
  · exact h a b hab
  · rintro ⟨rfl, rfl⟩
    rw [hx] at hab
    cases hab
theorem rd_x_code {s k i : Nat} (hk : k = 16 ∨ k = 17 ∨ k = 18 ∨ k = 19) (h : s ≤ i) : rd_x s k i = true := by
  unfold rd_x
  rcases hk with rfl | rfl | rfl | rfl <;> simp [Nat.ble_eq_true_of_le h]
/-- the state of the reading: at token c, so many knots, brackets open, codes -/
def rd_S (t : pt_K) (c kn op s : Nat) (I : Nat → Nat → Int32) : Prop := ((I 21 3 = nI t.2 ∧ I 20 8 = 0 ∧ I 20 9 = -1) ∧ ∀ i, i < t.2 → I 22 i = pt_k t i ∧ I 23 i = pt_p t i ∧ I 24 i = pt_v t i) ∧ I 20 2 = nI (c + 1) ∧ I 20 3 = pt_k t c ∧ I 20 4 = pt_v t c ∧ I 20 5 = nI op ∧ I 11 12 = nI kn ∧ I 11 8 = nI s
/-- what is told ahead: so many lines -/
def rd_E (e : pt_E) (nl : Nat) (I : Nat → Nat → Int32) : Prop := I 20 6 = (if e.1 = true then 1 else 0) ∧ I 11 9 = nI nl ∧ nl ≤ 18 ∧ ∀ l, l < 26 → (e.2.1 l = 0 → I 12 l = -1) ∧ (¬ e.2.1 l = 0 → e.2.2 l < nl ∧ I 12 l = nI (e.2.2 l) ∧ I 13 (e.2.2 l) = (if e.2.1 l = 2 then 1 else 0))
theorem rd_E_fr {e : pt_E} {nl s : Nat} {I I' : Nat → Nat → Int32} (h : rd_E e nl I) (hf : rd_fr s I I') : rd_E e nl I' := by
  obtain ⟨h1, h2, h3, h4⟩ := h
  refine ⟨by rw [hf 20 6 rfl]; exact h1, by rw [hf 11 9 rfl]; exact h2, h3, fun l hl => ?_⟩
  rw [hf 12 l rfl, hf 13 (e.2.2 l) rfl]
  exact h4 l hl
abbrev pt_Q : Type := (Nat × Int32) ⊕ (Nat × Nat × tr_T)
def rd_R (t : pt_K) (op s : Nat) (I : Nat → Nat → Int32) (r : pt_Q) (x : Int32) (I' : Nat → Nat → Int32) : Prop := rd_fr s I I' ∧ match r with
  | .inl f => x = 0 ∧ I' 20 8 = nI f.1 ∧ I' 20 9 = f.2 ∧ ∃ s', s ≤ s' ∧ s' ≤ 288 ∧ I' 11 8 = nI s'
  | .inr q => x = 1 ∧ rd_S t q.1 q.2.1 op (s + tr_cz q.2.2) I' ∧ tr_cc (I' 16) (I' 17) (I' 18) (I' 19) q.2.2 s
/-- a fault of a part is a fault of the whole -/
theorem rd_R_f {t : pt_K} {op op' s s1 : Nat} {I I1 I2 : Nat → Nat → Int32} {f : Nat × Int32} {x : Int32} (hf : rd_fr s I I1) (hs : s ≤ s1) (h : rd_R t op' s1 I1 (.inl f) x I2) : rd_R t op s I (.inl f) x I2 := by
  obtain ⟨h1, h2, h3, h4, s', h5, h6, h7⟩ := h
  exact ⟨rd_fr_t hf h1 hs, h2, h3, h4, s', Nat.le_trans hs h5, h6, h7⟩
section READ
variable {ext : Nat → List Value → am_M → Option am_R} {d : Nat} (L : Nat → Nat → Int64) (D : Nat → Nat → UInt64) (xt xs xp xu xc : Nat) {t : pt_K} {c kn op s : Nat} {I : Nat → Nat → Int32}
/-- advance -/
theorem c41 (ht : t.2 ≤ 501) (hc : c < t.2) (h : rd_S t c kn op s I) : ∃ I', am_Rn ext (d + 1) 41 [.ref 20] (I, L, D, am_rf (xt, xs, 11, xp, xu, xc)) (none, (I', L, D, am_rf (xt, xs, 11, xp, xu, xc))) ∧ rd_S t (pt_adv t c) kn op s I' ∧ rd_fr s I I' ∧ I' 20 7 = I 20 7 := by
  obtain ⟨⟨h1, h2⟩, h3, h4, h5, h6, h7, h8⟩ := h
  by_cases hl : c + 1 < t.2
  · have e1 : (I 20 2).toNatClampNeg = c + 1 := by rw [h3, ni_nat (by omega)]
    have e2 : I 20 2 + 1 = nI (c + 1 + 1) := by rw [h3, show (1 : Int32) = nI 1 from rfl, ni_add (by omega)]
    refine ⟨_, am_rn_of mh_41 rfl (w41_0 I L D (xt, xs, 11, xp, xu, xc) ⟨fun z => absurd z ?_, fun _ => ⟨?_, ?_, rfl⟩⟩), ?_, ?_, ?_⟩
    · rw [h1.1, h3, ni_le (by omega) (by omega)]
      omega
    · rw [h3]
      exact ni_inb (by omega) (by omega)
    · rw [h3]
      exact ni_inb (by omega) (by omega)
    · obtain ⟨k1, k2, k3⟩ := h2 _ hl
      have e3 : pt_adv t c = c + 1 := by simp [pt_adv, hl]
      rw [e1, e2, e3]
      refine ⟨⟨by simp [am_uI_at, h1], fun i hi => ?_⟩, ?_, ?_, ?_, ?_, ?_, ?_⟩
      · simp only [am_uI_at]
        simpa using h2 i hi
      · simp [am_uI_at]
      · simp [am_uI_at, k1]
      · simp [am_uI_at, k3]
      · simp [am_uI_at, h6]
      · simp [am_uI_at, h7]
      · simp [am_uI_at, h8]
    · exact rd_fr_u (rd_fr_u (rd_fr_u (rd_fr_0 s I) rfl) rfl) rfl
    · simp [am_uI_at]
  · have e3 : pt_adv t c = c := by simp [pt_adv, hl]
    rw [e3]
    refine ⟨I, am_rn_of mh_41 rfl (w41_0 I L D (xt, xs, 11, xp, xu, xc) ⟨fun _ => rfl, fun z => absurd ?_ z⟩), ⟨⟨h1, h2⟩, h3, h4, h5, h6, h7, h8⟩, rd_fr_0 s I, rfl⟩
    rw [h1.1, h3, ni_le (by omega) (by omega)]
    omega
/-- fail -/
theorem c42 (ht : t.2 ≤ 501) (hc : c < t.2) (hs : s ≤ 288) (h : rd_S t c kn op s I) (k : Nat) (hk : k < 4) : ∃ I', am_Rn ext (d + 1) 42 [.ref 20, .int (nI k)] (I, L, D, am_rf (xt, xs, 11, xp, xu, xc)) (some (.int 0), (I', L, D, am_rf (xt, xs, 11, xp, xu, xc))) ∧ ∀ op', rd_R t op' s I (.inl (k, pt_p t c)) 0 I' := by
  obtain ⟨⟨h1, h2⟩, h3, h4, h5, h6, h7, h8⟩ := h
  have e1 : I 20 2 - 1 = nI c := by rw [h3, show (1 : Int32) = nI 1 from rfl, ni_sub (by omega) (by omega)]; rfl
  refine ⟨_, am_rn_of mh_42 rfl (w42_0 I L D (xt, xs, 11, xp, xu, xc) (nI k) ⟨fun z => absurd z ?_, fun _ => ⟨fun z => absurd z ?_, fun _ => ⟨?_, rfl⟩⟩⟩), fun op' => ⟨?_, rfl, ?_, ?_, s, Nat.le_refl _, hs, ?_⟩⟩
  · rw [h3, show (1 : Int32) = nI 1 from rfl, ni_lt (by omega) (by omega)]
    omega
  · rw [h1.1, h3, ni_lt (by omega) (by omega)]
    omega
  · rw [e1]
    exact ni_inb (by omega) (by omega)
  · exact rd_fr_u (rd_fr_u (rd_fr_0 s I) rfl) rfl
  · simp [am_uI_at]
  · rw [e1, ni_nat (by omega)]
    simp [am_uI_at, (h2 c hc).2.1]
  · simp [am_uI_at, h8]
theorem rd_S_c {I' : Nat → Nat → Int32} (h : rd_S t c kn op s I) : I 20 3 = pt_k t c ∧ I 20 4 = pt_v t c ∧ I 20 5 = nI op ∧ I 11 12 = nI kn ∧ I 11 8 = nI s := ⟨h.2.2.1, h.2.2.2.1, h.2.2.2.2.1, h.2.2.2.2.2.1, h.2.2.2.2.2.2⟩
/-- expect -/
theorem c59 (ht : t.2 ≤ 501) (hc : c < t.2) (hs : s ≤ 288) (h : rd_S t c kn op s I) (w : Int32) :
    (pt_k t c = w → ∃ I', am_Rn ext (d + 2) 59 [.ref 20, .int w] (I, L, D, am_rf (xt, xs, 11, xp, xu, xc)) (some (.int 1), (I', L, D, am_rf (xt, xs, 11, xp, xu, xc))) ∧ rd_S t (pt_adv t c) kn op s I' ∧ rd_fr s I I' ∧ I' 20 7 = I 20 7) ∧
    (¬ pt_k t c = w → ∃ I', am_Rn ext (d + 2) 59 [.ref 20, .int w] (I, L, D, am_rf (xt, xs, 11, xp, xu, xc)) (some (.int 0), (I', L, D, am_rf (xt, xs, 11, xp, xu, xc))) ∧ ∀ op', rd_R t op' s I (.inl (1, pt_p t c)) 0 I') := by
  have hk := h.2.2.1
  constructor
  · intro hw
    obtain ⟨I', r, q⟩ := c41 (ext := ext) (d := d) L D xt xs xp xu xc ht hc h
    exact ⟨I', am_rn_of mh_59 rfl (w59_0 I L D (xt, xs, 11, xp, xu, xc) w ⟨fun _ => ⟨_, _, _, r, rfl⟩, fun z => absurd (hk.trans hw) z⟩), q⟩
  · intro hw
    obtain ⟨I', r, q⟩ := c42 (ext := ext) (d := d) L D xt xs xp xu xc ht hc hs h 1 (by omega)
    exact ⟨I', am_rn_of mh_59 rfl (w59_0 I L D (xt, xs, 11, xp, xu, xc) w ⟨fun z => absurd (hk.symm.trans z) hw, fun _ => ⟨_, _, _, _, r, Or.inl rfl, rfl⟩⟩), q⟩
/-- openBracket -/
theorem c57 (ht : t.2 ≤ 501) (hc : c < t.2) (hs : s ≤ 288) (ho : op ≤ 8) (h : rd_S t c kn op s I) :
    (pt_k t c = 40 → op < 8 → ∃ I', am_Rn ext (d + 2) 57 [.ref 20] (I, L, D, am_rf (xt, xs, 11, xp, xu, xc)) (some (.int 1), (I', L, D, am_rf (xt, xs, 11, xp, xu, xc))) ∧ rd_S t (pt_adv t c) kn (op + 1) s I' ∧ rd_fr s I I') ∧
    (pt_k t c = 40 → ¬ op < 8 → ∃ I', am_Rn ext (d + 2) 57 [.ref 20] (I, L, D, am_rf (xt, xs, 11, xp, xu, xc)) (some (.int 0), (I', L, D, am_rf (xt, xs, 11, xp, xu, xc))) ∧ ∀ op', rd_R t op' s I (.inl (2, pt_p t c)) 0 I') ∧
    (¬ pt_k t c = 40 → ∃ I', am_Rn ext (d + 2) 57 [.ref 20] (I, L, D, am_rf (xt, xs, 11, xp, xu, xc)) (some (.int 0), (I', L, D, am_rf (xt, xs, 11, xp, xu, xc))) ∧ ∀ op', rd_R t op' s I (.inl (1, pt_p t c)) 0 I') := by
  obtain ⟨g1, g2, g3, g4, g5⟩ := rd_S_c (I' := I) h
  have e8 : I 20 5 < 8 ↔ op < 8 := by rw [g3, show (8 : Int32) = nI 8 from rfl, ni_lt (by omega) (by omega)]
  refine ⟨fun hw h8 => ?_, fun hw h8 => ?_, fun hw => ?_⟩
  · have h' : rd_S t c kn (op + 1) s (am_uI I 20 5 (I 20 5 + 1)) := by
      obtain ⟨⟨h1, h2⟩, h3, h4, h5, h6, h7, h8⟩ := h
      refine ⟨⟨by simp [am_uI_at, h1], fun i hi => by simpa [am_uI_at] using h2 i hi⟩, by simp [am_uI_at, h3], by simp [am_uI_at, h4], by simp [am_uI_at, h5], ?_, by simp [am_uI_at, h7], by simp [am_uI_at, h8]⟩
      rw [am_uI_at, if_pos ⟨rfl, rfl⟩, h6, show (1 : Int32) = nI 1 from rfl, ni_add (by omega)]
    obtain ⟨I', r, q1, q2, _⟩ := c41 (ext := ext) (d := d) L D xt xs xp xu xc ht hc h'
    exact ⟨I', am_rn_of mh_57 rfl (w57_0 I L D (xt, xs, 11, xp, xu, xc) ⟨fun _ => ⟨fun _ => ⟨_, _, _, r, rfl⟩, fun z => absurd (e8.mpr h8) z⟩, fun z => absurd (g1.trans hw) z⟩), q1, rd_fr_t (rd_fr_u (rd_fr_0 s I) rfl) q2 (Nat.le_refl _)⟩
  · obtain ⟨I', r, q⟩ := c42 (ext := ext) (d := d) L D xt xs xp xu xc ht hc hs h 2 (by omega)
    exact ⟨I', am_rn_of mh_57 rfl (w57_0 I L D (xt, xs, 11, xp, xu, xc) ⟨fun _ => ⟨fun z => absurd (e8.mp z) h8, fun _ => ⟨_, _, _, _, r, Or.inl rfl, rfl⟩⟩, fun z => absurd (g1.trans hw) z⟩), q⟩
  · obtain ⟨I', r, q⟩ := c42 (ext := ext) (d := d) L D xt xs xp xu xc ht hc hs h 1 (by omega)
    exact ⟨I', am_rn_of mh_57 rfl (w57_0 I L D (xt, xs, 11, xp, xu, xc) ⟨fun z => absurd (g1.symm.trans z) hw, fun _ => ⟨_, _, _, _, r, Or.inl rfl, rfl⟩⟩), q⟩
/-- closeBracket -/
theorem c58 (ht : t.2 ≤ 501) (hc : c < t.2) (hs : s ≤ 288) (ho : op < 8) (h : rd_S t c kn (op + 1) s I) :
    (pt_k t c = 41 → ∃ I', am_Rn ext (d + 2) 58 [.ref 20] (I, L, D, am_rf (xt, xs, 11, xp, xu, xc)) (some (.int 1), (I', L, D, am_rf (xt, xs, 11, xp, xu, xc))) ∧ rd_S t (pt_adv t c) kn op s I' ∧ rd_fr s I I') ∧
    (¬ pt_k t c = 41 → ∃ I', am_Rn ext (d + 2) 58 [.ref 20] (I, L, D, am_rf (xt, xs, 11, xp, xu, xc)) (some (.int 0), (I', L, D, am_rf (xt, xs, 11, xp, xu, xc))) ∧ ∀ op', rd_R t op' s I (.inl (1, pt_p t c)) 0 I') := by
  obtain ⟨g1, g2, g3, g4, g5⟩ := rd_S_c (I' := I) h
  refine ⟨fun hw => ?_, fun hw => ?_⟩
  · have h' : rd_S t c kn op s (am_uI I 20 5 (I 20 5 - 1)) := by
      obtain ⟨⟨h1, h2⟩, h3, h4, h5, h6, h7, h8⟩ := h
      refine ⟨⟨by simp [am_uI_at, h1], fun i hi => by simpa [am_uI_at] using h2 i hi⟩, by simp [am_uI_at, h3], by simp [am_uI_at, h4], by simp [am_uI_at, h5], ?_, by simp [am_uI_at, h7], by simp [am_uI_at, h8]⟩
      rw [am_uI_at, if_pos ⟨rfl, rfl⟩, h6, show (1 : Int32) = nI 1 from rfl, ni_sub (by omega) (by omega)]
      rfl
    obtain ⟨I', r, q1, q2, _⟩ := c41 (ext := ext) (d := d) L D xt xs xp xu xc ht hc h'
    exact ⟨I', am_rn_of mh_58 rfl (w58_0 I L D (xt, xs, 11, xp, xu, xc) ⟨fun _ => ⟨_, _, _, r, rfl⟩, fun z => absurd (g1.trans hw) z⟩), q1, rd_fr_t (rd_fr_u (rd_fr_0 s I) rfl) q2 (Nat.le_refl _)⟩
  · obtain ⟨I', r, q⟩ := c42 (ext := ext) (d := d) L D xt xs xp xu xc ht hc hs h 1 (by omega)
    exact ⟨I', am_rn_of mh_58 rfl (w58_0 I L D (xt, xs, 11, xp, xu, xc) ⟨fun z => absurd (g1.symm.trans z) hw, fun _ => ⟨_, _, _, _, r, Or.inl rfl, rfl⟩⟩), q⟩
/-- knot -/
theorem c48 (ht : t.2 ≤ 501) (hc : c < t.2) (hs : s ≤ 288) (hk : kn ≤ 96) (h : rd_S t c kn op s I) :
    (kn < 96 → ∃ I', am_Rn ext (d + 2) 48 [.ref 20] (I, L, D, am_rf (xt, xs, 11, xp, xu, xc)) (some (.int 1), (I', L, D, am_rf (xt, xs, 11, xp, xu, xc))) ∧ rd_S t (pt_adv t c) (kn + 1) op s I' ∧ rd_fr s I I') ∧
    (¬ kn < 96 → ∃ I', am_Rn ext (d + 2) 48 [.ref 20] (I, L, D, am_rf (xt, xs, 11, xp, xu, xc)) (some (.int 0), (I', L, D, am_rf (xt, xs, 11, xp, xu, xc))) ∧ ∀ op', rd_R t op' s I (.inl (2, pt_p t c)) 0 I') := by
  obtain ⟨g1, g2, g3, g4, g5⟩ := rd_S_c (I' := I) h
  have e8 : I 11 12 < 96 ↔ kn < 96 := by rw [g4, show (96 : Int32) = nI 96 from rfl, ni_lt (by omega) (by omega)]
  refine ⟨fun hw => ?_, fun hw => ?_⟩
  · have h' : rd_S t c (kn + 1) op s (am_uI I 11 12 (I 11 12 + 1)) := by
      obtain ⟨⟨h1, h2⟩, h3, h4, h5, h6, h7, h8⟩ := h
      refine ⟨⟨by simp [am_uI_at, h1], fun i hi => by simpa [am_uI_at] using h2 i hi⟩, by simp [am_uI_at, h3], by simp [am_uI_at, h4], by simp [am_uI_at, h5], by simp [am_uI_at, h6], ?_, by simp [am_uI_at, h8]⟩
      rw [am_uI_at, if_pos ⟨rfl, rfl⟩, h7, show (1 : Int32) = nI 1 from rfl, ni_add (by omega)]
    obtain ⟨I', r, q1, q2, _⟩ := c41 (ext := ext) (d := d) L D xt xs xp xu xc ht hc h'
    exact ⟨I', am_rn_of mh_48 rfl (w48_0 I L D xc xp xs xt xu ⟨fun _ => ⟨_, _, _, r, rfl⟩, fun z => absurd (e8.mpr hw) z⟩), q1, rd_fr_t (rd_fr_u (rd_fr_0 s I) rfl) q2 (Nat.le_refl _)⟩
  · obtain ⟨I', r, q⟩ := c42 (ext := ext) (d := d) L D xt xs xp xu xc ht hc hs h 2 (by omega)
    exact ⟨I', am_rn_of mh_48 rfl (w48_0 I L D xc xp xs xt xu ⟨fun z => absurd (e8.mp z) hw, fun _ => ⟨_, _, _, _, r, Or.inl rfl, rfl⟩⟩), q⟩
/-- addOver, where there is room -/
theorem c37 (X : am_Rf) (o a f u : Int32) (h : I 11 8 = nI s) (hs : s < 288) : am_Rn ext (d + 1) 37 [.ref 11, .int o, .int a, .int f, .int u] (I, L, D, am_rf X) (some (.int (nI s)), (am_uI (am_uI (am_uI (am_uI (am_uI I 16 s o) 17 s a) 18 s f) 19 s u) 11 8 (nI (s + 1)), L, D, am_rf X)) := by
  have e1 : (I 11 8).toNatClampNeg = s := by rw [h, ni_nat (by omega)]
  have e2 : I 11 8 + 1 = nI (s + 1) := by rw [h, show (1 : Int32) = nI 1 from rfl, ni_add (by omega)]
  have hi : am_inb (I 11 8) 288 = true := by rw [h]; exact ni_inb hs (by omega)
  refine am_rn_of mh_37 rfl (w37_0_11 I L D X o a f u ⟨fun z => absurd z ?_, fun _ => ⟨hi, hi, hi, hi, ?_⟩⟩)
  · rw [h, show (288 : Int32) = nI 288 from rfl, ni_le (by omega) (by omega)]
    omega
  · rw [e1, e2, h]
theorem c36 (X : am_Rf) (o a : Int32) (h : I 11 8 = nI s) (hs : s < 288) : am_Rn ext (d + 2) 36 [.ref 11, .int o, .int a] (I, L, D, am_rf X) (some (.int (nI s)), (am_uI (am_uI (am_uI (am_uI (am_uI I 16 s o) 17 s a) 18 s 0) 19 s 0) 11 8 (nI (s + 1)), L, D, am_rf X)) :=
  am_rn_of mh_36 rfl (w36_0_11 I L D X o a ⟨_, _, _, _, c37 L D X o a 0 0 h hs, rfl⟩)
/-- add behind a fault: whatever room there is -/
theorem c36_f {I0 : Nat → Nat → Int32} {s0 : Nat} {f : Nat × Int32} {x : Int32} (o a : Int32) (h : rd_R t op s0 I0 (.inl f) x I) : ∃ y I', am_Rn ext (d + 2) 36 [.ref 11, .int o, .int a] (I, L, D, am_rf (xt, xs, 11, xp, xu, xc)) (some (.int y), (I', L, D, am_rf (xt, xs, 11, xp, xu, xc))) ∧ ∀ op', rd_R t op' s0 I0 (.inl f) 0 I' := by
  obtain ⟨h1, h2, h3, h4, s', h5, h6, h7⟩ := h
  by_cases hs : s' < 288
  · refine ⟨_, _, c36 L D (xt, xs, 11, xp, xu, xc) o a h7 hs, fun op' => ⟨?_, rfl, ?_, ?_, s' + 1, by omega, by omega, ?_⟩⟩
    · exact rd_fr_u (rd_fr_u (rd_fr_u (rd_fr_u (rd_fr_u h1 (rd_x_code (by omega) h5)) (rd_x_code (by omega) h5)) (rd_x_code (by omega) h5)) (rd_x_code (by omega) h5)) rfl
    · simp [am_uI_at, h3]
    · simp [am_uI_at, h4]
    · simp [am_uI_at]
  · have e : s' = 288 := by omega
    subst e
    have r : am_Rn ext (d + 1) 37 [.ref 11, .int o, .int a, .int 0, .int 0] (I, L, D, am_rf (xt, xs, 11, xp, xu, xc)) (some (.int (I 11 8)), (I, L, D, am_rf (xt, xs, 11, xp, xu, xc))) := by
      refine am_rn_of mh_37 rfl (w37_0_11 I L D (xt, xs, 11, xp, xu, xc) o a 0 0 ⟨fun _ => rfl, fun z => absurd ?_ z⟩)
      rw [h7]
      decide
    exact ⟨_, I, am_rn_of mh_36 rfl (w36_0_11 I L D (xt, xs, 11, xp, xu, xc) o a ⟨_, _, _, _, r, rfl⟩), fun op' => ⟨h1, rfl, h3, h4, 288, h5, h6, h7⟩⟩
/-- the state behind one more code -/
theorem rd_S_add (h : rd_S t c kn op s I) (o a f u : Int32) : rd_S t c kn op (s + 1) (am_uI (am_uI (am_uI (am_uI (am_uI I 16 s o) 17 s a) 18 s f) 19 s u) 11 8 (nI (s + 1))) ∧ rd_fr s I (am_uI (am_uI (am_uI (am_uI (am_uI I 16 s o) 17 s a) 18 s f) 19 s u) 11 8 (nI (s + 1))) := by
  obtain ⟨⟨h1, h2⟩, h3, h4, h5, h6, h7, h8⟩ := h
  refine ⟨⟨⟨by simp [am_uI_at, h1], fun i hi => by simpa [am_uI_at] using h2 i hi⟩, by simp [am_uI_at, h3], by simp [am_uI_at, h4], by simp [am_uI_at, h5], by simp [am_uI_at, h6], by simp [am_uI_at, h7], by simp [am_uI_at]⟩, ?_⟩
  exact rd_fr_u (rd_fr_u (rd_fr_u (rd_fr_u (rd_fr_u (rd_fr_0 s I) (rd_x_code (by omega) (Nat.le_refl _))) (rd_x_code (by omega) (Nat.le_refl _))) (rd_x_code (by omega) (Nat.le_refl _))) (rd_x_code (by omega) (Nat.le_refl _))) rfl
/-- lineOfLetter, isFunction -/
theorem c32 {e : pt_E} {nl l : Nat} (h : rd_E e nl I) (hl : l < 26) : am_Rn ext (d + 1) 32 [.ref 11, .int (nI l)] (I, L, D, am_rf (xt, xs, 11, xp, xu, xc)) (some (.int (if e.2.1 l = 0 then -1 else nI (e.2.2 l))), (I, L, D, am_rf (xt, xs, 11, xp, xu, xc))) := by
  refine am_rn_of mh_32 rfl (w32_0_11 I L D (xt, xs, 11, xp, xu, xc) (nI l) ⟨fun z => absurd z (ni_nn (by omega)), fun _ => ⟨fun z => absurd z ?_, fun _ => ⟨ni_inb hl (by omega), ?_⟩⟩⟩)
  · rw [show (26 : Int32) = nI 26 from rfl, ni_le (by omega) (by omega)]
    omega
  · rw [ni_nat (by omega)]
    by_cases h0 : e.2.1 l = 0
    · rw [if_pos h0, (h.2.2.2 l hl).1 h0]
    · rw [if_neg h0, ((h.2.2.2 l hl).2 h0).2.1]
theorem c33 {e : pt_E} {nl l : Nat} (h : rd_E e nl I) (hl : l < 26) : am_Rn ext (d + 1) 33 [.ref 11, .int (if e.2.1 l = 0 then -1 else nI (e.2.2 l))] (I, L, D, am_rf (xt, xs, 11, xp, xu, xc)) (some (.int (if e.2.1 l = 2 then 1 else 0)), (I, L, D, am_rf (xt, xs, 11, xp, xu, xc))) := by
  obtain ⟨h1, h2, h3, h4⟩ := h
  by_cases h0 : e.2.1 l = 0
  · rw [if_pos h0]
    refine am_rn_of mh_33 rfl (w33_0_11 I L D (xt, xs, 11, xp, xu, xc) (-1) ⟨fun _ => ?_, fun z => absurd (by decide) z⟩)
    rw [if_neg (by omega)]
  · obtain ⟨q1, q2, q3⟩ := (h4 l hl).2 h0
    rw [if_neg h0]
    refine am_rn_of mh_33 rfl (w33_0_11 I L D (xt, xs, 11, xp, xu, xc) _ ⟨fun z => absurd z (ni_nn (by omega)), fun _ => ⟨fun z => absurd z ?_, fun _ => ⟨ni_inb (by omega) (by omega), fun z => ?_, fun z => ?_⟩⟩⟩)
    · rw [h2, ni_le (by omega) (by omega)]
      omega
    · rw [ni_nat (by omega), q3] at z
      by_cases hh : e.2.1 l = 2
      · rw [if_pos hh] at z
        cases z
      · rw [if_neg hh]
    · rw [ni_nat (by omega), q3] at z
      by_cases hh : e.2.1 l = 2
      · rw [if_pos hh]
      · rw [if_neg hh] at z
        exact absurd rfl z
end READ
