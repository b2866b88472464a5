/-! ===== the language, read: tokens (kind, place, value), how many ===== -/
abbrev pt_K : Type := (Nat → Int32 × Int32 × Int32) × Nat
abbrev pt_R : Type := Option ((Nat × Int32) ⊕ (Nat × Nat × tr_T))
def pt_k (t : pt_K) (c : Nat) : Int32 := (t.1 c).1
def pt_p (t : pt_K) (c : Nat) : Int32 := (t.1 c).2.1
def pt_v (t : pt_K) (c : Nat) : Int32 := (t.1 c).2.2
def pt_adv (t : pt_K) (c : Nat) : Nat := if c + 1 < t.2 then c + 1 else c
/-- a fault at a token -/
def pt_f (t : pt_K) (k c : Nat) : pt_R := some (.inl (k, pt_p t c))
/-- first this, then that -/
def pt_b (r : pt_R) (g : Nat → Nat → tr_T → pt_R) : pt_R := match r with
  | none => none
  | some (.inl f) => some (.inl f)
  | some (.inr q) => g q.1 q.2.1 q.2.2
/-- a sign must come -/
def pt_x (t : pt_K) (w : Int32) (c : Nat) (g : Nat → pt_R) : pt_R := if pt_k t c = w then g (pt_adv t c) else pt_f t 1 c
/-- a bracket must open -/
def pt_o (t : pt_K) (c op : Nat) (g : Nat → pt_R) : pt_R := if pt_k t c = 40 then (if op < 8 then g (pt_adv t c) else pt_f t 2 c) else pt_f t 1 c
/-- the token is a knot's own -/
def pt_n (t : pt_K) (c kn : Nat) (g : Nat → pt_R) : pt_R := if kn < 96 then g (pt_adv t c) else pt_f t 2 c
/-- an I, above lo -/
def pt_i (t : pt_K) (lo : Int) (c : Nat) (g : Nat → Int → pt_R) : pt_R :=
  if pt_k t (if pt_k t c = 45 then pt_adv t c else c) = 2 then
    (if (pt_v t (if pt_k t c = 45 then pt_adv t c else c)).toInt ≤ 64 then
      (if lo < (if pt_k t c = 45 then -(pt_v t (pt_adv t c)).toInt else (pt_v t c).toInt) then g (pt_adv t (if pt_k t c = 45 then pt_adv t c else c)) (if pt_k t c = 45 then -(pt_v t (pt_adv t c)).toInt else (pt_v t c).toInt) else pt_f t 3 (if pt_k t c = 45 then pt_adv t c else c))
    else pt_f t 2 (if pt_k t c = 45 then pt_adv t c else c))
  else pt_f t 1 (if pt_k t c = 45 then pt_adv t c else c)
def pt_r (c kn : Nat) (T : tr_T) : pt_R := some (.inr (c, kn, T))
/-- sqrt, abs, a call -/
def pt_one (t : pt_K) (sum : Nat → Nat → Nat → pt_R) (kd nu ln c kn op : Nat) : pt_R :=
  pt_n t c kn fun c1 => pt_o t c1 op fun c2 => pt_b (sum c2 (kn + 1) (op + 1)) fun c3 k3 A => pt_x t 41 c3 fun c4 => pt_r c4 k3 (tr_1 (kn, kd, nu, ln, 0, 0) A)
/-- max, min -/
def pt_two (t : pt_K) (sum : Nat → Nat → Nat → pt_R) (kd c kn op : Nat) : pt_R :=
  pt_n t c kn fun c1 => pt_o t c1 op fun c2 => pt_b (sum c2 (kn + 1) (op + 1)) fun c3 k3 A => pt_x t 44 c3 fun c4 => pt_b (sum c4 k3 (op + 1)) fun c5 k5 B => pt_x t 41 c5 fun c6 => pt_r c6 k5 (tr_2 (kn, kd, 0, 0, 0, 0) A B)
def pt_if (t : pt_K) (sum : Nat → Nat → Nat → pt_R) (c kn op : Nat) : pt_R :=
  pt_n t c kn fun c1 => pt_o t c1 op fun c2 => pt_b (sum c2 (kn + 1) (op + 1)) fun c3 k3 A =>
  if pt_k t c3 = 60 ∨ pt_k t c3 = 62 then
    pt_b (sum (pt_adv t c3) k3 (op + 1)) fun c5 k5 B => pt_x t 44 c5 fun c6 => pt_b (sum c6 k5 (op + 1)) fun c7 k7 V => pt_x t 44 c7 fun c8 => pt_b (sum c8 k7 (op + 1)) fun c9 k9 W => pt_x t 41 c9 fun c10 => pt_r c10 k9 (tr_4 (kn, if pt_k t c3 = 60 then 12 else 13, 0, 0, 0, 0) A B V W)
  else pt_f t 1 c3
def pt_over (t : pt_K) (e : pt_E) (kd c kn op : Nat) : pt_R :=
  pt_n t c kn fun c1 => pt_o t c1 op fun c2 =>
  if pt_k t c2 = 3 ∧ ¬ pt_v t c2 = 19 then
    (if e.2.1 (pt_v t c2).toNatClampNeg = 2 then
      pt_x t 44 (pt_adv t c2) fun c3 => pt_i t (-65) c3 fun c4 i => pt_x t 44 c4 fun c5 => pt_i t i c5 fun c6 j => pt_x t 41 c6 fun c7 => pt_r c7 (kn + 1) (.leaf (kn, kd, (pt_v t c2).toNatClampNeg, e.2.2 (pt_v t c2).toNatClampNeg, i, j))
    else pt_f t 3 c2)
  else pt_f t 1 c2
def pt_part (t : pt_K) (e : pt_E) (neg sum : Nat → Nat → Nat → pt_R) (c kn op : Nat) : pt_R :=
  if pt_k t c = 45 then pt_n t c kn fun c1 => pt_b (neg c1 (kn + 1) op) fun c2 k2 A => pt_r c2 k2 (tr_1 (kn, 3, 0, 0, 0, 0) A)
  else if pt_k t c = 40 then pt_o t c op fun c1 => pt_b (sum c1 kn (op + 1)) fun c2 k2 A => pt_x t 41 c2 fun c3 => pt_r c3 k2 A
  else if pt_k t c = 2 then (if (pt_v t c).toInt ≤ 999 then pt_n t c kn fun c1 => pt_r c1 (kn + 1) (.leaf (kn, 0, (pt_v t c).toNatClampNeg, 0, 0, 0)) else pt_f t 2 c)
  else if pt_k t c = 3 then
    (if pt_v t c = 19 then (if kn < 96 ∧ e.1 = false then pt_f t 3 c else pt_n t c kn fun c1 => pt_r c1 (kn + 1) (.leaf (kn, 1, 0, 0, 0, 0)))
    else if kn < 96 ∧ e.2.1 (pt_v t c).toNatClampNeg = 0 then pt_f t 3 c
    else if e.2.1 (pt_v t c).toNatClampNeg = 2 then pt_one t sum 14 (pt_v t c).toNatClampNeg (e.2.2 (pt_v t c).toNatClampNeg) c kn op
    else pt_n t c kn fun c1 => pt_r c1 (kn + 1) (.leaf (kn, 2, (pt_v t c).toNatClampNeg, e.2.2 (pt_v t c).toNatClampNeg, 0, 0)))
  else if pt_k t c = 6 ∨ pt_k t c = 7 then pt_one t sum (if pt_k t c = 6 then 4 else 5) 0 0 c kn op
  else if pt_k t c = 8 ∨ pt_k t c = 9 then pt_two t sum (if pt_k t c = 8 then 10 else 11) c kn op
  else if pt_k t c = 10 then pt_if t sum c kn op
  else if pt_k t c = 11 ∨ pt_k t c = 12 ∨ pt_k t c = 13 ∨ pt_k t c = 14 then pt_over t e (if pt_k t c = 11 then 15 else if pt_k t c = 12 then 16 else if pt_k t c = 13 then 17 else 18) c kn op
  else pt_f t 1 c
/-- 0 sums, 1 products, 2 a part, 3 more to a sum, 4 more to a product -/
def pt_pp (t : pt_K) (e : pt_E) : Nat → Nat → tr_T → Nat → Nat → Nat → pt_R
  | 0, _, _, _, _, _ => none
  | n + 1, 0, A, c, kn, op => pt_b (pt_pp t e n 1 A c kn op) fun c1 k1 B => pt_pp t e n 3 B c1 k1 op
  | n + 1, 1, A, c, kn, op => pt_b (pt_pp t e n 2 A c kn op) fun c1 k1 B => pt_pp t e n 4 B c1 k1 op
  | n + 1, 3, A, c, kn, op => if pt_k t c = 43 ∨ pt_k t c = 45 then pt_n t c kn fun c1 => pt_b (pt_pp t e n 1 A c1 (kn + 1) op) fun c2 k2 B => pt_pp t e n 3 (tr_2 (kn, if pt_k t c = 43 then 6 else 7, 0, 0, 0, 0) A B) c2 k2 op else pt_r c kn A
  | n + 1, 4, A, c, kn, op => if pt_k t c = 42 ∨ pt_k t c = 47 then pt_n t c kn fun c1 => pt_b (pt_pp t e n 2 A c1 (kn + 1) op) fun c2 k2 B => pt_pp t e n 4 (tr_2 (kn, if pt_k t c = 42 then 8 else 9, 0, 0, 0, 0) A B) c2 k2 op else pt_r c kn A
  | n + 1, _, A, c, kn, op => pt_part t e (fun c1 k1 o1 => pt_pp t e n 2 A c1 k1 o1) (fun c1 k1 o1 => pt_pp t e n 0 A c1 k1 o1) c kn op
/-! what a good reading is -/
/-- tokens: as many as are said, letters and numbers as they are -/
def pt_tk (t : pt_K) : Prop := 0 < t.2 ∧ t.2 ≤ 501 ∧ ∀ c, c < t.2 → (pt_k t c = 3 → 0 ≤ (pt_v t c).toInt ∧ (pt_v t c).toInt < 26) ∧ (pt_k t c = 2 → 0 ≤ (pt_v t c).toInt ∧ (pt_v t c).toInt ≤ 1000)
def pt_en (e : pt_E) : Prop := ∀ l, l < 26 → e.2.1 l ≤ 2
def pt_g (t : pt_K) (e : pt_E) (s : Nat) (r : pt_R) : Prop := ∀ c k T, r = some (.inr (c, k, T)) → c < t.2 ∧ k ≤ 96 ∧ k = s + tr_sz T ∧ tr_ok e T s
theorem pt_adv_lt {t : pt_K} {c : Nat} (h : c < t.2) : pt_adv t c < t.2 := by
  unfold pt_adv
  split <;> omega
theorem pt_g_f {t : pt_K} {e : pt_E} {s k c : Nat} : pt_g t e s (pt_f t k c) := by
  intro c k T h
  cases h
theorem pt_g_b {t : pt_K} {e : pt_E} {s : Nat} {r : pt_R} {g : Nat → Nat → tr_T → pt_R} (h : ∀ c k A, r = some (.inr (c, k, A)) → pt_g t e s (g c k A)) : pt_g t e s (pt_b r g) := by
  unfold pt_b
  split
  · intro _ _ _ h; cases h
  · intro _ _ _ h; cases h
  · next q hq => exact h _ _ _ rfl
theorem pt_g_x {t : pt_K} {e : pt_E} {s c : Nat} {w : Int32} {g : Nat → pt_R} (hc : c < t.2) (h : pt_adv t c < t.2 → pt_k t c = w → pt_g t e s (g (pt_adv t c))) : pt_g t e s (pt_x t w c g) := by
  unfold pt_x
  split
  · next q => exact h (pt_adv_lt hc) q
  · exact pt_g_f
theorem pt_g_o {t : pt_K} {e : pt_E} {s c op : Nat} {g : Nat → pt_R} (hc : c < t.2) (h : pt_adv t c < t.2 → op < 8 → pt_g t e s (g (pt_adv t c))) : pt_g t e s (pt_o t c op g) := by
  unfold pt_o
  split
  · split
    · next q => exact h (pt_adv_lt hc) q
    · exact pt_g_f
  · exact pt_g_f
theorem pt_g_n {t : pt_K} {e : pt_E} {s c kn : Nat} {g : Nat → pt_R} (hc : c < t.2) (h : pt_adv t c < t.2 → kn < 96 → pt_g t e s (g (pt_adv t c))) : pt_g t e s (pt_n t c kn g) := by
  unfold pt_n
  split
  · next q => exact h (pt_adv_lt hc) q
  · exact pt_g_f
theorem pt_g_i {t : pt_K} {e : pt_E} {s c : Nat} {lo : Int} {g : Nat → Int → pt_R} (ht : pt_tk t) (hc : c < t.2) (h : ∀ c1 i, c1 < t.2 → lo < i → -64 ≤ i → i ≤ 64 → pt_g t e s (g c1 i)) : pt_g t e s (pt_i t lo c g) := by
  have ha := pt_adv_lt hc
  unfold pt_i
  by_cases h45 : pt_k t c = 45
  · simp only [if_pos h45]
    split
    · next h2 =>
      split
      · next h64 =>
        split
        · next hlo => exact h _ _ (pt_adv_lt ha) hlo (by omega) (by have := ((ht.2.2 _ ha).2 h2).1; omega)
        · exact pt_g_f
      · exact pt_g_f
    · exact pt_g_f
  · simp only [if_neg h45]
    split
    · next h2 =>
      split
      · next h64 =>
        split
        · next hlo => exact h _ _ ha hlo (by have := ((ht.2.2 _ hc).2 h2).1; omega) (by omega)
        · exact pt_g_f
      · exact pt_g_f
    · exact pt_g_f
theorem pt_g_r {t : pt_K} {e : pt_E} {s c k : Nat} {T : tr_T} (h1 : c < t.2) (h2 : k ≤ 96) (h3 : k = s + tr_sz T) (h4 : tr_ok e T s) : pt_g t e s (pt_r c k T) := by
  intro c' k' T' h
  cases h
  exact ⟨h1, h2, h3, h4⟩
theorem pt_clamp {x : Int32} (h : 0 ≤ x.toInt) : (x.toNatClampNeg : Int) = x.toInt := by
  unfold Int32.toNatClampNeg
  omega
theorem pt_good {t : pt_K} {e : pt_E} (ht : pt_tk t) (he : pt_en e) : ∀ (n c kn op : Nat) (A : tr_T), c < t.2 → kn ≤ 96 →
    pt_g t e kn (pt_pp t e n 0 A c kn op) ∧ pt_g t e kn (pt_pp t e n 1 A c kn op) ∧ pt_g t e kn (pt_pp t e n 2 A c kn op) ∧
    (∀ s, kn = s + tr_sz A → tr_ok e A s → pt_g t e s (pt_pp t e n 3 A c kn op) ∧ pt_g t e s (pt_pp t e n 4 A c kn op)) := by
  intro n
  induction n with
  | zero =>
    intro c kn op A hc hk
    have z : ∀ s, pt_g t e s none := fun s _ _ _ h => by cases h
    exact ⟨z _, z _, z _, fun s _ _ => ⟨z _, z _⟩⟩
  | succ n ih =>
    intro c kn op A hc hk
    refine ⟨?_, ?_, ?_, fun s hs hA => ⟨?_, ?_⟩⟩
    · simp only [pt_pp]
      refine pt_g_b fun c1 k1 B h1 => ?_
      obtain ⟨q1, q2, q3, q4⟩ := (ih c kn op A hc hk).2.1 _ _ _ h1
      exact ((ih c1 k1 op B q1 q2).2.2.2 kn q3 q4).1
    · simp only [pt_pp]
      refine pt_g_b fun c1 k1 B h1 => ?_
      obtain ⟨q1, q2, q3, q4⟩ := (ih c kn op A hc hk).2.2.1 _ _ _ h1
      exact ((ih c1 k1 op B q1 q2).2.2.2 kn q3 q4).2
    · simp only [pt_pp]
      have hsum : ∀ c k o, c < t.2 → k ≤ 96 → pt_g t e k (pt_pp t e n 0 A c k o) := fun c k o h1 h2 => (ih c k o A h1 h2).1
      have hneg : ∀ c k o, c < t.2 → k ≤ 96 → pt_g t e k (pt_pp t e n 2 A c k o) := fun c k o h1 h2 => (ih c k o A h1 h2).2.2.1
      have one : ∀ kd nu ln, tr_k1 e (kn, kd, nu, ln, 0, 0) → pt_g t e kn (pt_one t (fun c1 k1 o1 => pt_pp t e n 0 A c1 k1 o1) kd nu ln c kn op) := by
        intro kd nu ln hk1
        refine pt_g_n hc fun g1 g2 => pt_g_o g1 fun g3 g4 => pt_g_b fun c3 k3 B h3 => ?_
        obtain ⟨q1, q2, q3, q4⟩ := hsum _ _ _ g3 (by omega) _ _ _ h3
        refine pt_g_x q1 fun g5 _ => pt_g_r g5 q2 ?_ ⟨rfl, hk1, q4⟩
        simp only [tr_sz]; omega
      unfold pt_part
      split
      · refine pt_g_n hc fun g1 g2 => pt_g_b fun c2 k2 B h2 => ?_
        obtain ⟨q1, q2, q3, q4⟩ := hneg _ _ _ g1 (by omega) _ _ _ h2
        refine pt_g_r q1 q2 ?_ ⟨rfl, Or.inl rfl, q4⟩
        simp only [tr_sz]; omega
      · split
        · refine pt_g_o hc fun g1 g2 => pt_g_b fun c2 k2 B h2 => ?_
          obtain ⟨q1, q2, q3, q4⟩ := hsum _ _ _ g1 hk _ _ _ h2
          exact pt_g_x q1 fun g5 _ => pt_g_r g5 q2 q3 q4
        · split
          · next h2 =>
            split
            · next h9 =>
              refine pt_g_n hc fun g1 g2 => pt_g_r g1 (by omega) (by simp only [tr_sz]) ⟨rfl, Or.inl ⟨rfl, ?_⟩⟩
              have := pt_clamp ((ht.2.2 _ hc).2 h2).1
              show (pt_v t c).toNatClampNeg ≤ 999
              omega
            · exact pt_g_f
          · split
            · next h3 =>
              have hl : (pt_v t c).toNatClampNeg < 26 := by
                have := pt_clamp ((ht.2.2 _ hc).1 h3).1
                have := ((ht.2.2 _ hc).1 h3).2
                omega
              split
              · split
                · exact pt_g_f
                · next hn => exact pt_g_n hc fun g1 g2 => pt_g_r g1 (by omega) (by simp only [tr_sz]) ⟨rfl, Or.inr (Or.inl ⟨rfl, by cases h : e.1 with | true => rfl | false => exact absurd ⟨g2, h⟩ hn⟩)⟩
              · split
                · exact pt_g_f
                · next hn =>
                  split
                  · next h2 => exact one 14 _ _ (Or.inr (Or.inr (Or.inr ⟨rfl, hl, h2, rfl⟩)))
                  · next h2 =>
                    refine pt_g_n hc fun g1 g2 => pt_g_r g1 (by omega) (by simp only [tr_sz]) ⟨rfl, Or.inr (Or.inr (Or.inl ⟨rfl, hl, ?_, rfl⟩))⟩
                    have h5 := he _ hl
                    have h6 : ¬ e.2.1 (pt_v t c).toNatClampNeg = 0 := fun z => hn ⟨g2, z⟩
                    show e.2.1 (pt_v t c).toNatClampNeg = 1
                    omega
            · split
              · refine one _ 0 0 ?_
                by_cases h6 : pt_k t c = 6
                · simp [tr_k1, h6]
                · simp [tr_k1, h6]
              · split
                · refine pt_g_n hc fun g1 g2 => pt_g_o g1 fun g3 g4 => pt_g_b fun c3 k3 B h3 => ?_
                  obtain ⟨q1, q2, q3, q4⟩ := hsum _ _ _ g3 (by omega) _ _ _ h3
                  refine pt_g_x q1 fun g5 _ => pt_g_b fun c4 k4 C h4 => ?_
                  obtain ⟨p1, p2, p3, p4⟩ := hsum _ _ _ g5 q2 _ _ _ h4
                  refine pt_g_x p1 fun g6 _ => pt_g_r g6 p2 (by simp only [tr_sz]; omega) ?_
                  refine Or.inr ⟨?_, rfl, q4, by rw [← q3]; exact p4⟩
                  by_cases h6 : pt_k t c = 8 <;> simp [h6]
                · split
                  · refine pt_g_n hc fun g1 g2 => pt_g_o g1 fun g3 g4 => pt_g_b fun c3 k3 B h3 => ?_
                    obtain ⟨q1, q2, q3, q4⟩ := hsum _ _ _ g3 (by omega) _ _ _ h3
                    split
                    · refine pt_g_b fun c4 k4 C h4 => ?_
                      obtain ⟨p1, p2, p3, p4⟩ := hsum _ _ _ (pt_adv_lt q1) q2 _ _ _ h4
                      refine pt_g_x p1 fun g6 _ => pt_g_b fun c5 k5 V h5 => ?_
                      obtain ⟨r1, r2, r3, r4⟩ := hsum _ _ _ g6 p2 _ _ _ h5
                      refine pt_g_x r1 fun g7 _ => pt_g_b fun c6 k6 W h6 => ?_
                      obtain ⟨s1, s2, s3, s4⟩ := hsum _ _ _ g7 r2 _ _ _ h6
                      refine pt_g_x s1 fun g8 _ => pt_g_r g8 s2 (by simp only [tr_sz]; omega) ?_
                      subst q3 p3 r3
                      refine ⟨?_, rfl, q4, p4, r4, s4⟩
                      by_cases h6 : pt_k t c3 = 60 <;> simp [h6]
                    · exact pt_g_f
                  · split
                    · refine pt_g_n hc fun g1 g2 => pt_g_o g1 fun g3 g4 => ?_
                      split
                      · next h3 =>
                        split
                        · next h2 =>
                          refine pt_g_x (pt_adv_lt g3) fun g5 _ => pt_g_i ht g5 fun c4 i h4 i1 i2 i3 => pt_g_x h4 fun g6 _ => pt_g_i ht g6 fun c5 j h5 j1 j2 j3 => pt_g_x h5 fun g7 _ => pt_g_r g7 (by omega) (by simp only [tr_sz]) ⟨rfl, Or.inr (Or.inr (Or.inr ⟨?_, ?_, ?_, h2, rfl, i2, j1, j3⟩))⟩
                          · show 15 ≤ (if pt_k t c = 11 then 15 else if pt_k t c = 12 then 16 else if pt_k t c = 13 then 17 else 18)
                            split
                            · omega
                            · split
                              · omega
                              · split <;> omega
                          · show (if pt_k t c = 11 then 15 else if pt_k t c = 12 then 16 else if pt_k t c = 13 then 17 else 18) ≤ 18
                            split
                            · omega
                            · split
                              · omega
                              · split <;> omega
                          · have := pt_clamp ((ht.2.2 _ g3).1 h3.1).1
                            have := ((ht.2.2 _ g3).1 h3.1).2
                            show (pt_v t _).toNatClampNeg < 26
                            omega
                        · exact pt_g_f
                      · exact pt_g_f
                    · exact pt_g_f
    · simp only [pt_pp]
      split
      · refine pt_g_n hc fun g1 g2 => pt_g_b fun c2 k2 B h2 => ?_
        obtain ⟨q1, q2, q3, q4⟩ := (ih _ (kn + 1) op A g1 (by omega)).2.1 _ _ _ h2
        refine ((ih c2 k2 op _ q1 q2).2.2.2 s ?_ ?_).1
        · simp only [tr_sz]; omega
        · refine Or.inl ⟨?_, ?_, hA, hs, by rw [← hs]; exact q4⟩
          · by_cases h6 : pt_k t c = 43 <;> simp [h6]
          · by_cases h6 : pt_k t c = 43 <;> simp [h6]
      · exact pt_g_r hc hk hs hA
    · simp only [pt_pp]
      split
      · refine pt_g_n hc fun g1 g2 => pt_g_b fun c2 k2 B h2 => ?_
        obtain ⟨q1, q2, q3, q4⟩ := (ih _ (kn + 1) op A g1 (by omega)).2.2.1 _ _ _ h2
        refine ((ih c2 k2 op _ q1 q2).2.2.2 s ?_ ?_).2
        · simp only [tr_sz]; omega
        · refine Or.inl ⟨?_, ?_, hA, hs, by rw [← hs]; exact q4⟩
          · by_cases h6 : pt_k t c = 42 <;> simp [h6]
          · by_cases h6 : pt_k t c = 42 <;> simp [h6]
      · exact pt_g_r hc hk hs hA
