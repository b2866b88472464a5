/-! ===== reading comes to an end ===== -/
def pt_h (c0 : Nat) (r : pt_R) : Prop := (∃ q, r = some q) ∧ ∀ c k T, r = some (.inr (c, k, T)) → c0 < c
theorem pt_h_f {t : pt_K} {c0 k c : Nat} : pt_h c0 (pt_f t k c) := ⟨⟨_, rfl⟩, fun _ _ _ h => by cases h⟩
theorem pt_h_r {c0 c k : Nat} {T : tr_T} (h : c0 < c) : pt_h c0 (pt_r c k T) := ⟨⟨_, rfl⟩, fun _ _ _ h' => by cases h'; exact h⟩
theorem pt_h_b {c0 : Nat} {r : pt_R} {g : Nat → Nat → tr_T → pt_R} (h0 : ∃ q, r = some q) (h : ∀ c k A, r = some (.inr (c, k, A)) → pt_h c0 (g c k A)) : pt_h c0 (pt_b r g) := by
  obtain ⟨q, hq⟩ := h0
  subst hq
  match q, h with
  | .inl f, h => exact ⟨⟨_, rfl⟩, fun _ _ _ h' => by cases h'⟩
  | .inr (c, k, A), h => exact h c k A rfl
/-- the last token is the end, and no other one -/
def pt_end (t : pt_K) : Prop := ∀ c, c < t.2 → (pt_k t c = 0 ↔ c + 1 = t.2)
theorem pt_adv_1 {t : pt_K} {c : Nat} (he : pt_end t) (hc : c < t.2) (h : ¬ pt_k t c = 0) : pt_adv t c = c + 1 ∧ c + 1 < t.2 := by
  have h1 : ¬ c + 1 = t.2 := fun z => h ((he c hc).mpr z)
  have h2 : c + 1 < t.2 := by omega
  simp [pt_adv, h2]
theorem pt_h_x {t : pt_K} {c0 c : Nat} {w : Int32} {g : Nat → pt_R} (he : pt_end t) (hw : ¬ w = 0) (hc : c < t.2) (h : c + 1 < t.2 → pt_h c0 (g (c + 1))) : pt_h c0 (pt_x t w c g) := by
  unfold pt_x
  split
  · next z =>
    obtain ⟨h1, h2⟩ := pt_adv_1 he hc (by rw [z]; exact hw)
    rw [h1]
    exact h h2
  · exact pt_h_f
theorem pt_h_o {t : pt_K} {c0 c op : Nat} {g : Nat → pt_R} (he : pt_end t) (hc : c < t.2) (h : c + 1 < t.2 → op < 8 → pt_h c0 (g (c + 1))) : pt_h c0 (pt_o t c op g) := by
  unfold pt_o
  split
  · next z =>
    obtain ⟨h1, h2⟩ := pt_adv_1 he hc (by rw [z]; decide)
    rw [h1]
    split
    · next z2 => exact h h2 z2
    · exact pt_h_f
  · exact pt_h_f
theorem pt_h_n {t : pt_K} {c0 c kn : Nat} {g : Nat → pt_R} (he : pt_end t) (hc : c < t.2) (h0 : ¬ pt_k t c = 0) (h : c + 1 < t.2 → kn < 96 → pt_h c0 (g (c + 1))) : pt_h c0 (pt_n t c kn g) := by
  unfold pt_n
  obtain ⟨h1, h2⟩ := pt_adv_1 he hc h0
  rw [h1]
  split
  · next z => exact h h2 z
  · exact pt_h_f
theorem pt_h_i {t : pt_K} {c0 c : Nat} {lo : Int} {g : Nat → Int → pt_R} (he : pt_end t) (hc : c < t.2) (h : ∀ c1 i, c < c1 → c1 < t.2 → pt_h c0 (g c1 i)) : pt_h c0 (pt_i t lo c g) := by
  unfold pt_i
  by_cases h45 : pt_k t c = 45
  · simp only [if_pos h45]
    obtain ⟨h1, h2⟩ := pt_adv_1 he hc (by rw [h45]; decide)
    rw [h1]
    split
    · next z =>
      obtain ⟨h3, h4⟩ := pt_adv_1 he h2 (by rw [z]; decide)
      rw [h3]
      split
      · split
        · exact h _ _ (by omega) h4
        · exact pt_h_f
      · exact pt_h_f
    · exact pt_h_f
  · simp only [if_neg h45]
    split
    · next z =>
      obtain ⟨h3, h4⟩ := pt_adv_1 he hc (by rw [z]; decide)
      rw [h3]
      split
      · split
        · exact h _ _ (by omega) h4
        · exact pt_h_f
      · exact pt_h_f
    · exact pt_h_f
theorem pt_fuel {t : pt_K} {e : pt_E} (ht : pt_tk t) (hen : pt_en e) (he : pt_end t) : ∀ (n c kn op : Nat) (A : tr_T), c < t.2 → kn ≤ 96 →
    (3 * (t.2 - c) + 3 ≤ n → pt_h c (pt_pp t e n 0 A c kn op)) ∧ (3 * (t.2 - c) + 2 ≤ n → pt_h c (pt_pp t e n 1 A c kn op)) ∧ (3 * (t.2 - c) + 1 ≤ n → pt_h c (pt_pp t e n 2 A c kn op)) ∧
    (∀ c0, c0 < c → 3 * (t.2 - c) + 1 ≤ n → pt_h c0 (pt_pp t e n 3 A c kn op) ∧ pt_h c0 (pt_pp t e n 4 A c kn op)) := by
  intro n
  induction n with
  | zero =>
    intro c kn op A hc hk
    exact ⟨fun h => absurd h (by omega), fun h => absurd h (by omega), fun h => absurd h (by omega), fun c0 _ h => absurd h (by omega)⟩
  | succ n ih =>
    intro c kn op A hc hk
    refine ⟨fun hn => ?_, fun hn => ?_, fun hn => ?_, fun c0 h0 hn => ⟨?_, ?_⟩⟩
    · simp only [pt_pp]
      obtain ⟨h1, h2⟩ := (ih c kn op A hc hk).2.1 (by omega)
      refine pt_h_b h1 fun c1 k1 B hr => ?_
      obtain ⟨q1, q2, q3, q4⟩ := (pt_good ht hen n c kn op A hc hk).2.1 _ _ _ hr
      have := h2 _ _ _ hr
      exact ((ih c1 k1 op B q1 q2).2.2.2 c this (by omega)).1
    · simp only [pt_pp]
      obtain ⟨h1, h2⟩ := (ih c kn op A hc hk).2.2.1 (by omega)
      refine pt_h_b h1 fun c1 k1 B hr => ?_
      obtain ⟨q1, q2, q3, q4⟩ := (pt_good ht hen n c kn op A hc hk).2.2.1 _ _ _ hr
      have := h2 _ _ _ hr
      exact ((ih c1 k1 op B q1 q2).2.2.2 c this (by omega)).2
    · simp only [pt_pp]
      -- an expression further on
      have sum : ∀ c1 k1 o1, c < c1 → c1 < t.2 → k1 ≤ 96 → (∃ q, pt_pp t e n 0 A c1 k1 o1 = some q) ∧ ∀ c' k' T, pt_pp t e n 0 A c1 k1 o1 = some (.inr (c', k', T)) → c < c' ∧ c' < t.2 ∧ k' ≤ 96 := by
        intro c1 k1 o1 h1 h2 h3
        obtain ⟨g1, g2⟩ := (ih c1 k1 o1 A h2 h3).1 (by omega)
        refine ⟨g1, fun c' k' T hr => ?_⟩
        obtain ⟨q1, q2, q3, q4⟩ := (pt_good ht hen n c1 k1 o1 A h2 h3).1 _ _ _ hr
        exact ⟨by have := g2 _ _ _ hr; omega, q1, q2⟩
      have one : ∀ kd nu ln, ¬ pt_k t c = 0 → pt_h c (pt_one t (fun c1 k1 o1 => pt_pp t e n 0 A c1 k1 o1) kd nu ln c kn op) := by
        intro kd nu ln h0
        refine pt_h_n he hc h0 fun g1 g2 => pt_h_o he g1 fun g3 g4 => ?_
        obtain ⟨z1, z2⟩ := sum (c + 1 + 1) (kn + 1) (op + 1) (by omega) g3 (by omega)
        refine pt_h_b z1 fun c3 k3 B hr => ?_
        obtain ⟨y1, y2, y3⟩ := z2 _ _ _ hr
        exact pt_h_x he (by decide) y2 fun y4 => pt_h_r (by omega)
      unfold pt_part
      split
      · next z =>
        refine pt_h_n he hc (by rw [z]; decide) fun g1 g2 => ?_
        obtain ⟨z1, z2⟩ := (ih (c + 1) (kn + 1) op A g1 (by omega)).2.2.1 (by omega)
        refine pt_h_b z1 fun c2 k2 B hr => pt_h_r ?_
        have := z2 _ _ _ hr
        omega
      · split
        · refine pt_h_o he hc fun g1 g2 => ?_
          obtain ⟨z1, z2⟩ := sum (c + 1) kn (op + 1) (by omega) g1 hk
          refine pt_h_b z1 fun c3 k3 B hr => ?_
          obtain ⟨y1, y2, y3⟩ := z2 _ _ _ hr
          exact pt_h_x he (by decide) y2 fun y4 => pt_h_r (by omega)
        · split
          · next z =>
            split
            · exact pt_h_n he hc (by rw [z]; decide) fun g1 g2 => pt_h_r (by omega)
            · exact pt_h_f
          · split
            · next z =>
              have z0 : ¬ pt_k t c = 0 := by rw [z]; decide
              split
              · split
                · exact pt_h_f
                · exact pt_h_n he hc z0 fun g1 g2 => pt_h_r (by omega)
              · split
                · exact pt_h_f
                · split
                  · exact one _ _ _ z0
                  · exact pt_h_n he hc z0 fun g1 g2 => pt_h_r (by omega)
            · split
              · next z => exact one _ _ _ (by rcases z with z | z <;> rw [z] <;> decide)
              · split
                · next z =>
                  refine pt_h_n he hc (by rcases z with z | z <;> rw [z] <;> decide) fun g1 g2 => pt_h_o he g1 fun g3 g4 => ?_
                  obtain ⟨z1, z2⟩ := sum (c + 1 + 1) (kn + 1) (op + 1) (by omega) g3 (by omega)
                  refine pt_h_b z1 fun c3 k3 B hr => ?_
                  obtain ⟨y1, y2, y3⟩ := z2 _ _ _ hr
                  refine pt_h_x he (by decide) y2 fun y4 => ?_
                  obtain ⟨z3, z4⟩ := sum (c3 + 1) k3 (op + 1) (by omega) y4 y3
                  refine pt_h_b z3 fun c4 k4 C hr2 => ?_
                  obtain ⟨x1, x2, x3⟩ := z4 _ _ _ hr2
                  exact pt_h_x he (by decide) x2 fun y4 => pt_h_r (by omega)
                · split
                  · next z =>
                    refine pt_h_n he hc (by rw [z]; decide) fun g1 g2 => pt_h_o he g1 fun g3 g4 => ?_
                    obtain ⟨z1, z2⟩ := sum (c + 1 + 1) (kn + 1) (op + 1) (by omega) g3 (by omega)
                    refine pt_h_b z1 fun c3 k3 B hr => ?_
                    obtain ⟨y1, y2, y3⟩ := z2 _ _ _ hr
                    split
                    · next zz =>
                      obtain ⟨a1, a2⟩ := pt_adv_1 he y2 (by rcases zz with zz | zz <;> rw [zz] <;> decide)
                      rw [a1]
                      obtain ⟨z3, z4⟩ := sum (c3 + 1) k3 (op + 1) (by omega) a2 y3
                      refine pt_h_b z3 fun c4 k4 C hr2 => ?_
                      obtain ⟨x1, x2, x3⟩ := z4 _ _ _ hr2
                      refine pt_h_x he (by decide) x2 fun y4 => ?_
                      obtain ⟨z5, z6⟩ := sum (c4 + 1) k4 (op + 1) (by omega) y4 x3
                      refine pt_h_b z5 fun c5 k5 V hr3 => ?_
                      obtain ⟨w1, w2, w3⟩ := z6 _ _ _ hr3
                      refine pt_h_x he (by decide) w2 fun y5 => ?_
                      obtain ⟨z7, z8⟩ := sum (c5 + 1) k5 (op + 1) (by omega) y5 w3
                      refine pt_h_b z7 fun c6 k6 W hr4 => ?_
                      obtain ⟨v1, v2, v3⟩ := z8 _ _ _ hr4
                      exact pt_h_x he (by decide) v2 fun y4 => pt_h_r (by omega)
                    · exact pt_h_f
                  · split
                    · next z =>
                      refine pt_h_n he hc (by rcases z with z | z | z | z <;> rw [z] <;> decide) fun g1 g2 => pt_h_o he g1 fun g3 g4 => ?_
                      split
                      · next zz =>
                        split
                        · obtain ⟨a1, a2⟩ := pt_adv_1 he g3 (by rw [zz.1]; decide)
                          rw [a1]
                          exact pt_h_x he (by decide) a2 fun g5 => pt_h_i he g5 fun c4 i h4 h4' => pt_h_x he (by decide) h4' fun g6 => pt_h_i he g6 fun c5 j h5 h5' => pt_h_x he (by decide) h5' fun g7 => pt_h_r (by omega)
                        · exact pt_h_f
                      · exact pt_h_f
                    · exact pt_h_f
    · simp only [pt_pp]
      split
      · next z =>
        refine pt_h_n he hc (by rcases z with z | z <;> rw [z] <;> decide) fun g1 g2 => ?_
        obtain ⟨z1, z2⟩ := (ih (c + 1) (kn + 1) op A g1 (by omega)).2.1 (by omega)
        refine pt_h_b z1 fun c2 k2 B hr => ?_
        obtain ⟨q1, q2, q3, q4⟩ := (pt_good ht hen n (c + 1) (kn + 1) op A g1 (by omega)).2.1 _ _ _ hr
        have := z2 _ _ _ hr
        exact ((ih c2 k2 op _ q1 q2).2.2.2 c0 (by omega) (by omega)).1
      · exact pt_h_r h0
    · simp only [pt_pp]
      split
      · next z =>
        refine pt_h_n he hc (by rcases z with z | z <;> rw [z] <;> decide) fun g1 g2 => ?_
        obtain ⟨z1, z2⟩ := (ih (c + 1) (kn + 1) op A g1 (by omega)).2.2.1 (by omega)
        refine pt_h_b z1 fun c2 k2 B hr => ?_
        obtain ⟨q1, q2, q3, q4⟩ := (pt_good ht hen n (c + 1) (kn + 1) op A g1 (by omega)).2.2.1 _ _ _ hr
        have := z2 _ _ _ hr
        exact ((ih c2 k2 op _ q1 q2).2.2.2 c0 (by omega) (by omega)).2
      · exact pt_h_r h0
/-- an expression, read -/
def pt_ex (t : pt_K) (e : pt_E) (c kn : Nat) : pt_R := pt_pp t e (3 * t.2 + 3) 0 (.leaf (0, 0, 0, 0, 0, 0)) c kn 0
