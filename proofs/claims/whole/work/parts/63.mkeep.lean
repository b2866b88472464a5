/-! ===== the reference: keep, text ===== -/
/-- what keep makes of a knot's row -/
def rm_kp (I : Nat → Nat → Int32) (a k : Nat) : Int32 := if a = 45 then (if I 45 (96 + k) = 12 ∧ I 46 (96 + k) = 1 then 13 else I 45 (96 + k)) else if a = 46 then I 46 (96 + k) else if a = 50 then I 50 (96 + k) - 96 else I a (96 + k) - (if I 45 (96 + k) = 15 then 0 else 96)
theorem rm_rp {e : pt_E} {I I' : Nat → Nat → Int32} : ∀ (T : tr_T) (s : Nat), tr_ok e T s → s + tr_sz T ≤ 96 → rf_rp 96 true I T → (∀ a b, 45 ≤ a → a ≤ 50 → s ≤ b → b < s + tr_sz T → I' a b = rm_kp I a b) → rf_rp 0 false I' T := by
  have sub : ∀ r : Nat, r < 96 → nI (96 + r) - 96 = nI (0 + r) := fun r hr => by rw [show (96 : Int32) = nI 96 from rfl, ni_sub (by omega) (by omega)]; congr 1; omega
  have s0 : ∀ x : Int32, x - 0 = x := fun x => by rw [← Int32.toInt_inj, Int32.toInt_sub, Int32.toInt_zero, Int.sub_zero, Int32.toInt_bmod]
  refine tr_ind ?_ ?_ ?_ ?_ ?_
  · intro p s hp hk0 hs g k
    simp only [rf_rp, tr_sz] at g k hs ⊢
    simp only [Nat.zero_add]
    rw [k 45 _ (by omega) (by omega) (by omega) (by omega), k 46 _ (by omega) (by omega) (by omega) (by omega), k 47 _ (by omega) (by omega) (by omega) (by omega), k 48 _ (by omega) (by omega) (by omega) (by omega), k 49 _ (by omega) (by omega) (by omega) (by omega)]
    refine ⟨fun z => ?_, fun z => ?_⟩
    · obtain ⟨g1, g2⟩ := g.1 z
      have n12 : ¬ nI p.2.1 = 12 := by
        rw [show (12 : Int32) = nI 12 from rfl, ni_eq (by omega) (by omega)]
        rcases hk0 with ⟨h, _⟩ | ⟨h, _⟩ | ⟨h, _⟩ | ⟨h, _⟩ <;> omega
      refine ⟨?_, fun y => ?_⟩
      · simp only [rm_kp, if_true]
        rw [g1, if_neg (fun q => n12 q.1)]
      · simp only [rm_kp]
        exact g2 y
    · obtain ⟨g1, g2, g3, g4, g5⟩ := g.2 z
      refine ⟨?_, ?_, ?_, ?_, ?_⟩
      · simp only [rm_kp, if_true]
        rw [g1, if_neg (by intro q; exact absurd q.1 (by decide))]
      · simp only [rm_kp]; exact g2
      · simp only [rm_kp]; simp; rw [g1, if_pos rfl, s0]; exact g3
      · simp only [rm_kp]; simp; rw [g1, if_pos rfl, s0]; exact g4
      · simp only [rm_kp]; simp; rw [g1, if_pos rfl, s0]; exact g5
  · intro p A s hp hk1 hA ih hs g k
    simp only [rf_rp, tr_sz] at g k hs ⊢
    simp only [Nat.zero_add]
    obtain ⟨g1, g2, g3, g4⟩ := g
    have hrt := tr_rt_rg A _ hA
    have kd : p.2.1 = 3 ∨ p.2.1 = 4 ∨ p.2.1 = 5 ∨ p.2.1 = 14 := by rcases hk1 with h | h | h | ⟨h, _⟩ <;> omega
    have n12 : ¬ nI p.2.1 = 12 := by rw [show (12 : Int32) = nI 12 from rfl, ni_eq (by omega) (by omega)]; omega
    have n15 : ¬ nI p.2.1 = 15 := by rw [show (15 : Int32) = nI 15 from rfl, ni_eq (by omega) (by omega)]; omega
    rw [k 45 _ (by omega) (by omega) (by omega) (by omega), k 46 _ (by omega) (by omega) (by omega) (by omega), k 47 _ (by omega) (by omega) (by omega) (by omega)]
    refine ⟨?_, fun z => ?_, ?_, ih (by omega) g4 (fun a b q1 q2 q3 q4 => k a b q1 q2 (by omega) (by omega))⟩
    · simp only [rm_kp, if_true]; rw [g1, if_neg (fun q => n12 q.1)]
    · simp only [rm_kp]; exact g2 z
    · simp only [rm_kp]; simp; rw [g1, if_neg n15, g3, sub _ (by omega), Nat.zero_add]
  · intro p A B s h6 h9 hp hA hB ih1 ih2 hs g k
    simp only [rf_rp, tr_sz] at g k hs ⊢
    simp only [Nat.zero_add]
    obtain ⟨g1, g2, g3, g4, g5⟩ := g
    have hrt := tr_rt_rg A _ hA
    have hrt2 := tr_rt_rg B _ hB
    have n12 : ¬ nI p.2.1 = 12 := by rw [show (12 : Int32) = nI 12 from rfl, ni_eq (by omega) (by omega)]; omega
    have n15 : ¬ nI p.2.1 = 15 := by rw [show (15 : Int32) = nI 15 from rfl, ni_eq (by omega) (by omega)]; omega
    rw [k 45 _ (by omega) (by omega) (by omega) (by omega), k 47 _ (by omega) (by omega) (by omega) (by omega), k 48 _ (by omega) (by omega) (by omega) (by omega)]
    refine ⟨?_, ?_, ?_, ih1 (by omega) g4 (fun a b q1 q2 q3 q4 => k a b q1 q2 (by omega) (by omega)), ih2 (by omega) g5 (fun a b q1 q2 q3 q4 => k a b q1 q2 (by omega) (by omega))⟩
    · simp only [rm_kp, if_true]; rw [g1, if_neg (fun q => n12 q.1)]
    · simp only [rm_kp]; simp; rw [g1, if_neg n15, g2, sub _ (by omega), Nat.zero_add]
    · simp only [rm_kp]; simp; rw [g1, if_neg n15, g3, sub _ (by omega), Nat.zero_add]
  · intro p A B s hkd hp hA hB ih1 ih2 hs g k
    simp only [rf_rp, tr_sz] at g k hs ⊢
    simp only [Nat.zero_add]
    obtain ⟨g1, g2, g3, g4, g5⟩ := g
    have hrt := tr_rt_rg A _ hA
    have hrt2 := tr_rt_rg B _ hB
    have n12 : ¬ nI p.2.1 = 12 := by rw [show (12 : Int32) = nI 12 from rfl, ni_eq (by omega) (by omega)]; omega
    have n15 : ¬ nI p.2.1 = 15 := by rw [show (15 : Int32) = nI 15 from rfl, ni_eq (by omega) (by omega)]; omega
    rw [k 45 _ (by omega) (by omega) (by omega) (by omega), k 47 _ (by omega) (by omega) (by omega) (by omega), k 48 _ (by omega) (by omega) (by omega) (by omega)]
    refine ⟨?_, ?_, ?_, ih1 (by omega) g4 (fun a b q1 q2 q3 q4 => k a b q1 q2 (by omega) (by omega)), ih2 (by omega) g5 (fun a b q1 q2 q3 q4 => k a b q1 q2 (by omega) (by omega))⟩
    · simp only [rm_kp, if_true]; rw [g1, if_neg (fun q => n12 q.1)]
    · simp only [rm_kp]; simp; rw [g1, if_neg n15, g2, sub _ (by omega), Nat.zero_add]
    · simp only [rm_kp]; simp; rw [g1, if_neg n15, g3, sub _ (by omega), Nat.zero_add]
  · intro p A B V W s hkd hp hA hB hV hW ih1 ih2 ih3 ih4 hs g k
    simp only [rf_rp, tr_sz] at g k hs ⊢
    simp only [Nat.zero_add]
    obtain ⟨g1, g2, g3, g4, g5, g6, g7, g8, g9⟩ := g
    rw [if_pos trivial] at g1
    have hr1 := tr_rt_rg A _ hA
    have hr2 := tr_rt_rg B _ hB
    have hr3 := tr_rt_rg V _ hV
    have hr4 := tr_rt_rg W _ hW
    rw [k 45 _ (by omega) (by omega) (by omega) (by omega), k 47 _ (by omega) (by omega) (by omega) (by omega), k 48 _ (by omega) (by omega) (by omega) (by omega), k 49 _ (by omega) (by omega) (by omega) (by omega), k 50 _ (by omega) (by omega) (by omega) (by omega)]
    have n15 : ¬ I 45 (96 + p.1) = 15 := by rw [g1.1]; decide
    refine ⟨?_, ?_, ?_, ?_, ?_, ih1 (by omega) g6 (fun a b q1 q2 q3 q4 => k a b q1 q2 (by omega) (by omega)), ih2 (by omega) g7 (fun a b q1 q2 q3 q4 => k a b q1 q2 (by omega) (by omega)), ih3 (by omega) g8 (fun a b q1 q2 q3 q4 => k a b q1 q2 (by omega) (by omega)), ih4 (by omega) g9 (fun a b q1 q2 q3 q4 => k a b q1 q2 (by omega) (by omega))⟩
    · rw [if_neg (by decide)]
      simp only [rm_kp, if_true]
      rw [g1.1, g1.2]
      rcases hkd with h | h <;> rw [h] <;> rfl
    · simp only [rm_kp]; simp; rw [if_neg n15, g2, sub _ (by omega), Nat.zero_add]
    · simp only [rm_kp]; simp; rw [if_neg n15, g3, sub _ (by omega), Nat.zero_add]
    · simp only [rm_kp]; simp; rw [if_neg n15, g4, sub _ (by omega), Nat.zero_add]
    · simp only [rm_kp]; simp; rw [g5, sub _ (by omega), Nat.zero_add]
/-- the lines as they are told -/
def rm_K (ls : pt_L) (I : Nat → Nat → Int32) : Prop := I 42 24 = nI (pt_nn ls) ∧ I 42 25 = nI (pt_nf ls) ∧ I 42 21 = nI ls.length ∧ I 42 17 = nI (pt_ks ls) ∧ (∀ l, l < 26 → I 51 l = nI (pt_tl ls l)) ∧ (∀ (i : Nat) (x : Nat × Bool × tr_T), ls[i]? = some x → I 52 x.1 = nI (tr_rt x.2.2) ∧ rf_rp 0 false I x.2.2) ∧ (∀ (k : Nat) (x : Nat × Bool × tr_T), (pt_lets ls)[k]? = some x → I 53 k = nI x.1)
section KEEP
variable {ext : Nat → List Value → am_M → Option am_R} {d : Nat} (L : Nat → Nat → Int64) (D : Nat → Nat → UInt64) (X : am_Rf)
theorem c143 {ls : pt_L} {I : Nat → Nat → Int32} (hL : rm_L ls I) (hwf : pt_wf ls) (hks : pt_ks ls ≤ 96) (hnn : pt_nn ls ≤ 12) (hnf : pt_nf ls ≤ 6) : ∃ I', am_Rn ext (d + 1) 143 [.ref 42] (I, L, D, am_rf X) (none, (I', L, D, am_rf X)) ∧ rm_K ls I' ∧ I' 42 59 = 0 ∧ I' 42 60 = 0 ∧ (∀ a b, ¬ (a = 42 ∧ (b = 17 ∨ b = 21 ∨ b = 24 ∨ b = 25 ∨ b = 59 ∨ b = 60)) → ¬ (45 ≤ a ∧ a ≤ 53) → I' a b = I a b) := by
  obtain ⟨g1, g2, g3, g4, g5, g6⟩ := hL
  have hlen := pt_nn_nf ls
  -- the knots
  have k3 : ∀ (m k : Nat) (I0 J : Nat → Nat → Int32), k + m = pt_ks ls → J 42 17 = nI (pt_ks ls) → (∀ a b, J a b = if 45 ≤ a ∧ a ≤ 50 ∧ b < k then rm_kp I0 a b else I0 a b) → am_wp ext d mz_143 (124, [some (.ref 42), some (.int (nI k)), none], [], (J, L, D, am_rf X)) (fun r => ∃ I', r = (none, (I', L, D, am_rf X)) ∧ ∀ a b, I' a b = if 45 ≤ a ∧ a ≤ 50 ∧ b < pt_ks ls then rm_kp I0 a b else I0 a b) := by
    intro m
    induction m with
    | zero =>
      intro k I0 J hk h17 hJ
      obtain rfl : k = pt_ks ls := by omega
      exact w143_124 J L D X _ ⟨fun _ => ⟨J, rfl, hJ⟩, fun z => absurd (by rw [h17]; exact Int32.le_refl _) z⟩
    | succ m ih =>
      intro k I0 J hk h17 hJ
      have e96 : 96 + nI k = nI (96 + k) := by rw [show (96 : Int32) = nI 96 from rfl, ni_add (by omega)]
      have ec : (96 + nI k).toNatClampNeg = 96 + k := by rw [e96, ni_nat (by omega)]
      have ec2 : (nI k).toNatClampNeg = k := ni_nat (by omega)
      have hb : am_inb (96 + nI k) 192 = true := by rw [e96]; exact ni_inb (by omega) (by omega)
      have hb2 : am_inb (nI k) 192 = true := ni_inb (by omega) (by omega)
      have hup : ∀ a, J a (96 + k) = I0 a (96 + k) := fun a => by rw [hJ a (96 + k), if_neg (by omega)]
      have inc : nI k + 1 = nI (k + 1) := by rw [show (1 : Int32) = nI 1 from rfl, ni_add (by omega)]
      -- with ov told
      have fin : ∀ (ov s : Int32), (ov = 0 ∧ s = 96 ∧ ¬ I0 45 (96 + k) = 15) ∨ (ov = 1 ∧ s = 0 ∧ I0 45 (96 + k) = 15) → am_wp ext d mz_143 (151, [some (.ref 42), some (.int (nI k)), none], [.int ov], (J, L, D, am_rf X)) (fun r => ∃ I', r = (none, (I', L, D, am_rf X)) ∧ ∀ a b, I' a b = if 45 ≤ a ∧ a ≤ 50 ∧ b < pt_ks ls then rm_kp I0 a b else I0 a b) := by
        intro ov s hov
        have sub : s = if I0 45 (96 + k) = 15 then 0 else 96 := by
          rcases hov with ⟨_, h, h2⟩ | ⟨_, h, h2⟩
          · rw [if_neg h2]; exact h
          · rw [if_pos h2]; exact h
        -- the rest, for a given s
        have tail : am_wp ext d mz_143 (206, [some (.ref 42), some (.int (nI k)), some (.int ov)], [.int s, .int (J 47 (96 + k)), .int (nI k), .ref 47], (am_uI (am_uI J 45 k (J 45 (96 + k))) 46 k (J 46 (96 + k)), L, D, am_rf X)) (fun r => ∃ I', r = (none, (I', L, D, am_rf X)) ∧ ∀ a b, I' a b = if 45 ≤ a ∧ a ≤ 50 ∧ b < pt_ks ls then rm_kp I0 a b else I0 a b) := by
          have t258 : ∀ K : Nat → Nat → Int32, K = am_uI (am_uI (am_uI (am_uI J 45 k (J 45 (96 + k))) 46 k (J 46 (96 + k))) 47 k (J 47 (96 + k) - s)) 48 k (J 48 (96 + k) - s) → am_wp ext d mz_143 (258, [some (.ref 42), some (.int (nI k)), none], [.int s, .int (J 49 (96 + k)), .int (nI k), .ref 49], (K, L, D, am_rf X)) (fun r => ∃ I', r = (none, (I', L, D, am_rf X)) ∧ ∀ a b, I' a b = if 45 ≤ a ∧ a ≤ 50 ∧ b < pt_ks ls then rm_kp I0 a b else I0 a b) := by
            intro K hK
            have e45 : (am_uI K 49 k (J 49 (96 + k) - s)) 45 k = I0 45 (96 + k) := by
              rw [hK]
              simp only [am_uI_at]
              rw [if_neg (by omega), if_neg (by omega), if_neg (by omega), if_neg (by omega), if_pos (by simp), hup]
            have e46 : (am_uI K 49 k (J 49 (96 + k) - s)) 46 k = I0 46 (96 + k) := by
              rw [hK]
              simp only [am_uI_at]
              rw [if_neg (by omega), if_neg (by omega), if_neg (by omega), if_pos (by simp), hup]
            have e50 : K 50 (96 + k) = I0 50 (96 + k) := by
              rw [hK]
              simp only [am_uI_at]
              rw [if_neg (by omega), if_neg (by omega), if_neg (by omega), if_neg (by omega), hup]
            have k45 : K 45 k = I0 45 (96 + k) := by
              rw [hK]
              simp only [am_uI_at]
              rw [if_neg (by omega), if_neg (by omega), if_neg (by omega), if_pos (by simp), hup]
            have k46 : K 46 k = I0 46 (96 + k) := by
              rw [hK]
              simp only [am_uI_at]
              rw [if_neg (by omega), if_neg (by omega), if_pos (by simp), hup]
            have rows : ∀ (M : Nat → Nat → Int32), (∀ a b, M a b = if a = 45 ∧ b = k then rm_kp I0 45 k else if a = 50 ∧ b = k then I0 50 (96 + k) - 96 else if a = 49 ∧ b = k then I0 49 (96 + k) - s else K a b) → am_wp ext d mz_143 (124, [some (.ref 42), some (.int (nI k + 1)), none], [], (M, L, D, am_rf X)) (fun r => ∃ I', r = (none, (I', L, D, am_rf X)) ∧ ∀ a b, I' a b = if 45 ≤ a ∧ a ≤ 50 ∧ b < pt_ks ls then rm_kp I0 a b else I0 a b) := by
              intro M hM
              rw [inc]
              refine ih (k + 1) I0 M (by omega) ?_ ?_
              · rw [hM 42 17, if_neg (by omega), if_neg (by omega), if_neg (by omega), hK]
                simp only [am_uI_at]
                rw [if_neg (by omega), if_neg (by omega), if_neg (by omega), if_neg (by omega)]
                exact h17
              · intro a b
                rw [hM a b, hK]
                simp only [am_uI_at]
                by_cases hbk : b = k
                · subst hbk
                  by_cases ha : 45 ≤ a ∧ a ≤ 50
                  · rw [if_pos (show 45 ≤ a ∧ a ≤ 50 ∧ b < b + 1 by omega)]
                    have : a = 45 ∨ a = 46 ∨ a = 47 ∨ a = 48 ∨ a = 49 ∨ a = 50 := by omega
                    rcases this with rfl | rfl | rfl | rfl | rfl | rfl
                    · simp
                    · simp [rm_kp, hup]
                    · simp [rm_kp, hup, sub]
                    · simp [rm_kp, hup, sub]
                    · simp [rm_kp, hup, sub]
                    · simp [rm_kp]
                  · rw [if_neg (by omega), if_neg (by omega), if_neg (by omega), if_neg (by omega), if_neg (by omega), if_neg (by omega), if_neg (by omega), if_neg (by omega), hJ a b, if_neg (by omega)]
                · rw [if_neg (by omega), if_neg (by omega), if_neg (by omega), if_neg (by omega), if_neg (by omega), if_neg (by omega), if_neg (by omega), hJ a b]
                  by_cases ha : 45 ≤ a ∧ a ≤ 50 ∧ b < k
                  · rw [if_pos ha, if_pos (by omega)]
                  · rw [if_neg ha, if_neg (by omega)]
            have e49u : (am_uI K 49 (nI k).toNatClampNeg (J 49 (96 + k) - s)) = am_uI K 49 k (I0 49 (96 + k) - s) := by rw [ec2, hup]
            refine w143_258 K L D X _ _ _ _ ⟨hb2, hb, hb2, hb2, fun z => ?_, fun z => ⟨hb2, fun z2 => ?_, fun z2 => ⟨hb2, ?_⟩⟩⟩
            · rw [ec2] at z
              rw [ec2, ec, e50, hup 49]
              refine rows _ ?_
              intro a b
              rw [k45] at z
              simp only [am_uI_at]
              by_cases h45 : a = 45 ∧ b = k
              · rw [if_pos h45, if_neg (by omega), if_neg (by omega), h45.1, h45.2, k45]
                simp only [rm_kp, if_true]
                rw [if_neg (fun q => z q.1)]
              · rw [if_neg h45]
            · rw [ec2] at z z2
              rw [ec2, ec, e50, hup 49]
              refine rows _ ?_
              intro a b
              rw [k45] at z
              rw [k46] at z2
              simp only [am_uI_at]
              by_cases h45 : a = 45 ∧ b = k
              · rw [if_pos h45, if_neg (by omega), if_neg (by omega), h45.1, h45.2, k45]
                simp only [rm_kp, if_true]
                rw [if_neg (fun q => z2 q.2)]
              · rw [if_neg h45]
            · rw [ec2] at z z2
              rw [ec2, ec, e50, hup 49]
              refine rows _ ?_
              intro a b
              rw [k45] at z
              rw [k46] at z2
              simp only [am_uI_at]
              by_cases h45 : a = 45 ∧ b = k
              · rw [if_pos h45, if_pos h45]
                simp only [rm_kp, if_true]
                rw [if_pos ⟨z, z2⟩]
              · rw [if_neg h45, if_neg h45]
          refine w143_206 _ L D X _ _ _ _ _ ⟨hb2, hb, fun z => ?_, fun z => ?_⟩
          · rw [ec2, ec]
            have e48 : (am_uI (am_uI J 45 k (J 45 (96 + k))) 46 k (J 46 (96 + k))) 48 (96 + k) = J 48 (96 + k) := by simp [am_uI_at]
            rw [e48]
            have s96 : s = 96 := by rcases hov with ⟨_, h, _⟩ | ⟨h, _, _⟩; exact h; rw [z] at h; exact absurd h (by decide)
            refine w143_232 _ L D X _ _ _ _ _ ⟨hb2, hb, fun _ => ?_, fun z2 => absurd z z2⟩
            rw [ec2, ec]
            have e49 : (am_uI (am_uI (am_uI J 45 k (J 45 (96 + k))) 46 k (J 46 (96 + k))) 47 k (J 47 (96 + k) - s)) 49 (96 + k) = J 49 (96 + k) := by simp [am_uI_at]
            rw [e49, ← s96]
            exact t258 _ rfl
          · rw [ec2, ec]
            have e48 : (am_uI (am_uI J 45 k (J 45 (96 + k))) 46 k (J 46 (96 + k))) 48 (96 + k) = J 48 (96 + k) := by simp [am_uI_at]
            rw [e48]
            have s00 : s = 0 := by rcases hov with ⟨h, _, _⟩ | ⟨_, h, _⟩; exact absurd h z; exact h
            refine w143_232 _ L D X _ _ _ _ _ ⟨hb2, hb, fun z2 => absurd z2 z, fun _ => ?_⟩
            rw [ec2, ec]
            have e49 : (am_uI (am_uI (am_uI J 45 k (J 45 (96 + k))) 46 k (J 46 (96 + k))) 47 k (J 47 (96 + k) - s)) 49 (96 + k) = J 49 (96 + k) := by simp [am_uI_at]
            rw [e49, ← s00]
            exact t258 _ rfl
        refine w143_151 J L D X _ _ ⟨hb, hb2, hb, hb2, hb, fun z => ?_, fun z => ?_⟩
        · rw [ec2, ec]
          have s96 : s = 96 := by rcases hov with ⟨_, h, _⟩ | ⟨h, _, _⟩; exact h; rw [z] at h; exact absurd h (by decide)
          rw [← s96]; exact tail
        · rw [ec2, ec]
          have s00 : s = 0 := by rcases hov with ⟨h, _, _⟩ | ⟨_, h, _⟩; exact absurd h z; exact h
          rw [← s00]; exact tail
      refine w143_124 J L D X _ ⟨fun z => ?_, fun _ => ⟨hb, fun z => ?_, fun z => ?_⟩⟩
      · rw [h17, ni_le (by omega) (by omega)] at z
        omega
      · rw [ec, hup] at z
        exact fin 0 96 (Or.inl ⟨rfl, rfl, z⟩)
      · rw [ec, hup] at z
        exact fin 1 0 (Or.inr ⟨rfl, rfl, z⟩)
  -- the order of the numbers
  have k2 : ∀ (m k : Nat) (I0 J : Nat → Nat → Int32), k + m = pt_nn ls → I0 42 26 = nI (pt_nn ls) → I0 42 27 = nI (pt_nf ls) → I0 42 18 = nI (pt_ks ls) → (∀ a b, J a b = if a = 53 ∧ b < k then I0 54 b else I0 a b) → am_wp ext d mz_143 (59, [some (.ref 42), some (.int (nI k)), none], [], (J, L, D, am_rf X)) (fun r => ∃ I', r = (none, (I', L, D, am_rf X)) ∧ ∀ a b, I' a b = if 45 ≤ a ∧ a ≤ 50 ∧ b < pt_ks ls then rm_kp I0 a b else if a = 53 ∧ b < pt_nn ls then I0 54 b else if a = 42 ∧ b = 24 then nI (pt_nn ls) else if a = 42 ∧ b = 25 then nI (pt_nf ls) else if a = 42 ∧ b = 21 then nI ls.length else if a = 42 ∧ b = 17 then nI (pt_ks ls) else I0 a b) := by
    intro m
    induction m with
    | zero =>
      intro k I0 J hk h26 h27 h18 hJ
      obtain rfl : k = pt_nn ls := by omega
      have j26 : J 42 26 = nI (pt_nn ls) := by rw [hJ 42 26, if_neg (by omega)]; exact h26
      have j27 : J 42 27 = nI (pt_nf ls) := by rw [hJ 42 27, if_neg (by omega)]; exact h27
      have j18 : J 42 18 = nI (pt_ks ls) := by rw [hJ 42 18, if_neg (by omega)]; exact h18
      refine w143_59 J L D X _ ⟨fun _ => ?_, fun z => absurd (by rw [j26]; exact Int32.le_refl _) z⟩
      rw [j26, j27, j18, ni_add (by omega), hlen]
      refine am_wp_mono (k3 (pt_ks ls) 0 (am_uI (am_uI (am_uI (am_uI J 42 24 (nI (pt_nn ls))) 42 25 (nI (pt_nf ls))) 42 21 (nI ls.length)) 42 17 (nI (pt_ks ls))) _ (by omega) (by simp [am_uI_at]) (fun a b => by rw [if_neg (by omega)])) ?_
      rintro r ⟨I', rfl, h⟩
      refine ⟨I', rfl, fun a b => ?_⟩
      rw [h a b]
      by_cases ha : 45 ≤ a ∧ a ≤ 50 ∧ b < pt_ks ls
      · rw [if_pos ha, if_pos ha]
        have rd : ∀ x y, 45 ≤ x → x ≤ 50 → (am_uI (am_uI (am_uI (am_uI J 42 24 (nI (pt_nn ls))) 42 25 (nI (pt_nf ls))) 42 21 (nI ls.length)) 42 17 (nI (pt_ks ls))) x y = I0 x y := by
          intro x y h1 h2
          simp only [am_uI_at]
          rw [if_neg (by omega), if_neg (by omega), if_neg (by omega), if_neg (by omega), hJ x y, if_neg (by omega)]
        unfold rm_kp
        rw [rd 45 _ (by omega) (by omega), rd 46 _ (by omega) (by omega), rd 50 _ (by omega) (by omega), rd a _ ha.1 ha.2.1]
      · rw [if_neg ha, if_neg ha]
        simp only [am_uI_at]
        by_cases h53 : a = 53 ∧ b < pt_nn ls
        · rw [if_neg (by omega), if_neg (by omega), if_neg (by omega), if_neg (by omega), if_pos h53, hJ a b, if_pos h53]
        · rw [if_neg h53]
          by_cases h17 : a = 42 ∧ b = 17
          · rw [if_pos h17, if_neg (by omega), if_neg (by omega), if_neg (by omega), if_pos h17]
          · rw [if_neg h17, if_neg h17]
            by_cases h21 : a = 42 ∧ b = 21
            · rw [if_pos h21, if_neg (by omega), if_neg (by omega), if_pos h21]
            · rw [if_neg h21, if_neg h21]
              by_cases h25 : a = 42 ∧ b = 25
              · rw [if_pos h25, if_neg (by omega), if_pos h25]
              · rw [if_neg h25, if_neg h25]
                by_cases h24 : a = 42 ∧ b = 24
                · rw [if_pos h24, if_pos h24]
                · rw [if_neg h24, if_neg h24, hJ a b, if_neg h53]
    | succ m ih =>
      intro k I0 J hk h26 h27 h18 hJ
      have j26 : J 42 26 = nI (pt_nn ls) := by rw [hJ 42 26, if_neg (by omega)]; exact h26
      refine w143_59 J L D X _ ⟨fun z => ?_, fun _ => ⟨ni_inb (by omega) (by omega), ni_inb (by omega) (by omega), ?_⟩⟩
      · rw [j26, ni_le (by omega) (by omega)] at z
        omega
      · rw [show (1 : Int32) = nI 1 from rfl, ni_add (by omega), ni_nat (by omega)]
        refine ih (k + 1) I0 _ (by omega) h26 h27 h18 (fun a b => ?_)
        rw [am_uI_at]
        by_cases hab : a = 53 ∧ b = k
        · rw [if_pos hab, if_pos (by omega), hab.2, hJ 54 k, if_neg (by omega)]
        · rw [if_neg hab, hJ a b]
          by_cases h53 : a = 53 ∧ b < k
          · rw [if_pos h53, if_pos (by omega)]
          · rw [if_neg h53, if_neg (by omega)]
  -- the letters
  have k1 : ∀ (m k : Nat) (I0 J : Nat → Nat → Int32), k + m = 26 → I0 42 26 = nI (pt_nn ls) → I0 42 27 = nI (pt_nf ls) → I0 42 18 = nI (pt_ks ls) → (∀ a b, J a b = if a = 51 ∧ b < k then I0 51 (26 + b) else if a = 52 ∧ b < k then I0 52 (26 + b) - 96 else I0 a b) → am_wp ext d mz_143 (12, [some (.ref 42), some (.int (nI k)), none], [], (J, L, D, am_rf X)) (fun r => ∃ I' I1, r = (none, (I', L, D, am_rf X)) ∧ (∀ a b, I1 a b = if a = 51 ∧ b < 26 then I0 51 (26 + b) else if a = 52 ∧ b < 26 then I0 52 (26 + b) - 96 else I0 a b) ∧ ∀ a b, I' a b = if 45 ≤ a ∧ a ≤ 50 ∧ b < pt_ks ls then rm_kp I1 a b else if a = 53 ∧ b < pt_nn ls then I1 54 b else if a = 42 ∧ b = 24 then nI (pt_nn ls) else if a = 42 ∧ b = 25 then nI (pt_nf ls) else if a = 42 ∧ b = 21 then nI ls.length else if a = 42 ∧ b = 17 then nI (pt_ks ls) else I1 a b) := by
    intro m
    induction m with
    | zero =>
      intro k I0 J hk h26 h27 h18 hJ
      obtain rfl : k = 26 := by omega
      refine w143_12 J L D X _ ⟨fun _ => ?_, fun z => absurd (by decide) z⟩
      refine am_wp_mono (k2 (pt_nn ls) 0 J J (by omega) (by rw [hJ 42 26, if_neg (by omega), if_neg (by omega)]; exact h26) (by rw [hJ 42 27, if_neg (by omega), if_neg (by omega)]; exact h27) (by rw [hJ 42 18, if_neg (by omega), if_neg (by omega)]; exact h18) (fun a b => by rw [if_neg (by omega)])) ?_
      rintro r ⟨I', rfl, h⟩
      exact ⟨I', J, rfl, hJ, h⟩
    | succ m ih =>
      intro k I0 J hk h26 h27 h18 hJ
      have e26 : 26 + nI k = nI (26 + k) := by rw [show (26 : Int32) = nI 26 from rfl, ni_add (by omega)]
      have ec : (26 + nI k).toNatClampNeg = 26 + k := by rw [e26, ni_nat (by omega)]
      have hb : am_inb (26 + nI k) 52 = true := by rw [e26]; exact ni_inb (by omega) (by omega)
      have hb2 : am_inb (nI k) 52 = true := ni_inb (by omega) (by omega)
      refine w143_12 J L D X _ ⟨fun z => ?_, fun _ => ⟨hb, hb2, hb, hb2, ?_⟩⟩
      · rw [show (26 : Int32) = nI 26 from rfl, ni_le (by omega) (by omega)] at z
        omega
      · rw [ec, ni_nat (by omega), show nI k + 1 = nI (k + 1) by rw [show (1 : Int32) = nI 1 from rfl, ni_add (by omega)]]
        refine ih (k + 1) I0 _ (by omega) h26 h27 h18 (fun a b => ?_)
        simp only [am_uI_at]
        by_cases h52 : a = 52 ∧ b = k
        · rw [if_pos h52, if_neg (by omega), if_pos (by omega), h52.2, hJ 52 (26 + k), if_neg (by omega), if_neg (by omega)]
        · rw [if_neg h52]
          by_cases h51 : a = 51 ∧ b = k
          · rw [if_pos h51, if_pos (by omega), h51.2, hJ 51 (26 + k), if_neg (by omega), if_neg (by omega)]
          · rw [if_neg h51, hJ a b]
            by_cases ha : a = 51 ∧ b < k
            · rw [if_pos ha, if_pos (by omega)]
            · rw [if_neg ha, if_neg (show ¬ (a = 51 ∧ b < k + 1) by omega)]
              by_cases ha2 : a = 52 ∧ b < k
              · rw [if_pos ha2, if_pos (by omega)]
              · rw [if_neg ha2, if_neg (by omega)]
  obtain ⟨r, w, I', I1, rfl, h1, h2⟩ := am_of_wp (as := [.ref 42]) mh_143 rfl (w143_0 I L D X (k1 26 0 (am_uI (am_uI I 42 59 0) 42 60 0) _ (by omega) (by simp [am_uI_at, g1]) (by simp [am_uI_at, g2]) (by simp [am_uI_at, g3]) (fun a b => by rw [if_neg (by omega), if_neg (by omega)])))
  have i1 : ∀ a b, ¬ (a = 42 ∧ (b = 59 ∨ b = 60)) → ¬ ((a = 51 ∨ a = 52) ∧ b < 26) → I1 a b = I a b := by
    intro a b q1 q2
    rw [h1 a b, if_neg (by omega), if_neg (by omega)]
    simp only [am_uI_at]
    rw [if_neg (by omega), if_neg (by omega)]
  have o42 : ∀ b, ¬ b = 24 → ¬ b = 25 → ¬ b = 21 → ¬ b = 17 → I' 42 b = I1 42 b := fun b q1 q2 q3 q4 => by rw [h2 42 b, if_neg (by omega), if_neg (by omega), if_neg (by omega), if_neg (by omega), if_neg (by omega), if_neg (by omega)]
  refine ⟨I', w, ⟨?_, ?_, ?_, ?_, fun l hl => ?_, fun i x hx => ⟨?_, ?_⟩, fun k x hx => ?_⟩, ?_, ?_, fun a b q1 q2 => ?_⟩
  · rw [h2 42 24, if_neg (by omega), if_neg (by omega), if_pos ⟨rfl, rfl⟩]
  · rw [h2 42 25, if_neg (by omega), if_neg (by omega), if_neg (by omega), if_pos ⟨rfl, rfl⟩]
  · rw [h2 42 21, if_neg (by omega), if_neg (by omega), if_neg (by omega), if_neg (by omega), if_pos ⟨rfl, rfl⟩]
  · rw [h2 42 17, if_neg (by omega), if_neg (by omega), if_neg (by omega), if_neg (by omega), if_neg (by omega), if_pos ⟨rfl, rfl⟩]
  · rw [h2 51 l, if_neg (by omega), if_neg (by omega), if_neg (by omega), if_neg (by omega), if_neg (by omega), if_neg (by omega), h1 51 l, if_pos ⟨rfl, hl⟩]
    simp only [am_uI_at]
    rw [if_neg (by omega), if_neg (by omega)]
    exact g4 l hl
  · have hx26 := (hwf i x hx).1
    rw [h2 52 x.1, if_neg (by omega), if_neg (by omega), if_neg (by omega), if_neg (by omega), if_neg (by omega), if_neg (by omega), h1 52 x.1, if_neg (by omega), if_pos ⟨rfl, hx26⟩]
    simp only [am_uI_at]
    have hle := pt_ks_le hx
    have hrt := tr_rt_rg x.2.2 _ (hwf i x hx).2.2.2
    rw [if_neg (by omega), if_neg (by omega), (g5 i x hx).1, show (96 : Int32) = nI 96 from rfl, ni_sub (by omega) (by omega)]
    congr 1
    omega
  · have hle := pt_ks_le hx
    refine rm_rp (I := I) x.2.2 _ (hwf i x hx).2.2.2 (by omega) (g5 i x hx).2 (fun a b q1 q2 q3 q4 => ?_)
    rw [h2 a b, if_pos (by omega)]
    unfold rm_kp
    rw [i1 45 _ (by omega) (by omega), i1 46 _ (by omega) (by omega), i1 50 _ (by omega) (by omega), i1 a _ (by omega) (by omega)]
  · have hk' : k < pt_nn ls := (List.getElem?_eq_some_iff.mp hx).1
    rw [h2 53 k, if_neg (by omega), if_pos ⟨rfl, hk'⟩, i1 54 k (by omega) (by omega)]
    exact g6 k x hx
  · rw [o42 59 (by omega) (by omega) (by omega) (by omega), h1 42 59, if_neg (by omega), if_neg (by omega)]
    simp [am_uI_at]
  · rw [o42 60 (by omega) (by omega) (by omega) (by omega), h1 42 60, if_neg (by omega), if_neg (by omega)]
    simp [am_uI_at]
  · rw [h2 a b, if_neg (by omega), if_neg (by omega), if_neg (by omega), if_neg (by omega), if_neg (by omega), if_neg (by omega)]
    exact i1 a b (by omega) (by omega)
end KEEP
