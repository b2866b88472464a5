/-! ===== feed: the class writes four bytes a time, the reference twenty ===== -/
/-- byte j of a number, the highest first -/
def pu_byte (v : Int32) (j : Nat) : Int32 := (v >>> (nI (24 - 8 * j) &&& 31)) &&& 255
section FEED
variable {ext : Nat → List Value → am_M → Option am_R} {d : Nat} (L : Nat → Nat → Int64) (D : Nat → Nat → UInt64) (X : am_Rf)
/-- tapeNumber -/
theorem c93 (I : Nat → Nat → Int32) (v : Int32) {t : Nat} (ht : I 0 8 = nI t) (h4 : t + 4 ≤ 500) :
    ∃ I', am_Rn ext (d + 1) 93 [.ref 0, .int v] (I, L, D, am_rf X) (none, (I', L, D, am_rf X)) ∧ I' 0 8 = nI (t + 4) ∧ (∀ i, I' 1 i = if t ≤ i ∧ i < t + 4 then pu_byte v (i - t) else I 1 i) ∧ (∀ a b, ¬ a = 1 → ¬ (a = 0 ∧ b = 8) → I' a b = I a b) := by
  have key : ∀ (n j : Nat) (J : Nat → Nat → Int32), j + n = 4 → J 0 8 = nI (t + j) → (∀ i, J 1 i = if t ≤ i ∧ i < t + j then pu_byte v (i - t) else I 1 i) → (∀ a b, ¬ a = 1 → ¬ (a = 0 ∧ b = 8) → J a b = I a b) → ∀ w : Int32, w.toInt = 24 - 8 * (j : Int) →
      am_wp ext d mz_93 (3, [some (.ref 0), some (.int v), some (.int w)], [], (J, L, D, am_rf X)) (fun r => ∃ I', r = (none, (I', L, D, am_rf X)) ∧ I' 0 8 = nI (t + 4) ∧ (∀ i, I' 1 i = if t ≤ i ∧ i < t + 4 then pu_byte v (i - t) else I 1 i) ∧ (∀ a b, ¬ a = 1 → ¬ (a = 0 ∧ b = 8) → I' a b = I a b)) := by
    intro n
    induction n with
    | zero =>
      intro j J hj h1 h2 h3 w hw
      have hj4 : j = 4 := by omega
      subst hj4
      refine w93_3 J L D X v w ⟨fun _ => ⟨J, rfl, h1, h2, h3⟩, fun hn => absurd ?_ hn⟩
      rw [Int32.lt_iff_toInt_lt, hw, Int32.toInt_zero]
      decide
    | succ n ih =>
      intro j J hj h1 h2 h3 w hw
      refine w93_3 J L D X v w ⟨fun hn => absurd hn ?_, fun _ => ⟨fun hn => absurd hn ?_, fun _ => ⟨?_, ?_⟩⟩⟩
      · rw [Int32.lt_iff_toInt_lt, hw, Int32.toInt_zero]
        omega
      · rw [h1, show (500 : Int32) = nI 500 from rfl, ni_le (by omega) (by omega)]
        omega
      · rw [h1]
        exact ni_inb (by omega) (by omega)
      · have e1 : J 0 8 + 1 = nI (t + (j + 1)) := by
          rw [h1, show (1 : Int32) = nI 1 from rfl, ni_add (by omega)]
          rfl
        have ew : w = nI (24 - 8 * j) := by
          rw [← Int32.toInt_inj, hw, nI_toInt (by omega)]
          omega
        refine ih (j + 1) _ (by omega) ?_ ?_ ?_ (w + (-8)) ?_
        · rw [am_uI_at, if_pos ⟨rfl, rfl⟩, e1]
        · intro i
          rw [am_uI_at, if_neg (by omega), am_uI_at, h1, ni_nat (by omega)]
          by_cases hi : i = t + j
          · subst hi
            rw [if_pos ⟨rfl, rfl⟩, if_pos (by omega), ew]
            unfold pu_byte
            congr 5
            omega
          · rw [if_neg (fun h => hi h.2), h2 i]
            by_cases h5 : t ≤ i ∧ i < t + j
            · rw [if_pos h5, if_pos (by omega)]
            · rw [if_neg h5, if_neg (by omega)]
        · intro a b ha hab
          rw [am_uI_at, if_neg hab, am_uI_at, if_neg (fun h => ha h.1)]
          exact h3 a b ha hab
        · rw [Int32.toInt_add, hw]
          have : (-8 : Int32).toInt = -8 := rfl
          rw [this, Int.bmod_eq_of_le (by omega) (by omega)]
          omega
  obtain ⟨r, h1, I', rfl, h2⟩ := am_of_wp (as := [.ref 0, .int v]) mh_93 rfl (w93_0 I L D X v (key 4 0 I (by omega) ht (fun i => by rw [if_neg (by omega)]) (fun _ _ _ _ => rfl) 24 (by decide)))
  exact ⟨I', h1, h2⟩

/-- byte i of five numbers -/
def pu_b20 (a b c e f : Int32) (i : Nat) : Int32 := if i < 4 then pu_byte a i else if i < 8 then pu_byte b (i - 4) else if i < 12 then pu_byte c (i - 8) else if i < 16 then pu_byte e (i - 12) else pu_byte f (i - 16)
theorem c92 (I : Nat → Nat → Int32) (v1 v2 v3 v4 v5 : Int32) {t : Nat} (ht : I 0 8 = nI t) (h5 : t ≤ 500) :
    ∃ I', am_Rn ext (d + 2) 92 [.ref 0, .int v1, .int v2, .int v3, .int v4, .int v5] (I, L, D, am_rf X) (some (.int (if t + 20 ≤ 500 then nI (t + 20) else -1)), (I', L, D, am_rf X)) ∧ I' 0 8 = (if t + 20 ≤ 500 then nI (t + 20) else nI t) ∧ (∀ i, I' 1 i = if t + 20 ≤ 500 ∧ t ≤ i ∧ i < t + 20 then pu_b20 v1 v2 v3 v4 v5 (i - t) else I 1 i) ∧ (∀ a b, ¬ a = 1 → ¬ (a = 0 ∧ b = 8) → I' a b = I a b) := by
  have e20 : I 0 8 + 20 = nI (t + 20) := by rw [ht, show (20 : Int32) = nI 20 from rfl, ni_add (by omega)]
  have hle : I 0 8 + 20 ≤ 500 ↔ t + 20 ≤ 500 := by rw [e20, show (500 : Int32) = nI 500 from rfl, ni_le (by omega) (by omega)]
  by_cases h20 : t + 20 ≤ 500
  · obtain ⟨I1, r1, a1, b1, c1⟩ := c93 (ext := ext) (d := d) L D X I v1 ht (by omega)
    obtain ⟨I2, r2, a2, b2, c2⟩ := c93 (ext := ext) (d := d) L D X I1 v2 a1 (by omega)
    obtain ⟨I3, r3, a3, b3, c3⟩ := c93 (ext := ext) (d := d) L D X I2 v3 a2 (by omega)
    obtain ⟨I4, r4, a4, b4, c4⟩ := c93 (ext := ext) (d := d) L D X I3 v4 a3 (by omega)
    obtain ⟨I5, r5, a5, b5, c5⟩ := c93 (ext := ext) (d := d) L D X I4 v5 a4 (by omega)
    refine ⟨I5, ?_, ?_, ?_, ?_⟩
    · refine am_rn_of mh_92 rfl (w92_0 I L D X v1 v2 v3 v4 v5 ⟨fun _ => ⟨I1, L, D, r1, I2, L, D, r2, I3, L, D, r3, I4, L, D, r4, I5, L, D, r5, ?_⟩, fun h => absurd (hle.mpr h20) h⟩)
      rw [if_pos h20, a5]
    · rw [if_pos h20, a5]
    · intro i
      rw [b5, b4, b3, b2, b1]
      unfold pu_b20
      repeat' split
      all_goals first | rfl | (exfalso; omega) | (congr 1; omega)
    · intro a b ha hab
      rw [c5 a b ha hab, c4 a b ha hab, c3 a b ha hab, c2 a b ha hab, c1 a b ha hab]
  · refine ⟨I, ?_, ?_, ?_, fun _ _ _ _ => rfl⟩
    · refine am_rn_of mh_92 rfl (w92_0 I L D X v1 v2 v3 v4 v5 ⟨fun h => absurd (hle.mp h) h20, fun _ => ?_⟩)
      rw [if_neg h20]
    · rw [if_neg h20, ht]
    · intro i
      rw [if_neg (fun h => h20 h.1)]
/-- the reference's feed -/
theorem c116 (I : Nat → Nat → Int32) (v1 v2 v3 v4 v5 : Int32) {t : Nat} (ht : I 42 1 = nI t) (h5 : t ≤ 500) :
    ∃ I', am_Rn ext (d + 1) 116 [.ref 42, .int v1, .int v2, .int v3, .int v4, .int v5] (I, L, D, am_rf X) (some (.int (if t + 20 ≤ 500 then nI (t + 20) else -1)), (I', L, D, am_rf X)) ∧ I' 42 1 = (if t + 20 ≤ 500 then nI (t + 20) else nI t) ∧ (∀ i, I' 43 i = if t + 20 ≤ 500 ∧ t ≤ i ∧ i < t + 20 then pu_b20 v1 v2 v3 v4 v5 (i - t) else I 43 i) ∧ (∀ a b, ¬ a = 43 → ¬ (a = 42 ∧ (b = 1 ∨ b = 2)) → I' a b = I a b) := by
  have e20 : I 42 1 + 20 = nI (t + 20) := by rw [ht, show (20 : Int32) = nI 20 from rfl, ni_add (by omega)]
  have hle : I 42 1 + 20 ≤ 500 ↔ t + 20 ≤ 500 := by rw [e20, show (500 : Int32) = nI 500 from rfl, ni_le (by omega) (by omega)]
  by_cases h20 : t + 20 ≤ 500
  · have key : ∀ (n j : Nat) (J : Nat → Nat → Int32), j + n = 20 → J 42 1 = nI t → (∀ i, J 43 i = if t ≤ i ∧ i < t + j then pu_b20 v1 v2 v3 v4 v5 (i - t) else I 43 i) → (∀ a b, ¬ a = 43 → ¬ (a = 42 ∧ (b = 1 ∨ b = 2)) → J a b = I a b) →
        am_wp ext d mz_116 (23, [some (.ref 42), some (.int v1), some (.int v2), some (.int v3), some (.int v4), some (.int v5), some (.int (nI j)), none], [], (J, L, D, am_rf X)) (fun r => ∃ I', r = (some (.int (nI (t + 20))), (I', L, D, am_rf X)) ∧ I' 42 1 = nI (t + 20) ∧ (∀ i, I' 43 i = if t ≤ i ∧ i < t + 20 then pu_b20 v1 v2 v3 v4 v5 (i - t) else I 43 i) ∧ (∀ a b, ¬ a = 43 → ¬ (a = 42 ∧ (b = 1 ∨ b = 2)) → I' a b = I a b)) := by
      intro n
      induction n with
      | zero =>
        intro j J hj h1 h2 h3
        have hj4 : j = 20 := by omega
        subst hj4
        refine w116_23 J L D X v1 v2 v3 v4 v5 (nI 20) ⟨fun _ => ?_, fun hn => absurd (by decide) hn⟩
        have e1 : J 42 1 + 20 = nI (t + 20) := by rw [h1, show (20 : Int32) = nI 20 from rfl, ni_add (by omega)]
        rw [e1]
        refine ⟨_, rfl, ?_, ?_, ?_⟩
        · rw [am_uI_at, if_pos ⟨rfl, rfl⟩]
        · intro i
          rw [am_uI_at, if_neg (by omega), h2 i]
        · intro a b ha hab
          rw [am_uI_at, if_neg (fun h => hab ⟨h.1, Or.inl h.2⟩)]
          exact h3 a b ha hab
      | succ n ih =>
        intro j J hj h1 h2 h3
        have hj20 : j < 20 := by omega
        have g : ∀ (s0 : Int32), pu_b20 v1 v2 v3 v4 v5 j = (s0 >>> ((24 - (8 * (nI j - nI j / 4 * 4))) &&& 31)) &&& 255 → am_wp ext d mz_116 (76, [some (.ref 42), some (.int v1), some (.int v2), some (.int v3), some (.int v4), some (.int v5), some (.int (nI j)), none], [.int s0], (J, L, D, am_rf X)) (fun r => ∃ I', r = (some (.int (nI (t + 20))), (I', L, D, am_rf X)) ∧ I' 42 1 = nI (t + 20) ∧ (∀ i, I' 43 i = if t ≤ i ∧ i < t + 20 then pu_b20 v1 v2 v3 v4 v5 (i - t) else I 43 i) ∧ (∀ a b, ¬ a = 43 → ¬ (a = 42 ∧ (b = 1 ∨ b = 2)) → I' a b = I a b)) := by
          intro s0 hs0
          have e1 : J 42 1 + nI j = nI (t + j) := by rw [h1, ni_add (by omega)]
          refine w116_76 J L D X v1 v2 v3 v4 v5 (nI j) s0 ⟨?_, ?_⟩
          · rw [e1]
            exact ni_inb (by omega) (by omega)
          · rw [e1, ni_nat (by omega), ← hs0, show (1 : Int32) = nI 1 from rfl, ni_add (by omega)]
            refine ih (j + 1) _ (by omega) ?_ ?_ ?_
            · rw [am_uI_at, if_neg (by omega)]
              exact h1
            · intro i
              rw [am_uI_at]
              by_cases hi : i = t + j
              · subst hi
                rw [if_pos ⟨rfl, rfl⟩, if_pos (by omega), show t + j - t = j by omega]
              · rw [if_neg (fun h => hi h.2), h2 i]
                by_cases h6 : t ≤ i ∧ i < t + j
                · rw [if_pos h6, if_pos (by omega)]
                · rw [if_neg h6, if_neg (by omega)]
            · intro a b ha hab
              rw [am_uI_at, if_neg (fun h => ha h.1)]
              exact h3 a b ha hab
        have sh : ∀ v : Int32, ∀ j, j < 20 → (v >>> ((24 - (8 * (nI j - nI j / 4 * 4))) &&& 31)) &&& 255 = pu_byte v (j % 4) := by
          intro v j hj
          have : ∀ j, j < 20 → ((24 - (8 * (nI j - nI j / 4 * 4))) &&& 31) = (nI (24 - 8 * (j % 4)) &&& 31) := by decide +kernel
          rw [this j hj]
          rfl
        have dec : ∀ j, j < 20 → ∀ k, k < 21 → ((nI k ≤ nI j) ↔ k ≤ j) := by
          intro j hj k hk
          exact ni_le (by omega) (by omega)
        refine w116_23 J L D X v1 v2 v3 v4 v5 (nI j) ⟨fun hn => absurd ((dec j hj20 20 (by omega)).mp hn) (by omega), fun _ => ⟨fun q4 => ⟨fun q8 => ⟨fun q12 => ⟨fun q16 => ?_, fun q16 => ?_⟩, fun q12 => ?_⟩, fun q8 => ?_⟩, fun q4 => ?_⟩⟩
        · have z := (dec j hj20 16 (by omega)).mp q16
          refine g v5 ?_
          rw [sh v5 j hj20]
          unfold pu_b20
          rw [if_neg (by omega), if_neg (by omega), if_neg (by omega), if_neg (by omega)]
          congr 1
          omega
        · have z := (dec j hj20 12 (by omega)).mp q12
          have z2 : ¬ 16 ≤ j := fun h => q16 ((dec j hj20 16 (by omega)).mpr h)
          refine g v4 ?_
          rw [sh v4 j hj20]
          unfold pu_b20
          rw [if_neg (by omega), if_neg (by omega), if_neg (by omega), if_pos (by omega)]
          congr 1
          omega
        · have z := (dec j hj20 8 (by omega)).mp q8
          have z2 : ¬ 12 ≤ j := fun h => q12 ((dec j hj20 12 (by omega)).mpr h)
          refine g v3 ?_
          rw [sh v3 j hj20]
          unfold pu_b20
          rw [if_neg (by omega), if_neg (by omega), if_pos (by omega)]
          congr 1
          omega
        · have z := (dec j hj20 4 (by omega)).mp q4
          have z2 : ¬ 8 ≤ j := fun h => q8 ((dec j hj20 8 (by omega)).mpr h)
          refine g v2 ?_
          rw [sh v2 j hj20]
          unfold pu_b20
          rw [if_neg (by omega), if_pos (by omega)]
          congr 1
          omega
        · have z2 : ¬ 4 ≤ j := fun h => q4 ((dec j hj20 4 (by omega)).mpr h)
          refine g v1 ?_
          rw [sh v1 j hj20]
          unfold pu_b20
          rw [if_pos (by omega)]
          congr 1
          omega
    obtain ⟨r, h1, I', rfl, h2, h3, h4⟩ := am_of_wp (as := [.ref 42, .int v1, .int v2, .int v3, .int v4, .int v5]) mh_116 rfl (w116_0 I L D X v1 v2 v3 v4 v5 ⟨fun _ => key 20 0 (am_uI I 42 2 0) (by omega) (by rw [am_uI_at, if_neg (by omega)]; exact ht) (fun i => by rw [if_neg (by omega), am_uI_at, if_neg (by omega)]) (fun a b _ hab => by rw [am_uI_at, if_neg (fun h => hab ⟨h.1, Or.inr h.2⟩)]), fun h => absurd (hle.mpr h20) h⟩)
    refine ⟨I', by rw [if_pos h20]; exact h1, by rw [if_pos h20]; exact h2, fun i => ?_, h4⟩
    rw [h3 i]
    by_cases h6 : t ≤ i ∧ i < t + 20
    · rw [if_pos h6, if_pos ⟨h20, h6⟩]
    · rw [if_neg h6, if_neg (fun h => h6 h.2)]
  · refine ⟨am_uI I 42 2 0, ?_, ?_, ?_, ?_⟩
    · refine am_rn_of mh_116 rfl (w116_0 I L D X v1 v2 v3 v4 v5 ⟨fun h => absurd (hle.mp h) h20, fun _ => ?_⟩)
      rw [if_neg h20]
    · rw [if_neg h20, am_uI_at, if_neg (by omega)]
      exact ht
    · intro i
      rw [if_neg (fun h => h20 h.1), am_uI_at, if_neg (by omega)]
    · intro a b _ hab
      rw [am_uI_at, if_neg (fun h => hab ⟨h.1, Or.inr h.2⟩)]
end FEED
