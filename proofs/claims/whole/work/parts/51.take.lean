/-! ===== the reference's take, against the class's tokens ===== -/
def rf_tok (x : Int32 × Int32 × Int32) (k w p : Int32) : Prop := p = x.2.1 ∧ ((x.1 = 0 ∧ k = 0) ∨ (x.1 = 1 ∧ k = 5) ∨ (x.1 = 2 ∧ k = 3 ∧ (w = x.2.2 ∨ (999 < w.toInt ∧ 999 < x.2.2.toInt))) ∨ (x.1 = 3 ∧ k = 2 ∧ w = x.2.2) ∨ (∃ j : Nat, j < 11 ∧ x.1 = nI (4 + j) ∧ k = 1 ∧ w = nI j) ∨ (pu_sgn x.1 = true ∧ k = 4 ∧ w = x.1))
def rf_P (f : Nat → Int32) (n : Nat) (l : List (Int32 × Int32 × Int32)) (I : Nat → Nat → Int32) : Prop := ∃ p m, I 42 7 = nI p ∧ p ≤ n ∧ n ≤ p + m ∧ l = pu_toks f n m p
def rf_wd (I : Nat → Nat → Int32) : Prop := ∀ i, i < 51 → I 44 i = (pu_flat pu_words).getD i 0
def rf_tf (I I' : Nat → Nat → Int32) : Prop := ∀ a b, ¬ (a = 42 ∧ 7 ≤ b ∧ b ≤ 10) → I' a b = I a b
theorem rf_tf_u {I I1 : Nat → Nat → Int32} {b : Nat} {x : Int32} (h : rf_tf I I1) (hb : 7 ≤ b ∧ b ≤ 10) : rf_tf I (am_uI I1 42 b x) := by
  intro a b' hab
  rw [am_uI_at, if_neg (by omega)]
  exact h a b' hab
theorem mt_F_tf {f : Nat → Int32} {n : Nat} {I I' : Nat → Nat → Int32} (h : mt_F f n I) (hf : rf_tf I I') : mt_F f n I' := by
  obtain ⟨h1, h2, h3⟩ := h
  exact ⟨by rw [hf 42 6 (by omega)]; exact h1, h2, fun i hi => by rw [hf 43 i (by omega)]; exact h3 i hi⟩
theorem rf_wd_tf {I I' : Nat → Nat → Int32} (h : rf_wd I) (hf : rf_tf I I') : rf_wd I' := fun i hi => by rw [hf 44 i (by omega)]; exact h i hi
section TAKE
variable {ext : Nat → List Value → am_M → Option am_R} {d : Nat} (L : Nat → Nat → Int64) (D : Nat → Nat → UInt64) (X : am_Rf) {f : Nat → Int32} {n : Nat}
def rf_Q (f : Nat → Int32) (n : Nat) (L : Nat → Nat → Int64) (D : Nat → Nat → UInt64) (X : am_Rf) (I : Nat → Nat → Int32) (l : List (Int32 × Int32 × Int32)) (r : am_R) : Prop := ∃ I' x rest, r = (none, (I', L, D, am_rf X)) ∧ l = x :: rest ∧ rf_tok x (I' 42 8) (I' 42 9) (I' 42 10) ∧ ((x.1 = 0 ∧ rest = [] ∧ I' 42 7 = nI n) ∨ (¬ x.1 = 0 ∧ rf_P f n rest I')) ∧ rf_tf I I'
/-- a number -/
theorem c123_num {I : Nat → Nat → Int32} (hF : mt_F f n I) {p k : Nat} (hp : p < n) (hk : n ≤ p + 1 + k) (hd : pu_dig (f p) = true) : ∀ (g q v : Nat) (J : Nat → Nat → Int32), q + g = n → v ≤ 1000 → rf_tf I J → J 42 7 = nI q → J 42 8 = 3 → J 42 10 = nI p → 0 ≤ (J 42 9).toInt → (J 42 9).toInt ≤ 9999 → ((v ≤ 999 ∧ (J 42 9).toInt = v) ∨ (v = 1000 ∧ 999 < (J 42 9).toInt)) → p + 1 ≤ (pu_num f n g q v).1 →
    am_wp ext (d + 1) mz_123 (216, [some (.ref 42), none], [], (J, L, D, am_rf X)) (rf_Q f n L D X I ((2, nI p, nI (pu_num f n g q v).2) :: pu_toks f n k (pu_num f n g q v).1)) := by
  have hn := hF.2.1
  intro g
  have fin : ∀ (q v : Nat) (J : Nat → Nat → Int32), q ≤ n → v ≤ 1000 → rf_tf I J → J 42 7 = nI q → J 42 8 = 3 → J 42 10 = nI p → ((v ≤ 999 ∧ (J 42 9).toInt = v) ∨ (v = 1000 ∧ 999 < (J 42 9).toInt)) → p + 1 ≤ q → ¬ (q < n ∧ pu_dig (f q) = true) → am_wp ext (d + 1) mz_123 (216, [some (.ref 42), none], [], (J, L, D, am_rf X)) (rf_Q f n L D X I ((2, nI p, nI v) :: pu_toks f n k q)) := by
    intro q v J hq hv hf h7 h8 h10 hw hpq hnd
    have r := c121 (ext := ext) (d := d) L D X (mt_F_tf hF hf) hq
    rw [if_neg hnd] at r
    refine w123_216 J L D X ⟨0, J, L, D, by rw [h7]; exact r, fun _ => ?_, fun z => absurd rfl z⟩
    refine ⟨J, _, _, rfl, rfl, ⟨h10, Or.inr (Or.inr (Or.inl ⟨rfl, h8, ?_⟩))⟩, Or.inr ⟨by show ¬ (2 : Int32) = 0; decide, q, k, h7, hq, by omega, rfl⟩, hf⟩
    show J 42 9 = nI v ∨ (999 < (J 42 9).toInt ∧ 999 < (nI v).toInt)
    rw [nI_toInt (by omega)]
    rcases hw with ⟨w1, w2⟩ | ⟨w1, w2⟩
    · refine Or.inl ?_
      rw [← Int32.toInt_inj, nI_toInt (by omega)]
      exact w2
    · exact Or.inr ⟨w2, by omega⟩
  induction g with
  | zero =>
    intro q v J hq hv hf h7 h8 h10 _ _ hw hpq
    simp only [pu_num] at hpq ⊢
    exact fin q v J (by omega) hv hf h7 h8 h10 hw hpq (fun z => by omega)
  | succ g ih =>
    intro q v J hq hv hf h7 h8 h10 hw0 hw9 hw hpq
    simp only [pu_num] at hpq ⊢
    by_cases hdq : q < n ∧ pu_dig (f q) = true
    · rw [if_pos hdq] at hpq ⊢
      have r := c121 (ext := ext) (d := d) L D X (mt_F_tf hF hf) (show q ≤ n by omega)
      rw [if_pos hdq] at r
      obtain ⟨cc, hc1, hc2, hc3⟩ := pu_dig_nat hdq.2
      have e43 : J 43 q = nI cc := by rw [(mt_F_tf hF hf).2.2 q hdq.1, hc3]
      have e7 : (J 42 7).toNatClampNeg = q := by rw [h7, ni_nat (by omega)]
      have e71 : J 42 7 + 1 = nI (q + 1) := by rw [h7, show (1 : Int32) = nI 1 from rfl, ni_add (by omega)]
      have ecl : (f q).toNatClampNeg = cc := by rw [hc3, ni_nat (by omega)]
      refine w123_216 J L D X ⟨1, J, L, D, by rw [h7]; exact r, fun z => absurd z (by decide), fun _ => ⟨fun z => ⟨by rw [h7]; exact ni_inb (by omega) (by omega), ?_⟩, fun z => ?_⟩⟩
      · rw [Int32.le_iff_toInt_le] at z
        have z' : (J 42 9).toInt ≤ 999 := z
        have hv9 : v ≤ 999 ∧ (J 42 9).toInt = v := hw.resolve_right (fun y => by omega)
        have ew : J 42 9 = nI v := by rw [← Int32.toInt_inj, nI_toInt (by omega)]; exact hv9.2
        have e9 : 10 * J 42 9 + J 43 (J 42 7).toNatClampNeg - 48 = nI (10 * v + (cc - 48)) := by
          rw [ew, e7, e43, ← Int32.toInt_inj, Int32.toInt_sub, Int32.toInt_add, Int32.toInt_mul, nI_toInt (by omega), nI_toInt (by omega), nI_toInt (by omega)]
          have e10 : (10 : Int32).toInt = 10 := rfl
          have e48 : (48 : Int32).toInt = 48 := rfl
          rw [e10, e48]
          rw [show ((10 : Int) * (v : Int)).bmod (2 ^ 32) = 10 * v from Int.bmod_eq_of_le (by omega) (by omega), show (10 * (v : Int) + (cc : Int)).bmod (2 ^ 32) = 10 * v + cc from Int.bmod_eq_of_le (by omega) (by omega), Int.bmod_eq_of_le (by omega) (by omega)]
          omega
        rw [e9, e71, ecl]
        refine ih (q + 1) _ _ (by omega) (by omega) (rf_tf_u (rf_tf_u hf (by omega)) (by omega)) (by simp [am_uI_at]) (by simp [am_uI_at, h8]) (by simp [am_uI_at, h10]) ?_ ?_ ?_ ?_
        · simp only [am_uI_at]; simp; rw [nI_toInt (by omega)]; omega
        · simp only [am_uI_at]; simp; rw [nI_toInt (by omega)]; omega
        · simp only [am_uI_at]; simp; rw [nI_toInt (by omega)]; omega
        · rw [ecl] at hpq; exact hpq
      · rw [Int32.le_iff_toInt_le] at z
        have z' : ¬ (J 42 9).toInt ≤ 999 := z
        have hv9 : v = 1000 := (hw.resolve_left (fun y => by omega)).1
        rw [e71, ecl]
        refine ih (q + 1) _ _ (by omega) (by omega) (rf_tf_u (rf_tf_u hf (by omega)) (by omega)) (by simp [am_uI_at]) (by simp [am_uI_at, h8]) (by simp [am_uI_at, h10]) ?_ ?_ ?_ ?_
        · simp only [am_uI_at]; simp; omega
        · simp only [am_uI_at]; simp; omega
        · simp only [am_uI_at]; simp; omega
        · rw [ecl] at hpq; exact hpq
    · rw [if_neg hdq] at hpq ⊢
      exact fin q v J (by omega) hv hf h7 h8 h10 hw hpq hdq
/-- a word -/
theorem c123_word {I : Nat → Nat → Int32} (hF : mt_F f n I) (hW : rf_wd I) {p k : Nat} (hp : p < n) (hk : n ≤ p + 1 + k) : ∀ (g q : Nat) (J : Nat → Nat → Int32), q + g = n → p + 1 ≤ pu_wend f n g q → rf_tf I J → J 42 7 = nI q → J 42 10 = nI p →
    am_wp ext (d + 1) mz_123 (90, [some (.ref 42), none], [], (J, L, D, am_rf X)) (rf_Q f n L D X I (((pu_wtk f p (pu_wend f n g q)).1, nI p, (pu_wtk f p (pu_wend f n g q)).2) :: pu_toks f n k (pu_wend f n g q))) := by
  have hn := hF.2.1
  intro g
  have fin : ∀ (q : Nat) (J : Nat → Nat → Int32), p + 1 ≤ q → q ≤ n → rf_tf I J → J 42 7 = nI q → J 42 10 = nI p → ¬ (q < n ∧ pu_sml (f q) = true) → am_wp ext (d + 1) mz_123 (90, [some (.ref 42), none], [], (J, L, D, am_rf X)) (rf_Q f n L D X I (((pu_wtk f p q).1, nI p, (pu_wtk f p q).2) :: pu_toks f n k q)) := by
    intro q J hpq hq hf h7 h10 hns
    have r := c120 (ext := ext) (d := d) L D X (mt_F_tf hF hf) hq
    rw [if_neg hns] at r
    have e1 : J 42 10 + 1 = nI (p + 1) := by rw [h10, show (1 : Int32) = nI 1 from rfl, ni_add (by omega)]
    have e2 : J 42 7 = J 42 10 + 1 ↔ q = p + 1 := by rw [e1, h7, ni_eq (by omega) (by omega)]
    refine w123_90 J L D X ⟨0, J, L, D, by rw [h7]; exact r, fun _ => ⟨fun z => ?_, fun z => ?_⟩, fun z => absurd rfl z⟩
    · have hq1 : ¬ q - p = 1 := fun y => z (e2.mpr (by omega))
      have r2 := c119 (ext := ext) (d := d) L D X (mt_F_tf hF hf) (show p ≤ q by omega) hq (rf_wd_tf hW hf)
      have hk4 := pu_wk_rg f p q pu_words 4 (by omega) (by decide)
      have hl : pu_words.length = 11 := rfl
      rw [hl] at hk4
      refine w123_132 J L D X 0 ⟨fun _ => ⟨_, J, L, D, by rw [h7, h10]; exact r2, w123_165 J L D X 0 _ ⟨fun _ => ⟨fun y => ?_, fun y => ?_⟩, fun y => absurd rfl y⟩⟩, fun y => absurd rfl y⟩
      · have hne : ¬ pu_wk f p q pu_words 4 = 1 := by
          intro h
          rw [if_pos h] at y
          exact absurd y (by decide)
        rw [if_neg hne]
        have h4 := hk4.resolve_left hne
        refine ⟨_, _, _, rfl, rfl, ⟨by simp [am_uI_at, h10], Or.inr (Or.inr (Or.inr (Or.inr (Or.inl ⟨pu_wk f p q pu_words 4 - 4, by omega, ?_, by simp [am_uI_at], by simp [am_uI_at]⟩))))⟩, Or.inr ⟨?_, q, k, by simp [am_uI_at, h7], hq, by omega, rfl⟩, rf_tf_u (rf_tf_u hf (by omega)) (by omega)⟩
        · show (pu_wtk f p q).1 = _
          unfold pu_wtk
          rw [if_neg hq1]
          show nI _ = nI _
          congr 1
          omega
        · show ¬ (pu_wtk f p q).1 = 0
          unfold pu_wtk
          rw [if_neg hq1]
          show ¬ nI _ = nI 0
          rw [ni_eq (by omega) (by omega)]
          omega
      · have he : pu_wk f p q pu_words 4 = 1 := by
          rcases hk4 with h | h
          · exact h
          · refine absurd ?_ y
            rw [if_neg (by omega), show (0 : Int32) = nI 0 from rfl, ni_le (by omega) (by omega)]
            omega
        refine ⟨_, _, _, rfl, rfl, ⟨by simp [am_uI_at, h10], Or.inr (Or.inl ⟨?_, by simp [am_uI_at]⟩)⟩, Or.inr ⟨?_, q, k, by simp [am_uI_at, h7], hq, by omega, rfl⟩, rf_tf_u (rf_tf_u hf (by omega)) (by omega)⟩
        · show (pu_wtk f p q).1 = _
          unfold pu_wtk
          rw [if_neg hq1, he]
          rfl
        · show ¬ (pu_wtk f p q).1 = 0
          unfold pu_wtk
          rw [if_neg hq1, he]
          decide
    · have hq1 : q - p = 1 := by have := e2.mp z; omega
      have e43 : J 43 (J 42 10).toNatClampNeg = f p := by rw [h10, ni_nat (by omega), (mt_F_tf hF hf).2.2 p (by omega)]
      refine w123_132 J L D X 1 ⟨fun y => absurd y (by decide), fun _ => ⟨by rw [h10]; exact ni_inb (by omega) (by omega), w123_165 J L D X 1 _ ⟨fun y => absurd y (by decide), fun _ => ?_⟩⟩⟩
      rw [e43]
      refine ⟨_, _, _, rfl, rfl, ⟨by simp [am_uI_at, h10], Or.inr (Or.inr (Or.inr (Or.inl ⟨?_, by simp [am_uI_at], ?_⟩)))⟩, Or.inr ⟨?_, q, k, by simp [am_uI_at, h7], hq, by omega, rfl⟩, rf_tf_u (rf_tf_u hf (by omega)) (by omega)⟩
      · show (pu_wtk f p q).1 = 3
        unfold pu_wtk
        rw [if_pos hq1]
      · show _ = (pu_wtk f p q).2
        unfold pu_wtk
        rw [if_pos hq1]
        simp [am_uI_at]
      · show ¬ (pu_wtk f p q).1 = 0
        unfold pu_wtk
        rw [if_pos hq1]
        show ¬ (3 : Int32) = 0
        decide
  induction g with
  | zero =>
    intro q J hq hpq hf h7 h10
    simp only [pu_wend] at hpq ⊢
    exact fin q J hpq (by omega) hf h7 h10 (fun z => by omega)
  | succ g ih =>
    intro q J hq hpq hf h7 h10
    simp only [pu_wend] at hpq ⊢
    by_cases hs : q < n ∧ pu_sml (f q) = true
    · rw [if_pos hs] at hpq ⊢
      have r := c120 (ext := ext) (d := d) L D X (mt_F_tf hF hf) (show q ≤ n by omega)
      rw [if_pos hs] at r
      refine w123_90 J L D X ⟨1, J, L, D, by rw [h7]; exact r, fun z => absurd z (by decide), fun _ => ?_⟩
      have e71 : J 42 7 + 1 = nI (q + 1) := by rw [h7, show (1 : Int32) = nI 1 from rfl, ni_add (by omega)]
      rw [e71]
      exact ih (q + 1) _ (by omega) hpq (rf_tf_u hf (by omega)) (by simp [am_uI_at]) (by simp [am_uI_at, h10])
    · rw [if_neg hs] at hpq ⊢
      exact fin q J hpq (by omega) hf h7 h10 hs
/-- take -/
theorem c123_0 {I : Nat → Nat → Int32} (hF : mt_F f n I) (hW : rf_wd I) : ∀ (m p : Nat) (J : Nat → Nat → Int32), p ≤ n → n ≤ p + m → rf_tf I J → J 42 7 = nI p →
    am_wp ext (d + 1) mz_123 (0, [some (.ref 42), none], [], (J, L, D, am_rf X)) (rf_Q f n L D X I (pu_toks f n m p)) := by
  have hn := hF.2.1
  -- the end
  have fin : ∀ (J : Nat → Nat → Int32), rf_tf I J → J 42 7 = nI n → am_wp ext (d + 1) mz_123 (0, [some (.ref 42), none], [], (J, L, D, am_rf X)) (rf_Q f n L D X I [(0, nI n, 0)]) := by
    intro J hf h7
    have h6 := (mt_F_tf hF hf).1
    refine w123_0 J L D X ⟨fun _ => w123_52 J L D X ⟨fun z => absurd (h7.trans h6.symm) z, fun _ => ?_⟩, fun z => absurd ?_ z⟩
    · exact ⟨_, _, _, rfl, rfl, ⟨by simp [am_uI_at, h7], Or.inl ⟨rfl, by simp [am_uI_at]⟩⟩, Or.inl ⟨rfl, rfl, by simp [am_uI_at, h7]⟩, rf_tf_u (rf_tf_u hf (by omega)) (by omega)⟩
    · rw [h7, h6, ni_le (by omega) (by omega)]
      omega
  intro m
  induction m with
  | zero =>
    intro p J hp hm hf h7
    obtain rfl : p = n := by omega
    exact fin J hf h7
  | succ m ih =>
    intro p J hp hm hf h7
    by_cases hpn : p < n
    · have hJ := mt_F_tf hF hf
      have h6 := hJ.1
      have e7 : (J 42 7).toNatClampNeg = p := by rw [h7, ni_nat (by omega)]
      have e43 : J 43 (J 42 7).toNatClampNeg = f p := by rw [e7, hJ.2.2 p hpn]
      have hb : am_inb (J 42 7) 500 = true := by rw [h7]; exact ni_inb (by omega) (by omega)
      have hle : ¬ J 42 6 ≤ J 42 7 := by rw [h6, h7, ni_le (by omega) (by omega)]; omega
      have e71 : J 42 7 + 1 = nI (p + 1) := by rw [h7, show (1 : Int32) = nI 1 from rfl, ni_add (by omega)]
      by_cases hbl : f p = 32 ∨ f p = 10
      · have et : pu_toks f n (m + 1) p = pu_toks f n m (p + 1) := by simp only [pu_toks, if_pos hpn, if_pos hbl]
        rw [et]
        have nx := ih (p + 1) (am_uI J 42 7 (J 42 7 + 1)) (by omega) (by omega) (rf_tf_u hf (by omega)) (by simp [am_uI_at, e71])
        exact w123_0 J L D X ⟨fun z => absurd z hle, fun _ => ⟨hb, fun _ => nx, fun z => ⟨hb, fun y => absurd hbl (fun h => h.elim (fun h => y (e43.trans h)) (fun h => z (e43.trans h))), fun _ => nx⟩⟩⟩
      · have n10 : ¬ J 43 (J 42 7).toNatClampNeg = 10 := fun z => hbl (Or.inr (e43.symm.trans z))
        have n32 : ¬ J 43 (J 42 7).toNatClampNeg = 32 := fun z => hbl (Or.inl (e43.symm.trans z))
        refine w123_0 J L D X ⟨fun z => absurd z hle, fun _ => ⟨hb, fun z => absurd z n10, fun _ => ⟨hb, fun _ => ?_, fun z => absurd z n32⟩⟩⟩
        have f1 : rf_tf I (am_uI J 42 10 (J 42 7)) := rf_tf_u hf (by omega)
        have r1 := c120 (ext := ext) (d := d) L D X (mt_F_tf hF f1) hp
        have r2 := c121 (ext := ext) (d := d) L D X (mt_F_tf hF f1) hp
        have g7 : (am_uI J 42 10 (J 42 7)) 42 7 = nI p := by simp [am_uI_at, h7]
        have g10 : (am_uI J 42 10 (J 42 7)) 42 10 = nI p := by simp [am_uI_at, h7]
        have g43 : (am_uI J 42 10 (J 42 7)) 43 p = f p := (mt_F_tf hF f1).2.2 p hpn
        rw [← g7] at r1 r2
        have g7' : (am_uI J 42 10 (J 42 7)) 42 7 = J 42 7 := by simp [am_uI_at]
        refine w123_52 J L D X ⟨fun _ => ⟨_, _, L, D, by rw [← g7']; exact r1, fun zs => ⟨_, _, L, D, r2, fun zd => ?_, fun zd => ?_⟩, fun zs => ?_⟩, fun z => absurd z (fun y => hle (by rw [y]; exact Int32.le_refl _))⟩
        · -- a sign, or none
          have hs : ¬ pu_sml (f p) = true := fun y => by rw [if_pos ⟨hpn, y⟩] at zs; exact absurd zs (by decide)
          have hdg : ¬ pu_dig (f p) = true := fun y => by rw [if_pos ⟨hpn, y⟩] at zd; exact absurd zd (by decide)
          have et : pu_toks f n (m + 1) p = (if pu_sgn (f p) = true then f p else 1, nI p, 0) :: pu_toks f n m (p + 1) := by
            simp only [pu_toks, if_pos hpn, if_neg hbl, if_neg hs, if_neg hdg]
          rw [et]
          have ec : (am_uI J 42 10 (J 42 7)) 43 ((am_uI J 42 10 (J 42 7)) 42 7).toNatClampNeg = f p := by rw [g7, ni_nat (by omega), g43]
          refine ⟨by rw [g7]; exact ni_inb (by omega) (by omega), _, _, L, D, c122 (ext := ext) (d := d) L D X _, fun zg => ?_, fun zg => ?_⟩
          · rw [ec] at zg ⊢
            have hg : ¬ pu_sgn (f p) = true := fun y => by rw [if_pos y] at zg; exact absurd zg (by decide)
            rw [if_neg hg]
            refine ⟨_, _, _, rfl, rfl, ⟨by simp [am_uI_at, h7], Or.inr (Or.inl ⟨rfl, by simp [am_uI_at]⟩)⟩, Or.inr ⟨by show ¬ (1 : Int32) = 0; decide, p + 1, m, by simp [am_uI_at, e71], by omega, by omega, rfl⟩, rf_tf_u (rf_tf_u (rf_tf_u (rf_tf_u hf (by omega)) (by omega)) (by omega)) (by omega)⟩
          · rw [ec] at zg ⊢
            have hg : pu_sgn (f p) = true := by
              cases h : pu_sgn (f p) with
              | true => rfl
              | false => rw [h] at zg; exact absurd rfl zg
            rw [if_pos hg]
            refine ⟨_, _, _, rfl, rfl, ⟨by simp [am_uI_at, h7], Or.inr (Or.inr (Or.inr (Or.inr (Or.inr ⟨hg, by simp [am_uI_at], by simp [am_uI_at]⟩))))⟩, Or.inr ⟨?_, p + 1, m, by simp [am_uI_at, e71], by omega, by omega, rfl⟩, rf_tf_u (rf_tf_u (rf_tf_u (rf_tf_u hf (by omega)) (by omega)) (by omega)) (by omega)⟩
            show ¬ f p = 0
            intro h0
            rw [h0] at hg
            exact absurd hg (by decide)
        · have hs : ¬ pu_sml (f p) = true := fun y => by rw [if_pos ⟨hpn, y⟩] at zs; exact absurd zs (by decide)
          have hdg : pu_dig (f p) = true := by
            cases h : pu_dig (f p) with
            | true => rfl
            | false => rw [h] at zd; exact absurd (by simp) zd
          have et : pu_toks f n (m + 1) p = (2, nI p, nI (pu_num f n (n - p) p 0).2) :: pu_toks f n m (pu_num f n (n - p) p 0).1 := by
            simp only [pu_toks, if_pos hpn, if_neg hbl, if_pos hdg]
          rw [et]
          refine c123_num L D X hF hpn (by omega) hdg (n - p) p 0 _ (by omega) (by omega) (rf_tf_u (rf_tf_u f1 (by omega)) (by omega)) (by simp [am_uI_at, h7]) (by simp [am_uI_at]) (by simp [am_uI_at, h7]) (by simp [am_uI_at]) (by simp [am_uI_at]) (Or.inl ⟨by omega, by simp [am_uI_at]⟩) ?_
          rw [show n - p = (n - p - 1) + 1 by omega]
          simp only [pu_num]
          rw [if_pos ⟨hpn, hdg⟩]
          exact (pu_num_ge f n (n - p - 1) (p + 1) _).1
        · have hs : pu_sml (f p) = true := by
            cases h : pu_sml (f p) with
            | true => rfl
            | false => rw [h] at zs; exact absurd (by simp) zs
          have hdg : ¬ pu_dig (f p) = true := by
            intro y
            have a1 := of_decide_eq_true hs
            have a2 := of_decide_eq_true y
            rw [Int32.lt_iff_toInt_lt, Int32.lt_iff_toInt_lt] at a1 a2
            have e1 : (97 : Int32).toInt = 97 := rfl
            have e2 : (57 : Int32).toInt = 57 := rfl
            rw [e1] at a1
            rw [e2] at a2
            omega
          have et : pu_toks f n (m + 1) p = ((pu_wtk f p (pu_wend f n (n - p) p)).1, nI p, (pu_wtk f p (pu_wend f n (n - p) p)).2) :: pu_toks f n m (pu_wend f n (n - p) p) := by
            simp only [pu_toks, if_pos hpn, if_neg hbl, if_neg hdg, if_pos hs]
          rw [et]
          refine c123_word L D X hF hW hpn (by omega) (n - p) p _ (by omega) ?_ f1 g7 g10
          rw [show n - p = (n - p - 1) + 1 by omega]
          simp only [pu_wend]
          rw [if_pos ⟨hpn, hs⟩]
          exact (pu_wend_ge f n (n - p - 1) (p + 1)).1
    · obtain rfl : p = n := by omega
      have et : pu_toks f p (m + 1) p = [(0, nI p, 0)] := by simp only [pu_toks, if_neg hpn]
      rw [et]
      exact fin J hf h7
theorem c123 {I : Nat → Nat → Int32} (hF : mt_F f n I) (hW : rf_wd I) {l : List (Int32 × Int32 × Int32)} (h : rf_P f n l I) : ∃ I' x rest, am_Rn ext (d + 2) 123 [.ref 42] (I, L, D, am_rf X) (none, (I', L, D, am_rf X)) ∧ l = x :: rest ∧ rf_tok x (I' 42 8) (I' 42 9) (I' 42 10) ∧ ((x.1 = 0 ∧ rest = [] ∧ I' 42 7 = nI n) ∨ (¬ x.1 = 0 ∧ rf_P f n rest I')) ∧ rf_tf I I' := by
  obtain ⟨p, m, h1, h2, h3, rfl⟩ := h
  obtain ⟨r, w, I', x, rest, rfl, g⟩ := am_of_wp (as := [.ref 42]) mh_123 rfl (c123_0 (ext := ext) (d := d) L D X hF hW m p I h2 h3 (fun _ _ _ => rfl) h1)
  exact ⟨I', x, rest, w, g⟩
end TAKE
