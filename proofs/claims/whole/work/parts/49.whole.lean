/-! ===== the class's reader: the whole text ===== -/
theorem pt_ln_good {t : pt_K} {ls : pt_L} {c kn : Nat} (ht : pt_tk t) (hen : pt_end t) (hc : c < t.2) (hk : kn ≤ 96) (hks : kn = pt_ks ls) (hwf : pt_wf ls) (hnn : pt_nn ls ≤ 12) (hnf : pt_nf ls ≤ 6) :
    (∃ q, pt_ln t ls c kn = some q) ∧ ∀ c' k' ls', pt_ln t ls c kn = some (.inr (c', k', ls')) → c' < t.2 ∧ k' = pt_ks ls' ∧ k' ≤ 96 ∧ pt_wf ls' ∧ pt_nn ls' ≤ 12 ∧ pt_nf ls' ≤ 6 ∧ ls'.length = ls.length + 1 := by
  have F : ∀ k c, (∃ q, pt_lf t k c = some q) ∧ ∀ c' k' ls', pt_lf t k c = some (.inr (c', k', ls')) → c' < t.2 ∧ k' = pt_ks ls' ∧ k' ≤ 96 ∧ pt_wf ls' ∧ pt_nn ls' ≤ 12 ∧ pt_nf ls' ≤ 6 ∧ ls'.length = ls.length + 1 := fun k c => ⟨⟨_, rfl⟩, fun _ _ _ h => by cases h⟩
  unfold pt_ln
  split
  · next h45 =>
    split
    · exact F _ _
    · next hfull =>
      split
      · next h3 =>
        have hc1 := pt_adv_lt hc
        have hl0 := (ht.2.2 _ hc1).1 h3.1
        have hlc := pt_clamp hl0.1
        have hl : (pt_v t (pt_adv t c)).toNatClampNeg < 26 := by omega
        have hl19 : ¬ (pt_v t (pt_adv t c)).toNatClampNeg = 19 := fun z => h3.2 (by
          rw [← Int32.toInt_inj, ← hlc, z]; rfl)
        generalize (pt_v t (pt_adv t c)).toNatClampNeg = l at *
        split
        · next h0 =>
          split
          · have hc3 := pt_adv_lt (pt_adv_lt hc1)
            have hg := pt_ex_good (c := pt_adv t (pt_adv t (pt_adv t c))) ht ls (decide (pt_k t c = 5)) hc3 hk
            have hn := ((pt_fuel ht (pt_en_ev ls (decide (pt_k t c = 5))) hen (3 * t.2 + 3) (pt_adv t (pt_adv t (pt_adv t c))) kn 0 (.leaf (0, 0, 0, 0, 0, 0)) hc3 hk).1 (by omega)).1
            change ∃ q, pt_ex t (pt_ev ls (decide (pt_k t c = 5))) (pt_adv t (pt_adv t (pt_adv t c))) kn = some q at hn
            obtain ⟨q, hq⟩ := hn
            rw [hq] at hg ⊢
            match q, hg with
            | .inl f, hg => exact ⟨⟨_, rfl⟩, fun _ _ _ h => by cases h⟩
            | .inr (c4, k4, T), hg =>
              obtain ⟨m1, m2, m3, m4⟩ := hg _ _ _ rfl
              simp only
              split
              · refine ⟨⟨_, rfl⟩, fun c' k' ls' h => ?_⟩
                cases h
                refine ⟨pt_adv_lt m1, by rw [pt_ks_app, m3, hks], m2, pt_wf_app hwf hl hl19 h0 (by rw [← hks]; exact m4), ?_, ?_, by simp⟩
                · by_cases h5 : pt_k t c = 5
                  · unfold pt_nn at hnn ⊢
                    simp [h5]; omega
                  · have : ¬ 12 ≤ pt_nn ls := fun z => hfull (Or.inr ⟨h5, z⟩)
                    unfold pt_nn at this ⊢
                    simp [h5]; omega
                · by_cases h5 : pt_k t c = 5
                  · have : ¬ 6 ≤ pt_nf ls := fun z => hfull (Or.inl ⟨h5, z⟩)
                    unfold pt_nf at this ⊢
                    simp [h5]; omega
                  · unfold pt_nf at hnf ⊢
                    simp [h5]; omega
              · exact F _ _
          · exact F _ _
        · exact F _ _
      · exact F _ _
  · exact F _ _
def pt_good1 (t : pt_K) (ls : pt_L) (c kn : Nat) : Prop := c < t.2 ∧ kn ≤ 96 ∧ kn = pt_ks ls ∧ pt_wf ls ∧ pt_nn ls ≤ 12 ∧ pt_nf ls ≤ 6
theorem pt_tx_good {t : pt_K} (ht : pt_tk t) (hen : pt_end t) : ∀ (n : Nat) (ls : pt_L) (c kn : Nat), pt_good1 t ls c kn → 20 ≤ n + ls.length → ∃ q, pt_tx t n ls c kn = some q := by
  intro n
  induction n with
  | zero =>
    intro ls c kn h hn
    have := pt_nn_nf ls
    have h5 := h.2.2.2.2
    omega
  | succ n ih =>
    intro ls c kn h hn
    obtain ⟨h1, h2, h3, h4, h5, h6⟩ := h
    obtain ⟨⟨q, hq⟩, g⟩ := pt_ln_good ht hen h1 h2 h3 h4 h5 h6
    simp only [pt_tx]
    split
    · exact ⟨_, rfl⟩
    · rw [hq] at g ⊢
      match q, g with
      | .inl f, g => exact ⟨_, rfl⟩
      | .inr (c', k', ls'), g =>
        obtain ⟨m1, m2, m3, m4, m5, m6, m7⟩ := g _ _ _ rfl
        exact ih ls' c' k' ⟨m1, m3, m2, m4, m5, m6⟩ (by omega)
theorem pt_cs_ks {ls : pt_L} (h : pt_wf ls) : pt_cs ls ≤ 3 * pt_ks ls := by
  have key : ∀ i, i ≤ ls.length → pt_cs (ls.take i) ≤ 3 * pt_ks (ls.take i) := by
    intro i
    induction i with
    | zero => intro _; simp [pt_cs, pt_ks]
    | succ i ih =>
      intro hi
      have hx : ls[i]? = some ls[i] := List.getElem?_eq_getElem (by omega)
      have e : ls.take (i + 1) = ls.take i ++ [ls[i]] := by rw [List.take_add_one, hx]; rfl
      rw [e, pt_cs_app, pt_ks_app]
      have h1 := tr_cz_le _ _ _ (h i _ hx).2.2.2
      have h2 := ih (by omega)
      omega
  have := key ls.length (Nat.le_refl _)
  rwa [List.take_length] at this
section READ
variable {d : Nat} (L : Nat → Nat → Int64) (D : Nat → Nat → UInt64) (xt xs xp xu xc : Nat) {I : Nat → Nat → Int32}
/-- Arrays.fill of the letters -/
theorem c207_12 {ext : Nat → List Value → am_M → Option am_R} (X : am_Rf) (I : Nat → Nat → Int32) (x : Int32) : ∃ I', am_Rn ext (d + 1) 207 [.ref 12, .int x] (I, L, D, am_rf X) (none, (I', L, D, am_rf X)) ∧ (∀ j, j < 26 → I' 12 j = x) ∧ ∀ a b, ¬ a = 12 → I' a b = I a b := by
  have key : ∀ (n k : Nat) (J : Nat → Nat → Int32), k + n = 26 → (∀ j, j < k → J 12 j = x) → (∀ a b, ¬ a = 12 → J a b = I a b) → am_wp ext d mz_207 (5, [some (.ref 12), some (.int x), some (.int (nI k)), some (.int 26)], [], (J, L, D, am_rf X)) (fun r => ∃ I', r = (none, (I', L, D, am_rf X)) ∧ (∀ j, j < 26 → I' 12 j = x) ∧ ∀ a b, ¬ a = 12 → I' a b = I a b) := by
    intro n
    induction n with
    | zero =>
      intro k J hk h1 h2
      obtain rfl : k = 26 := by omega
      exact w207_5_12 J L D X x _ _ ⟨fun _ => ⟨J, rfl, h1, h2⟩, fun z => absurd (by decide) z⟩
    | succ n ih =>
      intro k J hk h1 h2
      refine w207_5_12 J L D X x _ _ ⟨fun z => ?_, fun _ => ⟨ni_inb (by omega) (by omega), ?_⟩⟩
      · rw [show (26 : Int32) = nI 26 from rfl, ni_le (by omega) (by omega)] at z
        omega
      · rw [show (1 : Int32) = nI 1 from rfl, ni_add (by omega), ni_nat (by omega)]
        refine ih (k + 1) _ (by omega) (fun j hj => ?_) (fun a b hab => ?_)
        · rw [am_uI_at]
          by_cases hjk : j = k
          · rw [if_pos ⟨rfl, hjk⟩]
          · rw [if_neg (fun z => hjk z.2)]
            exact h1 j (by omega)
        · rw [am_uI_at, if_neg (fun z => hab z.1)]
          exact h2 a b hab
  obtain ⟨r, h1, I', rfl, h2⟩ := am_of_wp (as := [.ref 12, .int x]) mh_207 rfl (w207_0_12 I L D X x (key 26 0 I (by omega) (fun j hj => by omega) (fun _ _ _ => rfl)))
  exact ⟨I', h1, h2⟩
/-- clear -/
theorem c31 {ext : Nat → List Value → am_M → Option am_R} (X : am_Rf) (I : Nat → Nat → Int32) : ∃ I', am_Rn ext (d + 2) 31 [.ref 11] (I, L, D, am_rf X) (none, (I', L, D, am_rf X)) ∧ rd_L 11 [] I' ∧ ∀ a b, ¬ a = 12 → ¬ a = 11 → I' a b = I a b := by
  obtain ⟨I1, r1, h1, h2⟩ := c207_12 (d := d) (ext := ext) L D X I (-1)
  refine ⟨_, am_rn_of mh_31 rfl (w31_0_11 I L D X ⟨I1, L, D, r1, rfl⟩), ?_, ?_⟩
  · refine ⟨by simp [am_uI_at]; rfl, by simp [am_uI_at]; rfl, by simp [am_uI_at]; rfl, by simp [am_uI_at]; rfl, by simp [am_uI_at]; rfl, fun l hl => ?_, fun i x hx => by simp at hx⟩
    show (am_uI (am_uI (am_uI (am_uI (am_uI I1 11 8 0) 11 9 0) 11 10 0) 11 11 0) 11 12 0) 12 l = _
    simp [am_uI_at, h1 l hl, pt_tl]
  · intro a b ha hb
    simp only [am_uI_at]
    rw [if_neg (by omega), if_neg (by omega), if_neg (by omega), if_neg (by omega), if_neg (by omega)]
    exact h2 a b ha
def rd_RT (I : Nat → Nat → Int32) (r : (Nat × Int32) ⊕ pt_L) (x : Int32) (I' : Nat → Nat → Int32) : Prop := (∀ a b, a < 11 ∨ 24 < a → I' a b = I a b) ∧ match r with
  | .inl f => x = 0 ∧ I' 20 8 = nI f.1 ∧ I' 20 9 = f.2
  | .inr ls => x = 1 ∧ I' 20 8 = 0 ∧ I' 20 9 = -1 ∧ rd_L 11 ls I'
/-- the tokens of the tape's first n bytes -/
def pt_tape (f : Nat → Int32) (n : Nat) : pt_K := pt_of (pu_toks f n n 0)
theorem pt_tape_ok (f : Nat → Int32) {n : Nat} (hn : n ≤ 500) (h : (pu_toks f n n 0).length ≤ n + 1) : pt_tk (pt_tape f n) ∧ pt_end (pt_tape f n) := by
  obtain ⟨l, h1, h2⟩ := pu_toks_ok f n n 0
  unfold pt_tape
  rw [h1] at h ⊢
  refine pt_of_ok h2 ?_
  simp at h
  omega
/-- read -/
theorem c40 (xi : Nat) (I : Nat → Nat → Int32) {n : Nat} (hn : n ≤ 500) (hd : 42 ≤ d) {q : (Nat × Int32) ⊕ pt_L} (hq : pt_tx (pt_tape (I 1) n) 20 [] 0 0 = some q) :
    ∃ x I', am_Rn am_ext (d + 1) 40 [.ref 20, .ref 1, .int (nI n), .ref 11] (I, L, D, am_rf (xt, xs, xi, xp, xu, xc)) (some (.int x), (I', L, D, am_rf (xt, xs, 11, xp, xu, xc))) ∧ rd_RT I q x I' := by
  obtain ⟨I1, r1, h1, h2, h3, h4⟩ := c83 (d := 0) L D (xt, xs, xi, xp, xu, xc) I hn
  have hT := pt_tape_ok (I 1) hn h3
  have hlen : (pt_tape (I 1) n).2 = (pu_toks (I 1) n n 0).length := rfl
  have htok : ∀ i, i < (pt_tape (I 1) n).2 → I1 22 i = pt_k (pt_tape (I 1) n) i ∧ I1 23 i = pt_p (pt_tape (I 1) n) i ∧ I1 24 i = pt_v (pt_tape (I 1) n) i := by
    intro i hi
    have e1 : (pu_toks (I 1) n n 0)[i]? = some ((pt_tape (I 1) n).1 i) := by
      show _ = some ((pu_toks (I 1) n n 0).getD i (0, 0, 0))
      rw [List.getD_eq_getElem?_getD, List.getElem?_eq_getElem (by rw [← hlen]; exact hi)]
      rfl
    have := h1 i _ e1
    rw [Nat.zero_add] at this
    exact this
  generalize pt_tape (I 1) n = t at *
  obtain ⟨ht, hen⟩ := hT
  have ht2 := ht.2.1
  obtain ⟨I2, r2, L2, f2⟩ := c31 (d := 0) (ext := am_ext) L D (xt, xs, 11, xp, xu, xc) I1
  have e21 : I2 21 3 = nI t.2 := by rw [f2 21 3 (by omega) (by omega), h2, hlen]
  have e22 : ∀ i, i < t.2 → I2 22 i = pt_k t i ∧ I2 23 i = pt_p t i ∧ I2 24 i = pt_v t i := by
    intro i hi
    rw [f2 22 i (by omega) (by omega), f2 23 i (by omega) (by omega), f2 24 i (by omega) (by omega)]
    exact htok i hi
  -- the first token
  obtain ⟨I3, r3, s3, L3, f3⟩ : ∃ I3, am_Rn am_ext 1 41 [.ref 20] (am_uI (am_uI (am_uI (am_uI I2 20 2 0) 20 5 0) 20 8 0) 20 9 (-1), L, D, am_rf (xt, xs, 11, xp, xu, xc)) (none, (I3, L, D, am_rf (xt, xs, 11, xp, xu, xc))) ∧ rd_S t 0 0 0 0 I3 ∧ rd_L 11 [] I3 ∧ ∀ a b, ¬ a = 20 → I3 a b = I2 a b := by
    obtain ⟨k1, k2, k3⟩ := e22 0 ht.1
    refine ⟨_, am_rn_of mh_41 rfl (w41_0 _ L D (xt, xs, 11, xp, xu, xc) ⟨fun z => absurd z ?_, fun _ => ⟨?_, ?_, rfl⟩⟩), ?_, ?_, ?_⟩
    · simp only [am_uI_at]
      simp only [Nat.reduceEqDiff, false_and, and_false, if_false, and_self, if_true, e21]
      rw [show (0 : Int32) = nI 0 from rfl, ni_le (by omega) (by omega)]
      have := ht.1
      omega
    · simp [am_uI_at]; rfl
    · simp [am_uI_at]; rfl
    · refine ⟨⟨⟨?_, ?_, ?_⟩, fun i hi => ?_⟩, ?_, ?_, ?_, ?_, ?_, ?_⟩
      · simp [am_uI_at, e21]
      · simp [am_uI_at]
      · simp [am_uI_at]
      · simpa [am_uI_at] using e22 i hi
      · simp [am_uI_at]; rfl
      · simp [am_uI_at, ← k1]
      · simp [am_uI_at, ← k3]
      · simp [am_uI_at]; rfl
      · have e := L2.2.2.2.2.1
        simp [am_uI_at]
        exact e
      · have e := L2.2.2.2.1
        simp [am_uI_at]
        exact e
    · obtain ⟨a1, a2, a3, a4, a5, a6, a7⟩ := L2
      refine ⟨?_, ?_, ?_, ?_, ?_, fun l hl => ?_, fun i x hx => by simp at hx⟩
      · simp only [am_uI_at]; simpa using a1
      · simp only [am_uI_at]; simpa using a2
      · simp only [am_uI_at]; simpa using a3
      · simp only [am_uI_at]; simpa using a4
      · simp only [am_uI_at]; simpa using a5
      · have := a6 l hl
        simp only [am_uI_at]
        simpa using this
    · intro a b ha
      simp only [am_uI_at]
      simp [ha]
  -- the lines
  have key : ∀ (m : Nat) (ls : pt_L) (c kn : Nat) (J : Nat → Nat → Int32) (q : (Nat × Int32) ⊕ pt_L), pt_good1 t ls c kn → rd_S t c kn 0 (pt_cs ls) J → rd_L 11 ls J → rd_o I3 J → pt_tx t m ls c kn = some q →
      am_wp am_ext d mz_40 (48, [some (.ref 20), none, none, none, some (.int (nI ls.length))], [], (J, L, D, am_rf (xt, xs, 11, xp, xu, xc))) (fun r => ∃ x I', r = (some (.int x), (I', L, D, am_rf (xt, xs, 11, xp, xu, xc))) ∧ rd_o I3 I' ∧ match q with
        | .inl f => x = 0 ∧ I' 20 8 = nI f.1 ∧ I' 20 9 = f.2
        | .inr ls => x = 1 ∧ I' 20 8 = 0 ∧ I' 20 9 = -1 ∧ rd_L 11 ls I') := by
    intro m
    induction m with
    | zero => intro ls c kn J q _ _ _ _ h; cases h
    | succ m ih =>
      intro ls c kn J q hg hS hL hO h
      obtain ⟨g1, g2, g3, g4, g5, g6⟩ := hg
      have hl := pt_nn_nf ls
      have e18 : ¬ (18 : Int32) < nI ls.length := by rw [show (18 : Int32) = nI 18 from rfl, ni_lt (by omega) (by omega)]; omega
      have k1 := (rd_S_c (I' := I) hS).1
      simp only [pt_tx] at h
      by_cases h0 : pt_k t c = 0
      · rw [if_pos h0] at h
        cases h
        refine w40_48 J L D xc xp xs xt xu _ ⟨fun z => absurd z e18, fun _ => ⟨fun _ => ⟨1, J, rfl, hO, rfl, hS.1.1.2.1, hS.1.1.2.2, hL⟩, fun z => absurd (k1.trans h0) z⟩⟩
      · rw [if_neg h0] at h
        obtain ⟨⟨q1, hq1⟩, gg⟩ := pt_ln_good ht hen g1 g2 g3 g4 g5 g6
        rw [hq1] at h gg
        obtain ⟨x, J1, r, R⟩ := c43 (ext := am_ext) (d := d - 1) L D xt xs xp xu xc (by omega) ht g1 g2 g3 hS hL g4 (by rw [g3]; exact pt_cs_ks g4) g5 g6 hq1
        rw [show d - 1 + 1 = d by omega] at r
        match q1, h, gg, R with
        | .inl f, h, gg, R =>
          cases h
          obtain ⟨R1, rfl, R2, R3⟩ := R
          exact w40_48 J L D xc xp xs xt xu _ ⟨fun z => absurd z e18, fun _ => ⟨fun z => absurd (k1.symm.trans z) h0, fun _ => ⟨0, J1, L, D, r, fun z => absurd rfl z, fun _ => ⟨0, J1, rfl, rd_o_t hO R1, rfl, R2, R3⟩⟩⟩⟩
        | .inr (c', k', ls'), h, gg, R =>
          obtain ⟨m1, m2, m3, m4, m5, m6, m7⟩ := gg _ _ _ rfl
          obtain ⟨R1, rfl, R2, R3, _⟩ := R
          refine w40_48 J L D xc xp xs xt xu _ ⟨fun z => absurd z e18, fun _ => ⟨fun z => absurd (k1.symm.trans z) h0, fun _ => ⟨1, J1, L, D, r, fun _ => ?_, fun z => absurd z (by decide)⟩⟩⟩
          have e1 : nI ls.length + 1 = nI ls'.length := by rw [show (1 : Int32) = nI 1 from rfl, ni_add (by omega), m7]
          rw [e1]
          exact ih ls' c' k' J1 q ⟨m1, m3, m2, m4, m5, m6⟩ R2 R3 (rd_o_t hO R1) h
  have g0 : pt_good1 t [] 0 0 := ⟨ht.1, by omega, rfl, fun i x hx => by simp at hx, by decide, by decide⟩
  obtain ⟨r, w1, x, I', rfl, w2, w3⟩ := am_of_wp (as := [.ref 20, .ref 1, .int (nI n), .ref 11]) mh_40 rfl (w40_0 I L D xc xi xp xs xt xu (nI n) ⟨I1, L, D, am_up r1 (by omega), I2, L, D, am_up r2 (by omega), I3, L, D, am_up r3 (by omega), key 20 [] 0 0 I3 q g0 s3 L3 (fun _ _ _ => rfl) hq⟩)
  refine ⟨x, I', w1, ?_, w3⟩
  intro a b hab
  rw [w2 a b (by omega), f3 a b (by omega), f2 a b (by omega) (by omega)]
  exact h4 a b (by omega) (by omega) (by omega) (by omega)
end READ
