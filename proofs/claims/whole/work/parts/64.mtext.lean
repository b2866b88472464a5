/-! ===== the reference: text ===== -/
theorem pu_toks_len (f : Nat → Int32) (n : Nat) : ∀ k p, (pu_toks f n k p).length ≤ k + 1 := by
  intro k
  induction k with
  | zero => intro p; simp [pu_toks]
  | succ k ih =>
    intro p
    simp only [pu_toks]
    split
    · split
      · have := ih (p + 1); omega
      · split
        · have := ih (pu_num f n (n - p) p 0).1
          simp only [List.length_cons]; omega
        · split
          · have := ih (pu_wend f n (n - p) p)
            simp only [List.length_cons]; omega
          · have := ih (p + 1)
            simp only [List.length_cons]; omega
    · simp
theorem rf_k0 {x k w p pl vl : Int32} (h : rf_tok (x, pl, vl) k w p) : k = 0 ↔ x = 0 := by
  obtain ⟨_, h⟩ := h
  rcases h with ⟨h1, h2⟩ | ⟨h1, h2⟩ | ⟨h1, h2, _⟩ | ⟨h1, h2, _⟩ | ⟨j, hj, h1, h2, _⟩ | ⟨h1, h2, _⟩
  · exact ⟨fun _ => h1, fun _ => h2⟩
  · have h1 : x = 1 := h1
    rw [h1, h2]; decide
  · have h1 : x = 2 := h1
    rw [h1, h2]; decide
  · have h1 : x = 3 := h1
    rw [h1, h2]; decide
  · have h1 : x = nI (4 + j) := h1
    rw [h1, h2]
    refine ⟨fun z => absurd z (by decide), fun z => ?_⟩
    have z : nI (4 + j) = nI 0 := z
    rw [ni_eq (by omega) (by omega)] at z
    omega
  · have h1 : pu_sgn x = true := h1
    rw [h2]
    refine ⟨fun z => absurd z (by decide), fun z => ?_⟩
    rw [z] at h1
    exact absurd h1 (by decide)
def rm_RT (I : Nat → Nat → Int32) (q : (Nat × Int32) ⊕ pt_L) (x : Int32) (I' : Nat → Nat → Int32) : Prop := I' 42 1 = 0 ∧ (∀ a b, a < 42 ∨ a = 43 ∨ a = 44 ∨ 59 ≤ a → I' a b = I a b) ∧ match q with
  | .inl fq => x = -1 ∧ rf_F fq I' ∧ (∀ a b, (45 ≤ a ∧ a ≤ 50 ∧ b < 96) ∨ ((a = 51 ∨ a = 52) ∧ b < 26) ∨ a = 53 ∨ (a = 42 ∧ (b = 17 ∨ b = 21 ∨ b = 24 ∨ b = 25 ∨ b = 59 ∨ b = 60)) → I' a b = I a b)
  | .inr ls => x = nI ls.length ∧ I' 42 4 = 0 ∧ I' 42 5 = -1 ∧ rm_K ls I' ∧ I' 42 59 = 0 ∧ I' 42 60 = 0
section TEXT
variable {ext : Nat → List Value → am_M → Option am_R} {d : Nat} (L : Nat → Nat → Int64) (D : Nat → Nat → UInt64) (X : am_Rf)
theorem c144 {I : Nat → Nat → Int32} {ts n : Nat} (h1 : I 42 1 = nI ts) (hts : ts ≤ 500) (hn : n ≤ ts) (hW : rf_wd I) {q : (Nat × Int32) ⊕ pt_L} (hq : pt_tx (pt_tape (I 43) n) 20 [] 0 0 = some q) :
    ∃ x I', am_Rn ext 10 144 [.ref 42, .int (nI n)] (I, L, D, am_rf X) (some (.int x), (I', L, D, am_rf X)) ∧ rm_RT I q x I' := by
  obtain ⟨ht, hen⟩ := pt_tape_ok (I 43) (show n ≤ 500 by omega) (pu_toks_len (I 43) n n 0)
  -- what is written before the first token
  obtain ⟨I0, hI0⟩ : ∃ I0 : Nat → Nat → Int32, I0 = am_uI (am_uI (am_uI (am_uI (am_uI (am_uI (am_uI (am_uI (am_uI I 42 2 0) 42 6 (nI n)) 42 1 0) 42 4 0) 42 5 (-1)) 42 7 0) 42 18 0) 42 26 0) 42 27 0 := ⟨_, rfl⟩
  have z0 : ∀ a b, ¬ (a = 42 ∧ (b = 2 ∨ b = 6 ∨ b = 1 ∨ b = 4 ∨ b = 5 ∨ b = 7 ∨ b = 18 ∨ b = 26 ∨ b = 27)) → I0 a b = I a b := by
    intro a b hab
    rw [hI0]
    simp only [am_uI_at]
    rw [if_neg (by omega), if_neg (by omega), if_neg (by omega), if_neg (by omega), if_neg (by omega), if_neg (by omega), if_neg (by omega), if_neg (by omega), if_neg (by omega)]
  -- the lines
  have lines : ∀ (m : Nat) (ls : pt_L) (c kn : Nat) (J : Nat → Nat → Int32) (q : (Nat × Int32) ⊕ pt_L), pt_good1 (pt_tape (I 43) n) ls c kn → rf_T (I 43) n c J → rm_L ls J → J 42 4 = 0 → J 42 5 = -1 → rm_o I0 J ∧ (∀ b, b = 1 → J 42 b = 0) → pt_tx (pt_tape (I 43) n) m ls c kn = some q → am_wp ext 9 mz_144 (86, [some (.ref 42), none, none], [], (J, L, D, am_rf X)) (fun r => ∃ x I', r = (some (.int x), (I', L, D, am_rf X)) ∧ rm_RT I q x I') := by
    intro m
    induction m with
    | zero => intro ls c kn J q _ _ _ _ _ _ h; cases h
    | succ m ih =>
      intro ls c kn J q hg hT hL h4 h5 hO h
      obtain ⟨g1, g2, g3, g4, g5, g6⟩ := hg
      have k0 := rf_k0 (rf_T_tok hT)
      simp only [pt_tx] at h
      by_cases hz : pt_k (pt_tape (I 43) n) c = 0
      · rw [if_pos hz] at h
        cases h
        obtain ⟨I', r, K, k59, k60, ko⟩ := c143 (ext := ext) (d := 0) L D X hL g4 (by omega) g5 g6
        refine w144_86 J L D X ⟨fun _ => ⟨I', L, D, am_up r (by omega), _, I', rfl, ?_, ?_, K.2.2.1, ?_, ?_, K, k59, k60⟩, fun z => absurd (k0.mpr hz) z⟩
        · rw [ko 42 1 (by omega) (by omega)]; exact hO.2 1 rfl
        · intro a b hab
          rw [ko a b (by omega) (by omega), hO.1 a b (by omega) (by omega) (by omega) (by omega)]
          exact z0 a b (by omega)
        · rw [ko 42 4 (by omega) (by omega)]; exact h4
        · rw [ko 42 5 (by omega) (by omega)]; exact h5
      · rw [if_neg hz] at h
        obtain ⟨⟨q1, hq1⟩, gg⟩ := pt_ln_good ht hen g1 g2 g3 g4 g5 g6
        rw [hq1] at h gg
        obtain ⟨x, J1, r, R⟩ := c142 (ext := ext) L D X ht hen ⟨g1, g2, g3, g4, g5, g6⟩ hT hL h4 h5 hq1
        match q1, h, gg, R with
        | .inl f, h, gg, R =>
          cases h
          obtain ⟨R1, rfl, R2⟩ := R
          refine w144_86 J L D X ⟨fun z => absurd (k0.mp z) hz, fun _ => ⟨0, J1, L, D, am_up r (by omega), fun z => absurd rfl z, fun _ => ⟨-1, J1, rfl, ?_, ?_, rfl, R2, ?_⟩⟩⟩
          · rw [R1 42 1 (by omega) (by omega) (by omega) (by omega)]; exact hO.2 1 rfl
          · intro a b hab
            rw [R1 a b (by omega) (by omega) (by omega) (by omega), hO.1 a b (by omega) (by omega) (by omega) (by omega)]
            exact z0 a b (by omega)
          · intro a b hab
            rw [R1 a b (by omega) (by omega) (by omega) (by omega), hO.1 a b (by omega) (by omega) (by omega) (by omega)]
            exact z0 a b (by omega)
        | .inr (c', k', ls'), h, gg, R =>
          obtain ⟨m1, m2, m3, m4, m5, m6, m7⟩ := gg _ _ _ rfl
          obtain ⟨R1, rfl, R2, R3, R4, R5⟩ := R
          refine w144_86 J L D X ⟨fun z => absurd (k0.mp z) hz, fun _ => ⟨1, J1, L, D, am_up r (by omega), fun _ => ?_, fun z => absurd z (by decide)⟩⟩
          refine ih ls' c' k' J1 q ⟨m1, m3, m2, m4, m5, m6⟩ R2 R3 R4 R5 ⟨rm_o_t hO.1 R1, fun b hb => ?_⟩ h
          rw [R1 42 b (by omega) (by omega) (by omega) (by omega)]; exact hO.2 b hb
  -- nothing told
  have clear : ∀ (m k : Nat) (J : Nat → Nat → Int32), k + m = 26 → (∀ a b, J a b = if a = 51 ∧ 26 ≤ b ∧ b < 26 + k then 0 else I0 a b) → am_wp ext 9 mz_144 (63, [some (.ref 42), none, some (.int (nI (26 + k)))], [], (J, L, D, am_rf X)) (fun r => ∃ x I', r = (some (.int x), (I', L, D, am_rf X)) ∧ rm_RT I q x I') := by
    intro m
    induction m with
    | zero =>
      intro k J hk hJ
      obtain rfl : k = 26 := by omega
      have j42 : ∀ b, J 42 b = I0 42 b := fun b => by rw [hJ 42 b, if_neg (by omega)]
      have hF : mt_F (I 43) n J := by
        refine ⟨by rw [j42, hI0]; simp [am_uI_at], by omega, fun i hi => ?_⟩
        rw [hJ 43 i, if_neg (by omega), z0 43 i (by omega)]
      have hWJ : rf_wd J := fun i hi => by rw [hJ 44 i, if_neg (by omega), z0 44 i (by omega)]; exact hW i hi
      obtain ⟨I1, x, rest, r1, e1, e2, e3, e4⟩ := c123 (ext := ext) (d := 0) L D X hF hWJ (l := pu_toks (I 43) n n 0) ⟨0, n, by rw [j42, hI0]; simp [am_uI_at]; rfl, by omega, by omega, rfl⟩
      have T1 : rf_T (I 43) n 0 I1 := ⟨mt_F_tf hF e4, rf_wd_tf hWJ e4, x, rest, by rw [List.drop_zero]; exact e1, e2, e3⟩
      refine w144_63 J L D X _ ⟨fun _ => ⟨I1, L, D, am_up r1 (by omega), ?_⟩, fun z => absurd (by decide) z⟩
      refine lines 20 [] 0 0 I1 q ⟨ht.1, by omega, rfl, fun i x hx => by simp at hx, by decide, by decide⟩ T1 ?_ ?_ ?_ ⟨?_, ?_⟩ hq
      · refine ⟨?_, ?_, ?_, fun l hl => ?_, fun i x hx => by simp at hx, fun k x hx => by simp [pt_lets] at hx⟩
        · rw [e4 42 26 (by omega), j42, hI0]; simp [am_uI_at]; rfl
        · rw [e4 42 27 (by omega), j42, hI0]; simp [am_uI_at]; rfl
        · rw [e4 42 18 (by omega), j42, hI0]; simp [am_uI_at]; rfl
        · rw [e4 51 _ (by omega), hJ 51 _, if_pos (by omega)]; rfl
      · rw [e4 42 4 (by omega), j42, hI0]; simp [am_uI_at]
      · rw [e4 42 5 (by omega), j42, hI0]; simp [am_uI_at]
      · intro a b q1 q2 q3 q4
        rw [e4 a b (by omega), hJ a b, if_neg (by omega)]
      · intro b hb
        subst hb
        rw [e4 42 1 (by omega), j42, hI0]; simp [am_uI_at]
    | succ m ih =>
      intro k J hk hJ
      refine w144_63 J L D X _ ⟨fun z => ?_, fun _ => ⟨ni_inb (by omega) (by omega), ?_⟩⟩
      · rw [show (52 : Int32) = nI 52 from rfl, ni_le (by omega) (by omega)] at z
        omega
      · rw [show (1 : Int32) = nI 1 from rfl, ni_add (by omega), ni_nat (by omega)]
        refine ih (k + 1) _ (by omega) (fun a b => ?_)
        rw [am_uI_at]
        by_cases hab : a = 51 ∧ b = 26 + k
        · rw [if_pos hab, if_pos (by omega)]
        · rw [if_neg hab, hJ a b]
          by_cases h2 : a = 51 ∧ 26 ≤ b ∧ b < 26 + k
          · rw [if_pos h2, if_pos (by omega)]
          · rw [if_neg h2, if_neg (by omega)]
  obtain ⟨r, w, x, I', rfl, hR⟩ := am_of_wp (as := [.ref 42, .int (nI n)]) mh_144 rfl (w144_0 I L D X (nI n) ⟨fun z => absurd z (ni_nn (by omega)), fun _ => ⟨fun _ => by rw [← hI0]; exact clear 26 0 I0 (by omega) (fun a b => by rw [if_neg (by omega)]), fun z => absurd (by rw [h1, ni_le (by omega) (by omega)]; omega) z⟩⟩)
  exact ⟨x, I', w, hR⟩
/-- a text that is not there -/
theorem c144_no {I : Nat → Nat → Int32} {ts : Nat} (h1 : I 42 1 = nI ts) (hts : ts ≤ 500) {v : Int32} (hv : v.toInt < 0 ∨ (ts : Int) < v.toInt) : am_Rn ext 1 144 [.ref 42, .int v] (I, L, D, am_rf X) (some (.int (-2)), (am_uI I 42 2 0, L, D, am_rf X)) := by
  refine am_rn_of mh_144 rfl (w144_0 I L D X v ⟨fun _ => rfl, fun z => ⟨fun z2 => ?_, fun _ => rfl⟩⟩)
  exfalso
  rw [Int32.lt_iff_toInt_lt, Int32.toInt_zero] at z
  rw [Int32.le_iff_toInt_le, h1, nI_toInt (by omega)] at z2
  omega
end TEXT
