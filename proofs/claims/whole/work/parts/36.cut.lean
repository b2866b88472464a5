section CUT
variable {d : Nat} (L : Nat → Nat → Int64) (D : Nat → Nat → UInt64) (X : am_Rf)
/-- where a word ends -/
def pu_wend (f : Nat → Int32) (n : Nat) : Nat → Nat → Nat
  | 0, p => p
  | k + 1, p => if p < n ∧ pu_sml (f p) = true then pu_wend f n k (p + 1) else p
theorem pu_wend_ge (f : Nat → Int32) (n : Nat) : ∀ k p, p ≤ pu_wend f n k p ∧ (p ≤ n → pu_wend f n k p ≤ n) := by
  intro k
  induction k with
  | zero => intro p; exact ⟨Nat.le_refl _, fun h => h⟩
  | succ k ih =>
    intro p
    simp only [pu_wend]
    split
    · next h =>
      have := ih (p + 1)
      exact ⟨by omega, fun _ => this.2 (by omega)⟩
    · exact ⟨Nat.le_refl _, fun h => h⟩
theorem pu_num_ge (f : Nat → Int32) (n : Nat) : ∀ k p v, p ≤ (pu_num f n k p v).1 ∧ (p ≤ n → (pu_num f n k p v).1 ≤ n) ∧ (v ≤ 1000 → (pu_num f n k p v).2 ≤ 1000) := by
  intro k
  induction k with
  | zero => intro p v; exact ⟨Nat.le_refl _, fun h => h, fun h => h⟩
  | succ k ih =>
    intro p v
    simp only [pu_num]
    split
    · next h =>
      have := ih (p + 1) (min (v * 10 + ((f p).toNatClampNeg - 48)) 1000)
      exact ⟨by omega, fun _ => this.2.1 (by omega), fun _ => this.2.2 (Nat.min_le_right _ _)⟩
    · exact ⟨Nat.le_refl _, fun h => h, fun h => h⟩
/-- kind and value of the word from p to e -/
def pu_wtk (f : Nat → Int32) (p e : Nat) : Int32 × Int32 := if e - p = 1 then (3, f p - 97) else (nI (pu_wk f p e pu_words 4), 0)
theorem c86 (I : Nat → Nat → Int32) {k n p : Nat} (hk : I 21 3 = nI k) (h5 : k ≤ 500) (hn : n ≤ 500) (hp : p < n) (hs : pu_sml (I 1 p) = true) :
    am_Rn am_ext (d + 2) 86 [.ref 21, .ref 1, .int (nI p), .int (nI n)] (I, L, D, am_rf X) (some (.int (nI (pu_wend (I 1) n (n - p) p))), (pu_add I k (pu_wtk (I 1) p (pu_wend (I 1) n (n - p) p)).1 (nI p) (pu_wtk (I 1) p (pu_wend (I 1) n (n - p) p)).2, L, D, am_rf X)) := by
  have fin : ∀ e, p < e → e ≤ n → am_wp am_ext (d + 1) mz_86 (27, [some (.ref 21), some (.ref 1), some (.int (nI p)), none, some (.int (nI e))], [], (I, L, D, am_rf X)) (fun r => r = (some (.int (nI e)), (pu_add I k (pu_wtk (I 1) p e).1 (nI p) (pu_wtk (I 1) p e).2, L, D, am_rf X))) := by
    intro e h1 h2
    have e1 : nI e - nI p = nI (e - p) := ni_sub (by omega) (by omega)
    have e2 : (nI e - nI p = 1) ↔ e - p = 1 := by rw [e1, show (1 : Int32) = nI 1 from rfl, ni_eq (by omega) (by omega)]
    refine w86_27 I L D X (nI p) (nI e) ⟨fun h => ⟨_, I, L, D, c87 L D X I (by omega) (by omega), _, L, D, c84 L D X I _ (nI p) 0 hk h5, ?_⟩, fun h => ⟨I 1 p, I, L, D, c88 L D X I (by omega), _, L, D, c84 L D X I 3 (nI p) (I 1 p - 97) hk h5, ?_⟩⟩
    · have h3 : ¬ e - p = 1 := fun q => h (e2.mpr q)
      simp only [pu_wtk, if_neg h3]
    · have h3 : e - p = 1 := e2.mp h
      simp only [pu_wtk, if_pos h3]
  have key : ∀ (g q : Nat), q + g = n → (p < q ∨ q = p) → am_wp am_ext (d + 1) mz_86 (3, [some (.ref 21), some (.ref 1), some (.int (nI p)), some (.int (nI n)), some (.int (nI q))], [], (I, L, D, am_rf X)) (fun r => r = (some (.int (nI (pu_wend (I 1) n g q))), (pu_add I k (pu_wtk (I 1) p (pu_wend (I 1) n g q)).1 (nI p) (pu_wtk (I 1) p (pu_wend (I 1) n g q)).2, L, D, am_rf X))) := by
    intro g
    induction g with
    | zero =>
      intro q hq hpq
      refine w86_3 I L D X (nI p) (nI n) (nI q) ⟨fun _ => ?_, fun h => absurd ((ni_le (by omega) (by omega)).mpr (by omega)) h⟩
      simp only [pu_wend]
      exact fin q (by omega) (by omega)
    | succ g ih =>
      intro q hq hpq
      refine w86_3 I L D X (nI p) (nI n) (nI q) ⟨fun h => absurd ((ni_le (by omega) (by omega)).mp h) (by omega), fun _ => ⟨I 1 q, I, L, D, c88 L D X I (by omega), _, I, L, D, c90 L D X I (I 1 q), fun h0 => ?_, fun h0 => ?_⟩⟩
      · have hd : pu_sml (I 1 q) = false := by
          cases hz : pu_sml (I 1 q) with
          | false => rfl
          | true => rw [hz] at h0; exact absurd h0 (by decide)
        have e3 : pu_wend (I 1) n (g + 1) q = q := by
          simp only [pu_wend]
          rw [if_neg (by rw [hd]; simp)]
        rw [e3]
        rcases hpq with hpq | hpq
        · exact fin q hpq (by omega)
        · rw [hpq, hs] at hd
          cases hd
      · have hd : pu_sml (I 1 q) = true := by
          cases hz : pu_sml (I 1 q) with
          | true => rfl
          | false => rw [hz] at h0; exact absurd rfl h0
        have e3 : pu_wend (I 1) n (g + 1) q = pu_wend (I 1) n g (q + 1) := by
          simp only [pu_wend]
          rw [if_pos ⟨by omega, hd⟩]
        rw [e3, show (1 : Int32) = nI 1 from rfl, ni_add (by omega)]
        exact ih (q + 1) (by omega) (Or.inl (by omega))
  exact am_rn_of mh_86 rfl (w86_0 I L D X (nI p) (nI n) (key (n - p) p (by omega) (Or.inr rfl)))
/-- the tokens of a text of n bytes, from p on: kind, place, value -/
def pu_toks (f : Nat → Int32) (n : Nat) : Nat → Nat → List (Int32 × Int32 × Int32)
  | 0, _ => [(0, nI n, 0)]
  | k + 1, p => if p < n then
      (if f p = 32 ∨ f p = 10 then pu_toks f n k (p + 1)
      else if pu_dig (f p) = true then (2, nI p, nI (pu_num f n (n - p) p 0).2) :: pu_toks f n k (pu_num f n (n - p) p 0).1
      else if pu_sml (f p) = true then ((pu_wtk f p (pu_wend f n (n - p) p)).1, nI p, (pu_wtk f p (pu_wend f n (n - p) p)).2) :: pu_toks f n k (pu_wend f n (n - p) p)
      else (if pu_sgn (f p) = true then f p else 1, nI p, 0) :: pu_toks f n k (p + 1))
    else [(0, nI n, 0)]
/-- the token rows hold tk from number k on -/
def pu_has (I : Nat → Nat → Int32) (k : Nat) (tk : List (Int32 × Int32 × Int32)) : Prop := ∀ (i : Nat) (t : Int32 × Int32 × Int32), tk[i]? = some t → I 22 (k + i) = t.1 ∧ I 23 (k + i) = t.2.1 ∧ I 24 (k + i) = t.2.2
theorem pu_add_at (I : Nat → Nat → Int32) (k : Nat) (kd pl vl : Int32) : (∀ a b, ¬ a = 22 → ¬ a = 23 → ¬ a = 24 → ¬ (a = 21 ∧ b = 3) → pu_add I k kd pl vl a b = I a b) ∧ pu_add I k kd pl vl 21 3 = nI (k + 1) ∧ pu_add I k kd pl vl 22 k = kd ∧ pu_add I k kd pl vl 23 k = pl ∧ pu_add I k kd pl vl 24 k = vl ∧ (∀ j, ¬ j = k → pu_add I k kd pl vl 22 j = I 22 j ∧ pu_add I k kd pl vl 23 j = I 23 j ∧ pu_add I k kd pl vl 24 j = I 24 j) := by
  unfold pu_add
  refine ⟨fun a b h1 h2 h3 h4 => ?_, ?_, ?_, ?_, ?_, fun j hj => ⟨?_, ?_, ?_⟩⟩
  · rw [am_uI_at, if_neg h4, am_uI_at, if_neg (fun h => h3 h.1), am_uI_at, if_neg (fun h => h2 h.1), am_uI_at, if_neg (fun h => h1 h.1)]
  · rw [am_uI_at, if_pos ⟨rfl, rfl⟩]
  · rw [am_uI_at, if_neg (by omega), am_uI_at, if_neg (by omega), am_uI_at, if_neg (by omega), am_uI_at, if_pos ⟨rfl, rfl⟩]
  · rw [am_uI_at, if_neg (by omega), am_uI_at, if_neg (by omega), am_uI_at, if_pos ⟨rfl, rfl⟩]
  · rw [am_uI_at, if_neg (by omega), am_uI_at, if_pos ⟨rfl, rfl⟩]
  · rw [am_uI_at, if_neg (by omega), am_uI_at, if_neg (by omega), am_uI_at, if_neg (by omega), am_uI_at, if_neg (fun h => hj h.2)]
  · rw [am_uI_at, if_neg (by omega), am_uI_at, if_neg (by omega), am_uI_at, if_neg (fun h => hj h.2), am_uI_at, if_neg (by omega)]
  · rw [am_uI_at, if_neg (by omega), am_uI_at, if_neg (fun h => hj h.2), am_uI_at, if_neg (by omega), am_uI_at, if_neg (by omega)]
/-- Tokens.cut: the rows hold the tokens of the text, the end behind them -/
theorem c83 (I : Nat → Nat → Int32) {n : Nat} (hn : n ≤ 500) :
    ∃ I', am_Rn am_ext (d + 3) 83 [.ref 21, .ref 1, .int (nI n)] (I, L, D, am_rf X) (none, (I', L, D, am_rf X)) ∧ pu_has I' 0 (pu_toks (I 1) n n 0) ∧ I' 21 3 = nI (pu_toks (I 1) n n 0).length ∧ (pu_toks (I 1) n n 0).length ≤ n + 1 ∧ (∀ a b, ¬ a = 22 → ¬ a = 23 → ¬ a = 24 → ¬ (a = 21 ∧ b = 3) → I' a b = I a b) := by
  have key : ∀ (g k p q : Nat) (J : Nat → Nat → Int32), q + g = n → p ≤ n → q ≤ p → k ≤ q → J 21 3 = nI k → (∀ a b, ¬ a = 22 → ¬ a = 23 → ¬ a = 24 → ¬ (a = 21 ∧ b = 3) → J a b = I a b) →
      am_wp am_ext (d + 2) mz_83 (10, [some (.ref 21), some (.ref 1), some (.int (nI n)), some (.int (nI p)), some (.int (nI q)), none], [], (J, L, D, am_rf X)) (fun r => ∃ I', r = (none, (I', L, D, am_rf X)) ∧ pu_has I' k (pu_toks (I 1) n g p) ∧ I' 21 3 = nI (k + (pu_toks (I 1) n g p).length) ∧ (pu_toks (I 1) n g p).length ≤ g + 1 ∧ (∀ i, i < k → I' 22 i = J 22 i ∧ I' 23 i = J 23 i ∧ I' 24 i = J 24 i) ∧ (∀ a b, ¬ a = 22 → ¬ a = 23 → ¬ a = 24 → ¬ (a = 21 ∧ b = 3) → I' a b = I a b)) := by
    intro g
    induction g with
    | zero =>
      intro k p q J hq hp hqp hkq h1 h2
      obtain ⟨z1, z2, z3, z4, z5, z6⟩ := pu_add_at J k 0 (nI n) 0
      refine w83_10 J L D X (nI n) (nI p) (nI q) ⟨fun _ => ⟨_, L, D, c84 L D X J 0 (nI n) 0 h1 (by omega), _, rfl, ?_, ?_, ?_, ?_, ?_⟩, fun h => absurd ((ni_le (by omega) (by omega)).mpr (by omega)) h⟩
      · intro i t hi
        cases i with
        | zero => cases hi; exact ⟨z3, z4, z5⟩
        | succ i => simp [pu_toks] at hi
      · exact z2
      · simp [pu_toks]
      · intro i hi
        exact z6 i (by omega)
      · intro a b a1 a2 a3 a4
        rw [z1 a b a1 a2 a3 a4]
        exact h2 a b a1 a2 a3 a4
    | succ g ih =>
      intro k p q J hq hp hqp hkq h1 h2
      have hJ1 : J 1 = I 1 := by
        funext b
        exact h2 1 b (by omega) (by omega) (by omega) (by omega)
      -- one token more, then the rest
      have one : ∀ (kd pl vl : Int32) (p' : Nat), p' ≤ n → p + 1 ≤ p' → am_wp am_ext (d + 2) mz_83 (10, [some (.ref 21), some (.ref 1), some (.int (nI n)), some (.int (nI p')), some (.int (nI (q + 1))), none], [], (pu_add J k kd pl vl, L, D, am_rf X)) (fun r => ∃ I', r = (none, (I', L, D, am_rf X)) ∧ pu_has I' k ((kd, pl, vl) :: pu_toks (I 1) n g p') ∧ I' 21 3 = nI (k + ((kd, pl, vl) :: pu_toks (I 1) n g p').length) ∧ ((kd, pl, vl) :: pu_toks (I 1) n g p').length ≤ g + 1 + 1 ∧ (∀ i, i < k → I' 22 i = J 22 i ∧ I' 23 i = J 23 i ∧ I' 24 i = J 24 i) ∧ (∀ a b, ¬ a = 22 → ¬ a = 23 → ¬ a = 24 → ¬ (a = 21 ∧ b = 3) → I' a b = I a b)) := by
        intro kd pl vl p' hp' hpp
        obtain ⟨z1, z2, z3, z4, z5, z6⟩ := pu_add_at J k kd pl vl
        refine am_wp_mono (ih (k + 1) p' (q + 1) (pu_add J k kd pl vl) (by omega) hp' (by omega) (by omega) z2 (fun a b a1 a2 a3 a4 => by rw [z1 a b a1 a2 a3 a4]; exact h2 a b a1 a2 a3 a4)) ?_
        rintro r ⟨I', rfl, g1, g2, g3, g4, g5⟩
        refine ⟨I', rfl, ?_, ?_, ?_, ?_, g5⟩
        · intro i t hi
          cases i with
          | zero =>
            cases hi
            have := g4 k (by omega)
            rw [z3, z4, z5] at this
            exact this
          | succ i =>
            have := g1 i t hi
            rw [show k + (i + 1) = k + 1 + i by omega]
            exact this
        · rw [g2, List.length_cons]
          congr 1
          omega
        · rw [List.length_cons]
          omega
        · intro i hi
          have a1 := g4 i (by omega)
          have a2 := z6 i (by omega)
          exact ⟨a1.1.trans a2.1, a1.2.1.trans a2.2.1, a1.2.2.trans a2.2.2⟩
      refine w83_10 J L D X (nI n) (nI p) (nI q) ⟨fun h => absurd ((ni_le (by omega) (by omega)).mp h) (by omega), fun _ => ⟨fun h => ?_, fun h => ?_⟩⟩
      · have hpn : ¬ p < n := by
          have := (ni_le (by omega) (by omega)).mp h
          omega
        obtain ⟨z1, z2, z3, z4, z5, z6⟩ := pu_add_at J k 0 (nI n) 0
        have et : pu_toks (I 1) n (g + 1) p = [(0, nI n, 0)] := by simp only [pu_toks, if_neg hpn]
        rw [et]
        refine ⟨_, L, D, c84 L D X J 0 (nI n) 0 h1 (by omega), _, rfl, ?_, z2, by simp, fun i hi => z6 i (by omega), fun a b a1 a2 a3 a4 => by rw [z1 a b a1 a2 a3 a4]; exact h2 a b a1 a2 a3 a4⟩
        intro i t hi
        cases i with
        | zero => cases hi; exact ⟨z3, z4, z5⟩
        | succ i => simp at hi
      · have hpn : p < n := by
          rcases Nat.lt_or_ge p n with z | z
          · exact z
          · exact absurd ((ni_le (by omega) (by omega)).mpr z) h
        have s1 : ∀ x : Nat, x < 1000 → nI x + 1 = nI (x + 1) := fun x hx => by rw [show (1 : Int32) = nI 1 from rfl, ni_add (by omega)]
        have blank : (I 1 p = 32 ∨ I 1 p = 10) → am_wp am_ext (d + 2) mz_83 (10, [some (.ref 21), some (.ref 1), some (.int (nI n)), some (.int (nI p + 1)), some (.int (nI q + 1)), none], [], (J, L, D, am_rf X)) (fun r => ∃ I', r = (none, (I', L, D, am_rf X)) ∧ pu_has I' k (pu_toks (I 1) n (g + 1) p) ∧ I' 21 3 = nI (k + (pu_toks (I 1) n (g + 1) p).length) ∧ (pu_toks (I 1) n (g + 1) p).length ≤ g + 1 + 1 ∧ (∀ i, i < k → I' 22 i = J 22 i ∧ I' 23 i = J 23 i ∧ I' 24 i = J 24 i) ∧ (∀ a b, ¬ a = 22 → ¬ a = 23 → ¬ a = 24 → ¬ (a = 21 ∧ b = 3) → I' a b = I a b)) := by
          intro hb
          have et : pu_toks (I 1) n (g + 1) p = pu_toks (I 1) n g (p + 1) := by simp only [pu_toks, if_pos hpn, if_pos hb]
          rw [et, s1 p (by omega), s1 q (by omega)]
          refine am_wp_mono (ih k (p + 1) (q + 1) J (by omega) (by omega) (by omega) (by omega) h1 h2) ?_
          rintro r ⟨I', rfl, g1, g2, g3, g4, g5⟩
          exact ⟨I', rfl, g1, g2, by omega, g4, g5⟩
        refine ⟨J 1 p, J, L, D, c88 L D X J (by omega), fun h32 => ?_, fun h32 => ⟨fun h10 => ?_, fun h10 => ?_⟩⟩
        · rw [hJ1] at h32
          exact blank (Or.inl h32)
        · rw [hJ1] at h32 h10
          have hnb : ¬ (I 1 p = 32 ∨ I 1 p = 10) := fun z => z.elim h32 h10
          refine ⟨_, J, L, D, c89 L D X J (J 1 p), fun hd0 => ?_, fun hd1 => ?_⟩
          · have hd : pu_dig (I 1 p) = false := by
              cases hz : pu_dig (I 1 p) with
              | false => rfl
              | true => rw [hJ1, hz] at hd0; exact absurd hd0 (by decide)
            refine ⟨_, J, L, D, c90 L D X J (J 1 p), fun hs0 => ?_, fun hs1 => ?_⟩
            · have hs : pu_sml (I 1 p) = false := by
                cases hz : pu_sml (I 1 p) with
                | false => rfl
                | true => rw [hJ1, hz] at hs0; exact absurd hs0 (by decide)
              have et : pu_toks (I 1) n (g + 1) p = (if pu_sgn (I 1 p) = true then I 1 p else 1, nI p, 0) :: pu_toks (I 1) n g (p + 1) := by
                simp only [pu_toks, if_pos hpn, if_neg hnb, hd, hs, Bool.false_eq_true, if_false]
              rw [et, s1 p (by omega), s1 q (by omega)]
              refine ⟨_, J, L, D, c91 L D X J (J 1 p), fun hg0 => ?_, fun hg1 => ?_⟩
              · have hg : pu_sgn (I 1 p) = false := by
                  cases hz : pu_sgn (I 1 p) with
                  | false => rfl
                  | true => rw [hJ1, hz] at hg0; exact absurd hg0 (by decide)
                rw [hg]
                exact ⟨_, L, D, c84 L D X J 1 (nI p) 0 h1 (by omega), one 1 (nI p) 0 (p + 1) (by omega) (by omega)⟩
              · have hg : pu_sgn (I 1 p) = true := by
                  cases hz : pu_sgn (I 1 p) with
                  | true => rfl
                  | false => rw [hJ1, hz] at hg1; exact absurd rfl hg1
                rw [hg, hJ1]
                exact ⟨_, L, D, c84 L D X J (I 1 p) (nI p) 0 h1 (by omega), one (I 1 p) (nI p) 0 (p + 1) (by omega) (by omega)⟩
            · have hs : pu_sml (I 1 p) = true := by
                cases hz : pu_sml (I 1 p) with
                | true => rfl
                | false => rw [hJ1, hz] at hs1; exact absurd rfl hs1
              have et : pu_toks (I 1) n (g + 1) p = ((pu_wtk (I 1) p (pu_wend (I 1) n (n - p) p)).1, nI p, (pu_wtk (I 1) p (pu_wend (I 1) n (n - p) p)).2) :: pu_toks (I 1) n g (pu_wend (I 1) n (n - p) p) := by
                simp only [pu_toks, if_pos hpn, if_neg hnb, hd, hs, Bool.false_eq_true, if_false, if_true]
              have hw := pu_wend_ge (I 1) n (n - p) p
              have hw1 : p + 1 ≤ pu_wend (I 1) n (n - p) p := by
                have e9 : n - p = (n - p - 1) + 1 := by omega
                rw [e9]
                simp only [pu_wend]
                rw [if_pos ⟨hpn, hs⟩]
                have := (pu_wend_ge (I 1) n (n - p - 1) (p + 1)).1
                omega
              have hc := c86 (d := d) L D X J h1 (by omega) hn hpn (by rw [hJ1]; exact hs)
              rw [hJ1] at hc
              rw [et, s1 q (by omega)]
              exact ⟨_, _, L, D, hc, one _ (nI p) _ _ (hw.2 hp) hw1⟩
          · have hd : pu_dig (I 1 p) = true := by
              cases hz : pu_dig (I 1 p) with
              | true => rfl
              | false => rw [hJ1, hz] at hd1; exact absurd rfl hd1
            have et : pu_toks (I 1) n (g + 1) p = (2, nI p, nI (pu_num (I 1) n (n - p) p 0).2) :: pu_toks (I 1) n g (pu_num (I 1) n (n - p) p 0).1 := by
              simp only [pu_toks, if_pos hpn, if_neg hnb, hd, if_true]
            have hw := pu_num_ge (I 1) n (n - p) p 0
            have hw1 : p + 1 ≤ (pu_num (I 1) n (n - p) p 0).1 := by
              have e9 : n - p = (n - p - 1) + 1 := by omega
              rw [e9]
              simp only [pu_num]
              rw [if_pos ⟨hpn, hd⟩]
              have := (pu_num_ge (I 1) n (n - p - 1) (p + 1) (min (0 * 10 + ((I 1 p).toNatClampNeg - 48)) 1000)).1
              omega
            have hc := c85 (ext := am_ext) (d := d) L D X J h1 (by omega) hn hp
            rw [hJ1] at hc
            rw [et, s1 q (by omega)]
            exact ⟨_, _, L, D, hc, one _ (nI p) _ _ (hw.2.1 hp) hw1⟩
        · rw [hJ1] at h10
          exact blank (Or.inr h10)
  obtain ⟨r, h1, I', rfl, g1, g2, g3, g4, g5⟩ := am_of_wp (as := [.ref 21, .ref 1, .int (nI n)]) mh_83 rfl (w83_0 I L D X (nI n) (key n 0 0 0 (am_uI I 21 3 0) (by omega) (by omega) (by omega) (by omega) (by rw [am_uI_at, if_pos ⟨rfl, rfl⟩]; rfl) (fun a b _ _ _ h => by rw [am_uI_at, if_neg h])))
  exact ⟨I', h1, g1, by rw [g2]; congr 1; omega, g3, g5⟩
end CUT
