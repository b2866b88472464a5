/-! ===== deeper calls are no harm ===== -/
theorem am_inv_up {sh : am_Sh} {call call' : Nat → List Value → am_M → Option am_R} (hc : ∀ j as m r, call j as m = some r → call' j as m = some r) (q : am_Q) (c c' : am_C) (h : am_inv sh call q c = some c') : am_inv sh call' q c = some c' := by
  obtain ⟨ins, len, l⟩ := q
  match l, h with
  | [], h => simp [am_inv] at h
  | [_], h => simp [am_inv] at h
  | [_, _], h => simp [am_inv] at h
  | [_, _, _], h => simp [am_inv] at h
  | j :: n :: vi :: ci :: rs, h =>
    simp only [am_inv] at h ⊢
    generalize (Nat.ble n c.2.2.1.length && Nat.ble (((c.2.2.1.drop n).map fun v => v.category).sum) 8 && am_rc sh vi ci (c.2.2.1.take n).reverse) = b at h ⊢
    cases b with
    | false => exact h
    | true =>
      simp only [cond_true] at h ⊢
      split at h
      · next r hr => rw [hc _ _ _ _ hr]; exact h
      · cases h
theorem am_go_up {Cd : Nat → Option am_Q} {sh : am_Sh} {ret : Nat} {call call' : Nat → List Value → am_M → Option am_R} (hc : ∀ j as m r, call j as m = some r → call' j as m = some r) : ∀ (n : Nat) (c : am_C) (r : am_R), am_go Cd sh ret call n c = some r → am_go Cd sh ret call' n c = some r := by
  intro n
  induction n with
  | zero => intro c r h; cases h
  | succ n ih =>
    intro c r h
    simp only [am_go] at h ⊢
    cases hq : Cd c.1 with
    | none => rw [hq] at h; cases h
    | some q =>
      rw [hq] at h
      simp only at h ⊢
      obtain ⟨ins, len, info⟩ := q
      cases ins <;> first
        | exact h
        | (simp only at h ⊢
           split at h
           · next c1 hc1 => first
               | (rw [am_inv_up hc _ _ _ hc1]; exact ih _ _ h)
               | exact ih _ _ h
           · cases h)
theorem am_ex_up {ext : Nat → List Value → am_M → Option am_R} {sh : am_Sh} {n : Nat} : ∀ (d j : Nat) (as : List Value) (m : am_M) (r : am_R), am_ex am_Ys ext sh n d j as m = some r → am_ex am_Ys ext sh n (d + 1) j as m = some r := by
  intro d
  induction d with
  | zero => intro j as m r h; cases h
  | succ d ih =>
    intro j as m r h
    rw [am_ex] at h ⊢
    cases hy : am_Ys j with
    | none =>
      rw [hy] at h
      exact h
    | some y =>
      rw [hy] at h
      simp only at h ⊢
      cases hb : Nat.ble (am_ent as).length y.2.1 with
      | false => rw [hb] at h; cases h
      | true =>
        rw [hb] at h
        simp only [cond_true] at h ⊢
        exact am_go_up ih _ _ _ h
theorem am_up {ext : Nat → List Value → am_M → Option am_R} {d d' j : Nat} {as : List Value} {m : am_M} {r : am_R} (h : am_Rn ext d j as m r) (hd : d ≤ d') : am_Rn ext d' j as m r := by
  obtain ⟨n0, h0⟩ := h
  refine ⟨n0, fun n hn => ?_⟩
  have := h0 n hn
  clear h0
  induction hd with
  | refl => exact this
  | step _ ih => exact am_ex_up _ _ _ _ _ ih
/-! ===== trees: (label, kind, number or letter, line, I, J) ===== -/
abbrev tr_P : Type := Nat × Nat × Nat × Nat × Int × Int
abbrev tr_T : Type := Lean.RArray tr_P
abbrev tr_1 (p : tr_P) (a : tr_T) : tr_T := .branch 1 (.leaf p) a
abbrev tr_2 (p : tr_P) (a b : tr_T) : tr_T := .branch 2 (.leaf p) (.branch 0 a b)
abbrev tr_4 (p : tr_P) (a b x y : tr_T) : tr_T := .branch 4 (.leaf p) (.branch 0 (.branch 0 a b) (.branch 0 x y))
/-- how many knots -/
def tr_sz : tr_T → Nat
  | .leaf _ => 1
  | .branch _ l r => tr_sz l + tr_sz r
/-- how many codes of the class -/
def tr_cz : tr_T → Nat
  | .leaf _ => 1
  | .branch n l r => tr_cz l + tr_cz r + (if n = 4 then 2 else 0)
/-- what the class calls a kind -/
def tr_op (p : tr_P) : Int32 := nI ([0, 1, 2, 8, 9, 10, 11, 12, 13, 14, 15, 16, 17, 18, 3, 4, 5, 6, 7].getD p.2.1 0)
def tr_ar (p : tr_P) : Int32 := if p.2.1 = 0 then nI p.2.2.1 else if p.2.1 = 2 ∨ 14 ≤ p.2.1 then nI p.2.2.2.1 else 0
/-- the class's code of a tree from s on -/
def tr_cc (o a f u : Nat → Int32) : tr_T → Nat → Prop
  | .leaf p, s => o s = tr_op p ∧ a s = tr_ar p ∧ f s = Int32.ofInt p.2.2.2.2.1 ∧ u s = Int32.ofInt p.2.2.2.2.2
  | .branch 1 (.leaf p) A, s => tr_cc o a f u A s ∧ o (s + tr_cz A) = tr_op p ∧ a (s + tr_cz A) = tr_ar p
  | .branch 2 (.leaf p) (.branch 0 A B), s => tr_cc o a f u A s ∧ tr_cc o a f u B (s + tr_cz A) ∧ o (s + tr_cz A + tr_cz B) = tr_op p
  | .branch 4 (.leaf p) (.branch 0 (.branch 0 A B) (.branch 0 V W)), s =>
    tr_cc o a f u A s ∧ tr_cc o a f u B (s + tr_cz A) ∧
    o (s + tr_cz A + tr_cz B) = tr_op p ∧ a (s + tr_cz A + tr_cz B) = nI (s + tr_cz A + tr_cz B + 1 + tr_cz V) ∧
    tr_cc o a f u V (s + tr_cz A + tr_cz B + 1) ∧
    o (s + tr_cz A + tr_cz B + 1 + tr_cz V) = 19 ∧ a (s + tr_cz A + tr_cz B + 1 + tr_cz V) = nI (s + tr_cz A + tr_cz B + 1 + tr_cz V + 1 + tr_cz W) ∧
    tr_cc o a f u W (s + tr_cz A + tr_cz B + 1 + tr_cz V + 1) ∧
    o (s + tr_cz A + tr_cz B + 1 + tr_cz V + 1 + tr_cz W) = 20
  | _, _ => False
/-- what may stand in a tree: e: in a function?, what a letter is (0, 1 number, 2 function), its line -/
abbrev pt_E : Type := Bool × (Nat → Nat) × (Nat → Nat)
def tr_k0 (e : pt_E) (p : tr_P) : Prop := (p.2.1 = 0 ∧ p.2.2.1 ≤ 999) ∨ (p.2.1 = 1 ∧ e.1 = true) ∨ (p.2.1 = 2 ∧ p.2.2.1 < 26 ∧ e.2.1 p.2.2.1 = 1 ∧ p.2.2.2.1 = e.2.2 p.2.2.1) ∨ (15 ≤ p.2.1 ∧ p.2.1 ≤ 18 ∧ p.2.2.1 < 26 ∧ e.2.1 p.2.2.1 = 2 ∧ p.2.2.2.1 = e.2.2 p.2.2.1 ∧ -64 ≤ p.2.2.2.2.1 ∧ p.2.2.2.2.1 < p.2.2.2.2.2 ∧ p.2.2.2.2.2 ≤ 64)
def tr_k1 (e : pt_E) (p : tr_P) : Prop := p.2.1 = 3 ∨ p.2.1 = 4 ∨ p.2.1 = 5 ∨ (p.2.1 = 14 ∧ p.2.2.1 < 26 ∧ e.2.1 p.2.2.1 = 2 ∧ p.2.2.2.1 = e.2.2 p.2.2.1)
def tr_ok (e : pt_E) : tr_T → Nat → Prop
  | .leaf p, s => p.1 = s ∧ tr_k0 e p
  | .branch 1 (.leaf p) A, s => p.1 = s ∧ tr_k1 e p ∧ tr_ok e A (s + 1)
  | .branch 2 (.leaf p) (.branch 0 A B), s => (6 ≤ p.2.1 ∧ p.2.1 ≤ 9 ∧ tr_ok e A s ∧ p.1 = s + tr_sz A ∧ tr_ok e B (s + tr_sz A + 1)) ∨ ((p.2.1 = 10 ∨ p.2.1 = 11) ∧ p.1 = s ∧ tr_ok e A (s + 1) ∧ tr_ok e B (s + 1 + tr_sz A))
  | .branch 4 (.leaf p) (.branch 0 (.branch 0 A B) (.branch 0 V W)), s => (p.2.1 = 12 ∨ p.2.1 = 13) ∧ p.1 = s ∧ tr_ok e A (s + 1) ∧ tr_ok e B (s + 1 + tr_sz A) ∧ tr_ok e V (s + 1 + tr_sz A + tr_sz B) ∧ tr_ok e W (s + 1 + tr_sz A + tr_sz B + tr_sz V)
  | _, _ => False
theorem tr_ind {e : pt_E} {M : tr_T → Nat → Prop} (h0 : ∀ p s, p.1 = s → tr_k0 e p → M (.leaf p) s) (h1 : ∀ p A s, p.1 = s → tr_k1 e p → tr_ok e A (s + 1) → M A (s + 1) → M (tr_1 p A) s)
    (h2 : ∀ p A B s, 6 ≤ p.2.1 → p.2.1 ≤ 9 → p.1 = s + tr_sz A → tr_ok e A s → tr_ok e B (s + tr_sz A + 1) → M A s → M B (s + tr_sz A + 1) → M (tr_2 p A B) s)
    (h3 : ∀ p A B s, (p.2.1 = 10 ∨ p.2.1 = 11) → p.1 = s → tr_ok e A (s + 1) → tr_ok e B (s + 1 + tr_sz A) → M A (s + 1) → M B (s + 1 + tr_sz A) → M (tr_2 p A B) s)
    (h4 : ∀ p A B V W s, (p.2.1 = 12 ∨ p.2.1 = 13) → p.1 = s → tr_ok e A (s + 1) → tr_ok e B (s + 1 + tr_sz A) → tr_ok e V (s + 1 + tr_sz A + tr_sz B) → tr_ok e W (s + 1 + tr_sz A + tr_sz B + tr_sz V) → M A (s + 1) → M B (s + 1 + tr_sz A) → M V (s + 1 + tr_sz A + tr_sz B) → M W (s + 1 + tr_sz A + tr_sz B + tr_sz V) → M (tr_4 p A B V W) s) :
    ∀ (T : tr_T) (s : Nat), tr_ok e T s → M T s
  | .leaf p, s, h => h0 p s h.1 h.2
  | .branch 1 (.leaf p) A, s, h => h1 p A s h.1 h.2.1 h.2.2 (tr_ind h0 h1 h2 h3 h4 A _ h.2.2)
  | .branch 2 (.leaf p) (.branch 0 A B), s, h => by
    rcases h with ⟨q1, q2, q3, q4, q5⟩ | ⟨q1, q2, q3, q4⟩
    · exact h2 p A B s q1 q2 q4 q3 q5 (tr_ind h0 h1 h2 h3 h4 A _ q3) (tr_ind h0 h1 h2 h3 h4 B _ q5)
    · exact h3 p A B s q1 q2 q3 q4 (tr_ind h0 h1 h2 h3 h4 A _ q3) (tr_ind h0 h1 h2 h3 h4 B _ q4)
  | .branch 4 (.leaf p) (.branch 0 (.branch 0 A B) (.branch 0 V W)), s, ⟨q1, q2, q3, q4, q5, q6⟩ => h4 p A B V W s q1 q2 q3 q4 q5 q6 (tr_ind h0 h1 h2 h3 h4 A _ q3) (tr_ind h0 h1 h2 h3 h4 B _ q4) (tr_ind h0 h1 h2 h3 h4 V _ q5) (tr_ind h0 h1 h2 h3 h4 W _ q6)
theorem tr_pos : ∀ T : tr_T, 1 ≤ tr_sz T
  | .leaf _ => Nat.le_refl _
  | .branch _ l r => by
    have := tr_pos l
    simp only [tr_sz]
    omega
theorem tr_cz_pos : ∀ T : tr_T, 1 ≤ tr_cz T
  | .leaf _ => Nat.le_refl _
  | .branch _ l r => by
    have := tr_cz_pos l
    simp only [tr_cz]
    omega
theorem tr_cz_le (e : pt_E) : ∀ (T : tr_T) (s : Nat), tr_ok e T s → tr_cz T ≤ 3 * tr_sz T := by
  refine tr_ind ?_ ?_ ?_ ?_ ?_
  · intro p s _ _; simp [tr_cz, tr_sz]
  · intro p A s _ _ _ h; simp [tr_cz, tr_sz]; omega
  · intro p A B s _ _ _ _ _ ha hb; simp [tr_cz, tr_sz]; omega
  · intro p A B s _ _ _ _ ha hb; simp [tr_cz, tr_sz]; omega
  · intro p A B V W s _ _ _ _ _ _ ha hb hv hw; simp [tr_cz, tr_sz]; omega
/-- code that stays as it was -/
theorem tr_cc_of {e : pt_E} {o a f u o' a' f' u' : Nat → Int32} : ∀ (T : tr_T) (q : Nat), tr_ok e T q → ∀ s, tr_cc o a f u T s → (∀ i, s ≤ i → i < s + tr_cz T → o' i = o i ∧ a' i = a i ∧ f' i = f i ∧ u' i = u i) → tr_cc o' a' f' u' T s := by
  refine tr_ind ?_ ?_ ?_ ?_ ?_
  · intro p q _ _ s h k
    obtain ⟨k1, k2, k3, k4⟩ := k s (Nat.le_refl _) (by simp [tr_cz])
    simp only [tr_cc] at h ⊢
    rw [k1, k2, k3, k4]
    exact h
  · intro p A q _ _ _ ih s h k
    simp only [tr_cc, tr_cz] at h k ⊢
    obtain ⟨k1, k2, k3, k4⟩ := k (s + tr_cz A) (by omega) (by simp)
    rw [k1, k2]
    exact ⟨ih s h.1 (fun i h1 h2 => k i h1 (by simp; omega)), h.2⟩
  · intro p A B q _ _ _ _ _ iha ihb s h k
    simp only [tr_cc, tr_cz] at h k ⊢
    obtain ⟨k1, k2, k3, k4⟩ := k (s + tr_cz A + tr_cz B) (by omega) (by simp; omega)
    rw [k1]
    exact ⟨iha s h.1 (fun i h1 h2 => k i h1 (by simp; omega)), ihb _ h.2.1 (fun i h1 h2 => k i (by omega) (by simp; omega)), h.2.2⟩
  · intro p A B q _ _ _ _ iha ihb s h k
    simp only [tr_cc, tr_cz] at h k ⊢
    obtain ⟨k1, k2, k3, k4⟩ := k (s + tr_cz A + tr_cz B) (by omega) (by simp; omega)
    rw [k1]
    exact ⟨iha s h.1 (fun i h1 h2 => k i h1 (by simp; omega)), ihb _ h.2.1 (fun i h1 h2 => k i (by omega) (by simp; omega)), h.2.2⟩
  · intro p A B V W q _ _ _ _ _ _ iha ihb ihv ihw s h k
    simp only [tr_cc, tr_cz] at h k ⊢
    obtain ⟨g1, g2, g3, g4, g5, g6, g7, g8, g9⟩ := h
    obtain ⟨k1, k2, k3, k4⟩ := k (s + tr_cz A + tr_cz B) (by omega) (by simp; omega)
    obtain ⟨m1, m2, m3, m4⟩ := k (s + tr_cz A + tr_cz B + 1 + tr_cz V) (by omega) (by simp; omega)
    obtain ⟨n1, n2, n3, n4⟩ := k (s + tr_cz A + tr_cz B + 1 + tr_cz V + 1 + tr_cz W) (by omega) (by simp; omega)
    rw [k1, k2, m1, m2, n1]
    exact ⟨iha s g1 (fun i h1 h2 => k i h1 (by simp; omega)), ihb _ g2 (fun i h1 h2 => k i (by omega) (by simp; omega)), g3, g4, ihv _ g5 (fun i h1 h2 => k i (by omega) (by simp; omega)), g6, g7, ihw _ g8 (fun i h1 h2 => k i (by omega) (by simp; omega)), g9⟩
