/-! ===== the reference's fractions: trailOf ===== -/
def tl_sum (l : List tr_T) : Nat := (l.map tr_sz).sum
theorem tl_sum_app (a b : List tr_T) : tl_sum (a ++ b) = tl_sum a + tl_sum b := by unfold tl_sum; rw [List.map_append, List.sum_append]
theorem tl_sum_len : ∀ l : List tr_T, l.length ≤ tl_sum l
  | [] => Nat.le_refl _
  | A :: l => by
    have := tl_sum_len l
    have := tr_pos A
    show l.length + 1 ≤ tr_sz A + tl_sum l
    omega
theorem tr_kd_sz {e : pt_E} : ∀ (T : tr_T) (s : Nat), tr_ok e T s → tr_sz T = 1 + tl_sum (tr_kd T) := by
  refine tr_ind ?_ ?_ ?_ ?_ ?_
  · intro p s _ _; rfl
  · intro p A s _ _ _ _; simp [tr_sz, tr_kd, tl_sum]
  · intro p A B s _ _ _ _ _ _ _; simp [tr_sz, tr_kd, tl_sum]
  · intro p A B s _ _ _ _ _ _; simp [tr_sz, tr_kd, tl_sum]
  · intro p A B V W s _ _ _ _ _ _ _ _ _ _; simp [tr_sz, tr_kd, tl_sum]; omega
/-- the trail: the list l stands in row 74, its parts from i on behind it -/
def tl_at (I : Nat → Nat → Int32) (l : List tr_T) : Prop := ∀ k S, l[k]? = some S → I 74 k = nI (tr_rt S)
def tl_cl (l : List tr_T) (i : Nat) : Prop := ∀ k S, i ≤ k → l[k]? = some S → ∀ A, A ∈ tr_kd S → ∃ j, k < j ∧ l[j]? = some A
theorem tr_cs {e : pt_E} : ∀ (T : tr_T) (s : Nat), tr_ok e T s → (∃ p, T = .leaf p ∧ tr_k0 e p) ∨ (∃ p A, T = tr_1 p A ∧ tr_k1 e p ∧ ∃ s', tr_ok e A s') ∨ (∃ p A B, T = tr_2 p A B ∧ 6 ≤ p.2.1 ∧ p.2.1 ≤ 11 ∧ (∃ s', tr_ok e A s') ∧ ∃ s', tr_ok e B s') ∨ (∃ p A B V W, T = tr_4 p A B V W ∧ (p.2.1 = 12 ∨ p.2.1 = 13)) := by
  refine tr_ind ?_ ?_ ?_ ?_ ?_
  · intro p s _ h; exact Or.inl ⟨p, rfl, h⟩
  · intro p A s _ h hA _; exact Or.inr (Or.inl ⟨p, A, rfl, h, _, hA⟩)
  · intro p A B s _ _ _ hA hB _ _; exact Or.inr (Or.inr (Or.inl ⟨p, A, B, rfl, by omega, by omega, ⟨_, hA⟩, _, hB⟩))
  · intro p A B s _ _ hA hB _ _; exact Or.inr (Or.inr (Or.inl ⟨p, A, B, rfl, by omega, by omega, ⟨_, hA⟩, _, hB⟩))
  · intro p A B V W s h _ _ _ _ _ _ _ _ _; exact Or.inr (Or.inr (Or.inr ⟨p, A, B, V, W, rfl, h⟩))
def tl_F (T : tr_T) (l : List tr_T) (i : Nat) (I I' : Nat → Nat → Int32) (l' : List tr_T) : Prop := (∀ a b, ¬ a = 74 → I' a b = I a b) ∧ l'.length ≤ 96 ∧ tl_at I' l' ∧ (∀ S, S ∈ l' → tr_in S T) ∧ tl_cl l' i ∧ (∀ (k : Nat) S, l[k]? = some S → l'[k]? = some S)
section TRAIL
variable {ext : Nat → List Value → am_M → Option am_R} {d : Nat} (L : Nat → Nat → Int64) (D : Nat → Nat → UInt64) (X : am_Rf)
theorem c178_l {e : pt_E} {T : tr_T} {s : Nat} (hT : tr_ok e T s) (hs : s + tr_sz T ≤ 96) : ∀ (m : Nat) (l : List tr_T) (i : Nat) (I : Nat → Nat → Int32), rf_rp 0 false I T → tl_sum (l.drop i) ≤ m → i + tl_sum (l.drop i) ≤ 96 → i ≤ l.length → tl_at I l → (∀ S, S ∈ l → tr_in S T) →
    ∃ I' l', am_wp ext d mz_178 (11, [some (.ref 42), none, some (.int (nI l.length)), some (.int (nI i)), none], [], (I, L, D, am_rf X)) (fun r => r = (some (.int (nI l'.length)), (I', L, D, am_rf X))) ∧ tl_F T l i I I' l' := by
  intro m
  induction m with
  | zero =>
    intro l i I hrp hm h96 hi hat hin
    have := tl_sum_len (l.drop i)
    rw [List.length_drop] at this
    have e : i = l.length := by omega
    subst e
    refine ⟨I, l, w178_11 I L D X (nI l.length) (nI l.length) ⟨fun _ => rfl, fun z => absurd ?_ z⟩, fun _ _ _ => rfl, by omega, hat, hin, fun k S hk hS => ?_, fun _ _ h => h⟩
    · rw [Int32.le_iff_toInt_le]; exact Int.le_refl _
    · have := (List.getElem?_eq_some_iff.mp hS).1
      omega
  | succ m ih =>
    intro l i I hrp hm h96 hi hat hin
    have hlen := tl_sum_len (l.drop i)
    rw [List.length_drop] at hlen
    by_cases hil : i = l.length
    · subst hil
      refine ⟨I, l, w178_11 I L D X (nI l.length) (nI l.length) ⟨fun _ => rfl, fun z => absurd ?_ z⟩, fun _ _ _ => rfl, by omega, hat, hin, fun k S hk hS => ?_, fun _ _ h => h⟩
      · rw [Int32.le_iff_toInt_le]; exact Int.le_refl _
      · have := (List.getElem?_eq_some_iff.mp hS).1
        omega
    · have hil' : i < l.length := by omega
      obtain ⟨S, hS⟩ : ∃ S, l[i]? = some S := ⟨_, List.getElem?_eq_getElem hil'⟩
      have hSi : tr_in S T := hin S (List.mem_of_getElem? hS)
      obtain ⟨s', ok, q1, q2, q3, q4⟩ := tr_in_rg T s hT S hSi
      have rS := tr_in_rp T s hT hrp S hSi
      have dr : l.drop i = S :: l.drop (i + 1) := by
        rw [List.drop_eq_getElem_cons hil']
        congr 1
        have := List.getElem?_eq_getElem hil'
        rw [hS] at this
        cases this
        rfl
      have su : tl_sum (l.drop i) = tr_sz S + tl_sum (l.drop (i + 1)) := by rw [dr]; rfl
      have ks := tr_kd_sz S s' ok
      have kl := tl_sum_len (tr_kd S)
      have l2 := tl_sum_len (l.drop (i + 1))
      rw [List.length_drop] at l2
      -- one step
      have step : ∀ I1 : Nat → Nat → Int32, (∀ t A, (tr_kd S)[t]? = some A → I1 74 (l.length + t) = nI (tr_rt A)) → (∀ a b, ¬ (a = 74 ∧ l.length ≤ b) → I1 a b = I a b) → ∃ I' l', am_wp ext d mz_178 (11, [some (.ref 42), none, some (.int (nI (l.length + (tr_kd S).length))), some (.int (nI (i + 1))), none], [], (I1, L, D, am_rf X)) (fun r => r = (some (.int (nI l'.length)), (I', L, D, am_rf X))) ∧ tl_F T l i I I' l' := by
        intro I1 g1 g2
        have dr2 : (l ++ tr_kd S).drop (i + 1) = l.drop (i + 1) ++ tr_kd S := List.drop_append_of_le_length (by omega)
        have hat' : tl_at I1 (l ++ tr_kd S) := by
          intro k C hC
          by_cases hk : k < l.length
          · rw [List.getElem?_append_left hk] at hC
            rw [g2 74 k (by omega)]
            exact hat k C hC
          · rw [List.getElem?_append_right (by omega)] at hC
            have := g1 _ C hC
            rwa [show l.length + (k - l.length) = k by omega] at this
        have hin' : ∀ C, C ∈ l ++ tr_kd S → tr_in C T := by
          intro C hC
          rcases List.mem_append.mp hC with h | h
          · exact hin C h
          · exact tr_in_kd T s hT S hSi C h
        obtain ⟨I', l', W, f1, f2, f3, f4, f5, f6⟩ := ih (l ++ tr_kd S) (i + 1) I1 (rf_rp_of T s hT hrp (fun a j _ _ _ _ => g2 a j (by omega))) (by rw [dr2, tl_sum_app]; omega) (by rw [dr2, tl_sum_app]; omega) (by rw [List.length_append]; omega) hat' hin'
        refine ⟨I', l', by rw [List.length_append] at W; exact W, fun a b h => by rw [f1 a b h, g2 a b (by omega)], f2, f3, f4, fun k C hk hC A hA => ?_, fun k C hC => f6 k C (by rw [List.getElem?_append_left (List.getElem?_eq_some_iff.mp hC).1]; exact hC)⟩
        by_cases hki : k = i
        · subst hki
          have e1 := f6 k S (by rw [List.getElem?_append_left hil']; exact hS)
          rw [hC] at e1
          cases e1
          obtain ⟨t, ht⟩ := List.getElem?_of_mem hA
          refine ⟨l.length + t, by omega, f6 _ A ?_⟩
          rw [List.getElem?_append_right (by omega), Nat.add_sub_cancel_left]
          exact ht
        · exact f5 k C (by omega) hC A hA
      have ei : (nI i).toNatClampNeg = i := ni_nat (by omega)
      have e74 : I 74 i = nI (tr_rt S) := hat i S hS
      have er : (nI (tr_rt S)).toNatClampNeg = tr_rt S := ni_nat (by omega)
      have nle : ¬ nI l.length ≤ nI i := by rw [ni_le (by omega) (by omega)]; omega
      have b1 : am_inb (nI i) 96 = true := ni_inb (by omega) (by omega)
      have b2 : am_inb (nI (tr_rt S)) 192 = true := ni_inb (by omega) (by omega)
      have i1 : nI i + 1 = nI (i + 1) := by rw [show (1 : Int32) = nI 1 from rfl, ni_add (by omega)]
      have n1 : nI l.length + 1 = nI (l.length + 1) := by rw [show (1 : Int32) = nI 1 from rfl, ni_add (by omega)]
      have n2 : nI (l.length + 1) + 1 = nI (l.length + 2) := by rw [show (1 : Int32) = nI 1 from rfl, ni_add (by omega)]
      have en : (nI l.length).toNatClampNeg = l.length := ni_nat (by omega)
      have en1 : (nI (l.length + 1)).toNatClampNeg = l.length + 1 := ni_nat (by omega)
      have kd3 : ∀ k, k < 100 → ((nI k < 3 ↔ k < 3) ∧ (nI k < 6 ↔ k < 6) ∧ (nI k = 15 ↔ k = 15) ∧ (nI k = 14 ↔ k = 14) ∧ (nI k = 12 ↔ k = 12) ∧ (nI k = 13 ↔ k = 13)) := fun k hk => ⟨ni_lt (b := 3) (by omega) (by omega), ni_lt (b := 6) (by omega) (by omega), ni_eq (b := 15) (by omega) (by omega), ni_eq (b := 14) (by omega) (by omega), ni_eq (b := 12) (by omega) (by omega), ni_eq (b := 13) (by omega) (by omega)⟩
      have fin : ∀ I1 : Nat → Nat → Int32, (∀ t A, (tr_kd S)[t]? = some A → I1 74 (l.length + t) = nI (tr_rt A)) → (∀ a b, ¬ (a = 74 ∧ l.length ≤ b) → I1 a b = I a b) → (am_wp ext d mz_178 (11, [some (.ref 42), none, some (.int (nI (l.length + (tr_kd S).length))), some (.int (nI (i + 1))), none], [], (I1, L, D, am_rf X)) = am_wp ext d mz_178 (11, [some (.ref 42), none, some (.int (nI (l.length + (tr_kd S).length))), some (.int (nI (i + 1))), none], [], (I1, L, D, am_rf X)) → ∀ Q : am_R → Prop, am_wp ext d mz_178 (11, [some (.ref 42), none, some (.int (nI (l.length + (tr_kd S).length))), some (.int (nI (i + 1))), none], [], (I1, L, D, am_rf X)) Q → am_wp ext d mz_178 (11, [some (.ref 42), none, some (.int (nI l.length)), some (.int (nI i)), none], [], (I, L, D, am_rf X)) Q) → ∃ I' l', am_wp ext d mz_178 (11, [some (.ref 42), none, some (.int (nI l.length)), some (.int (nI i)), none], [], (I, L, D, am_rf X)) (fun r => r = (some (.int (nI l'.length)), (I', L, D, am_rf X))) ∧ tl_F T l i I I' l' := by
        intro I1 g1 g2 W
        obtain ⟨I', l', W1, F⟩ := step I1 g1 g2
        exact ⟨I', l', W rfl _ W1, F⟩
      rcases tr_cs S s' ok with ⟨p, rfl, hk⟩ | ⟨p, A, rfl, hk, _⟩ | ⟨p, A, B, rfl, k1, k2, _⟩ | ⟨p, A, B, V, W', rfl, hk⟩
      · have hr : tr_rt (.leaf p) = p.1 := rfl
        have h45 : ∃ k, I 45 (tr_rt (.leaf p)) = nI k ∧ k < 100 ∧ (k < 3 ∨ k = 15) := by
          rw [hr]
          simp only [rf_rp, Nat.zero_add] at rS
          rcases hk with ⟨k, _⟩ | ⟨k, _⟩ | ⟨k, _⟩ | ⟨k, k', _⟩
          · exact ⟨p.2.1, (rS.1 (by omega)).1, by omega, by omega⟩
          · exact ⟨p.2.1, (rS.1 (by omega)).1, by omega, by omega⟩
          · exact ⟨p.2.1, (rS.1 (by omega)).1, by omega, by omega⟩
          · exact ⟨15, (rS.2 k).1, by omega, by omega⟩
        obtain ⟨k, h45, hk1, hk2⟩ := h45
        obtain ⟨x1, x2, x3, x4, x5, x6⟩ := kd3 k hk1
        refine fin I (fun t A h => by cases h) (fun _ _ _ => rfl) (fun _ Q W => w178_11 I L D X (nI l.length) (nI i) ⟨fun z => absurd z nle, fun _ => ?_⟩)
        rw [ei, e74, er, h45, i1]
        refine ⟨b1, b2, fun _ => W, fun z => ⟨b2, fun z2 => absurd (x3.mpr ?_) z2, fun _ => W⟩⟩
        rw [x1] at z
        omega
      · have hr : tr_rt (tr_1 p A) = p.1 := rfl
        simp only [rf_rp, Nat.zero_add] at rS
        obtain ⟨h45, _, h47, _⟩ := rS
        rw [← hr] at h45 h47
        have kk : p.2.1 = 3 ∨ p.2.1 = 4 ∨ p.2.1 = 5 ∨ p.2.1 = 14 := by rcases hk with h | h | h | ⟨h, _⟩ <;> omega
        obtain ⟨x1, x2, x3, x4, x5, x6⟩ := kd3 p.2.1 (by omega)
        have kl2 : (tr_kd (tr_1 p A)).length = 1 := rfl
        have b3 : am_inb (nI l.length) 96 = true := ni_inb (by omega) (by omega)
        refine fin (am_uI I 74 l.length (nI (tr_rt A))) (fun t C h => ?_) (fun a b h => by rw [am_uI_at, if_neg (by omega)]) (fun _ Q W => w178_11 I L D X (nI l.length) (nI i) ⟨fun z => absurd z nle, fun _ => ?_⟩)
        · match t, h with
          | 0, h => cases h; rw [am_uI_at, if_pos ⟨rfl, rfl⟩]
          | t + 1, h => cases h
        · rw [ei, e74, er, h45, h47, i1, n1, en]
          refine ⟨b1, b2, fun z => ?_, fun z => ⟨b2, fun z2 => ⟨b2, b3, b2, fun _ => W, fun z3 => ⟨b2, fun z4 => ?_, fun _ => W⟩⟩, fun z2 => ?_⟩⟩
          · rw [x1] at z; omega
          · rw [x2] at z3; rw [x4] at z4; omega
          · rw [x3] at z2; omega
      · have hr : tr_rt (tr_2 p A B) = p.1 := rfl
        simp only [rf_rp, Nat.zero_add] at rS
        obtain ⟨h45, h47, h48, _⟩ := rS
        rw [← hr] at h45 h47 h48
        obtain ⟨x1, x2, x3, x4, x5, x6⟩ := kd3 p.2.1 (by omega)
        have kl2 : (tr_kd (tr_2 p A B)).length = 2 := rfl
        have b3 : am_inb (nI l.length) 96 = true := ni_inb (by omega) (by omega)
        have b4 : am_inb (nI (l.length + 1)) 96 = true := ni_inb (by omega) (by omega)
        refine fin (am_uI (am_uI I 74 l.length (nI (tr_rt A))) 74 (l.length + 1) (nI (tr_rt B))) (fun t C h => ?_) (fun a b h => by rw [am_uI_at, if_neg (by omega), am_uI_at, if_neg (by omega)]) (fun _ Q W => w178_11 I L D X (nI l.length) (nI i) ⟨fun z => absurd z nle, fun _ => ?_⟩)
        · match t, h with
          | 0, h => cases h; rw [am_uI_at, if_neg (by omega), am_uI_at, if_pos ⟨rfl, rfl⟩]
          | 1, h => cases h; rw [am_uI_at, if_pos ⟨rfl, rfl⟩]
          | t + 2, h => cases h
        · rw [ei, e74, er, h45, h47, h48, i1, n1, n2, en, en1]
          refine ⟨b1, b2, fun z => ?_, fun z => ⟨b2, fun z2 => ⟨b2, b3, b2, fun z3 => ?_, fun z3 => ⟨b2, fun z4 => ⟨b2, b4, b2, fun z5 => ?_, fun z5 => ⟨b2, fun z6 => ?_, fun z6 => W⟩⟩, fun z4 => ?_⟩⟩, fun z2 => ?_⟩⟩
          · rw [x1] at z; omega
          · rw [x2] at z3; omega
          · rw [x5] at z5; omega
          · rw [x6] at z6; omega
          · rw [x4] at z4; omega
          · rw [x3] at z2; omega
      · have hr : tr_rt (tr_4 p A B V W') = p.1 := rfl
        simp only [rf_rp, Nat.zero_add] at rS
        obtain ⟨h45, h47, h48, h49, h50, _⟩ := rS
        rw [if_neg (by decide)] at h45
        rw [← hr] at h45 h47 h48 h49 h50
        obtain ⟨x1, x2, x3, x4, x5, x6⟩ := kd3 p.2.1 (by omega)
        have kl2 : (tr_kd (tr_4 p A B V W')).length = 4 := rfl
        have b3 : am_inb (nI l.length) 96 = true := ni_inb (by omega) (by omega)
        have b4 : am_inb (nI (l.length + 1)) 96 = true := ni_inb (by omega) (by omega)
        have b5 : am_inb (nI (l.length + 2)) 96 = true := ni_inb (by omega) (by omega)
        have b6 : am_inb (nI (l.length + 3)) 96 = true := ni_inb (by omega) (by omega)
        have en2 : (nI (l.length + 2)).toNatClampNeg = l.length + 2 := ni_nat (by omega)
        have en3 : (nI (l.length + 3)).toNatClampNeg = l.length + 3 := ni_nat (by omega)
        have n3 : nI (l.length + 2) + 1 = nI (l.length + 3) := by rw [show (1 : Int32) = nI 1 from rfl, ni_add (by omega)]
        have n4 : nI (l.length + 2) + 2 = nI (l.length + 4) := by rw [show (2 : Int32) = nI 2 from rfl, ni_add (by omega)]
        refine fin (am_uI (am_uI (am_uI (am_uI I 74 l.length (nI (tr_rt A))) 74 (l.length + 1) (nI (tr_rt B))) 74 (l.length + 2) (nI (tr_rt V))) 74 (l.length + 3) (nI (tr_rt W'))) (fun t C h => ?_) (fun a b h => by rw [am_uI_at, if_neg (by omega), am_uI_at, if_neg (by omega), am_uI_at, if_neg (by omega), am_uI_at, if_neg (by omega)]) (fun _ Q W => w178_11 I L D X (nI l.length) (nI i) ⟨fun z => absurd z nle, fun _ => ?_⟩)
        · match t, h with
          | 0, h => cases h; rw [am_uI_at, if_neg (by omega), am_uI_at, if_neg (by omega), am_uI_at, if_neg (by omega), am_uI_at, if_pos ⟨rfl, rfl⟩]
          | 1, h => cases h; rw [am_uI_at, if_neg (by omega), am_uI_at, if_neg (by omega), am_uI_at, if_pos ⟨rfl, rfl⟩]
          | 2, h => cases h; rw [am_uI_at, if_neg (by omega), am_uI_at, if_pos ⟨rfl, rfl⟩]
          | 3, h => cases h; rw [am_uI_at, if_pos ⟨rfl, rfl⟩]
          | t + 4, h => cases h
        · rw [ei, e74, er, h45, h47, h48, i1, n1, n2, en, en1]
          have g136 : am_wp ext d mz_178 (136, [some (.ref 42), none, some (.int (nI (l.length + 2))), some (.int (nI i)), some (.int (nI (tr_rt (tr_4 p A B V W'))))], [], (am_uI (am_uI I 74 l.length (nI (tr_rt A))) 74 (l.length + 1) (nI (tr_rt B)), L, D, am_rf X)) Q := by
            refine w178_136 _ L D X (nI (l.length + 2)) (nI i) _ ?_
            rw [er, n3, n4, en2, en3, am_uI_at, if_neg (by omega), am_uI_at, if_neg (by omega), am_uI_at, if_neg (by omega), am_uI_at, if_neg (by omega), h49, h50, i1]
            exact ⟨b2, b5, b2, b6, W⟩
          refine ⟨b1, b2, fun z => ?_, fun z => ⟨b2, fun z2 => ⟨b2, b3, b2, fun z3 => ?_, fun z3 => ⟨b2, fun z4 => ⟨b2, b4, b2, fun z5 => g136, fun z5 => ⟨b2, fun z6 => g136, fun z6 => ?_⟩⟩, fun z4 => ?_⟩⟩, fun z2 => ?_⟩⟩
          · rw [x1] at z; omega
          · rw [x2] at z3; omega
          · rw [x5] at z5; rw [x6] at z6; omega
          · rw [x4] at z4; omega
          · rw [x3] at z2; omega
theorem c178 {e : pt_E} {T : tr_T} {s : Nat} (hT : tr_ok e T s) (hs : s + tr_sz T ≤ 96) {I : Nat → Nat → Int32} (hrp : rf_rp 0 false I T) : ∃ I' l', am_Rn ext (d + 1) 178 [.ref 42, .int (nI (tr_rt T))] (I, L, D, am_rf X) (some (.int (nI l'.length)), (I', L, D, am_rf X)) ∧ tl_F T [T] 0 I I' l' := by
  have hat' : tl_at (am_uI I 74 0 (nI (tr_rt T))) [T] := by
    intro k S h
    match k, h with
    | 0, h => cases h; rw [am_uI_at, if_pos ⟨rfl, rfl⟩]
    | k + 1, h => cases h
  have hin' : ∀ S, S ∈ [T] → tr_in S T := by
    intro S h
    have : S = T := by simpa using h
    subst this
    exact tr_in_self S s hT
  obtain ⟨I', l', W, F⟩ := c178_l (ext := ext) (d := d) L D X hT hs (tr_sz T) [T] 0 (am_uI I 74 0 (nI (tr_rt T))) (rf_rp_of T s hT hrp (fun a j _ _ _ _ => by rw [am_uI_at, if_neg (by omega)])) (by simp [tl_sum]) (by simp [tl_sum]; omega) (Nat.zero_le _) hat' hin'
  exact ⟨I', l', am_rn_of mh_178 rfl (w178_0 I L D X _ W), fun a b h => by rw [F.1 a b h, am_uI_at, if_neg (by omega)], F.2⟩
end TRAIL
