/-! ===== tokens are as they must be; lines ===== -/
def pt_of (l : List (Int32 × Int32 × Int32)) : pt_K := (fun i => l.getD i (0, 0, 0), l.length)
def pt_tok (x : Int32 × Int32 × Int32) : Prop := ¬ x.1 = 0 ∧ (x.1 = 3 → 0 ≤ x.2.2.toInt ∧ x.2.2.toInt < 26) ∧ (x.1 = 2 → 0 ≤ x.2.2.toInt ∧ x.2.2.toInt ≤ 1000)
theorem pt_tok_n {k p v : Int32} (h0 : ¬ k = 0) (h3 : ¬ k = 3) (h2 : ¬ k = 2) : pt_tok (k, p, v) := ⟨h0, fun z => absurd z h3, fun z => absurd z h2⟩
theorem pt_tok_2 {p v : Int32} (h : 0 ≤ v.toInt ∧ v.toInt ≤ 1000) : pt_tok (2, p, v) := ⟨fun z => absurd z (show ¬ (2 : Int32) = 0 by decide), fun z => absurd z (show ¬ (2 : Int32) = 3 by decide), fun _ => h⟩
theorem pt_tok_3 {p v : Int32} (h : 0 ≤ v.toInt ∧ v.toInt < 26) : pt_tok (3, p, v) := ⟨fun z => absurd z (show ¬ (3 : Int32) = 0 by decide), fun _ => h, fun z => absurd z (show ¬ (3 : Int32) = 2 by decide)⟩
theorem pu_wk_rg (f : Nat → Int32) (s e : Nat) : ∀ (ws : List (List Int32)) (k : Nat), 4 ≤ k → k + ws.length ≤ 15 → pu_wk f s e ws k = 1 ∨ (4 ≤ pu_wk f s e ws k ∧ pu_wk f s e ws k < k + ws.length)
  | [], k, h1, h2 => Or.inl rfl
  | w :: ws, k, h1, h2 => by
    simp only [pu_wk]
    split
    · exact Or.inr ⟨h1, by simp⟩
    · simp only [List.length_cons] at h2 ⊢
      rcases pu_wk_rg f s e ws (k + 1) (by omega) (by omega) with h | ⟨h3, h4⟩
      · exact Or.inl h
      · exact Or.inr ⟨h3, by omega⟩
theorem pu_toks_ok (f : Nat → Int32) (n : Nat) : ∀ k p, ∃ l, pu_toks f n k p = l ++ [(0, nI n, 0)] ∧ ∀ x ∈ l, pt_tok x := by
  intro k
  induction k with
  | zero => intro p; exact ⟨[], rfl, fun x hx => by cases hx⟩
  | succ k ih =>
    intro p
    simp only [pu_toks]
    split
    · split
      · exact ih (p + 1)
      · split
        · obtain ⟨l, h1, h2⟩ := ih (pu_num f n (n - p) p 0).1
          refine ⟨(2, nI p, nI (pu_num f n (n - p) p 0).2) :: l, by rw [h1]; rfl, fun x hx => ?_⟩
          rcases List.mem_cons.mp hx with rfl | hx
          · have h3 := (pu_num_ge f n (n - p) p 0).2.2 (by omega)
            refine pt_tok_2 ?_
            rw [nI_toInt (by omega)]
            omega
          · exact h2 x hx
        · split
          · next hs =>
            obtain ⟨l, h1, h2⟩ := ih (pu_wend f n (n - p) p)
            refine ⟨_ :: l, by rw [h1]; rfl, fun x hx => ?_⟩
            rcases List.mem_cons.mp hx with rfl | hx
            · unfold pu_wtk
              split
              · have hs' : ¬ f p < 97 ∧ ¬ 122 < f p := of_decide_eq_true hs
                rw [Int32.lt_iff_toInt_lt, Int32.lt_iff_toInt_lt] at hs'
                have e1 : (97 : Int32).toInt = 97 := rfl
                have e2 : (122 : Int32).toInt = 122 := rfl
                rw [e1, e2] at hs'
                refine pt_tok_3 ?_
                show 0 ≤ (f p - 97).toInt ∧ (f p - 97).toInt < 26
                rw [Int32.toInt_sub, e1, Int.bmod_eq_of_le (by omega) (by omega)]
                omega
              · have hk := pu_wk_rg f p (pu_wend f n (n - p) p) pu_words 4 (by omega) (by decide)
                have hl : pu_words.length = 11 := rfl
                rw [hl] at hk
                generalize pu_wk f p (pu_wend f n (n - p) p) pu_words 4 = w at hk
                refine ⟨fun z => ?_, fun z => ?_, fun z => ?_⟩
                · have z1 : nI w = nI 0 := z
                  rw [ni_eq (by omega) (by omega)] at z1
                  omega
                · have z1 : nI w = nI 3 := z
                  rw [ni_eq (by omega) (by omega)] at z1
                  omega
                · have z1 : nI w = nI 2 := z
                  rw [ni_eq (by omega) (by omega)] at z1
                  omega
            · exact h2 x hx
          · obtain ⟨l, h1, h2⟩ := ih (p + 1)
            refine ⟨_ :: l, by rw [h1]; rfl, fun x hx => ?_⟩
            rcases List.mem_cons.mp hx with rfl | hx
            · split
              · next hg =>
                have hg' := of_decide_eq_true hg
                rcases hg' with z | z | z | z | z | z | z | z | z | z | z <;> rw [z] <;> exact pt_tok_n (by decide) (by decide) (by decide)
              · exact pt_tok_n (by decide) (by decide) (by decide)
            · exact h2 x hx
    · exact ⟨[], rfl, fun x hx => by cases hx⟩
theorem pt_of_ok {l : List (Int32 × Int32 × Int32)} {n : Int32} (h : ∀ x ∈ l, pt_tok x) (hl : l.length ≤ 500) : pt_tk (pt_of (l ++ [(0, n, 0)])) ∧ pt_end (pt_of (l ++ [(0, n, 0)])) := by
  have hlen : (pt_of (l ++ [(0, n, 0)])).2 = l.length + 1 := by simp [pt_of]
  have hget : ∀ c, c < l.length → ∃ x, x ∈ l ∧ (pt_of (l ++ [(0, n, 0)])).1 c = x := by
    intro c hc
    refine ⟨l[c], List.getElem_mem hc, ?_⟩
    simp [pt_of, List.getD_eq_getElem?_getD, List.getElem?_append_left hc, List.getElem?_eq_getElem hc]
  have hlast : (pt_of (l ++ [(0, n, 0)])).1 l.length = (0, n, 0) := by simp [pt_of, List.getD_eq_getElem?_getD]
  constructor
  · refine ⟨by omega, by omega, fun c hc => ?_⟩
    rw [hlen] at hc
    unfold pt_k pt_v
    by_cases h1 : c < l.length
    · obtain ⟨x, hx, e⟩ := hget c h1
      rw [e]
      exact ⟨(h x hx).2.1, (h x hx).2.2⟩
    · obtain rfl : c = l.length := by omega
      rw [hlast]
      exact ⟨fun y => absurd y (show ¬ (0 : Int32) = 3 by decide), fun y => absurd y (show ¬ (0 : Int32) = 2 by decide)⟩
  · intro c hc
    rw [hlen] at hc ⊢
    unfold pt_k
    by_cases h1 : c < l.length
    · obtain ⟨x, hx, e⟩ := hget c h1
      rw [e]
      exact ⟨fun z => absurd z (h x hx).1, fun z => by omega⟩
    · obtain rfl : c = l.length := by omega
      rw [hlast]
      exact ⟨fun _ => rfl, fun _ => rfl⟩
/-! lines: letter, is it a function, its tree -/
abbrev pt_L : Type := List (Nat × Bool × tr_T)
def pt_tl : pt_L → Nat → Nat
  | [], _ => 0
  | x :: r, l => if x.1 = l then (if x.2.1 = true then 2 else 1) else pt_tl r l
def pt_ix : pt_L → Nat → Nat
  | [], _ => 0
  | x :: r, l => if x.1 = l then 0 else pt_ix r l + 1
def pt_nf (ls : pt_L) : Nat := (ls.filter (fun x => x.2.1)).length
def pt_nn (ls : pt_L) : Nat := (ls.filter (fun x => !x.2.1)).length
def pt_cs : pt_L → Nat
  | [] => 0
  | x :: r => tr_cz x.2.2 + pt_cs r
def pt_ks : pt_L → Nat
  | [] => 0
  | x :: r => tr_sz x.2.2 + pt_ks r
def pt_ev (ls : pt_L) (fn : Bool) : pt_E := (fn, pt_tl ls, pt_ix ls)
theorem pt_nn_nf : ∀ ls : pt_L, pt_nn ls + pt_nf ls = ls.length
  | [] => rfl
  | x :: r => by
    have := pt_nn_nf r
    unfold pt_nn pt_nf at this ⊢
    cases h : x.2.1 <;> simp [h] <;> omega
theorem pt_en_ev (ls : pt_L) (fn : Bool) : pt_en (pt_ev ls fn) := by
  intro l _
  show pt_tl ls l ≤ 2
  induction ls with
  | nil => simp [pt_tl]
  | cons x r ih =>
    simp only [pt_tl]
    split
    · split <;> omega
    · exact ih
theorem pt_cs_app (ls : pt_L) (x : Nat × Bool × tr_T) : pt_cs (ls ++ [x]) = pt_cs ls + tr_cz x.2.2 := by
  induction ls with
  | nil => simp [pt_cs]
  | cons y r ih => simp only [List.cons_append, pt_cs, ih]; omega
theorem pt_ks_app (ls : pt_L) (x : Nat × Bool × tr_T) : pt_ks (ls ++ [x]) = pt_ks ls + tr_sz x.2.2 := by
  induction ls with
  | nil => simp [pt_ks]
  | cons y r ih => simp only [List.cons_append, pt_ks, ih]; omega
theorem pt_tl_app (ls : pt_L) (x : Nat × Bool × tr_T) (l : Nat) : pt_tl (ls ++ [x]) l = if pt_tl ls l = 0 then (if x.1 = l then (if x.2.1 = true then 2 else 1) else 0) else pt_tl ls l := by
  induction ls with
  | nil => simp [pt_tl]
  | cons y r ih =>
    simp only [List.cons_append, pt_tl]
    by_cases h : y.1 = l
    · simp only [if_pos h]
      cases y.2.1 <;> simp
    · simp only [if_neg h]
      exact ih
theorem pt_ix_app (ls : pt_L) (x : Nat × Bool × tr_T) (l : Nat) (h : ¬ pt_tl ls l = 0) : pt_ix (ls ++ [x]) l = pt_ix ls l := by
  induction ls with
  | nil => simp [pt_tl] at h
  | cons y r ih =>
    simp only [List.cons_append, pt_tl, pt_ix] at h ⊢
    by_cases h1 : y.1 = l
    · simp only [if_pos h1]
    · simp only [if_neg h1] at h ⊢
      rw [ih h]
theorem pt_ix_new (ls : pt_L) (x : Nat × Bool × tr_T) (h : pt_tl ls x.1 = 0) : pt_ix (ls ++ [x]) x.1 = ls.length := by
  induction ls with
  | nil => simp [pt_ix]
  | cons y r ih =>
    simp only [List.cons_append, pt_tl, pt_ix] at h ⊢
    by_cases h1 : y.1 = x.1
    · rw [if_pos h1] at h
      cases hy : y.2.1 <;> simp [hy] at h
    · simp only [if_neg h1] at h ⊢
      rw [ih h]
      rfl
theorem pt_ix_at : ∀ (ls : pt_L) (l : Nat), ¬ pt_tl ls l = 0 → ∃ b T, ls[pt_ix ls l]? = some (l, b, T) ∧ pt_tl ls l = (if b = true then 2 else 1) ∧ pt_ix ls l < ls.length
  | [], l, h => absurd rfl h
  | x :: r, l, h => by
    simp only [pt_tl, pt_ix] at h ⊢
    by_cases h1 : x.1 = l
    · simp only [if_pos h1]
      refine ⟨x.2.1, x.2.2, ?_, rfl, by simp⟩
      rw [List.getElem?_cons_zero, ← h1]
    · simp only [if_neg h1] at h ⊢
      obtain ⟨b, T, g1, g2, g3⟩ := pt_ix_at r l h
      exact ⟨b, T, by rw [List.getElem?_cons_succ]; exact g1, g2, by simp only [List.length_cons]; omega⟩
/-- lines that are well told -/
def pt_wf (ls : pt_L) : Prop := ∀ i x, ls[i]? = some x → x.1 < 26 ∧ ¬ x.1 = 19 ∧ pt_tl (ls.take i) x.1 = 0 ∧ tr_ok (pt_ev (ls.take i) x.2.1) x.2.2 (pt_ks (ls.take i))
theorem pt_wf_app {ls : pt_L} {x : Nat × Bool × tr_T} (h : pt_wf ls) (h1 : x.1 < 26) (h2 : ¬ x.1 = 19) (h3 : pt_tl ls x.1 = 0) (h4 : tr_ok (pt_ev ls x.2.1) x.2.2 (pt_ks ls)) : pt_wf (ls ++ [x]) := by
  intro i y hy
  by_cases hi : i < ls.length
  · rw [List.getElem?_append_left hi] at hy
    rw [List.take_append_of_le_length (by omega)]
    exact h i y hy
  · have hi2 : i = ls.length := by
      have := (List.getElem?_eq_some_iff.mp hy).1
      simp at this
      omega
    subst hi2
    rw [List.getElem?_append_right (Nat.le_refl _)] at hy
    simp at hy
    subst hy
    rw [List.take_append_of_le_length (Nat.le_refl _), List.take_length]
    exact ⟨h1, h2, h3, h4⟩
abbrev pt_RL : Type := Option ((Nat × Int32) ⊕ (Nat × Nat × pt_L))
def pt_lf (t : pt_K) (k c : Nat) : pt_RL := some (.inl (k, pt_p t c))
def pt_ln (t : pt_K) (ls : pt_L) (c kn : Nat) : pt_RL :=
  if pt_k t c = 4 ∨ pt_k t c = 5 then
    (if (pt_k t c = 5 ∧ 6 ≤ pt_nf ls) ∨ (¬ pt_k t c = 5 ∧ 12 ≤ pt_nn ls) then pt_lf t 2 c
    else if pt_k t (pt_adv t c) = 3 ∧ ¬ pt_v t (pt_adv t c) = 19 then
      (if pt_tl ls (pt_v t (pt_adv t c)).toNatClampNeg = 0 then
        (if pt_k t (pt_adv t (pt_adv t c)) = 61 then
          (match pt_ex t (pt_ev ls (decide (pt_k t c = 5))) (pt_adv t (pt_adv t (pt_adv t c))) kn with
          | none => none
          | some (.inl f) => some (.inl f)
          | some (.inr q) => if pt_k t q.1 = 59 then some (.inr (pt_adv t q.1, q.2.1, ls ++ [((pt_v t (pt_adv t c)).toNatClampNeg, decide (pt_k t c = 5), q.2.2)])) else pt_lf t 1 q.1)
        else pt_lf t 1 (pt_adv t (pt_adv t c)))
      else pt_lf t 3 (pt_adv t c))
    else pt_lf t 1 (pt_adv t c))
  else pt_lf t 1 c
/-- the text: lines, up to the end or a fault -/
def pt_tx (t : pt_K) : Nat → pt_L → Nat → Nat → Option ((Nat × Int32) ⊕ pt_L)
  | 0, _, _, _ => none
  | n + 1, ls, c, kn => if pt_k t c = 0 then some (.inr ls) else match pt_ln t ls c kn with
    | none => none
    | some (.inl f) => some (.inl f)
    | some (.inr q) => pt_tx t n q.2.2 q.1 q.2.1
