/-! ===== the reference's tokens ===== -/
def pu_flat (ws : List (List Int32)) : List Int32 := ws.flatMap (fun w => w ++ [32])
section MTOK
variable {ext : Nat → List Value → am_M → Option am_R} {d : Nat} (L : Nat → Nat → Int64) (D : Nat → Nat → UInt64) (X : am_Rf) {I : Nat → Nat → Int32} {f : Nat → Int32} {n : Nat}
theorem c118 (v : Int32) : am_Rn ext (d + 1) 118 [.ref 42, .int v] (I, L, D, am_rf X) (some (.int 0), (am_uI (am_uI I 42 4 v) 42 5 (I 42 10), L, D, am_rf X)) := am_rn_of mh_118 rfl (w118_0 I L D X v rfl)
/-- the tape, and how far it is read -/
def mt_F (f : Nat → Int32) (n : Nat) (I : Nat → Nat → Int32) : Prop := I 42 6 = nI n ∧ n ≤ 500 ∧ ∀ i, i < n → I 43 i = f i
theorem c120 (h : mt_F f n I) {p : Nat} (hp : p ≤ n) : am_Rn ext (d + 1) 120 [.ref 42, .int (nI p)] (I, L, D, am_rf X) (some (.int (if p < n ∧ pu_sml (f p) = true then 1 else 0)), (I, L, D, am_rf X)) := by
  obtain ⟨h1, h2, h3⟩ := h
  by_cases hn : p < n
  · have e1 : ¬ I 42 6 ≤ nI p := by rw [h1, ni_le (by omega) (by omega)]; omega
    have e2 : I 43 (nI p).toNatClampNeg = f p := by rw [ni_nat (by omega), h3 p hn]
    have hb : am_inb (nI p) 500 = true := ni_inb (by omega) (by omega)
    refine am_rn_of mh_120 rfl (w120_0 I L D X (nI p) ⟨fun z => absurd z e1, fun _ => ⟨hb, fun z => ?_, fun z => ⟨hb, fun y => ?_, fun y => ?_⟩⟩⟩)
    · rw [e2] at z
      rw [if_neg (fun q => (of_decide_eq_true q.2).1 z)]
    · rw [e2] at y
      rw [if_neg (fun q => (of_decide_eq_true q.2).2 y)]
    · rw [e2] at z y
      rw [if_pos ⟨hn, decide_eq_true ⟨z, y⟩⟩]
  · refine am_rn_of mh_120 rfl (w120_0 I L D X (nI p) ⟨fun _ => ?_, fun z => absurd ?_ z⟩)
    · rw [if_neg (fun q => hn q.1)]
    · rw [h1, ni_le (by omega) (by omega)]; omega
theorem c121 (h : mt_F f n I) {p : Nat} (hp : p ≤ n) : am_Rn ext (d + 1) 121 [.ref 42, .int (nI p)] (I, L, D, am_rf X) (some (.int (if p < n ∧ pu_dig (f p) = true then 1 else 0)), (I, L, D, am_rf X)) := by
  obtain ⟨h1, h2, h3⟩ := h
  by_cases hn : p < n
  · have e1 : ¬ I 42 6 ≤ nI p := by rw [h1, ni_le (by omega) (by omega)]; omega
    have e2 : I 43 (nI p).toNatClampNeg = f p := by rw [ni_nat (by omega), h3 p hn]
    have hb : am_inb (nI p) 500 = true := ni_inb (by omega) (by omega)
    refine am_rn_of mh_121 rfl (w121_0 I L D X (nI p) ⟨fun z => absurd z e1, fun _ => ⟨hb, fun z => ?_, fun z => ⟨hb, fun y => ?_, fun y => ?_⟩⟩⟩)
    · rw [e2] at z
      rw [if_neg (fun q => (of_decide_eq_true q.2).1 z)]
    · rw [e2] at y
      rw [if_neg (fun q => (of_decide_eq_true q.2).2 y)]
    · rw [e2] at z y
      rw [if_pos ⟨hn, decide_eq_true ⟨z, y⟩⟩]
  · refine am_rn_of mh_121 rfl (w121_0 I L D X (nI p) ⟨fun _ => ?_, fun z => absurd ?_ z⟩)
    · rw [if_neg (fun q => hn q.1)]
    · rw [h1, ni_le (by omega) (by omega)]; omega
theorem c122 (x : Int32) : am_Rn ext (d + 1) 122 [.int x] (I, L, D, am_rf X) (some (.int (if pu_sgn x = true then 1 else 0)), (I, L, D, am_rf X)) := by
  have hs : pu_sgn x = true ↔ (x = 40 ∨ x = 41 ∨ x = 42 ∨ x = 43 ∨ x = 44 ∨ x = 45 ∨ x = 47 ∨ x = 59 ∨ x = 60 ∨ x = 61 ∨ x = 62) := ⟨fun h => of_decide_eq_true h, fun h => decide_eq_true h⟩
  refine am_rn_of mh_122 rfl (w122_0 I L D X x ⟨fun z => ?_, fun z1 => ⟨fun z => ?_, fun z2 => ⟨fun z => ?_, fun z3 => ⟨fun z => ?_, fun z4 => ⟨fun z => ?_, fun z5 => ⟨fun z => ?_, fun z6 => ⟨fun z => ?_, fun z7 => ⟨fun z => ?_, fun z8 => ⟨fun z => ?_, fun z9 => ⟨fun z => ?_, fun z10 => ⟨fun z => ?_, fun z => ?_⟩⟩⟩⟩⟩⟩⟩⟩⟩⟩⟩)
  case refine_11 =>
    rw [if_neg]
    rw [hs]
    intro h
    rcases h with h | h | h | h | h | h | h | h | h | h | h <;> contradiction
  all_goals
    rw [if_pos]
    rw [hs, z]
    decide
/-- wordAt -/
theorem c119 (h : mt_F f n I) {a b : Nat} (hab : a ≤ b) (hb : b ≤ n) (hw : ∀ i, i < 51 → I 44 i = (pu_flat pu_words).getD i 0) : am_Rn ext (d + 1) 119 [.ref 42, .int (nI a), .int (nI b)] (I, L, D, am_rf X) (some (.int (if pu_wk f a b pu_words 4 = 1 then -1 else nI (pu_wk f a b pu_words 4 - 4))), (I, L, D, am_rf X)) := by
  obtain ⟨h1, h2, h3⟩ := h
  have key : ∀ (ws : List (List Int32)) (k o : Nat), k + ws.length = 11 → o + (pu_flat ws).length = 51 → (∀ i, i < (pu_flat ws).length → I 44 (o + i) = (pu_flat ws).getD i 0) → (∀ w ∈ ws, ∀ x ∈ w, ¬ x = 32) →
      am_wp ext d mz_119 (5, [some (.ref 42), some (.int (nI a)), some (.int (nI b)), some (.int (nI k)), some (.int (nI o)), none, none, none], [], (I, L, D, am_rf X)) (fun r => r = (some (.int (if pu_wk f a b ws (k + 4) = 1 then -1 else nI (pu_wk f a b ws (k + 4) - 4))), (I, L, D, am_rf X))) := by
    intro ws
    induction ws with
    | nil =>
      intro k o hk ho _ _
      have ho' : o = 51 := by simpa [pu_flat] using ho
      subst ho'
      refine w119_5 I L D X _ _ _ _ ⟨fun _ => ?_, fun z => absurd (by decide) z⟩
      simp [pu_wk]
    | cons w ws ih =>
      intro k o hk ho hI hne
      have ef : pu_flat (w :: ws) = w ++ (32 :: pu_flat ws) := by simp [pu_flat]
      have el : (pu_flat (w :: ws)).length = w.length + 1 + (pu_flat ws).length := by rw [ef]; simp; omega
      rw [el] at ho hI
      simp only [List.length_cons] at hk
      have hchar : ∀ i, i < w.length → I 44 (o + i) = w.getD i 0 := by
        intro i hi
        rw [hI i (by omega), ef, List.getD_eq_getElem?_getD, List.getElem?_append_left hi, ← List.getD_eq_getElem?_getD]
      have hend : I 44 (o + w.length) = 32 := by
        rw [hI w.length (by omega), ef, List.getD_eq_getElem?_getD, List.getElem?_append_right (Nat.le_refl _)]
        simp
      have hrest : ∀ i, i < (pu_flat ws).length → I 44 (o + (w.length + 1) + i) = (pu_flat ws).getD i 0 := by
        intro i hi
        have := hI (w.length + 1 + i) (by omega)
        rw [show o + (w.length + 1) + i = o + (w.length + 1 + i) by omega, this, ef, List.getD_eq_getElem?_getD, List.getElem?_append_right (by omega)]
        rw [show w.length + 1 + i - w.length = i + 1 by omega, List.getElem?_cons_succ, ← List.getD_eq_getElem?_getD]
      have hne32 : ∀ i, i < w.length → ¬ w.getD i 0 = 32 := by
        intro i hi
        rw [List.getD_eq_getElem?_getD, List.getElem?_eq_getElem hi]
        exact hne w List.mem_cons_self _ (List.getElem_mem hi)
      have nx : am_wp ext d mz_119 (5, [some (.ref 42), some (.int (nI a)), some (.int (nI b)), some (.int (nI k + 1)), some (.int (nI o + (nI w.length + 1))), none, none, none], [], (I, L, D, am_rf X)) (fun r => r = (some (.int (if pu_wk f a b ws (k + 1 + 4) = 1 then -1 else nI (pu_wk f a b ws (k + 1 + 4) - 4))), (I, L, D, am_rf X))) := by
        rw [show (1 : Int32) = nI 1 from rfl, ni_add (by omega), ni_add (by omega), ni_add (by omega)]
        exact ih (k + 1) (o + (w.length + 1)) (by omega) (by omega) hrest (fun w' hw' => hne w' (List.mem_cons_of_mem _ hw'))
      -- comparing
      have cmp : ∀ (m j : Nat) (s : Int32), j + m = w.length → (s = 1 ∨ s = 0) → (s = 1 → b = a + w.length ∧ ∀ i, i < j → f (a + i) = w.getD i 0) → (s = 0 → pu_isw f a b w = false) →
          am_wp ext d mz_119 (57, [some (.ref 42), some (.int (nI a)), some (.int (nI b)), some (.int (nI k)), some (.int (nI o)), some (.int (nI w.length)), some (.int s), some (.int (nI j))], [], (I, L, D, am_rf X)) (fun r => r = (some (.int (if pu_wk f a b (w :: ws) (k + 4) = 1 then -1 else nI (pu_wk f a b (w :: ws) (k + 4) - 4))), (I, L, D, am_rf X))) := by
        have no : pu_isw f a b w = false → am_wp ext d mz_119 (5, [some (.ref 42), some (.int (nI a)), some (.int (nI b)), some (.int (nI k + 1)), some (.int (nI o + (nI w.length + 1))), none, none, none], [], (I, L, D, am_rf X)) (fun r => r = (some (.int (if pu_wk f a b (w :: ws) (k + 4) = 1 then -1 else nI (pu_wk f a b (w :: ws) (k + 4) - 4))), (I, L, D, am_rf X))) := by
          intro hf
          simp only [pu_wk, hf, Bool.false_eq_true, if_false]
          rw [show k + 4 + 1 = k + 1 + 4 by omega]
          exact nx
        intro m
        induction m with
        | zero =>
          intro j s hj hs h5 h6
          refine w119_57 I L D X _ _ _ _ _ _ _ ⟨fun _ => ⟨fun z => no (h6 z), fun z => ?_⟩, fun z => absurd ((ni_le (by omega) (by omega)).mpr (by omega)) z⟩
          have hs1 : s = 1 := hs.resolve_right z
          obtain ⟨e1, e2⟩ := h5 hs1
          have hisw : pu_isw f a b w = true := by
            unfold pu_isw
            rw [Bool.and_eq_true]
            refine ⟨decide_eq_true e1, ?_⟩
            rw [List.all_eq_true]
            intro i hi
            exact decide_eq_true (e2 i (by have := List.mem_range.mp hi; omega))
          simp only [pu_wk, hisw, if_true]
          rw [if_neg (by omega)]
          congr 3
        | succ m ihm =>
          intro j s hj hs h5 h6
          refine w119_57 I L D X _ _ _ _ _ _ _ ⟨fun z => absurd ((ni_le (by omega) (by omega)).mp z) (by omega), fun _ => ⟨fun z => ⟨fun _ => no (h6 z), fun y => absurd z y⟩, fun z => ?_⟩⟩
          have hs1 : s = 1 := hs.resolve_right z
          obtain ⟨e1, e2⟩ := h5 hs1
          have e3 : (nI o + nI j).toNatClampNeg = o + j := by rw [ni_add (by omega), ni_nat (by omega)]
          have e4 : (nI a + nI j).toNatClampNeg = a + j := by rw [ni_add (by omega), ni_nat (by omega)]
          refine ⟨by rw [ni_add (by omega)]; exact ni_inb (by omega) (by omega), by rw [ni_add (by omega)]; exact ni_inb (by omega) (by omega), fun y => ?_, fun y => ?_⟩
          · rw [e3, e4, hchar j (by omega), h3 (a + j) (by omega)] at y
            rw [show (1 : Int32) = nI 1 from rfl, ni_add (by omega)]
            refine ihm (j + 1) 0 (by omega) (Or.inr rfl) (fun q => absurd q (by decide)) (fun _ => ?_)
            unfold pu_isw
            rw [Bool.and_eq_false_iff]
            refine Or.inr ?_
            cases hall : (List.range w.length).all (fun i => decide (f (a + i) = w.getD i 0)) with
            | false => rfl
            | true =>
              have := of_decide_eq_true (List.all_eq_true.mp hall j (List.mem_range.mpr (by omega)))
              exact absurd this.symm y
          · rw [e3, e4, hchar j (by omega), h3 (a + j) (by omega)] at y
            rw [show (nI j + 1) = nI (j + 1) by rw [show (1 : Int32) = nI 1 from rfl, ni_add (by omega)]]
            refine ihm (j + 1) 1 (by omega) (Or.inl rfl) (fun _ => ⟨e1, fun i hi => ?_⟩) (fun q => absurd q (by decide))
            by_cases hij : i = j
            · rw [hij]; exact y.symm
            · exact e2 i (by omega)
      -- its length
      have len : ∀ (m j : Nat), j + m = w.length → am_wp ext d mz_119 (18, [some (.ref 42), some (.int (nI a)), some (.int (nI b)), some (.int (nI k)), some (.int (nI o)), some (.int (nI j)), none, none], [], (I, L, D, am_rf X)) (fun r => r = (some (.int (if pu_wk f a b (w :: ws) (k + 4) = 1 then -1 else nI (pu_wk f a b (w :: ws) (k + 4) - 4))), (I, L, D, am_rf X))) := by
        intro m
        induction m with
        | zero =>
          intro j hj
          obtain rfl : j = w.length := by omega
          have e3 : (nI o + nI w.length).toNatClampNeg = o + w.length := by rw [ni_add (by omega), ni_nat (by omega)]
          have e5 : nI b - nI a = nI (b - a) := ni_sub hab (by omega)
          refine w119_18 I L D X _ _ _ _ _ ⟨by rw [ni_add (by omega)]; exact ni_inb (by omega) (by omega), fun _ => ⟨fun z => ?_, fun z => ?_⟩, fun z => absurd (by rw [e3]; exact hend) z⟩
          · rw [e5, ni_eq (by omega) (by omega)] at z
            refine cmp w.length 0 0 (by omega) (Or.inr rfl) (fun q => absurd q (by decide)) (fun _ => ?_)
            unfold pu_isw
            rw [Bool.and_eq_false_iff]
            exact Or.inl (decide_eq_false (by omega))
          · rw [e5, ni_eq (by omega) (by omega)] at z
            exact cmp w.length 0 1 (by omega) (Or.inl rfl) (fun _ => ⟨by omega, fun i hi => absurd hi (by omega)⟩) (fun q => absurd q (by decide))
        | succ m ihm =>
          intro j hj
          have e3 : (nI o + nI j).toNatClampNeg = o + j := by rw [ni_add (by omega), ni_nat (by omega)]
          refine w119_18 I L D X _ _ _ _ _ ⟨by rw [ni_add (by omega)]; exact ni_inb (by omega) (by omega), fun z => absurd z ?_, fun _ => ?_⟩
          · rw [e3, hchar j (by omega)]
            exact hne32 j (by omega)
          · rw [show (1 : Int32) = nI 1 from rfl, ni_add (by omega)]
            exact ihm (j + 1) (by omega)
      refine w119_5 I L D X _ _ _ _ ⟨fun z => absurd z ?_, fun _ => len w.length 0 (by omega)⟩
      rw [show (51 : Int32) = nI 51 from rfl, ni_le (by omega) (by omega)]
      omega
  refine am_rn_of mh_119 rfl (w119_0 I L D X _ _ (key pu_words 0 0 rfl (by decide) (fun i hi => ?_) (by decide)))
  rw [Nat.zero_add]
  exact hw i (by have e : (pu_flat pu_words).length = 51 := by decide
                 omega)
end MTOK
