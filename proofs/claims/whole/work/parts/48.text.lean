/-! ===== the class's reader: lines, the text ===== -/
/-- the program at b (11 while it is read, 2 when it is told) holds these lines -/
def rd_L (b : Nat) (ls : pt_L) (I : Nat → Nat → Int32) : Prop := I b 9 = nI ls.length ∧ I b 10 = nI (pt_nn ls) ∧ I b 11 = nI (pt_nf ls) ∧ I b 8 = nI (pt_cs ls) ∧ I b 12 = nI (pt_ks ls) ∧ (∀ l, l < 26 → I (b + 1) l = if pt_tl ls l = 0 then -1 else nI (pt_ix ls l)) ∧
  ∀ i x, ls[i]? = some x → I (b + 2) i = (if x.2.1 = true then 1 else 0) ∧ I (b + 3) i = nI (pt_cs (ls.take i)) ∧ I (b + 4) i = nI (pt_cs (ls.take i) + tr_cz x.2.2) ∧ tr_cc (I (b + 5)) (I (b + 6)) (I (b + 7)) (I (b + 8)) x.2.2 (pt_cs (ls.take i))
theorem rd_L_E {ls : pt_L} {I : Nat → Nat → Int32} {fn : Bool} (h : rd_L 11 ls I) (hn : ls.length ≤ 18) (hf : I 20 6 = if fn = true then 1 else 0) : rd_E (pt_ev ls fn) ls.length I := by
  obtain ⟨h1, h2, h3, h4, h5, h6, h7⟩ := h
  refine ⟨hf, h1, hn, fun l hl => ⟨fun z => ?_, fun z => ?_⟩⟩
  · have := h6 l hl
    rw [if_pos (show pt_tl ls l = 0 from z)] at this
    exact this
  · obtain ⟨b, T, g1, g2, g3⟩ := pt_ix_at ls l z
    have e1 := h6 l hl
    rw [if_neg (show ¬ pt_tl ls l = 0 from z)] at e1
    refine ⟨g3, e1, ?_⟩
    have e2 := (h7 _ _ g1).1
    show I 13 (pt_ix ls l) = if pt_tl ls l = 2 then 1 else 0
    rw [g2]
    refine e2.trans ?_
    cases b <;> rfl
theorem pt_cs_2 : ∀ (a b : pt_L), pt_cs (a ++ b) = pt_cs a + pt_cs b
  | [], b => by simp [pt_cs]
  | y :: r, b => by
    have := pt_cs_2 r b
    simp only [List.cons_append, pt_cs, this]
    omega
theorem pt_ks_2 : ∀ (a b : pt_L), pt_ks (a ++ b) = pt_ks a + pt_ks b
  | [], b => by simp [pt_ks]
  | y :: r, b => by
    have := pt_ks_2 r b
    simp only [List.cons_append, pt_ks, this]
    omega
theorem pt_cs_le {ls : pt_L} {i : Nat} {x : Nat × Bool × tr_T} (hx : ls[i]? = some x) : pt_cs (ls.take i) + tr_cz x.2.2 ≤ pt_cs ls := by
  have e : ls.take (i + 1) = ls.take i ++ [x] := by rw [List.take_add_one, hx]; rfl
  have e3 := pt_cs_2 (ls.take (i + 1)) (ls.drop (i + 1))
  rw [List.take_append_drop] at e3
  have e4 := pt_cs_app (ls.take i) x
  rw [← e] at e4
  omega
theorem pt_ks_le {ls : pt_L} {i : Nat} {x : Nat × Bool × tr_T} (hx : ls[i]? = some x) : pt_ks (ls.take i) + tr_sz x.2.2 ≤ pt_ks ls := by
  have e : ls.take (i + 1) = ls.take i ++ [x] := by rw [List.take_add_one, hx]; rfl
  have e3 := pt_ks_2 (ls.take (i + 1)) (ls.drop (i + 1))
  rw [List.take_append_drop] at e3
  have e4 := pt_ks_app (ls.take i) x
  rw [← e] at e4
  omega
def rd_o (I I' : Nat → Nat → Int32) : Prop := ∀ a b, a < 11 ∨ 20 < a → I' a b = I a b
theorem rd_o_fr {s : Nat} {I I' : Nat → Nat → Int32} (h : rd_fr s I I') : rd_o I I' := by
  intro a b hab
  refine h a b ?_
  unfold rd_x
  have n : ∀ k : Nat, 11 ≤ k → k ≤ 20 → (a == k) = false := fun k h1 h2 => by
    cases hk : (a == k) with
    | false => rfl
    | true =>
      have := eq_of_beq hk
      omega
  rw [n 20 (by omega) (by omega), n 11 (by omega) (by omega), n 16 (by omega) (by omega), n 17 (by omega) (by omega), n 18 (by omega) (by omega), n 19 (by omega) (by omega)]
  rfl
theorem rd_o_t {I I1 I2 : Nat → Nat → Int32} (h1 : rd_o I I1) (h2 : rd_o I1 I2) : rd_o I I2 := fun a b h => (h2 a b h).trans (h1 a b h)
theorem rd_o_u {I I1 : Nat → Nat → Int32} {k j : Nat} {x : Int32} (h1 : rd_o I I1) (hk : 11 ≤ k ∧ k ≤ 20) : rd_o I (am_uI I1 k j x) := fun a b h => by
  rw [am_uI_at, if_neg (by omega)]
  exact h1 a b h
def rd_RL (t : pt_K) (I : Nat → Nat → Int32) (r : (Nat × Int32) ⊕ (Nat × Nat × pt_L)) (x : Int32) (I' : Nat → Nat → Int32) : Prop := rd_o I I' ∧ match r with
  | .inl f => x = 0 ∧ I' 20 8 = nI f.1 ∧ I' 20 9 = f.2
  | .inr q => x = 1 ∧ rd_S t q.1 q.2.1 0 (pt_cs q.2.2) I' ∧ rd_L 11 q.2.2 I' ∧ q.1 < t.2 ∧ q.2.1 = pt_ks q.2.2 ∧ q.2.1 ≤ 96 ∧ pt_wf q.2.2 ∧ pt_nn q.2.2 ≤ 12 ∧ pt_nf q.2.2 ≤ 6
section READ
variable {ext : Nat → List Value → am_M → Option am_R} {d : Nat} (L : Nat → Nat → Int64) (D : Nat → Nat → UInt64) (xt xs xp xu xc : Nat) {t : pt_K} {ls : pt_L} {c kn op s : Nat} {I : Nat → Nat → Int32}
/-- tellLine -/
theorem c35 {n l : Nat} {fn : Bool} {v3 : Int32} (h : I 11 9 = nI n) (hn : n < 18) (hl : l < 26) : am_Rn ext (d + 1) 35 [.ref 11, .int (nI l), .int (if fn = true then 1 else 0), .int v3] (I, L, D, am_rf (xt, xs, 11, xp, xu, xc)) (none, (am_uI (am_uI (am_uI (am_uI (am_uI (am_uI (am_uI I 12 l (nI n)) 13 n (if fn = true then 1 else 0)) 14 n v3) 15 n (I 11 8)) 11 9 (nI (n + 1))) 11 11 (I 11 11 + if fn = true then 1 else 0)) 11 10 (I 11 10 + if fn = true then 0 else 1), L, D, am_rf (xt, xs, 11, xp, xu, xc))) := by
  have e1 : (I 11 9).toNatClampNeg = n := by rw [h, ni_nat (by omega)]
  have e2 : I 11 9 + 1 = nI (n + 1) := by rw [h, show (1 : Int32) = nI 1 from rfl, ni_add (by omega)]
  have e3 : am_inb (I 11 9) 18 = true := by rw [h]; exact ni_inb hn (by omega)
  have e4 : (nI l).toNatClampNeg = l := ni_nat (by omega)
  refine am_rn_of mh_35 rfl (w35_0_11 I L D (xt, xs, 11, xp, xu, xc) _ _ _ ⟨fun z => absurd z ?_, fun _ => ⟨fun z => absurd z (ni_nn (by omega)), fun _ => ⟨fun _ => ⟨ni_inb hl (by omega), e3, ?_, e3, e3, ?_⟩, fun z => absurd ?_ z⟩⟩⟩)
  · rw [h, show (18 : Int32) = nI 18 from rfl, ni_le (by omega) (by omega)]
    omega
  · cases fn
    · exact Or.inl rfl
    · exact Or.inr rfl
  · rw [e1, e2, e4, h]
    cases fn
    · exact ⟨fun _ => ⟨fun _ => rfl, fun z => absurd rfl z⟩, fun z => absurd rfl z⟩
    · exact ⟨fun z => absurd z (by decide), fun _ => ⟨fun z => absurd z (by decide), fun _ => rfl⟩⟩
  · rw [show (26 : Int32) = nI 26 from rfl, ni_lt (by omega) (by omega)]
    omega
/-- one line more -/
theorem rd_L_app {l : Nat} {fn : Bool} {T : tr_T} {lb : Nat} (h : rd_L 11 ls I) (hl : l < 26) (h0 : pt_tl ls l = 0) (hT : tr_ok (pt_ev ls fn) T lb) (hcc : tr_cc (I 16) (I 17) (I 18) (I 19) T (pt_cs ls)) (I' : Nat → Nat → Int32) (hc : ∀ a b, ¬ (a = 12 ∨ a = 13 ∨ a = 14 ∨ a = 15 ∨ a = 11) → I' a b = I a b)
    (h8 : I' 11 8 = nI (pt_cs ls + tr_cz T)) (h12 : I' 11 12 = nI (pt_ks ls + tr_sz T)) (h9 : I' 11 9 = nI (ls.length + 1)) (h10 : I' 11 10 = I 11 10 + if fn = true then 0 else 1) (h11 : I' 11 11 = I 11 11 + if fn = true then 1 else 0) (hn : ls.length < 1000)
    (hl2 : ∀ j, I' 12 j = if j = l then nI ls.length else I 12 j) (h13 : ∀ j, I' 13 j = if j = ls.length then (if fn = true then 1 else 0) else I 13 j) (h14 : ∀ j, I' 14 j = if j = ls.length then nI (pt_cs ls) else I 14 j) (h15 : ∀ j, I' 15 j = if j = ls.length then nI (pt_cs ls + tr_cz T) else I 15 j) : rd_L 11 (ls ++ [(l, fn, T)]) I' := by
  obtain ⟨g1, g2, g3, g4, g5, g6, g7⟩ := h
  have hnn := pt_nn_nf ls
  refine ⟨?_, ?_, ?_, ?_, ?_, ?_, ?_⟩
  · rw [h9]; simp
  · rw [h10, g2]
    unfold pt_nn
    cases fn
    · simp only [List.filter_append, List.length_append]
      exact ni_add (a := (List.filter (fun x => !x.2.1) ls).length) (b := 1) (by unfold pt_nn at hnn; omega)
    · simp
  · rw [h11, g3]
    unfold pt_nf
    cases fn
    · simp
    · simp only [List.filter_append, List.length_append]
      exact ni_add (a := (List.filter (fun x => x.2.1) ls).length) (b := 1) (by unfold pt_nf at hnn; omega)
  · rw [h8, pt_cs_app]
  · rw [h12, pt_ks_app]
  · intro j hj
    show I' 12 j = _
    rw [hl2 j, pt_tl_app]
    by_cases hjl : j = l
    · subst hjl
      rw [if_pos rfl, if_pos h0, pt_ix_new ls (j, fn, T) h0]
      cases fn <;> simp
    · rw [if_neg hjl]
      have e1 : I 12 j = _ := g6 j hj
      rw [e1]
      by_cases hz : pt_tl ls j = 0
      · simp [hz, show ¬ l = j from fun z => hjl z.symm]
      · rw [if_neg hz, if_neg hz, if_neg hz, pt_ix_app ls _ j hz]
  · intro i x hx
    show I' 13 i = _ ∧ I' 14 i = _ ∧ I' 15 i = _ ∧ tr_cc (I' 16) (I' 17) (I' 18) (I' 19) _ _
    have ec : ∀ a, (a = 16 ∨ a = 17 ∨ a = 18 ∨ a = 19) → I' a = I a := fun a ha => funext fun b => hc a b (by omega)
    rw [h13, h14, h15, ec 16 (by omega), ec 17 (by omega), ec 18 (by omega), ec 19 (by omega)]
    by_cases hi : i < ls.length
    · rw [List.getElem?_append_left hi] at hx
      have hne : ¬ i = ls.length := by omega
      rw [List.take_append_of_le_length (by omega), if_neg hne, if_neg hne, if_neg hne]
      exact g7 i x hx
    · have hi2 : i = ls.length := by
        have := (List.getElem?_eq_some_iff.mp hx).1
        simp at this
        omega
      subst hi2
      rw [List.getElem?_append_right (Nat.le_refl _)] at hx
      simp at hx
      subst hx
      rw [List.take_append_of_le_length (Nat.le_refl _), List.take_length, if_pos rfl, if_pos rfl, if_pos rfl]
      exact ⟨rfl, rfl, rfl, hcc⟩
theorem pt_ex_good (ht : pt_tk t) (ls : pt_L) (fn : Bool) (hc : c < t.2) (hk : kn ≤ 96) : pt_g t (pt_ev ls fn) kn (pt_ex t (pt_ev ls fn) c kn) := (pt_good ht (pt_en_ev ls fn) _ c kn 0 _ hc hk).1
/-- line -/
theorem c43 (hd : 40 ≤ d) (ht : pt_tk t) (hc : c < t.2) (hk : kn ≤ 96) (hks : kn = pt_ks ls) (hS : rd_S t c kn 0 (pt_cs ls) I) (hL : rd_L 11 ls I) (hwf : pt_wf ls) (hcs : pt_cs ls ≤ 3 * kn) (hnn : pt_nn ls ≤ 12) (hnf : pt_nf ls ≤ 6) {q : (Nat × Int32) ⊕ (Nat × Nat × pt_L)} (hq : pt_ln t ls c kn = some q) :
    ∃ x I', am_Rn ext (d + 1) 43 [.ref 20] (I, L, D, am_rf (xt, xs, 11, xp, xu, xc)) (some (.int x), (I', L, D, am_rf (xt, xs, 11, xp, xu, xc))) ∧ rd_RL t I q x I' := by
  have ht2 := ht.2.1
  obtain ⟨g1, g2, g3, g4, g5⟩ := rd_S_c (I' := I) hS
  have hlen := pt_nn_nf ls
  have hs8 : pt_cs ls ≤ 288 := by omega
  unfold pt_ln at hq
  by_cases h45 : pt_k t c = 4 ∨ pt_k t c = 5
  · rw [if_pos h45] at hq
    -- the flag
    have J : ∃ fn : Bool, (fn = decide (pt_k t c = 5)) := ⟨_, rfl⟩
    obtain ⟨fn, hfn⟩ := J
    have S1 : rd_S t c kn 0 (pt_cs ls) (am_uI I 20 6 (if fn = true then 1 else 0)) := by
      obtain ⟨⟨h1, h2⟩, h3, h4, h5, h6, h7, h8⟩ := hS
      exact ⟨⟨by simp [am_uI_at, h1], fun i hi => by simpa [am_uI_at] using h2 i hi⟩, by simp [am_uI_at, h3], by simp [am_uI_at, h4], by simp [am_uI_at, h5], by simp [am_uI_at, h6], by simp [am_uI_at, h7], by simp [am_uI_at, h8]⟩
    have o1 : rd_o I (am_uI I 20 6 (if fn = true then 1 else 0)) := rd_o_u (fun _ _ _ => rfl) (by omega)
    have L1 : rd_L 11 ls (am_uI I 20 6 (if fn = true then 1 else 0)) := by
      have : ∀ a, ¬ a = 20 → am_uI I 20 6 (if fn = true then 1 else 0) a = I a := fun a ha => funext fun b => by rw [am_uI_at, if_neg (fun z => ha z.1)]
      unfold rd_L at hL ⊢
      simp only [Nat.reduceAdd] at hL ⊢
      rw [this 11 (by omega), this 12 (by omega), this 13 (by omega), this 14 (by omega), this 15 (by omega), this 16 (by omega), this 17 (by omega), this 18 (by omega), this 19 (by omega)]
      exact hL
    have i6 : (am_uI I 20 6 (if fn = true then 1 else 0)) 20 6 = if fn = true then 1 else 0 := by rw [am_uI_at, if_pos ⟨rfl, rfl⟩]
    have start : ∀ {Q : am_R → Prop}, (¬ ((pt_k t c = 5 ∧ 6 ≤ pt_nf ls) ∨ (¬ pt_k t c = 5 ∧ 12 ≤ pt_nn ls)) → am_wp ext d mz_43 (79, [some (.ref 20), none, none], [], (am_uI I 20 6 (if fn = true then 1 else 0), L, D, am_rf (xt, xs, 11, xp, xu, xc))) Q) → (((pt_k t c = 5 ∧ 6 ≤ pt_nf ls) ∨ (¬ pt_k t c = 5 ∧ 12 ≤ pt_nn ls)) → ∃ I', am_Rn ext d 42 [.ref 20, .int 2] (am_uI I 20 6 (if fn = true then 1 else 0), L, D, am_rf (xt, xs, 11, xp, xu, xc)) (some (.int 0), (I', L, D, am_rf (xt, xs, 11, xp, xu, xc))) ∧ Q (some (.int 0), (I', L, D, am_rf (xt, xs, 11, xp, xu, xc)))) → ∃ r, am_Rn ext (d + 1) 43 [.ref 20] (I, L, D, am_rf (xt, xs, 11, xp, xu, xc)) r ∧ Q r := by
      intro Q wy wn
      have l10 : I 11 10 < 12 ↔ pt_nn ls < 12 := by rw [show I 11 10 = nI (pt_nn ls) from hL.2.1, show (12 : Int32) = nI 12 from rfl, ni_lt (by omega) (by omega)]
      have l11 : I 11 11 < 6 ↔ pt_nf ls < 6 := by rw [show I 11 11 = nI (pt_nf ls) from hL.2.2.1, show (6 : Int32) = nI 6 from rfl, ni_lt (by omega) (by omega)]
      have w22 : am_wp ext d mz_43 (22, [some (.ref 20), none, none], [], (I, L, D, am_rf (xt, xs, 11, xp, xu, xc))) Q := by
        refine w43_22 I L D xc xp xs xt xu ⟨fun z => ?_, fun z => ?_⟩
        · rw [g1] at z
          have ef : fn = false := by rw [hfn]; exact decide_eq_false z
          subst ef
          refine w43_36 I L D xc xp xs xt xu 0 ⟨Or.inl rfl, fun _ => ⟨fun y => wy ?_, fun y => ?_⟩, fun y => absurd rfl y⟩
          · intro h
            rcases h with h | h
            · exact z h.1
            · have := l10.mp y; omega
          · obtain ⟨I', r, h⟩ := wn (Or.inr ⟨z, by have : ¬ pt_nn ls < 12 := fun h => y (l10.mpr h); omega⟩)
            exact ⟨0, I', L, D, r, Or.inl rfl, h⟩
        · rw [g1] at z
          have ef : fn = true := by rw [hfn]; exact decide_eq_true z
          subst ef
          refine w43_36 I L D xc xp xs xt xu 1 ⟨Or.inr rfl, fun y => absurd y (by decide), fun _ => ⟨fun y => wy ?_, fun y => ?_⟩⟩
          · intro h
            rcases h with h | h
            · have := l11.mp y; omega
            · exact h.1 z
          · obtain ⟨I', r, h⟩ := wn (Or.inl ⟨z, by have : ¬ pt_nf ls < 6 := fun h => y (l11.mpr h); omega⟩)
            exact ⟨0, I', L, D, r, Or.inl rfl, h⟩
      refine am_of_wp (as := [.ref 20]) mh_43 rfl (w43_0 I L D xc xp xs xt xu ⟨fun _ => w22, fun y => ⟨fun _ => w22, fun z => ?_⟩⟩)
      exact absurd h45 (fun h => h.elim (fun h => y (g1.trans h)) (fun h => z (g1.trans h)))
    by_cases hfull : (pt_k t c = 5 ∧ 6 ≤ pt_nf ls) ∨ (¬ pt_k t c = 5 ∧ 12 ≤ pt_nn ls)
    · rw [if_pos hfull] at hq
      cases hq
      obtain ⟨I2, r2, q2⟩ := c42 (ext := ext) (d := 0) L D xt xs xp xu xc ht2 hc hs8 S1 2 (by omega)
      obtain ⟨r, h1, h2⟩ := start (Q := fun r => r = (some (.int 0), (I2, L, D, am_rf (xt, xs, 11, xp, xu, xc)))) (fun z => absurd hfull z) (fun _ => ⟨I2, am_up r2 (by omega), rfl⟩)
      subst h2
      exact ⟨0, I2, h1, rd_o_t o1 (rd_o_fr (q2 0).1), rfl, (q2 0).2.2.1, (q2 0).2.2.2.1⟩
    · rw [if_neg hfull] at hq
      have go : ∀ {r0 : am_R}, am_wp ext d mz_43 (79, [some (.ref 20), none, none], [], (am_uI I 20 6 (if fn = true then 1 else 0), L, D, am_rf (xt, xs, 11, xp, xu, xc))) (fun r => r = r0) → am_Rn ext (d + 1) 43 [.ref 20] (I, L, D, am_rf (xt, xs, 11, xp, xu, xc)) r0 := by
        intro r0 w
        obtain ⟨r, h1, rfl⟩ := start (Q := fun r => r = r0) (fun _ => w) (fun z => absurd z hfull)
        exact h1
      clear start
      have hroom : (fn = true → pt_nf ls < 6) ∧ (fn = false → pt_nn ls < 12) := by
        constructor
        · intro h
          have h5 : pt_k t c = 5 := of_decide_eq_true (hfn.symm.trans h)
          have : ¬ 6 ≤ pt_nf ls := fun z => hfull (Or.inl ⟨h5, z⟩)
          omega
        · intro h
          have h5 : ¬ pt_k t c = 5 := of_decide_eq_false (hfn.symm.trans h)
          have : ¬ 12 ≤ pt_nn ls := fun z => hfull (Or.inr ⟨h5, z⟩)
          omega
      have hl18 : ls.length < 18 := by
        cases hf : fn
        · have := hroom.2 hf; omega
        · have := hroom.1 hf; omega
      rw [← hfn] at hq
      generalize am_uI I 20 6 (if fn = true then 1 else 0) = J1 at *
      obtain ⟨I1, r1, s1, f1, _⟩ := c41 (ext := ext) (d := 0) L D xt xs xp xu xc ht2 hc S1
      have hc1 := pt_adv_lt hc
      obtain ⟨k1, k2, k3, k4, k5⟩ := rd_S_c (I' := I) s1
      have ofr : ∀ {s' : Nat} {I2 : Nat → Nat → Int32}, rd_fr s' I1 I2 → rd_o I I2 := fun h => rd_o_t o1 (rd_o_t (rd_o_fr f1) (rd_o_fr h))
      by_cases h3 : pt_k t (pt_adv t c) = 3
      · by_cases h19 : pt_v t (pt_adv t c) = 19
        · rw [if_neg (fun z => z.2 h19)] at hq
          cases hq
          obtain ⟨I2, r2, q2⟩ := c42 (ext := ext) (d := 0) L D xt xs xp xu xc ht2 hc1 hs8 s1 1 (by omega)
          exact ⟨0, I2, go (w43_79 J1 L D xc xp xs xt xu ⟨I1, L, D, am_up r1 (by omega), fun z => absurd (k1.trans h3) z, fun _ => ⟨fun z => absurd (k2.trans h19) z, fun _ => ⟨0, I2, L, D, am_up r2 (by omega), Or.inl rfl, rfl⟩⟩⟩), ofr (q2 0).1, rfl, (q2 0).2.2.1, (q2 0).2.2.2.1⟩
        · rw [if_pos ⟨h3, h19⟩] at hq
          have hl0 := (ht.2.2 _ hc1).1 h3
          have hlc := pt_clamp hl0.1
          have hl : (pt_v t (pt_adv t c)).toNatClampNeg < 26 := by omega
          have hvl : pt_v t (pt_adv t c) = nI (pt_v t (pt_adv t c)).toNatClampNeg := by
            rw [← Int32.toInt_inj, nI_toInt (by omega)]
            omega
          have hl19 : ¬ (pt_v t (pt_adv t c)).toNatClampNeg = 19 := fun z => h19 (by rw [hvl, z]; rfl)
          generalize (pt_v t (pt_adv t c)).toNatClampNeg = l at *
          have E1 : rd_E (pt_ev ls fn) ls.length I1 := rd_E_fr (rd_L_E L1 (by omega) i6) f1
          have rl := c32 (ext := ext) (d := 0) L D xt xs xp xu xc E1 hl
          rw [← hvl, ← k2] at rl
          by_cases h0 : pt_tl ls l = 0
          · rw [if_pos h0] at hq
            rw [if_pos (show (pt_ev ls fn).2.1 l = 0 from h0)] at rl
            obtain ⟨I2, r2, s2, f2, _⟩ := c41 (ext := ext) (d := 0) L D xt xs xp xu xc ht2 hc1 s1
            have hc2 := pt_adv_lt hc1
            generalize pt_adv t (pt_adv t c) = c2 at *
            by_cases h61 : pt_k t c2 = 61
            · rw [if_pos h61] at hq
              obtain ⟨I3, r3, s3, f3, _⟩ := (c59 (ext := ext) (d := 0) L D xt xs xp xu xc ht2 hc2 hs8 s2 61).1 h61
              have hc3 := pt_adv_lt hc2
              have f13 := rd_fr_t f1 (rd_fr_t f2 f3 (Nat.le_refl _)) (Nat.le_refl _)
              have E3 := rd_E_fr (rd_L_E L1 (by omega) i6) f13
              have IH := (c44_all (ext := ext) (nl := ls.length) L D xt xs xp xu xc ht (pt_en_ev ls fn) (3 * t.2 + 3)).1 0 (d - 4) (.leaf (0, 0, 0, 0, 0, 0)) (by omega) (by omega)
              have hg := pt_ex_good ht ls fn hc3 hk
              cases hr : pt_ex t (pt_ev ls fn) (pt_adv t c2) kn with
              | none => rw [hr] at hq; cases hq
              | some r =>
                obtain ⟨x4, I4, r4, q4⟩ := IH.1 _ _ (pt_cs ls) I3 r hc3 hk hcs s3 E3 hr
                rw [show d - 4 + 4 = d by omega] at r4
                rw [hr] at hq hg
                match r, q4, hq, hg with
                | .inl f, q4, hq, hg =>
                  cases hq
                  obtain rfl := q4.2.1
                  exact ⟨0, I4, go (w43_79 J1 L D xc xp xs xt xu ⟨I1, L, D, am_up r1 (by omega), fun z => absurd (k1.trans h3) z, fun _ => ⟨fun _ => ⟨-1, I1, L, D, am_up rl (by omega), fun _ => ⟨I2, L, D, am_up r2 (by omega), 1, I3, L, D, am_up r3 (by omega), fun z => absurd z (by decide), fun _ => ⟨0, I4, L, D, r4, fun z => absurd rfl z, fun _ => rfl⟩⟩, fun z => absurd (by decide) z⟩, fun z => absurd (k2.symm.trans z) h19⟩⟩), rd_o_t o1 (rd_o_t (rd_o_fr f13) (rd_o_fr q4.1)), rfl, q4.2.2.1, q4.2.2.2.1⟩
                | .inr (c4, k4', T), q4, hq, hg =>
                  obtain ⟨m1, m2, m3, m4⟩ := hg _ _ _ rfl
                  obtain ⟨f4, rfl, s4, cc4⟩ := rd_R_r q4
                  have hz := tr_cz_le _ T _ m4
                  have f14 := rd_fr_t f13 f4 (Nat.le_refl _)
                  have e6 : I4 20 6 = if fn = true then 1 else 0 := (f14 20 6 rfl).trans i6
                  have e9 : I4 11 9 = nI ls.length := (f14 11 9 rfl).trans L1.1
                  have r5 := c35 (ext := ext) (d := 0) L D xt xs xp xu xc (fn := fn) (v3 := I2 11 8) e9 hl18 hl
                  have e8 : I2 11 8 = nI (pt_cs ls) := (rd_S_c (I' := I) s2).2.2.2.2
                  -- the program with the new line
                  have L5 : rd_L 11 (ls ++ [(l, fn, T)]) (am_uI (am_uI (am_uI (am_uI (am_uI (am_uI (am_uI I4 12 l (nI ls.length)) 13 ls.length (if fn = true then 1 else 0)) 14 ls.length (I2 11 8)) 15 ls.length (I4 11 8)) 11 9 (nI (ls.length + 1))) 11 11 (I4 11 11 + if fn = true then 1 else 0)) 11 10 (I4 11 10 + if fn = true then 0 else 1)) := by
                    have L4 : rd_L 11 ls (fun a b => if a = 11 ∧ b = 8 then J1 11 8 else if a = 11 ∧ b = 12 then J1 11 12 else I4 a b) := by
                      obtain ⟨a1, a2, a3, a4, a5, a6, a7⟩ := L1
                      refine ⟨?_, ?_, ?_, ?_, ?_, ?_, ?_⟩
                      · exact (f14 11 9 rfl).trans a1
                      · exact (f14 11 10 rfl).trans a2
                      · exact (f14 11 11 rfl).trans a3
                      · exact a4
                      · exact a5
                      · intro j hj
                        exact (f14 12 j rfl).trans (a6 j hj)
                      · intro i x hx
                        obtain ⟨b1, b2, b3, b4⟩ := a7 i x hx
                        refine ⟨(f14 13 i rfl).trans b1, (f14 14 i rfl).trans b2, (f14 15 i rfl).trans b3, ?_⟩
                        have hle := pt_cs_le hx
                        exact rd_cc_fr (hwf i x hx).2.2.2 b4 f14 hle
                    refine rd_L_app L4 hl h0 m4 ?_ _ ?_ ?_ ?_ ?_ ?_ ?_ (by omega) ?_ ?_ ?_ ?_
                    · exact cc4
                    · intro a b hab
                      show _ = if a = 11 ∧ b = 8 then J1 11 8 else if a = 11 ∧ b = 12 then J1 11 12 else I4 a b
                      rw [if_neg (show ¬ (a = 11 ∧ b = 8) by omega), if_neg (show ¬ (a = 11 ∧ b = 12) by omega)]
                      simp only [am_uI_at]
                      rw [if_neg (by omega), if_neg (by omega), if_neg (by omega), if_neg (by omega), if_neg (by omega), if_neg (by omega), if_neg (by omega)]
                    · simp [am_uI_at, (rd_S_c (I' := I) s4).2.2.2.2]
                    · simp [am_uI_at, (rd_S_c (I' := I) s4).2.2.2.1]; rw [m3, hks]
                    · simp [am_uI_at]
                    · simp [am_uI_at]
                    · simp [am_uI_at]
                    · intro j
                      simp [am_uI_at]
                    · intro j
                      simp [am_uI_at]
                    · intro j
                      simp [am_uI_at, e8]
                    · intro j
                      simp [am_uI_at, (rd_S_c (I' := I) s4).2.2.2.2]
                  have S5 : rd_S t c4 k4' 0 (pt_cs ls + tr_cz T) (am_uI (am_uI (am_uI (am_uI (am_uI (am_uI (am_uI I4 12 l (nI ls.length)) 13 ls.length (if fn = true then 1 else 0)) 14 ls.length (I2 11 8)) 15 ls.length (I4 11 8)) 11 9 (nI (ls.length + 1))) 11 11 (I4 11 11 + if fn = true then 1 else 0)) 11 10 (I4 11 10 + if fn = true then 0 else 1)) := by
                    obtain ⟨⟨h1, h2⟩, h3, h4, h5, h6, h7, h8⟩ := s4
                    exact ⟨⟨by simp [am_uI_at, h1], fun i hi => by simpa [am_uI_at] using h2 i hi⟩, by simp [am_uI_at, h3], by simp [am_uI_at, h4], by simp [am_uI_at, h5], by simp [am_uI_at, h6], by simp [am_uI_at, h7], by simp [am_uI_at, h8]⟩
                  have o5 : rd_o I4 (am_uI (am_uI (am_uI (am_uI (am_uI (am_uI (am_uI I4 12 l (nI ls.length)) 13 ls.length (if fn = true then 1 else 0)) 14 ls.length (I2 11 8)) 15 ls.length (I4 11 8)) 11 9 (nI (ls.length + 1))) 11 11 (I4 11 11 + if fn = true then 1 else 0)) 11 10 (I4 11 10 + if fn = true then 0 else 1)) := rd_o_u (rd_o_u (rd_o_u (rd_o_u (rd_o_u (rd_o_u (rd_o_u (fun _ _ _ => rfl) (by omega)) (by omega)) (by omega)) (by omega)) (by omega)) (by omega)) (by omega)
                  revert r5 L5 S5 o5
                  generalize (am_uI (am_uI (am_uI (am_uI (am_uI (am_uI (am_uI I4 12 l (nI ls.length)) 13 ls.length (if fn = true then 1 else 0)) 14 ls.length (I2 11 8)) 15 ls.length (I4 11 8)) 11 9 (nI (ls.length + 1))) 11 11 (I4 11 11 + if fn = true then 1 else 0)) 11 10 (I4 11 10 + if fn = true then 0 else 1)) = I5
                  intro r5 L5 S5 o5
                  rw [← hvl, ← k2, ← e6] at r5
                  have o15 : rd_o I I5 := rd_o_t o1 (rd_o_t (rd_o_fr f14) o5)
                  by_cases h59 : pt_k t c4 = 59
                  · simp only [if_pos h59] at hq
                    cases hq
                    obtain ⟨I6, r6, s6, f6, _⟩ := (c59 (ext := ext) (d := 0) L D xt xs xp xu xc ht2 m1 (by omega) S5 59).1 h59
                    refine ⟨1, I6, go (w43_79 J1 L D xc xp xs xt xu ⟨I1, L, D, am_up r1 (by omega), fun z => absurd (k1.trans h3) z, fun _ => ⟨fun _ => ⟨-1, I1, L, D, am_up rl (by omega), fun _ => ⟨I2, L, D, am_up r2 (by omega), 1, I3, L, D, am_up r3 (by omega), fun z => absurd z (by decide), fun _ => ⟨1, I4, L, D, r4, fun _ => ⟨I5, L, D, am_up r5 (by omega), 1, I6, L, D, am_up r6 (by omega), Or.inr rfl, rfl⟩, fun z => absurd z (by decide)⟩⟩, fun z => absurd (by decide) z⟩, fun z => absurd (k2.symm.trans z) h19⟩⟩), rd_o_t o15 (rd_o_fr f6), rfl, ?_, ?_, pt_adv_lt m1, ?_, m2, ?_, ?_, ?_⟩
                    · show rd_S t _ _ 0 (pt_cs (ls ++ [(l, fn, T)])) I6
                      rw [pt_cs_app]
                      exact s6
                    · show rd_L 11 (ls ++ [(l, fn, T)]) I6
                      -- expect changes the reader alone
                      have wf2 : pt_wf (ls ++ [(l, fn, T)]) := pt_wf_app hwf hl hl19 h0 (by show tr_ok (pt_ev ls fn) T (pt_ks ls); rw [← hks]; exact m4)
                      obtain ⟨a1, a2, a3, a4, a5, a6, a7⟩ := L5
                      refine ⟨(f6 11 9 rfl).trans a1, (f6 11 10 rfl).trans a2, (f6 11 11 rfl).trans a3, ?_, ?_, fun j hj => (f6 12 j rfl).trans (a6 j hj), fun i x hx => ?_⟩
                      · rw [pt_cs_app]; exact (rd_S_c (I' := I) s6).2.2.2.2
                      · rw [pt_ks_app, (rd_S_c (I' := I) s6).2.2.2.1, m3, hks]
                      · obtain ⟨b1, b2, b3, b4⟩ := a7 i x hx
                        refine ⟨(f6 13 i rfl).trans b1, (f6 14 i rfl).trans b2, (f6 15 i rfl).trans b3, ?_⟩
                        have hle := pt_cs_le hx
                        have ec : pt_cs (ls ++ [(l, fn, T)]) = pt_cs ls + tr_cz T := pt_cs_app ls (l, fn, T)
                        rw [ec] at hle
                        exact rd_cc_fr (wf2 i x hx).2.2.2 b4 f6 hle
                    · show k4' = pt_ks (ls ++ [(l, fn, T)])
                      rw [pt_ks_app, m3, hks]
                    · exact pt_wf_app hwf hl hl19 h0 (by show tr_ok (pt_ev ls fn) T (pt_ks ls); rw [← hks]; exact m4)
                    · show pt_nn (ls ++ [(l, fn, T)]) ≤ 12
                      cases hf : fn
                      · have := hroom.2 hf
                        unfold pt_nn at this ⊢
                        simp; omega
                      · unfold pt_nn at hnn ⊢
                        simp; omega
                    · show pt_nf (ls ++ [(l, fn, T)]) ≤ 6
                      cases hf : fn
                      · unfold pt_nf at hnf ⊢
                        simp; omega
                      · have := hroom.1 hf
                        unfold pt_nf at this ⊢
                        simp; omega
                  · simp only [if_neg h59] at hq
                    cases hq
                    obtain ⟨I6, r6, q6⟩ := (c59 (ext := ext) (d := 0) L D xt xs xp xu xc ht2 m1 (by omega) S5 59).2 h59
                    exact ⟨0, I6, go (w43_79 J1 L D xc xp xs xt xu ⟨I1, L, D, am_up r1 (by omega), fun z => absurd (k1.trans h3) z, fun _ => ⟨fun _ => ⟨-1, I1, L, D, am_up rl (by omega), fun _ => ⟨I2, L, D, am_up r2 (by omega), 1, I3, L, D, am_up r3 (by omega), fun z => absurd z (by decide), fun _ => ⟨1, I4, L, D, r4, fun _ => ⟨I5, L, D, am_up r5 (by omega), 0, I6, L, D, am_up r6 (by omega), Or.inl rfl, rfl⟩, fun z => absurd z (by decide)⟩⟩, fun z => absurd (by decide) z⟩, fun z => absurd (k2.symm.trans z) h19⟩⟩), rd_o_t o15 (rd_o_fr (q6 0).1), rfl, (q6 0).2.2.1, (q6 0).2.2.2.1⟩
            · rw [if_neg h61] at hq
              cases hq
              obtain ⟨I3, r3, q3⟩ := (c59 (ext := ext) (d := 0) L D xt xs xp xu xc ht2 hc2 hs8 s2 61).2 h61
              exact ⟨0, I3, go (w43_79 J1 L D xc xp xs xt xu ⟨I1, L, D, am_up r1 (by omega), fun z => absurd (k1.trans h3) z, fun _ => ⟨fun _ => ⟨-1, I1, L, D, am_up rl (by omega), fun _ => ⟨I2, L, D, am_up r2 (by omega), 0, I3, L, D, am_up r3 (by omega), fun _ => rfl, fun z => absurd rfl z⟩, fun z => absurd (by decide) z⟩, fun z => absurd (k2.symm.trans z) h19⟩⟩), rd_o_t o1 (rd_o_t (rd_o_fr (rd_fr_t f1 f2 (Nat.le_refl _))) (rd_o_fr (q3 0).1)), rfl, (q3 0).2.2.1, (q3 0).2.2.2.1⟩
          · rw [if_neg h0] at hq
            cases hq
            rw [if_neg (show ¬ (pt_ev ls fn).2.1 l = 0 from h0)] at rl
            obtain ⟨I2, r2, q2⟩ := c42 (ext := ext) (d := 0) L D xt xs xp xu xc ht2 hc1 hs8 s1 3 (by omega)
            have hix := (pt_ix_at ls l h0)
            obtain ⟨_, _, _, _, hix⟩ := hix
            refine ⟨0, I2, go (w43_79 J1 L D xc xp xs xt xu ⟨I1, L, D, am_up r1 (by omega), fun z => absurd (k1.trans h3) z, fun _ => ⟨fun _ => ⟨_, I1, L, D, am_up rl (by omega), fun z => absurd z (ni_nn ?_), fun _ => ⟨0, I2, L, D, am_up r2 (by omega), Or.inl rfl, rfl⟩⟩, fun z => absurd (k2.symm.trans z) h19⟩⟩), ofr (q2 0).1, rfl, (q2 0).2.2.1, (q2 0).2.2.2.1⟩
            show pt_ix ls l < 2 ^ 31
            omega
      · rw [if_neg (fun z => h3 z.1)] at hq
        cases hq
        obtain ⟨I2, r2, q2⟩ := c42 (ext := ext) (d := 0) L D xt xs xp xu xc ht2 hc1 hs8 s1 1 (by omega)
        exact ⟨0, I2, go (w43_79 J1 L D xc xp xs xt xu ⟨I1, L, D, am_up r1 (by omega), fun _ => ⟨0, I2, L, D, am_up r2 (by omega), Or.inl rfl, rfl⟩, fun z => absurd (k1.symm.trans z) h3⟩), ofr (q2 0).1, rfl, (q2 0).2.2.1, (q2 0).2.2.2.1⟩
  · rw [if_neg h45] at hq
    cases hq
    obtain ⟨I2, r2, q2⟩ := c42 (ext := ext) (d := 0) L D xt xs xp xu xc ht2 hc hs8 hS 1 (by omega)
    exact ⟨0, I2, am_rn_of mh_43 rfl (w43_0 I L D xc xp xs xt xu ⟨fun z => absurd (Or.inl (g1.symm.trans z)) h45, fun _ => ⟨fun z => absurd (Or.inr (g1.symm.trans z)) h45, fun _ => ⟨0, I2, L, D, am_up r2 (by omega), Or.inl rfl, rfl⟩⟩⟩), rd_o_fr (q2 0).1, rfl, (q2 0).2.2.1, (q2 0).2.2.2.1⟩
end READ
