/-! ===== the class's fractions: all lines ===== -/
theorem ex_T_cong {e : pt_E} {E E' : Nat → Option (Int64 × Int64)} (h : ∀ l, e.2.1 l = 1 → E (e.2.2 l) = E' (e.2.2 l)) : ∀ (T : tr_T) (s : Nat), tr_ok e T s → ex_T E T = ex_T E' T := by
  refine tr_ind ?_ ?_ ?_ ?_ ?_
  · intro p s _ hk
    show ex_0 E p = ex_0 E' p
    unfold ex_0
    split
    · rfl
    · split
      · rcases hk with ⟨k, _⟩ | ⟨k, _⟩ | ⟨k, h0, h1, h2⟩ | ⟨k, _⟩
        · omega
        · omega
        · rw [h2, h _ h1]
        · omega
      · rfl
  · intro p A s _ _ _ ih
    show ex_1 p (ex_T E A) = ex_1 p (ex_T E' A)
    rw [ih]
  · intro p A B s _ _ _ _ _ iha ihb
    show ex_2 p (ex_T E A) (ex_T E B) = ex_2 p (ex_T E' A) (ex_T E' B)
    rw [iha, ihb]
  · intro p A B s _ _ _ _ iha ihb
    show ex_2 p (ex_T E A) (ex_T E B) = ex_2 p (ex_T E' A) (ex_T E' B)
    rw [iha, ihb]
  · intros; rfl
def xE (ls : pt_L) (i : Nat) : Option (Int64 × Int64) := ex_L ls (i + 1) i
theorem ix_lt {ls : pt_L} {k l : Nat} (h : ¬ pt_tl (ls.take k) l = 0) : pt_ix (ls.take k) l < k ∧ pt_ix (ls.take k) l < ls.length := by
  obtain ⟨_, _, _, _, lt⟩ := pt_ix_at (ls.take k) l h
  rw [List.length_take] at lt
  omega
theorem ex_L_st {ls : pt_L} (hwf : pt_wf ls) : ∀ (n k : Nat), k < n → ex_L ls n k = xE ls k := by
  intro n
  induction n using Nat.strongRecOn with
  | ind n ih =>
    intro k hk
    obtain ⟨n', rfl⟩ : ∃ n', n = n' + 1 := ⟨n - 1, by omega⟩
    show ex_L ls (n' + 1) k = ex_L ls (k + 1) k
    by_cases e : k = n'
    · subst e; rfl
    · simp only [ex_L]
      cases hx : ls[k]? with
      | none => rfl
      | some x =>
        simp only
        split
        · rfl
        · refine ex_T_cong (fun l hl => ?_) x.2.2 _ (hwf k x hx).2.2.2
          have hl' : pt_tl (ls.take k) l = 1 := hl
          have lt := ix_lt (ls := ls) (k := k) (l := l) (by omega)
          show ex_L ls n' (pt_ix (ls.take k) l) = ex_L ls k (pt_ix (ls.take k) l)
          rw [ih n' (by omega) _ (by omega), ih k (by omega) _ (by omega)]
theorem xE_at {ls : pt_L} (hwf : pt_wf ls) {i : Nat} {x : Nat × Bool × tr_T} (hx : ls[i]? = some x) : xE ls i = if x.2.1 = true then none else ex_T (xE ls) x.2.2 := by
  unfold xE
  simp only [ex_L, hx]
  split
  · rfl
  · refine ex_T_cong (fun l hl => ?_) x.2.2 _ (hwf i x hx).2.2.2
    have hl' : pt_tl (ls.take i) l = 1 := hl
    have lt := ix_lt (ls := ls) (k := i) (l := l) (by omega)
    exact ex_L_st hwf i _ lt.1
theorem xE_out {ls : pt_L} {i : Nat} (h : ls.length ≤ i) : xE ls i = none := by
  unfold xE
  simp only [ex_L, List.getElem?_eq_none h]
theorem xE_good {ls : pt_L} (hwf : pt_wf ls) : ∀ (i : Nat) (q : Int64 × Int64), xE ls i = some q → xg q := by
  have key : ∀ n i, i < n → ∀ q, xE ls i = some q → xg q := by
    intro n
    induction n with
    | zero => intro i h; omega
    | succ n ih =>
      intro i hi q hq
      by_cases hl : i < ls.length
      · obtain ⟨x, hx⟩ : ∃ x, ls[i]? = some x := ⟨_, List.getElem?_eq_getElem hl⟩
        rw [xE_at hwf hx] at hq
        split at hq
        · cases hq
        · have e : ex_T (xE ls) x.2.2 = ex_T (fun j => if j < i then xE ls j else none) x.2.2 := by
            refine ex_T_cong (fun l hl => ?_) x.2.2 _ (hwf i x hx).2.2.2
            have hl' : pt_tl (ls.take i) l = 1 := hl
            have lt := ix_lt (ls := ls) (k := i) (l := l) (by omega)
            show xE ls (pt_ix (ls.take i) l) = if pt_ix (ls.take i) l < i then _ else none
            rw [if_pos lt.1]
            rfl
          rw [e] at hq
          refine ex_good (fun j r hr => ?_) x.2.2 _ (hwf i x hx).2.2.2 q hq
          have hr' : (if j < i then xE ls j else none) = some r := hr
          clear hr
          rename (if j < i then xE ls j else none) = some r => hr
          split at hr
          · exact ih j (by omega) r hr
          · cases hr
      · rw [xE_out (by omega)] at hq
        cases hq
  exact fun i => key (i + 1) i (by omega)
section FLINES
variable {ext : Nat → List Value → am_M → Option am_R} {d : Nat} (D : Nat → Nat → UInt64) (X : am_Rf) {ls : pt_L}
theorem c34_11 {L : Nat → Nat → Int64} {I : Nat → Nat → Int32} {s i : Nat} (h9 : I 11 9 = nI s) (hs : s ≤ 18) (hi : i < s) : am_Rn ext (d + 1) 34 [.ref 11, .int (nI i)] (I, L, D, am_rf X) (some (.int 1), (I, L, D, am_rf X)) := by
  refine am_rn_of mh_34 rfl (w34_0_11 I L D X (nI i) ⟨fun z => absurd z (ni_nn (by omega)), fun _ => ⟨fun z => absurd z ?_, fun _ => rfl⟩⟩)
  rw [h9, ni_le (by omega) (by omega)]
  omega
theorem c33_11 {L : Nat → Nat → Int64} {I : Nat → Nat → Int32} (hL : rd_L 11 ls I) (hn : ls.length ≤ 18) {i : Nat} {x : Nat × Bool × tr_T} (hx : ls[i]? = some x) : am_Rn ext (d + 1) 33 [.ref 11, .int (nI i)] (I, L, D, am_rf X) (some (.int (if x.2.1 = true then 1 else 0)), (I, L, D, am_rf X)) := by
  have hi : i < ls.length := (List.getElem?_eq_some_iff.mp hx).1
  have ei : (nI i).toNatClampNeg = i := ni_nat (by omega)
  have h4 := (hL.2.2.2.2.2.2 i x hx).1
  refine am_rn_of mh_33 rfl (w33_0_11 I L D X (nI i) ⟨fun z => absurd z (ni_nn (by omega)), fun _ => ⟨fun z => ?_, fun _ => ⟨ni_inb (by omega) (by omega), ?_⟩⟩⟩)
  · rw [hL.1, ni_le (by omega) (by omega)] at z
    omega
  · rw [ei, show I 13 i = I (11 + 2) i from rfl, h4]
    cases x.2.1 with
    | true => exact ⟨fun z => absurd (show (1 : Int32) = 0 from z) (by decide), fun _ => rfl⟩
    | false => exact ⟨fun _ => rfl, fun z => absurd rfl z⟩
/-- a number's line -/
theorem c26 {I : Nat → Nat → Int32} {L : Nat → Nat → Int64} (hL : rd_L 11 ls I) (hwf : pt_wf ls) (hn : ls.length ≤ 18) (hk : pt_ks ls ≤ 96) {i : Nat} {x : Nat × Bool × tr_T} (hx : ls[i]? = some x) (hE : xl (xE ls) i L) : ∃ I' L', am_Rn ext 8 26 [.ref 29, .ref 11, .int (nI i)] (I, L, D, am_rf X) (some (.int (if ex_T (xE ls) x.2.2 = none then 0 else 1)), (I', L', D, am_rf X)) ∧ xp_fr 0 I L I' L' ∧ (∀ q, ex_T (xE ls) x.2.2 = some q → xp_v 0 q I' L') := by
  have hil : i < ls.length := (List.getElem?_eq_some_iff.mp hx).1
  have hcl := pt_cs_le hx
  have hkl := pt_ks_le hx
  have hc3 := pt_cs_ks hwf
  have hl := hL.2.2.2.2.2.2 i x hx
  have ei : (nI i).toNatClampNeg = i := ni_nat (by omega)
  have hinb : am_inb (nI i) 18 = true := ni_inb (by omega) (by omega)
  have u9 : ∀ a b, ¬ a = 29 → am_uI I 29 4 0 a b = I a b := fun a b h => by rw [am_uI_at, if_neg (by omega)]
  have r34 := c34_11 (ext := ext) (d := 6) (L := L) (I := am_uI I 29 4 0) D X (i := i) (by rw [u9 11 9 (by omega)]; exact hL.1) hn hil
  have r202 := am_up (c202 (ext := ext) (d := 0) (L := L) (I := am_uI I 29 4 0) D X (nI (pt_cs (ls.take i) + tr_cz x.2.2)) (nI (pt_cs ls))) (show 1 ≤ 7 by omega)
  have r201 := am_up (c201 (ext := ext) (d := 0) (L := L) (I := am_uI I 29 4 0) D X (nI (pt_cs (ls.take i))) 0) (show 1 ≤ 7 by omega)
  rw [if_pos ((ni_le (by omega) (by omega)).mpr (by omega))] at r202
  rw [if_neg (ni_nn (by omega))] at r201
  have key : xh ext 7 D X (pt_cs (ls.take i) + tr_cz x.2.2) (am_uI I 29 4 0) L (pt_cs (ls.take i)) (fun r => ∃ I' L', r = (some (.int (if ex_T (xE ls) x.2.2 = none then 0 else 1)), (I', L', D, am_rf X)) ∧ xp_fr 0 I L I' L' ∧ (∀ q, ex_T (xE ls) x.2.2 = some q → xp_v 0 q I' L')) := by
    have f0 : ∀ I' L', xp_fr 0 (am_uI I 29 4 0) L I' L' → xp_fr 0 I L I' L' := fun I' L' F => ⟨fun a b h => by rw [F.1 a b h, am_uI_at, if_neg h], F.2⟩
    refine x_tree (ext := ext) (ls := ls) (E := xE ls) (m := i) (sz := pt_cs ls) D X (by omega) (by omega) (by omega) (by omega) x.2.2 _ (hwf i x hx).2.2.2 (pt_cs (ls.take i)) 0 (am_uI I 29 4 0) L _ ?_ (Nat.le_refl _) (by omega) (by rw [am_uI_at, if_pos ⟨rfl, rfl⟩]; rfl) hE (by rw [u9 11 8 (by omega)]; exact hL.2.2.2.1) (fun q hq I' L' F V => ?_) (fun hq I' L' F => ⟨I', L', by rw [hq]; rfl, f0 I' L' F, fun q h => by rw [hq] at h; cases h⟩)
    · have e : ∀ a, ¬ a = 29 → am_uI I 29 4 0 a = I a := fun a h => funext fun b => u9 a b h
      rw [e 16 (by omega), e 17 (by omega), e 18 (by omega), e 19 (by omega)]
      exact hl.2.2.2
    · refine w26_58 I' L' D X 1 _ _ ⟨fun _ => ⟨Or.inr rfl, I', L', by rw [hq, if_neg (by intro h; cases h)], f0 I' L' F, fun r hr => ?_⟩, fun z => absurd ?_ z⟩
      · rw [hq] at hr; cases hr; exact V
      · rw [Int32.le_iff_toInt_le]; exact Int.le_refl _
  obtain ⟨q, rq, I', L', e, h1, h2⟩ := am_of_wp (ext := ext) (d := 7) (as := [.ref 29, .ref 11, .int (nI i)]) mh_26 rfl (w26_0 I L D X (nI i) ⟨_, _, L, D, r34, fun z => absurd z (by decide), fun _ => ⟨hinb, _, _, L, D, by rw [ei, u9 15 i (by omega), u9 11 8 (by omega), show I 15 i = _ from hl.2.2.1, hL.2.2.2.1]; exact r202, fun z => absurd z (by decide), fun _ => ⟨hinb, _, _, L, D, by rw [ei, u9 14 i (by omega), show I 14 i = _ from hl.2.1]; exact r201, key⟩⟩⟩)
  rw [e] at rq
  exact ⟨I', L', rq, h1, h2⟩
theorem c208 {I : Nat → Nat → Int32} {L : Nat → Nat → Int64} : ∃ L', am_Rn ext (d + 1) 208 [.ref 31, .long 0] (I, L, D, am_rf X) (none, (I, L', D, am_rf X)) ∧ (∀ i, i < 18 → L' 31 i = 0) ∧ (∀ a b, ¬ a = 31 → L' a b = L a b) := by
  have key : ∀ (k n : Nat) (L : Nat → Nat → Int64), n + k = 18 → (∀ i, i < n → L 31 i = 0) → ∃ L', am_wp ext d mz_208 (6, [some (.ref 31), some (.long 0), none, some (.int (nI n)), some (.int 18)], [], (I, L, D, am_rf X)) (fun r => r = (none, (I, L', D, am_rf X))) ∧ (∀ i, i < 18 → L' 31 i = 0) ∧ (∀ a b, ¬ a = 31 → L' a b = L a b) := by
    intro k
    induction k with
    | zero =>
      intro n L hn h0
      have : n = 18 := by omega
      subst this
      exact ⟨L, w208_6 I L D X 0 (nI 18) 18 ⟨fun _ => rfl, fun z => absurd (by decide) z⟩, h0, fun _ _ _ => rfl⟩
    | succ k ih =>
      intro n L hn h0
      obtain ⟨L', W, h1, h2⟩ := ih (n + 1) (am_uL L 31 n 0) (by omega) (fun i hi => by rw [am_uL_at]; split; · rfl
                                                                                       · exact h0 i (by omega))
      refine ⟨L', w208_6 I L D X 0 (nI n) 18 ⟨fun z => ?_, fun _ => ⟨ni_inb (by omega) (by omega), ?_⟩⟩, h1, fun a b h => by rw [h2 a b h, am_uL_at, if_neg (by omega)]⟩
      · have := (ni_le (a := 18) (by omega) (by omega)).mp z; omega
      · rw [ni_nat (by omega), show nI n + 1 = nI (n + 1) by rw [show (1 : Int32) = nI 1 from rfl, ni_add (by omega)]]
        exact W
  obtain ⟨L', W, h1, h2⟩ := key 18 0 L rfl (fun i hi => by omega)
  exact ⟨L', am_rn_of mh_208 rfl (w208_0 I L D X 0 W), h1, h2⟩
/-- all lines -/
theorem c25 {I : Nat → Nat → Int32} {L : Nat → Nat → Int64} (hL : rd_L 11 ls I) (hwf : pt_wf ls) (hn : ls.length ≤ 18) (hk : pt_ks ls ≤ 96) : ∃ I' L', am_Rn ext 10 25 [.ref 29, .ref 11] (I, L, D, am_rf X) (none, (I', L', D, am_rf X)) ∧ (∀ a b, ¬ (a = 29 ∧ b = 4) → I' a b = I a b) ∧ (∀ a b, ¬ (30 ≤ a ∧ a ≤ 33) → L' a b = L a b) ∧ xl (xE ls) 18 L' := by
  have key : ∀ (k n : Nat) (I : Nat → Nat → Int32) (L : Nat → Nat → Int64), n + k = ls.length → rd_L 11 ls I → xl (xE ls) n L → (∀ i, n ≤ i → i < 18 → L 31 i = 0) → ∃ I' L', am_wp ext 9 mz_25 (10, [some (.ref 29), some (.ref 11), some (.int (nI n))], [], (I, L, D, am_rf X)) (fun r => r = (none, (I', L', D, am_rf X))) ∧ (∀ a b, ¬ (a = 29 ∧ b = 4) → I' a b = I a b) ∧ (∀ a b, ¬ (30 ≤ a ∧ a ≤ 33) → L' a b = L a b) ∧ xl (xE ls) 18 L' := by
    intro k
    induction k with
    | zero =>
      intro n I L hnk hL hE h0
      refine ⟨I, L, w25_10 I L D X (nI n) ⟨fun _ => rfl, fun z => absurd ?_ z⟩, fun _ _ _ => rfl, fun _ _ _ => rfl, fun i hi => ?_⟩
      · rw [hL.1, ni_le (by omega) (by omega)]; omega
      · by_cases h : i < n
        · exact hE i h
        · rw [xE_out (by omega)]
          exact ⟨fun _ => h0 i (by omega) hi, fun q hq => by cases hq⟩
    | succ k ih =>
      intro n I L hnk hL hE h0
      have hnl : n < ls.length := by omega
      obtain ⟨x, hx⟩ : ∃ x, ls[n]? = some x := ⟨_, List.getElem?_eq_getElem hnl⟩
      have en : xE ls n = if x.2.1 = true then none else ex_T (xE ls) x.2.2 := xE_at hwf hx
      have r33 := am_up (c33_11 (ext := ext) (d := 0) (L := L) D X hL hn hx) (show 1 ≤ 9 by omega)
      have n18 : ¬ (18 : Int32) ≤ nI n := fun z => by have := (ni_le (a := 18) (by omega) (by omega)).mp z; omega
      have nle : ¬ I 11 9 ≤ nI n := by rw [hL.1, ni_le (by omega) (by omega)]; omega
      have e1 : nI n + 1 = nI (n + 1) := by rw [show (1 : Int32) = nI 1 from rfl, ni_add (by omega)]
      have hin : am_inb (nI n) 18 = true := ni_inb (by omega) (by omega)
      have ext1 : ∀ (L' : Nat → Nat → Int64), (∀ i, i < n → L' 30 i = L 30 i ∧ L' 31 i = L 31 i) → (xE ls n = none → L' 31 n = 0) → (∀ q, xE ls n = some q → L' 30 n = q.1 ∧ L' 31 n = q.2) → xl (xE ls) (n + 1) L' := by
        intro L' g1 g2 g3 i hi
        by_cases h : i < n
        · rw [(g1 i h).1, (g1 i h).2]; exact hE i h
        · have e : i = n := by omega
          subst e
          refine ⟨g2, fun q hq => ⟨(g3 q hq).1, (g3 q hq).2, fun z => ?_⟩⟩
          have := (xE_good hwf i q hq).2.1
          rw [z] at this
          have z0 : (0 : Int64).toInt = 0 := rfl
          omega
      cases hb : x.2.1 with
      | true =>
        rw [hb, if_pos rfl] at en
        rw [hb, if_pos rfl] at r33
        obtain ⟨I', L', W, f1, f2, f3⟩ := ih (n + 1) I L (by omega) hL (ext1 L (fun i _ => ⟨rfl, rfl⟩) (fun _ => h0 n (Nat.le_refl _) (by omega)) (fun q hq => by rw [en] at hq; cases hq)) (fun i h1 h2 => h0 i (by omega) h2)
        refine ⟨I', L', w25_10 I L D X (nI n) ⟨fun z => absurd z nle, fun _ => ⟨fun z => absurd z n18, fun _ => ⟨_, I, L, D, r33, fun _ => ?_, fun z => absurd z (by decide)⟩⟩⟩, f1, f2, f3⟩
        rw [e1]; exact W
      | false =>
        rw [hb, if_neg (by decide)] at en
        rw [hb, if_neg (by decide)] at r33
        obtain ⟨I1, L1, r26, F, V⟩ := c26 (ext := ext) D X hL hwf hn hk hx hE
        have r26' := am_up r26 (show 8 ≤ 9 by omega)
        have hL1 : rd_L 11 ls I1 := by
          have e : ∀ a, ¬ a = 29 → I1 a = I a := fun a h => xp_I F a h
          unfold rd_L at hL ⊢
          simp only [Nat.reduceAdd] at hL ⊢
          rw [e 11 (by omega), e 12 (by omega), e 13 (by omega), e 14 (by omega), e 15 (by omega), e 16 (by omega), e 17 (by omega), e 18 (by omega), e 19 (by omega)]
          exact hL
        cases hT : ex_T (xE ls) x.2.2 with
        | none =>
          rw [hT] at en
          rw [hT, if_pos rfl] at r26'
          obtain ⟨I', L', W, f1, f2, f3⟩ := ih (n + 1) I1 L1 (by omega) hL1 (ext1 L1 (fun i _ => ⟨F.2 30 i (by omega), F.2 31 i (by omega)⟩) (fun _ => by rw [F.2 31 n (by omega)]; exact h0 n (Nat.le_refl _) (by omega)) (fun q hq => by rw [en] at hq; cases hq)) (fun i h1 h2 => by rw [F.2 31 i (by omega)]; exact h0 i (by omega) h2)
          refine ⟨I', L', w25_10 I L D X (nI n) ⟨fun z => absurd z nle, fun _ => ⟨fun z => absurd z n18, fun _ => ⟨_, I, L, D, r33, fun z => absurd rfl z, fun _ => ⟨_, I1, L1, D, r26', fun _ => ?_, fun z => absurd rfl z⟩⟩⟩⟩, fun a b h => by rw [f1 a b h, F.1 a b h], fun a b h => by rw [f2 a b h, F.2 a b (by omega)], f3⟩
          rw [e1]; exact W
        | some q =>
          rw [hT] at en
          rw [hT, if_neg (by intro h; cases h)] at r26'
          obtain ⟨v1, v2, v3⟩ := V q hT
          have at30 : am_uL (am_uL L1 30 n (L1 32 0)) 31 n (L1 33 0) 30 n = q.1 := by rw [am_uL_at, if_neg (by omega), am_uL_at, if_pos ⟨rfl, rfl⟩, v2]
          have at31 : am_uL (am_uL L1 30 n (L1 32 0)) 31 n (L1 33 0) 31 n = q.2 := by rw [am_uL_at, if_pos ⟨rfl, rfl⟩, v3]
          obtain ⟨I', L', W, f1, f2, f3⟩ := ih (n + 1) I1 (am_uL (am_uL L1 30 n (L1 32 0)) 31 n (L1 33 0)) (by omega) hL1 (ext1 _ (fun i hi => ⟨by rw [am_uL_at, if_neg (by omega), am_uL_at, if_neg (by omega), F.2 30 i (by omega)], by rw [am_uL_at, if_neg (by omega), am_uL_at, if_neg (by omega), F.2 31 i (by omega)]⟩) (fun z => by rw [en] at z; cases z) (fun r hr => by rw [en] at hr; cases hr; exact ⟨at30, at31⟩)) (fun i h1 h2 => by rw [am_uL_at, if_neg (by omega), am_uL_at, if_neg (by omega), F.2 31 i (by omega)]; exact h0 i (by omega) h2)
          refine ⟨I', L', w25_10 I L D X (nI n) ⟨fun z => absurd z nle, fun _ => ⟨fun z => absurd z n18, fun _ => ⟨_, I, L, D, r33, fun z => absurd rfl z, fun _ => ⟨_, I1, L1, D, r26', fun z => absurd z (by decide), fun _ => ⟨fun z => absurd v1 z, fun _ => ⟨hin, hin, ?_⟩⟩⟩⟩⟩⟩, fun a b h => by rw [f1 a b h, F.1 a b h], fun a b h => by rw [f2 a b h, am_uL_at, if_neg (by omega), am_uL_at, if_neg (by omega), F.2 a b (by omega)], f3⟩
          rw [e1, ni_nat (by omega)]; exact W
  obtain ⟨L1, r208, g1, g2⟩ := c208 (ext := ext) (d := 8) (I := I) (L := L) D X
  obtain ⟨I', L', W, f1, f2, f3⟩ := key ls.length 0 I L1 (by omega) hL (fun i hi => by omega) (fun i _ hi => g1 i hi)
  exact ⟨I', L', am_rn_of mh_25 rfl (w25_0 I L D X ⟨I, L1, D, r208, W⟩), f1, fun a b h => by rw [f2 a b h, g2 a b (by omega)], f3⟩
end FLINES
