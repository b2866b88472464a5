/-! ===== the reference's fractions: makeExact ===== -/
/-- the cells that count but for what is kept of fractions and doubles -/
def iv_j (a b : Nat) : Prop := a ≤ 10 ∨ (a = 42 ∧ (b = 1 ∨ b = 4 ∨ b = 5 ∨ b = 17 ∨ b = 21 ∨ b = 24 ∨ b = 25)) ∨ a = 43 ∨ a = 44 ∨ (45 ≤ a ∧ a ≤ 50 ∧ b < 96) ∨ ((a = 51 ∨ a = 52) ∧ b < 26) ∨ a = 53
theorem iv_T_j {I I' : Nat → Nat → Int32} (h : iv_T I) (g : ∀ a b, iv_j a b → I' a b = I a b) : iv_T I' := by
  obtain ⟨t, h1, h2, h3, h4, h5, h6, h7⟩ := h
  refine ⟨t, h1, ?_, ?_, fun i => ?_, ?_, ?_, fun i hi => ?_⟩
  · rw [g 0 8 (by unfold iv_j; omega)]; exact h2
  · rw [g 42 1 (by unfold iv_j; omega)]; exact h3
  · rw [g 1 i (by unfold iv_j; omega), g 43 i (by unfold iv_j; omega)]; exact h4 i
  · rw [g 0 9 (by unfold iv_j; omega), g 42 4 (by unfold iv_j; omega)]; exact h5
  · rw [g 0 10 (by unfold iv_j; omega), g 42 5 (by unfold iv_j; omega)]; exact h6
  · rw [g 44 i (by unfold iv_j; omega)]; exact h7 i hi
theorem rm_K_j {ls : pt_L} {I I' : Nat → Nat → Int32} (h : rm_K ls I) (hwf : pt_wf ls) (hks : pt_ks ls ≤ 96) (g : ∀ a b, iv_j a b → I' a b = I a b) : rm_K ls I' := by
  obtain ⟨h1, h2, h3, h4, h5, h6, h7⟩ := h
  refine ⟨?_, ?_, ?_, ?_, fun l hl => ?_, fun i x hx => ⟨?_, ?_⟩, fun k x hx => ?_⟩
  · rw [g 42 24 (by unfold iv_j; omega)]; exact h1
  · rw [g 42 25 (by unfold iv_j; omega)]; exact h2
  · rw [g 42 21 (by unfold iv_j; omega)]; exact h3
  · rw [g 42 17 (by unfold iv_j; omega)]; exact h4
  · rw [g 51 l (by unfold iv_j; omega)]; exact h5 l hl
  · have := (hwf i x hx).1
    rw [g 52 x.1 (by unfold iv_j; omega)]; exact (h6 i x hx).1
  · have hk := pt_ks_le hx
    exact rf_rp_of x.2.2 _ (hwf i x hx).2.2.2 (h6 i x hx).2 (fun a j q1 q2 q3 q4 => g a j (by unfold iv_j; omega))
  · rw [g 53 k (by unfold iv_j; omega)]; exact h7 k x hx
theorem iv_P_j {ls : pt_L} {I I' : Nat → Nat → Int32} (h : iv_P ls I) (g : ∀ a b, iv_j a b → I' a b = I a b) : iv_P ls I' := by
  obtain ⟨h1, h2, h3, h4, h5, h6, h7⟩ := h
  exact ⟨rd_L2_of h1 (fun a ha => funext fun b => g a b (by unfold iv_j; omega)), rm_K_j h2 h3 h5 g, h3, h4, h5, h6, h7⟩
theorem fl_at {α : Type} {f : α → Bool} : ∀ (ls : List α) (k : Nat) (x : α), (ls.filter f)[k]? = some x → ∃ i : Nat, ls[i]? = some x ∧ f x = true ∧ (ls.take i).filter f = (ls.filter f).take k
  | [], k, x, h => by simp at h
  | y :: ls, k, x, h => by
    by_cases hy : f y = true
    · rw [List.filter_cons_of_pos hy] at h ⊢
      match k, h with
      | 0, h => cases h; exact ⟨0, rfl, hy, rfl⟩
      | k + 1, h =>
        obtain ⟨i, h1, h2, h3⟩ := fl_at ls k x h
        exact ⟨i + 1, h1, h2, by rw [List.take_succ_cons, List.filter_cons_of_pos hy, h3, List.take_succ_cons]⟩
    · rw [List.filter_cons_of_neg hy] at h ⊢
      obtain ⟨i, h1, h2, h3⟩ := fl_at ls k x h
      exact ⟨i + 1, h1, h2, by rw [List.take_succ_cons, List.filter_cons_of_neg hy, h3]⟩
theorem lets_at {ls : pt_L} {k : Nat} {x : Nat × Bool × tr_T} (h : (pt_lets ls)[k]? = some x) : ∃ i : Nat, ls[i]? = some x ∧ x.2.1 = false ∧ pt_lets (ls.take i) = (pt_lets ls).take k := by
  obtain ⟨i, h1, h2, h3⟩ := fl_at ls k x h
  exact ⟨i, h1, by simpa using h2, h3⟩
theorem lets_of {ls : pt_L} {i : Nat} {x : Nat × Bool × tr_T} (h : ls[i]? = some x) (hb : x.2.1 = false) : ∃ k : Nat, k < pt_nn ls ∧ (pt_lets ls)[k]? = some x := by
  have hm : x ∈ pt_lets ls := List.mem_filter.mpr ⟨List.mem_of_getElem? h, by rw [hb]; rfl⟩
  obtain ⟨k, hk⟩ := List.getElem?_of_mem hm
  exact ⟨k, (List.getElem?_eq_some_iff.mp hk).1, hk⟩
/-- a letter of a number ahead is among the lets ahead -/
theorem lets_lt {ls : pt_L} {k i l : Nat} (h : pt_lets (ls.take i) = (pt_lets ls).take k) (hl : pt_tl (ls.take i) l = 1) : ∃ (j : Nat) (T : tr_T), j < k ∧ (pt_lets ls)[j]? = some (l, false, T) ∧ ls[pt_ix (ls.take i) l]? = some (l, false, T) := by
  obtain ⟨b, T, g1, g2, g3⟩ := pt_ix_at (ls.take i) l (by omega)
  have hb : b = false := by
    cases b with
    | false => rfl
    | true => rw [g2] at hl; exact absurd hl (by decide)
  subst hb
  obtain ⟨j, h1, h2⟩ := lets_of g1 rfl
  have h2' : ((pt_lets ls).take k)[j]? = some (l, false, T) := by rw [← h]; exact h2
  have hjk : j < k := by
    have := (List.getElem?_eq_some_iff.mp h2').1
    rw [List.length_take] at this
    omega
  refine ⟨j, T, hjk, by rw [List.getElem?_take_of_lt hjk] at h2'; exact h2', ?_⟩
  rw [List.length_take] at g3
  rw [List.getElem?_take_of_lt (by omega)] at g1
  exact g1
/-- the first k lets' fractions stand -/
def xw (ls : pt_L) (k : Nat) (I : Nat → Nat → Int32) (L : Nat → Nat → Int64) : Prop := ∀ (j : Nat) (x : Nat × Bool × tr_T), j < k → (pt_lets ls)[j]? = some x → (ex_T (xE ls) x.2.2 = none → I 71 x.1 = 0) ∧ (∀ q, ex_T (xE ls) x.2.2 = some q → I 71 x.1 = 1 ∧ L 69 x.1 = q.1 ∧ L 70 x.1 = q.2)
theorem ex_in {E : Nat → Option (Int64 × Int64)} {e : pt_E} {S : tr_T} (hS : ex_T E S = none) : ∀ (T : tr_T) (s : Nat), tr_ok e T s → tr_in S T → ex_T E T = none := by
  refine tr_ind ?_ ?_ ?_ ?_ ?_
  · intro p s _ _ h
    have e1 : S = .leaf p := h
    rw [← e1]; exact hS
  · intro p A s _ _ _ ih h
    rcases h with rfl | h
    · exact hS
    · show ex_1 p (ex_T E A) = none
      rw [ih h]; unfold ex_1; split <;> rfl
  · intro p A B s _ _ _ _ _ iha ihb h
    rcases h with rfl | h | h
    · exact hS
    · show ex_2 p (ex_T E A) (ex_T E B) = none
      rw [iha h]; unfold ex_2; split <;> rfl
    · show ex_2 p (ex_T E A) (ex_T E B) = none
      rw [ihb h]; unfold ex_2
      cases ex_T E A <;> split <;> rfl
  · intro p A B s hk _ _ _ _ _ h
    show ex_2 p (ex_T E A) (ex_T E B) = none
    unfold ex_2; rw [if_neg (by omega)]
  · intros; rfl
section MMAKE
variable {ext : Nat → List Value → am_M → Option am_R} {d : Nat} (D : Nat → Nat → UInt64) (X : am_Rf) {ls : pt_L}
theorem c180_i {E : Nat → Option (Int64 × Int64)} {e : pt_E} (hG : ∀ i q, E i = some q → xg q) {I : Nat → Nat → Int32} {T : tr_T} {s : Nat} (hT : tr_ok e T s) (hs : s + tr_sz T ≤ 96) (hrp : rf_rp 0 false I T) {l : List tr_T} (hlen : l.length ≤ 96) (hat : tl_at I l) (hin : ∀ S, S ∈ l → tr_in S T) (hcl : tl_cl l 0) (h0 : l[0]? = some T) (v1 v2 : Int32) :
    ∀ (k : Nat) (L : Nat → Nat → Int64) (P : am_R → Prop), k ≤ l.length → (∀ l, l < 26 → e.2.1 l = 1 → (E (e.2.2 l) = none → I 71 l = 0) ∧ (∀ q, E (e.2.2 l) = some q → I 71 l = 1 ∧ L 69 l = q.1 ∧ L 70 l = q.2)) → (∀ (j : Nat) S, k ≤ j → l[j]? = some S → xv E L S) → (∀ L', (∀ a b, ¬ (a = 72 ∨ a = 73) → L' a b = L a b) → (∀ q, ex_T E T = some q → L' 72 (tr_rt T) = q.1 ∧ L' 73 (tr_rt T) = q.2) → am_wp ext (d + 3) mz_180 (78, [some (.ref 42), some (.int v1), some (.int v2), none, some (.int (if ex_T E T = none then 0 else 1)), none], [], (I, L', D, am_rf X)) P) →
    am_wp ext (d + 3) mz_180 (49, [some (.ref 42), some (.int v1), some (.int v2), none, some (.int 1), some (.int (nI k - 1))], [], (I, L, D, am_rf X)) P := by
  intro k
  induction k with
  | zero =>
    intro L P hk hE hv K
    obtain ⟨q, hq, v3, v4⟩ := hv 0 T (Nat.zero_le _) h0
    have := K L (fun _ _ _ => rfl) (fun r hr => by rw [hq] at hr; cases hr; exact ⟨v3, v4⟩)
    rw [hq, if_neg (by intro h; cases h)] at this
    exact w180_49 I L D X v1 v2 1 _ ⟨fun _ => this, fun z => absurd (by decide) z⟩
  | succ k ih =>
    intro L P hk hE hv K
    obtain ⟨S, hS⟩ : ∃ S, l[k]? = some S := ⟨_, List.getElem?_eq_getElem (by omega)⟩
    have hSi := hin S (List.mem_of_getElem? hS)
    obtain ⟨s', ok, q1, q2, q3, q4⟩ := tr_in_rg T s hT S hSi
    obtain ⟨L1, r, F, V⟩ := c179 (ext := ext) (d := d) D X hG hE ok (by omega) (tr_in_rp T s hT hrp S hSi) (fun A hA => by
      obtain ⟨j, hj, hjA⟩ := hcl k S (Nat.zero_le _) hS A hA
      obtain ⟨_, _, _, _, _, q5⟩ := tr_in_rg T s hT A (hin A (List.mem_of_getElem? hjA))
      exact ⟨hv j A (by omega) hjA, by omega⟩)
    have e1 : nI (k + 1) - 1 = nI k := by rw [show (1 : Int32) = nI 1 from rfl, ni_sub (by omega) (by omega)]; rfl
    have e2 : nI k + (-1) = nI k - 1 := by rw [Int32.sub_eq_add_neg]
    rw [e1]
    refine w180_49 I L D X v1 v2 1 (nI k) ⟨fun z => absurd z (ni_nn (by omega)), fun _ => ⟨fun z => absurd z (by decide), fun _ => ⟨ni_inb (by omega) (by omega), _, I, L1, D, by rw [ni_nat (by omega), hat k S hS]; exact r, ?_⟩⟩⟩
    rw [e2]
    cases hx : ex_T E S with
    | none =>
      rw [if_pos rfl]
      have hTn := ex_in hx T s hT hSi
      have := K L1 (fun a b h => F a b (by omega)) (fun q hq => by rw [hTn] at hq; cases hq)
      rw [hTn, if_pos rfl] at this
      exact w180_49 I L1 D X v1 v2 0 _ ⟨fun _ => this, fun _ => ⟨fun _ => this, fun z => absurd rfl z⟩⟩
    | some q =>
      rw [if_neg (by intro h; cases h)]
      refine ih L1 P (by omega) (fun l h1 h2 => ?_) (fun j A hj hA => ?_) (fun L' f v => K L' (fun a b h => by rw [f a b h, F a b (by omega)]) v)
      · rw [F 69 l (by omega), F 70 l (by omega)]; exact hE l h1 h2
      · by_cases hjk : j = k
        · subst hjk
          rw [hS] at hA
          cases hA
          exact ⟨q, hx, V q hx⟩
        · by_cases hrt : tr_rt A = tr_rt S
          · have := tr_inj T s hT A S (hin A (List.mem_of_getElem? hA)) hSi hrt
            subst this
            exact ⟨q, hx, V q hx⟩
          · obtain ⟨p, hp, p1, p2⟩ := hv j A (by omega) hA
            exact ⟨p, hp, by rw [F 72 _ (by omega)]; exact p1, by rw [F 73 _ (by omega)]; exact p2⟩
def mm_Q (D : Nat → Nat → UInt64) (X : am_Rf) (ls : pt_L) (I : Nat → Nat → Int32) (L : Nat → Nat → Int64) (q : am_R) : Prop := ∃ I' L', q = (none, (I', L', D, am_rf X)) ∧ (∀ a b, ¬ a = 71 → ¬ a = 74 → I' a b = I a b) ∧ (∀ a b, ¬ (a = 69 ∨ a = 70 ∨ a = 72 ∨ a = 73) → L' a b = L a b) ∧ xw ls (pt_nn ls) I' L'
theorem mm_Q_of {I I1 : Nat → Nat → Int32} {L L1 : Nat → Nat → Int64} (h1 : ∀ a b, ¬ a = 71 → ¬ a = 74 → I1 a b = I a b) (h2 : ∀ a b, ¬ (a = 69 ∨ a = 70 ∨ a = 72 ∨ a = 73) → L1 a b = L a b) : ∀ q, mm_Q D X ls I1 L1 q → mm_Q D X ls I L q := fun q ⟨I', L', e, f1, f2, f3⟩ => ⟨I', L', e, fun a b p1 p2 => by rw [f1 a b p1 p2, h1 a b p1 p2], fun a b p => by rw [f2 a b p, h2 a b p], f3⟩
theorem c180_l (hwf : pt_wf ls) (h96 : pt_ks ls ≤ 96) (h12 : pt_nn ls ≤ 12) : ∀ (r k : Nat) (I : Nat → Nat → Int32) (L : Nat → Nat → Int64), k + r = pt_nn ls → rm_K ls I → xw ls k I L → am_wp ext (d + 3) mz_180 (15, [some (.ref 42), some (.int (nI k)), none, none, none, none], [], (I, L, D, am_rf X)) (mm_Q D X ls I L) := by
  intro r
  induction r with
  | zero =>
    intro k I L hk hK hw
    have e : k = pt_nn ls := by omega
    subst e
    refine w180_15 I L D X _ ⟨fun _ => ⟨I, L, rfl, fun _ _ _ _ => rfl, fun _ _ _ => rfl, hw⟩, fun z => absurd ?_ z⟩
    rw [hK.1, Int32.le_iff_toInt_le]; exact Int.le_refl _
  | succ r ih =>
    intro k I L hk hK hw
    obtain ⟨x, hx⟩ : ∃ x, (pt_lets ls)[k]? = some x := ⟨_, List.getElem?_eq_getElem (show k < (pt_lets ls).length by show k < pt_nn ls; omega)⟩
    obtain ⟨i, hi, hb, hpre⟩ := lets_at hx
    obtain ⟨w1, w2, w3, hT⟩ := hwf i x hi
    have hkl := pt_ks_le hi
    obtain ⟨h52, hrp⟩ := hK.2.2.2.2.2.1 i x hi
    have h53 := hK.2.2.2.2.2.2 k x hx
    obtain ⟨I1, l, r178, f1, f2, f3, f4, f5, f6⟩ := c178 (ext := ext) (d := d + 2) L D X hT (by omega) hrp
    have ek : (nI k).toNatClampNeg = k := ni_nat (by omega)
    have ex1 : (nI x.1).toNatClampNeg = x.1 := ni_nat (by omega)
    have hrt := tr_rt_rg _ _ hT
    have ert : (nI (tr_rt x.2.2)).toNatClampNeg = tr_rt x.2.2 := ni_nat (by omega)
    have brt : am_inb (nI (tr_rt x.2.2)) 96 = true := ni_inb (by omega) (by omega)
    have b26 : am_inb (nI x.1) 26 = true := ni_inb (by omega) (by omega)
    have b52 : am_inb (nI x.1) 52 = true := ni_inb (by omega) (by omega)
    have k1 : nI k + 1 = nI (k + 1) := by rw [show (1 : Int32) = nI 1 from rfl, ni_add (by omega)]
    have nle : ¬ I 42 24 ≤ nI k := by rw [hK.1, ni_le (by omega) (by omega)]; omega
    -- letters ahead are other letters
    have oth : ∀ j y, j < k → (pt_lets ls)[j]? = some y → ¬ y.1 = x.1 := by
      intro j y hj hy
      have hy' : (pt_lets (ls.take i))[j]? = some y := by rw [hpre, List.getElem?_take_of_lt hj]; exact hy
      obtain ⟨i', hi', _, _⟩ := lets_at hy'
      exact pt_tl_ne w3 hi'
    have hE : ∀ c, c < 26 → (pt_ev (ls.take i) x.2.1).2.1 c = 1 → (xE ls ((pt_ev (ls.take i) x.2.1).2.2 c) = none → I1 71 c = 0) ∧ (∀ q, xE ls ((pt_ev (ls.take i) x.2.1).2.2 c) = some q → I1 71 c = 1 ∧ L 69 c = q.1 ∧ L 70 c = q.2) := by
      intro c hc htl
      obtain ⟨j, T', hj, hjl, hjx⟩ := lets_lt hpre htl
      have := hw j _ hj hjl
      have e : xE ls ((pt_ev (ls.take i) x.2.1).2.2 c) = ex_T (xE ls) T' := by
        show xE ls (pt_ix (ls.take i) c) = _
        rw [xE_at hwf hjx, if_neg (show ¬ (false = true) by decide)]
      rw [e, f1 71 c (by omega)]
      exact this
    -- the next round
    have next : ∀ (I2 : Nat → Nat → Int32) (L2 : Nat → Nat → Int64), (∀ a b, ¬ (a = 71 ∧ b = x.1) → ¬ a = 74 → I2 a b = I a b) → (∀ a b, ¬ (a = 72 ∨ a = 73) → ¬ ((a = 69 ∨ a = 70) ∧ b = x.1) → L2 a b = L a b) → (ex_T (xE ls) x.2.2 = none → I2 71 x.1 = 0) → (∀ q, ex_T (xE ls) x.2.2 = some q → I2 71 x.1 = 1 ∧ L2 69 x.1 = q.1 ∧ L2 70 x.1 = q.2) → am_wp ext (d + 3) mz_180 (15, [some (.ref 42), some (.int (nI (k + 1))), none, none, none, none], [], (I2, L2, D, am_rf X)) (mm_Q D X ls I L) := by
      intro I2 L2 g1 g2 g3 g4
      refine am_wp_mono (ih (k + 1) I2 L2 (by omega) (rm_K_j hK hwf h96 (fun a b h => g1 a b (by unfold iv_j at h; omega) (by unfold iv_j at h; omega))) (fun j y hj hy => ?_)) (mm_Q_of D X (fun a b p1 p2 => g1 a b (by omega) p2) (fun a b p => g2 a b (by omega) (by omega)))
      by_cases hjk : j = k
      · subst hjk
        rw [hx] at hy
        cases hy
        exact ⟨g3, g4⟩
      · have ne := oth j y (by omega) hy
        rw [g1 71 y.1 (by omega) (by omega), g2 69 y.1 (by omega) (by omega), g2 70 y.1 (by omega) (by omega)]
        exact hw j y (by omega) hy
    refine w180_15 I L D X (nI k) ⟨fun z => absurd z nle, fun _ => ?_⟩
    rw [ek, h53, ex1, h52]
    refine ⟨ni_inb (by omega) (by omega), b52, _, I1, L, D, r178, ?_⟩
    refine c180_i (ext := ext) (d := d) D X (E := xE ls) (xE_good hwf) hT (by omega) (rf_rp_of x.2.2 _ hT hrp (fun a j _ _ _ _ => f1 a j (by omega))) f2 f3 f4 f5 (f6 0 x.2.2 rfl) (nI k) (nI x.1) l.length L _ (Nat.le_refl _) hE (fun j S hj hS => by have := (List.getElem?_eq_some_iff.mp hS).1; omega) (fun L1 g1 g2 => ?_)
    have h52' : ∀ v : Int32, am_uI I1 71 x.1 v 52 x.1 = nI (tr_rt x.2.2) := fun v => by rw [am_uI_at, if_neg (by omega), f1 52 _ (by omega), h52]
    have h52'' : I1 52 x.1 = nI (tr_rt x.2.2) := by rw [f1 52 _ (by omega), h52]
    cases hq : ex_T (xE ls) x.2.2 with
    | none =>
      rw [if_pos rfl]
      refine w180_78 I1 L1 D X (nI k) (nI x.1) 0 ⟨b26, Or.inl rfl, fun _ => w180_111 _ L1 D X (nI k) (nI x.1) 0 0 (nI x.1) ⟨b26, fun _ => ⟨b26, ?_⟩, fun z => absurd rfl z⟩, fun z => absurd rfl z⟩
      rw [k1, ex1]
      refine next _ _ (fun a b p1 p2 => by rw [am_uI_at, if_neg p1, f1 a b p2]) (fun a b p1 p2 => by rw [am_uL_at, if_neg (by omega), am_uL_at, if_neg (by omega), g1 a b p1]) (fun _ => by rw [am_uI_at, if_pos ⟨rfl, rfl⟩]) (fun q h => by rw [hq] at h; cases h)
    | some q =>
      rw [if_neg (by intro h; cases h)]
      obtain ⟨v1, v2⟩ := g2 q hq
      refine w180_78 I1 L1 D X (nI k) (nI x.1) 1 ⟨b26, Or.inr rfl, fun z => absurd z (by decide), fun _ => ?_⟩
      rw [ex1, h52'', ert, v1]
      refine ⟨b52, brt, w180_111 _ L1 D X (nI k) (nI x.1) 1 q.1 (nI x.1) ⟨b26, fun z => absurd z (by decide), fun _ => ?_⟩⟩
      rw [ex1, h52', ert, v2, k1]
      refine ⟨b52, brt, b26, next _ _ (fun a b p1 p2 => by rw [am_uI_at, if_neg p1, f1 a b p2]) (fun a b p1 p2 => by rw [am_uL_at, if_neg (by omega), am_uL_at, if_neg (by omega), g1 a b p1]) (fun h => by rw [hq] at h; cases h) (fun r h => ?_)⟩
      rw [hq] at h
      cases h
      exact ⟨by rw [am_uI_at, if_pos ⟨rfl, rfl⟩], by rw [am_uL_at, if_neg (by omega), am_uL_at, if_pos ⟨rfl, rfl⟩], by rw [am_uL_at, if_pos ⟨rfl, rfl⟩]⟩
/-- what is kept of fractions -/
def Cx (ls : pt_L) (I : Nat → Nat → Int32) (L : Nat → Nat → Int64) : Prop := xl (xE ls) 18 L ∧ (I 42 59 = 0 ∨ xw ls (pt_nn ls) I L)
theorem c180 {I : Nat → Nat → Int32} {L : Nat → Nat → Int64} (hP : iv_P ls I) (hC : Cx ls I L) : ∃ I' L', am_Rn ext (d + 4) 180 [.ref 42] (I, L, D, am_rf X) (none, (I', L', D, am_rf X)) ∧ (∀ a b, ¬ (a = 42 ∧ b = 59) → ¬ a = 71 → ¬ a = 74 → I' a b = I a b) ∧ (∀ a b, ¬ (a = 69 ∨ a = 70 ∨ a = 72 ∨ a = 73) → L' a b = L a b) ∧ xw ls (pt_nn ls) I' L' := by
  obtain ⟨hL, hK, hwf, h18, h96, h12, h6⟩ := hP
  by_cases h0 : I 42 59 = 0
  · obtain ⟨q, rq, I', L', e, f1, f2, f3⟩ := am_of_wp (ext := ext) (d := d + 3) (as := [.ref 42]) mh_180 rfl (w180_0 I L D X ⟨fun _ => c180_l (ext := ext) (d := d) D X hwf h96 h12 (pt_nn ls) 0 (am_uI I 42 59 1) L (by omega) (rm_K_j hK hwf h96 (fun a b h => by rw [am_uI_at, if_neg (by unfold iv_j at h; omega)])) (fun j x hj => by omega), fun z => absurd h0 z⟩)
    rw [e] at rq
    exact ⟨I', L', rq, fun a b p1 p2 p3 => by rw [f1 a b p2 p3, am_uI_at, if_neg p1], f2, f3⟩
  · rcases hC.2 with h | h
    · exact absurd h h0
    · exact ⟨I, L, am_rn_of mh_180 rfl (w180_0 I L D X ⟨fun z => absurd z h0, fun _ => rfl⟩), fun _ _ _ _ _ => rfl, fun _ _ _ => rfl, h⟩
end MMAKE
