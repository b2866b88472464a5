/-! ===== the reference's doubles: all lines; makeMachine ===== -/
section MMACH
variable {ext : Nat → List Value → am_M → Option am_R} {d : Nat} (L : Nat → Nat → Int64) (X : am_Rf) (v1 : Int32) {J : Nat → Nat → Int32} {Y : Nat → Nat → UInt64} {ls : pt_L}
def md_H (ext : Nat → List Value → am_M → Option am_R) (d : Nat) (L : Nat → Nat → Int64) (X : am_Rf) (v1 : Int32) (J : Nat → Nat → Int32) (Y : Nat → Nat → UInt64) (ls : pt_L) (n : Nat) : Prop := ∀ (i : Nat) (x : Nat × Bool × tr_T) (t : Option UInt64), i < n → ls[i]? = some x → og t → md_G ext d L X v1 J Y x.2.2 t (de_S ls i t) (pt_ks (ls.take (i + 1)))
/-- the numbers ahead of line N stand -/
def md_W (ls : pt_L) (N : Nat) (J : Nat → Nat → Int32) (Y : Nat → Nat → UInt64) : Prop := ∀ (j : Nat) (x : Nat × Bool × tr_T), j < N → ls[j]? = some x → x.2.1 = false → J 76 x.1 = flg (de_S ls j (some d_0)) ∧ Y 75 x.1 = dbl (de_S ls j (some d_0))
theorem nt_tree {N m : Nat} {fn : Bool} (hd : 6 ≤ d) (hwf : pt_wf ls) (hmN : m ≤ N) (hK : rm_K ls J) (HW : md_W ls N J Y) (H : md_H ext d L X v1 J Y ls m) : ∀ (T : tr_T) (q : Nat), tr_ok (pt_ev (ls.take m) fn) T q → q + tr_sz T ≤ 96 → rf_rp 0 false J T → ∀ t, og t → md_G ext d L X v1 J Y T t (de_T (de_S ls) t T) (pt_ks (ls.take m) + tr_sz T) := by
  have ogT : ∀ (T : tr_T) (q : Nat) (t : Option UInt64), og t → tr_ok (pt_ev (ls.take m) fn) T q → og (de_T (de_S ls) t T) := fun T q t ht hT => de_T_og ht (fun l x _ hx => de_S_og hwf _ x hx) T q hT
  have lin : ∀ l : Nat, ¬ pt_tl (ls.take m) l = 0 → ∃ b T', ls[pt_ix (ls.take m) l]? = some (l, b, T') ∧ pt_tl (ls.take m) l = (if b = true then 2 else 1) ∧ pt_ix (ls.take m) l < m ∧ J 52 l = nI (tr_rt T') ∧ pt_ks (ls.take (pt_ix (ls.take m) l + 1)) ≤ pt_ks (ls.take m) := by
    intro l hl
    obtain ⟨b, T', h1, h2, h3⟩ := pt_ix_at (ls.take m) l hl
    rw [List.length_take] at h3
    have hx : ls[pt_ix (ls.take m) l]? = some (l, b, T') := by
      rw [List.getElem?_take] at h1
      split at h1
      · exact h1
      · cases h1
    exact ⟨b, T', hx, h2, by omega, (hK.2.2.2.2.2.1 _ _ hx).1, pt_ks_mono ls (by omega)⟩
  refine tr_ind ?_ ?_ ?_ ?_ ?_
  · intro p s hp hk hs hrp t ht
    have z := tr_pos (.leaf p)
    have hp' : p.1 < 192 := by simp only [tr_sz] at hs; omega
    simp only [rf_rp, Nat.zero_add] at hrp
    rcases hk with ⟨k, h⟩ | ⟨k, h⟩ | ⟨k, h0, h, hli⟩ | ⟨k1, k2, k3, k4, k5, h1, h2, h3⟩
    · obtain ⟨g1, g2⟩ := hrp.1 (by omega)
      have eT : de_T (de_S ls) t (.leaf p) = some (FP.i2d (nI p.2.2.1)) := by simp only [de_T]; rw [if_pos k]
      rw [eT]
      exact nt_c (ext := ext) L X v1 hd (by omega) hp' (by rw [g1, k]) (g2 (by omega))
    · obtain ⟨g1, g2⟩ := hrp.1 (by omega)
      have eT : de_T (de_S ls) t (.leaf p) = t := by simp only [de_T]; rw [if_neg (by omega), if_pos k]
      rw [eT]
      exact nt_t (ext := ext) L X v1 hd (by omega) hp' (by rw [g1, k])
    · obtain ⟨g1, g2⟩ := hrp.1 (by omega)
      have htl : pt_tl (ls.take m) p.2.2.1 = 1 := h
      have hli' : p.2.2.2.1 = pt_ix (ls.take m) p.2.2.1 := hli
      obtain ⟨b, T', t1, t2, t3, t4, t5⟩ := lin p.2.2.1 (by omega)
      have hb : b = false := by
        cases b with
        | false => rfl
        | true => rw [htl] at t2; exact absurd t2 (by decide)
      subst hb
      have eT : de_T (de_S ls) t (.leaf p) = de_S ls (pt_ix (ls.take m) p.2.2.1) (some d_0) := by simp only [de_T]; rw [if_neg (by omega), if_neg (by omega), if_pos k, hli']
      rw [eT]
      obtain ⟨w1, w2⟩ := HW _ _ (show pt_ix (ls.take m) p.2.2.1 < N by omega) t1 rfl
      exact nt_l (ext := ext) L X v1 hd (by omega) hp' (by rw [g1, k]) (g2 (by omega)) h0 w1 w2
    · obtain ⟨g1, _⟩ := hrp.2 k1
      have eT : de_T (de_S ls) t (.leaf p) = none := by simp only [de_T]; rw [if_neg (by omega), if_neg (by omega), if_neg (by omega)]
      rw [eT]
      exact nt_o (ext := ext) L X v1 hd (by omega) hp' g1
  · intro p A s hp hk hA ih hs hrp t ht
    simp only [rf_rp, Nat.zero_add] at hrp
    obtain ⟨g1, g2, g3, g4⟩ := hrp
    have zA := tr_pos A
    simp only [tr_sz] at hs
    have hp' : p.1 < 192 := by omega
    have hB : pt_ks (ls.take m) + tr_sz (tr_1 p A) = pt_ks (ls.take m) + tr_sz A + 1 := by simp only [tr_sz]; omega
    have GA := ih (by omega) g4 t ht
    have gX := ogT A _ t ht hA
    rw [hB]
    by_cases k14 : p.2.1 = 14
    · rcases hk with k | k | k | ⟨k, h0, h, hli⟩
      · omega
      · omega
      · omega
      · have htl : pt_tl (ls.take m) p.2.2.1 = 2 := h
        obtain ⟨b, T', t1, t2, t3, t4, t5⟩ := lin p.2.2.1 (by omega)
        have hli' : p.2.2.2.1 = pt_ix (ls.take m) p.2.2.1 := hli
        have eT : de_T (de_S ls) t (tr_1 p A) = de_S ls (pt_ix (ls.take m) p.2.2.1) (de_T (de_S ls) t A) := by simp only [de_T]; rw [if_pos k, hli']
        rw [eT]
        exact nt_14 (ext := ext) L X v1 hd (Nat.le_refl _) (by omega) (by omega) hp' (by rw [g1, k]) (g2 k) h0 g3 t4 GA (H _ _ _ t3 t1 gX)
    · have kk : 3 ≤ p.2.1 ∧ p.2.1 ≤ 5 := by rcases hk with k | k | k | ⟨k, _⟩ <;> omega
      have eT : de_T (de_S ls) t (tr_1 p A) = de_1k p.2.1 (de_T (de_S ls) t A) := by simp only [de_T]; rw [if_neg k14]; rfl
      rw [eT]
      exact nt_1 (ext := ext) L X v1 hd (Nat.le_refl _) (by omega) kk hp' g1 g3 GA gX
  · intro p A B s k1 k2 hp hA hB iha ihb hs hrp t ht
    simp only [rf_rp, Nat.zero_add] at hrp
    obtain ⟨g1, g2, g3, g4, g5⟩ := hrp
    have zA := tr_pos A
    have zB := tr_pos B
    simp only [tr_sz] at hs
    exact nt_2 (ext := ext) L X v1 (BA := pt_ks (ls.take m) + tr_sz A) (by omega) hd (BB := pt_ks (ls.take m) + tr_sz B) (by simp only [tr_sz]; omega) (by simp only [tr_sz]; omega) (by omega) (by omega) g1 g2 g3 (iha (by omega) g4 t ht) (ihb (by omega) g5 t ht) (ogT A _ t ht hA) (ogT B _ t ht hB)
  · intro p A B s k hp hA hB iha ihb hs hrp t ht
    simp only [rf_rp, Nat.zero_add] at hrp
    obtain ⟨g1, g2, g3, g4, g5⟩ := hrp
    have zA := tr_pos A
    have zB := tr_pos B
    simp only [tr_sz] at hs
    exact nt_2 (ext := ext) L X v1 (BA := pt_ks (ls.take m) + tr_sz A) (by omega) hd (BB := pt_ks (ls.take m) + tr_sz B) (by simp only [tr_sz]; omega) (by simp only [tr_sz]; omega) (by omega) (by omega) g1 g2 g3 (iha (by omega) g4 t ht) (ihb (by omega) g5 t ht) (ogT A _ t ht hA) (ogT B _ t ht hB)
  · intro p A B V Z s k hp hA hB hV hZ iha ihb ihv ihz hs hrp t ht
    simp only [rf_rp, Nat.zero_add] at hrp
    obtain ⟨g1, g2, g3, g4, g5, g6, g7, g8, g9⟩ := hrp
    rw [if_neg (by decide)] at g1
    have zA := tr_pos A
    have zB := tr_pos B
    have zV := tr_pos V
    have zZ := tr_pos Z
    simp only [tr_sz] at hs
    exact nt_4 (ext := ext) L X v1 hd (BA := pt_ks (ls.take m) + tr_sz A) (BB := pt_ks (ls.take m) + tr_sz B) (BV := pt_ks (ls.take m) + tr_sz V) (BZ := pt_ks (ls.take m) + tr_sz Z) (by simp only [tr_sz]; omega) (by simp only [tr_sz]; omega) (by simp only [tr_sz]; omega) (by simp only [tr_sz]; omega) (by omega) k (by omega) g1 g2 g3 g4 g5 (iha (by omega) g6 t ht) (ihb (by omega) g7 t ht) (ihv (by omega) g8 t ht) (ihz (by omega) g9 t ht) (ogT A _ t ht hA) (ogT B _ t ht hB)
theorem nt_all {N : Nat} (hd : 6 ≤ d) (hwf : pt_wf ls) (hks : pt_ks ls ≤ 96) (hK : rm_K ls J) (HW : md_W ls N J Y) : ∀ n, n ≤ N + 1 → md_H ext d L X v1 J Y ls n := by
  intro n
  induction n with
  | zero => intro _ i x t h; omega
  | succ n ih =>
    intro hn i x t h hx ht
    have hk := pt_ks_le hx
    rw [de_S_at hwf hx, pt_ks_s hx]
    exact nt_tree (ext := ext) L X v1 hd hwf (show i ≤ N by omega) hK HW (fun j y u hj hy hu => ih (by omega) j y u (by omega) hy hu) x.2.2 _ (hwf i x hx).2.2.2 (by omega) (hK.2.2.2.2.2.1 i x hx).2 t ht
/-- the first k lets' doubles stand -/
def mw (ls : pt_L) (k : Nat) (I : Nat → Nat → Int32) (D : Nat → Nat → UInt64) : Prop := ∀ (j : Nat) (x : Nat × Bool × tr_T), j < k → (pt_lets ls)[j]? = some x → I 76 x.1 = flg (de_T (de_S ls) (some d_0) x.2.2) ∧ D 75 x.1 = dbl (de_T (de_S ls) (some d_0) x.2.2)
def mq_Q (L : Nat → Nat → Int64) (X : am_Rf) (ls : pt_L) (I : Nat → Nat → Int32) (D : Nat → Nat → UInt64) (q : am_R) : Prop := ∃ I' D', q = (none, (I', L, D', am_rf X)) ∧ (∀ a b, ¬ (a = 42 ∧ (b = 47 ∨ b = 68)) → ¬ (a = 59 ∨ a = 60 ∨ a = 76 ∨ a = 78 ∨ a = 80) → I' a b = I a b) ∧ (∀ a b, ¬ (a = 42 ∧ b = 67) → ¬ (a = 75 ∨ a = 77 ∨ a = 79) → D' a b = D a b) ∧ mw ls (pt_nn ls) I' D'
theorem mq_Q_of {I I1 : Nat → Nat → Int32} {D D1 : Nat → Nat → UInt64} (h1 : ∀ a b, ¬ (a = 42 ∧ (b = 47 ∨ b = 68)) → ¬ (a = 59 ∨ a = 60 ∨ a = 76 ∨ a = 78 ∨ a = 80) → I1 a b = I a b) (h2 : ∀ a b, ¬ (a = 42 ∧ b = 67) → ¬ (a = 75 ∨ a = 77 ∨ a = 79) → D1 a b = D a b) : ∀ q, mq_Q L X ls I1 D1 q → mq_Q L X ls I D q := fun q ⟨I', D', e, f1, f2, f3⟩ => ⟨I', D', e, fun a b p1 p2 => by rw [f1 a b p1 p2, h1 a b p1 p2], fun a b p1 p2 => by rw [f2 a b p1 p2, h2 a b p1 p2], f3⟩
theorem c191_l (hd : 6 ≤ d) (hwf : pt_wf ls) (h96 : pt_ks ls ≤ 96) (h12 : pt_nn ls ≤ 12) : ∀ (r k : Nat) (I : Nat → Nat → Int32) (D : Nat → Nat → UInt64), k + r = pt_nn ls → rm_K ls I → mw ls k I D → am_wp ext d mz_191 (15, [some (.ref 42), some (.int (nI k))], [], (I, L, D, am_rf X)) (mq_Q L X ls I D) := by
  intro r
  induction r with
  | zero =>
    intro k I D hk hK hw
    have e : k = pt_nn ls := by omega
    subst e
    refine w191_15 I L D X _ ⟨fun _ => ⟨I, D, rfl, fun _ _ _ _ => rfl, fun _ _ _ _ => rfl, hw⟩, fun z => absurd ?_ z⟩
    rw [hK.1, Int32.le_iff_toInt_le]; exact Int.le_refl _
  | succ r ih =>
    intro k I D hk hK hw
    obtain ⟨x, hx⟩ : ∃ x, (pt_lets ls)[k]? = some x := ⟨_, List.getElem?_eq_getElem (show k < (pt_lets ls).length by show k < pt_nn ls; omega)⟩
    obtain ⟨i, hi, hb, hpre⟩ := lets_at hx
    obtain ⟨w1, w2, w3, hT⟩ := hwf i x hi
    have hkl := pt_ks_le hi
    have hks := pt_ks_s hi
    obtain ⟨h52, hrp⟩ := hK.2.2.2.2.2.1 i x hi
    have h53 := hK.2.2.2.2.2.2 k x hx
    have ek : (nI k).toNatClampNeg = k := ni_nat (by omega)
    have ex1 : (nI x.1).toNatClampNeg = x.1 := ni_nat (by omega)
    have b12 : am_inb (nI k) 12 = true := ni_inb (by omega) (by omega)
    have b26 : am_inb (nI x.1) 26 = true := ni_inb (by omega) (by omega)
    have b52 : am_inb (nI x.1) 52 = true := ni_inb (by omega) (by omega)
    have k1 : nI k + 1 = nI (k + 1) := by rw [show (1 : Int32) = nI 1 from rfl, ni_add (by omega)]
    have nle : ¬ I 42 24 ≤ nI k := by rw [hK.1, ni_le (by omega) (by omega)]; omega
    have oth : ∀ j y, j < k → (pt_lets ls)[j]? = some y → ¬ y.1 = x.1 := by
      intro j y hj hy
      have hy' : (pt_lets (ls.take i))[j]? = some y := by rw [hpre, List.getElem?_take_of_lt hj]; exact hy
      obtain ⟨i', hi', _, _⟩ := lets_at hy'
      exact pt_tl_ne w3 hi'
    -- the numbers ahead
    have HW : md_W ls i I D := by
      intro j y hj hy hyb
      have hy' : (ls.take i)[j]? = some y := by rw [List.getElem?_take_of_lt hj]; exact hy
      obtain ⟨k', hk', hkx⟩ := lets_of hy' hyb
      have hk2 : ((pt_lets ls).take k)[k']? = some y := by rw [← hpre]; exact hkx
      have hlt : k' < k := by
        have := (List.getElem?_eq_some_iff.mp hk2).1
        rw [List.length_take] at this
        omega
      rw [List.getElem?_take_of_lt hlt] at hk2
      rw [de_S_at hwf hy]
      exact hw k' y hlt hk2
    obtain ⟨I1, D1, r188, C⟩ := c188 (ext := ext) (d := 5) L X (I := am_uI I 42 47 0) (D := D) (g := 0) (t := some d_0) (v := FP.dconst0) (nI (tr_rt x.2.2)) (by rw [am_uI_at, if_pos ⟨rfl, rfl⟩]; rfl) (by omega) (fun a h => by cases h; rfl)
    have F0 : md_fr 0 I D (am_uI I 42 47 0) D := ⟨fun p q g1 g2 => by rw [am_uI_at, if_neg (by omega)], fun _ _ _ _ => rfl⟩
    have F1 := md_fr_t F0 (md_C_fr C) (Nat.le_refl _)
    have G := nt_all (ext := ext) L X (nI k) (J := I) (Y := D) hd hwf h96 hK HW (i + 1) (Nat.le_refl _) i x (some d_0) (by omega) hi og_0
    rw [de_S_at hwf hi] at G
    have key : md_hd ext d L X (nI k) I1 D1 (mq_Q L X ls I D) := by
      refine G 0 I1 D1 _ (by omega) (md_J_fr ⟨fun _ _ _ _ => rfl, fun _ => rfl, fun _ => rfl⟩ F1) ⟨C.1, C.2.1, C.2.2.1, C.2.2.2.1, C.2.2.2.2.1⟩ (fun I2 D2 F2 h47 V => ?_)
      have F := md_fr_t F1 F2 (Nat.le_refl _)
      have e53 : I2 53 k = nI x.1 := by rw [F.1 53 k (by omega) (by omega), h53]
      refine w191_45 I2 L D2 X (nI k) ⟨fun _ => ?_, fun z => absurd ?_ z⟩
      · rw [ek, e53, ex1, k1]
        refine ⟨b12, b26, b12, b26, by rw [V.1]; exact flg01 _, ?_⟩
        refine am_wp_mono (ih (k + 1) _ _ (by omega) (rm_K_j hK hwf h96 (fun a b h => ?_)) (fun j y hj hy => ?_)) (mq_Q_of L X (fun a b p1 p2 => ?_) (fun a b p1 p2 => ?_))
        · rw [am_uI_at, if_neg (by unfold iv_j at h; omega), F.1 a b (by unfold iv_j at h; omega) (by unfold iv_j at h; omega)]
        · by_cases hjk : j = k
          · subst hjk
            rw [hx] at hy
            cases hy
            rw [am_uI_at, if_pos ⟨rfl, rfl⟩, am_uD_at, if_pos ⟨rfl, rfl⟩]
            exact V
          · have ne := oth j y (by omega) hy
            rw [am_uI_at, if_neg (by omega), am_uD_at, if_neg (by omega), F.1 76 y.1 (by omega) (by omega), F.2 75 y.1 (by omega) (by omega)]
            exact hw j y (by omega) hy
        · rw [am_uI_at, if_neg (by omega), F.1 a b p1 (by omega)]
        · rw [am_uD_at, if_neg (by omega), F.2 a b p1 (by omega)]
      · rw [h47]; decide
    refine w191_15 I L D X (nI k) ⟨fun z => absurd z nle, fun _ => ?_⟩
    rw [ek, h53, ex1, h52]
    exact ⟨b12, b52, I1, L, D1, am_up r188 hd, key⟩
/-- what is kept of doubles -/
def Cm (ls : pt_L) (I : Nat → Nat → Int32) (D : Nat → Nat → UInt64) : Prop := dm_M ls I D ∧ (I 42 60 = 0 ∨ mw ls (pt_nn ls) I D)
theorem Cm_ok : okd Cm := by
  intro ls I D I' D' hP h36 h60 h76 hD hC
  refine ⟨dm_M_of hC.1 h36 (fun b => hD 35 b (Or.inl rfl)), ?_⟩
  rcases hC.2 with h | h
  · exact Or.inl (h60.trans h)
  · exact Or.inr (fun j x hj hx => by rw [h76, hD 75 _ (Or.inr rfl)]; exact h j x hj hx)
theorem c191 {I : Nat → Nat → Int32} {D : Nat → Nat → UInt64} (hP : iv_P ls I) (hC : Cm ls I D) : ∃ I' D', am_Rn ext 7 191 [.ref 42] (I, L, D, am_rf X) (none, (I', L, D', am_rf X)) ∧ (∀ a b, ¬ (a = 42 ∧ (b = 47 ∨ b = 60 ∨ b = 68)) → ¬ (a = 59 ∨ a = 60 ∨ a = 76 ∨ a = 78 ∨ a = 80) → I' a b = I a b) ∧ (∀ a b, ¬ (a = 42 ∧ b = 67) → ¬ (a = 75 ∨ a = 77 ∨ a = 79) → D' a b = D a b) ∧ mw ls (pt_nn ls) I' D' := by
  obtain ⟨hL, hK, hwf, h18, h96, h12, h6⟩ := hP
  by_cases h0 : I 42 60 = 0
  · obtain ⟨q, rq, I', D', e, f1, f2, f3⟩ := am_of_wp (ext := ext) (d := 6) (as := [.ref 42]) mh_191 rfl (w191_0 I L D X ⟨fun _ => c191_l (ext := ext) (d := 6) L X (Nat.le_refl _) hwf h96 h12 (pt_nn ls) 0 (am_uI I 42 60 1) D (by omega) (rm_K_j hK hwf h96 (fun a b h => by rw [am_uI_at, if_neg (by unfold iv_j at h; omega)])) (fun j x hj => by omega), fun z => absurd h0 z⟩)
    rw [e] at rq
    exact ⟨I', D', rq, fun a b p1 p2 => by rw [f1 a b (by omega) p2, am_uI_at, if_neg (by omega)], f2, f3⟩
  · rcases hC.2 with h | h
    · exact absurd h h0
    · exact ⟨I, D, am_rn_of mh_191 rfl (w191_0 I L D X ⟨fun z => absurd z h0, fun _ => rfl⟩), fun _ _ _ _ => rfl, fun _ _ _ _ => rfl, h⟩
end MMACH
