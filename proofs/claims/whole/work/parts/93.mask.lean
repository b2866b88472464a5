/-! ===== the reference asks: all lines; askKnot ===== -/
section MASK
variable {ext : Nat → List Value → am_M → Option am_R} {d : Nat} (D : Nat → Nat → UInt64) (X : am_Rf) {J : Nat → Nat → Int32} {w : Nat} {ls : pt_L}
def me_H (ext : Nat → List Value → am_M → Option am_R) (d : Nat) (D : Nat → Nat → UInt64) (X : am_Rf) (J : Nat → Nat → Int32) (w : Nat) (ls : pt_L) (n : Nat) : Prop := ∀ (i : Nat) (x : Nat × Bool × tr_T) (a b : Int64), i < n → ls[i]? = some x → gd2 w a b → me_G ext d D X J w x.2.2 (ev_L w ls n i a b) a b (pt_ks (ls.take (i + 1)))
theorem pt_ks_s {i : Nat} {x : Nat × Bool × tr_T} (hx : ls[i]? = some x) : pt_ks (ls.take (i + 1)) = pt_ks (ls.take i) + tr_sz x.2.2 := by
  have e : ls.take (i + 1) = ls.take i ++ [x] := by rw [List.take_add_one, hx]; rfl
  rw [e, pt_ks_app]
theorem me_tree {n m : Nat} {fn : Bool} (hw : w ≤ 20) (hd : 6 ≤ d) (hwf : pt_wf ls) (hmn : m ≤ n) (hK : rm_K ls J) (H : me_H ext d D X J w ls n) : ∀ (T : tr_T) (q : Nat), tr_ok (pt_ev (ls.take m) fn) T q → q + tr_sz T ≤ 96 → rf_rp 0 false J T → ∀ a b, gd2 w a b → me_G ext d D X J w T (ev_T w (ev_L w ls n) T a b) a b (pt_ks (ls.take m) + tr_sz T) := by
  have gA := gd_all_of hw hwf
  -- a letter's line
  have lin : ∀ l : Nat, ¬ pt_tl (ls.take m) l = 0 → ∃ T', J 52 l = nI (tr_rt T') ∧ 1 ≤ pt_ks (ls.take (pt_ix (ls.take m) l + 1)) ∧ pt_ks (ls.take (pt_ix (ls.take m) l + 1)) ≤ pt_ks (ls.take m) ∧ (∀ c e, gd2 w c e → me_G ext d D X J w T' (ev_L w ls n (pt_ix (ls.take m) l) c e) c e (pt_ks (ls.take (pt_ix (ls.take m) l + 1)))) := by
    intro l hl
    obtain ⟨b, T', h1, h2, h3⟩ := pt_ix_at (ls.take m) l hl
    rw [List.length_take] at h3
    have hx : ls[pt_ix (ls.take m) l]? = some (l, b, T') := by
      rw [List.getElem?_take] at h1
      split at h1
      · exact h1
      · cases h1
    have e := pt_ks_s hx
    have := tr_pos T'
    refine ⟨T', (hK.2.2.2.2.2.1 _ _ hx).1, by rw [e]; simp only; omega, pt_ks_mono ls (by omega), fun c e g => H _ _ c e (by omega) hx g⟩
  have gE : ∀ i c e, gd2 w c e → gd w (ev_L w ls n i c e).1 := fun i c e h => gd_all_L hwf gA n i c e h
  refine tr_ind ?_ ?_ ?_ ?_ ?_
  · intro p s hp hk hs hrp a b hab
    have z := tr_pos (.leaf p)
    have hp' : p.1 < 192 := by simp only [tr_sz] at hs; omega
    simp only [rf_rp, Nat.zero_add] at hrp
    show me_G ext d D X J w (.leaf p) (ev_0 w (ev_L w ls n) p a b) a b _
    unfold ev_0
    rcases hk with ⟨k, h⟩ | ⟨k, h⟩ | ⟨k, h0, h, hli⟩ | ⟨k1, k2, k3, k4, k5, h1, h2, h3⟩
    · obtain ⟨g1, g2⟩ := hrp.1 (by omega)
      rw [if_pos k]
      exact mt_c (ext := ext) D X hd (by omega) hp' (by rw [g1, k]) (g2 (by omega))
    · obtain ⟨g1, g2⟩ := hrp.1 (by omega)
      rw [if_neg (by omega), if_pos k]
      exact mt_t (ext := ext) D X hd (by omega) hp' (by rw [g1, k])
    · obtain ⟨g1, g2⟩ := hrp.1 (by omega)
      have htl : pt_tl (ls.take m) p.2.2.1 = 1 := h
      obtain ⟨T', t1, t2, t3, t4⟩ := lin p.2.2.1 (by omega)
      rw [if_neg (by omega), if_neg (by omega), if_pos k]
      have hli' : p.2.2.2.1 = pt_ix (ls.take m) p.2.2.1 := hli
      rw [hli']
      exact mt_l (ext := ext) D X hw hd (by omega) t2 hp' (by rw [g1, k]) (g2 (by omega)) h0 t1 (t4 0 0 (gd2_0 w)) (gE _ _ _ (gd2_0 w))
    · obtain ⟨g1, g2, g3, g4, g5⟩ := hrp.2 k1
      have htl : pt_tl (ls.take m) p.2.2.1 = 2 := k4
      obtain ⟨T', t1, t2, t3, t4⟩ := lin p.2.2.1 (by omega)
      have hli' : p.2.2.2.1 = pt_ix (ls.take m) p.2.2.1 := k5
      rw [if_neg (by omega), if_neg (by omega), if_neg (by omega), hli']
      have nj : no_J J p.1 (p.2.1 - 15) p.2.2.1 (tr_rt T') p.2.2.2.2.1 p.2.2.2.2.2 := ⟨hp', g1, g2, g3, k3, g4, g5, t1⟩
      split
      · rename_i k15
        rw [k15] at nj
        exact mt_n (ext := ext) D X hw hd (by omega) t2 nj h1 h2 h3 t4 (fun c e g => gE _ _ _ g)
      · exact mt_p (ext := ext) D X hw hd (by omega) t2 (by omega) nj h1 h2 h3 t4
  · intro p A s hp hk hA ih hs hrp a b hab
    simp only [rf_rp, Nat.zero_add] at hrp
    obtain ⟨g1, g2, g3, g4⟩ := hrp
    have zA := tr_pos A
    simp only [tr_sz] at hs
    have hp' : p.1 < 192 := by omega
    have hB : pt_ks (ls.take m) + tr_sz (tr_1 p A) = pt_ks (ls.take m) + tr_sz A + 1 := by simp only [tr_sz]; omega
    have GA := ih (by omega) g4 a b hab
    have gX := ev_T_gd hw (ev_L w ls n) gE A _ hA a b hab
    show me_G ext d D X J w (tr_1 p A) (ev_1 w (ev_L w ls n) p (ev_T w (ev_L w ls n) A a b)) a b _
    rw [hB]
    have one : (3 ≤ p.2.1 ∧ p.2.1 ≤ 5) → me_G ext d D X J w (tr_1 p A) (ev_1 w (ev_L w ls n) p (ev_T w (ev_L w ls n) A a b)) a b (pt_ks (ls.take m) + tr_sz A + 1) := by
      intro h
      rw [ev_1_m _ (by omega)]
      exact mt_1 (ext := ext) D X hw hd (Nat.le_refl _) (by omega) h hp' g1 g3 GA gX
    rcases hk with k | k | k | ⟨k, h0, h, hli⟩
    · exact one (by omega)
    · exact one (by omega)
    · exact one (by omega)
    · have htl : pt_tl (ls.take m) p.2.2.1 = 2 := h
      obtain ⟨T', t1, t2, t3, t4⟩ := lin p.2.2.1 (by omega)
      have hli' : p.2.2.2.1 = pt_ix (ls.take m) p.2.2.1 := hli
      exact mt_14 (ext := ext) D X hw hd (Bf := pt_ks (ls.take (pt_ix (ls.take m) p.2.2.1 + 1))) (Nat.le_refl _) (by omega) (by omega) k hp' (by rw [g1, k]) (g2 k) h0 g3 t1 GA gX (fun c e g => by rw [hli']; exact t4 c e g) (fun c e g => gE _ _ _ g)
  · intro p A B s k1 k2 hp hA hB iha ihb hs hrp a b hab
    simp only [rf_rp, Nat.zero_add] at hrp
    obtain ⟨g1, g2, g3, g4, g5⟩ := hrp
    have zA := tr_pos A
    have zB := tr_pos B
    simp only [tr_sz] at hs
    have hp' : p.1 < 192 := by omega
    have gY := ev_T_gd hw (ev_L w ls n) gE B _ hB a b hab
    show me_G ext d D X J w (tr_2 p A B) (ev_2 w p (ev_T w (ev_L w ls n) A a b) (ev_T w (ev_L w ls n) B a b)) a b _
    rw [ev_2_m]
    exact mt_2 (ext := ext) D X hw hd (BA := pt_ks (ls.take m) + tr_sz A) (BB := pt_ks (ls.take m) + tr_sz B) (by simp only [tr_sz]; omega) (by simp only [tr_sz]; omega) (by omega) (by omega) (by omega) hp' g1 g2 g3 (iha (by omega) g4 a b hab) (ihb (by omega) g5 a b hab) gY
  · intro p A B s k hp hA hB iha ihb hs hrp a b hab
    simp only [rf_rp, Nat.zero_add] at hrp
    obtain ⟨g1, g2, g3, g4, g5⟩ := hrp
    have zA := tr_pos A
    have zB := tr_pos B
    simp only [tr_sz] at hs
    have hp' : p.1 < 192 := by omega
    have gY := ev_T_gd hw (ev_L w ls n) gE B _ hB a b hab
    show me_G ext d D X J w (tr_2 p A B) (ev_2 w p (ev_T w (ev_L w ls n) A a b) (ev_T w (ev_L w ls n) B a b)) a b _
    rw [ev_2_m]
    exact mt_2 (ext := ext) D X hw hd (BA := pt_ks (ls.take m) + tr_sz A) (BB := pt_ks (ls.take m) + tr_sz B) (by simp only [tr_sz]; omega) (by simp only [tr_sz]; omega) (by omega) (by omega) (by omega) hp' g1 g2 g3 (iha (by omega) g4 a b hab) (ihb (by omega) g5 a b hab) gY
  · intro p A B V Z s k hp hA hB hV hZ iha ihb ihv ihz hs hrp a b hab
    simp only [rf_rp, Nat.zero_add] at hrp
    obtain ⟨g1, g2, g3, g4, g5, g6, g7, g8, g9⟩ := hrp
    rw [if_neg (by decide)] at g1
    have zA := tr_pos A
    have zB := tr_pos B
    have zV := tr_pos V
    have zZ := tr_pos Z
    simp only [tr_sz] at hs
    have hp' : p.1 < 192 := by omega
    have gX := ev_T_gd hw (ev_L w ls n) gE A _ hA a b hab
    have gY := ev_T_gd hw (ev_L w ls n) gE B _ hB a b hab
    have gV := ev_T_gd hw (ev_L w ls n) gE V _ hV a b hab
    have gZ := ev_T_gd hw (ev_L w ls n) gE Z _ hZ a b hab
    exact mt_4 (ext := ext) D X hw hd (Ba := pt_ks (ls.take m) + tr_sz A) (Bb := pt_ks (ls.take m) + tr_sz B) (Bv := pt_ks (ls.take m) + tr_sz V) (Bz := pt_ks (ls.take m) + tr_sz Z) (by simp only [tr_sz]; omega) (by simp only [tr_sz]; omega) (by simp only [tr_sz]; omega) (by simp only [tr_sz]; omega) (by omega) (by omega) (by omega) (by omega) k hp' g1 g2 g3 g4 g5 (iha (by omega) g6 a b hab) (ihb (by omega) g7 a b hab) (ihv (by omega) g8 a b hab) (ihz (by omega) g9 a b hab) gX gY gV gZ
theorem me_all (hw : w ≤ 20) (hd : 6 ≤ d) (hwf : pt_wf ls) (hks : pt_ks ls ≤ 96) (hK : rm_K ls J) : ∀ n, me_H ext d D X J w ls n := by
  intro n
  induction n with
  | zero => intro i x a b h; omega
  | succ n ih =>
    intro i x a b h hx hab
    have e : ev_L w ls (n + 1) i a b = ev_T w (ev_L w ls n) x.2.2 a b := by
      show (match ls[i]? with | some x => ev_T w (ev_L w ls n) x.2.2 a b | none => (none, 0)) = _
      rw [hx]
    have hk := pt_ks_le hx
    rw [e, pt_ks_s hx]
    exact me_tree (ext := ext) D X hw hd hwf (show i ≤ n by omega) hK ih x.2.2 _ (hwf i x hx).2.2.2 (by omega) (hK.2.2.2.2.2.1 i x hx).2 a b hab
/-- what askKnot leaves -/
def mk_P (w : Nat) (ls : pt_L) (i : Nat) (a b : Int64) (I : Nat → Nat → Int32) (L : Nat → Nat → Int64) (I' : Nat → Nat → Int32) (L' : Nat → Nat → Int64) : Prop := I' 42 49 = nI (aq_u w ls i a b) ∧ me_v (aq_o w ls i a b) I' L' ∧ me_fr 0 I L I' L'
theorem c153 {I : Nat → Nat → Int32} {L : Nat → Nat → Int64} {i : Nat} {x : Nat × Bool × tr_T} {a b : Int64} (hw : w ≤ 20) (hwf : pt_wf ls) (hlen : ls.length ≤ 18) (hks : pt_ks ls ≤ 96) (hK : rm_K ls I) (hx : ls[i]? = some x) (h48 : I 42 48 = nI w) (hab : gd2 w a b) : ∃ I' L', am_Rn ext 7 153 [.ref 42, .int (nI (tr_rt x.2.2)), .long a, .long b] (I, L, D, am_rf X) (none, (I', L', D, am_rf X)) ∧ mk_P w ls i a b I L I' L' := by
  have hi : i < ls.length := (List.getElem?_eq_some_iff.mp hx).1
  have hk := pt_ks_le hx
  have hB := pt_ks_s hx
  obtain ⟨g1, G⟩ := me_all (ext := ext) (d := 6) D X hw (by omega) hwf hks hK 18 i x a b (by omega) hx hab
  obtain ⟨I1, L1, q1, Ca⟩ := c150 (ext := ext) (d := 5) D X (I := am_uI (am_uI I 42 47 0) 42 49 0) (L := L) (g := 0) (u := 0) (by rw [am_uI_at, if_neg (by omega), am_uI_at, if_pos ⟨rfl, rfl⟩]; rfl) (by omega) (by rw [am_uI_at, if_pos ⟨rfl, rfl⟩]; rfl) (by omega) (nI (tr_rt x.2.2)) a b
  have F0 : me_fr 0 I L (am_uI (am_uI I 42 47 0) 42 49 0) L := ⟨fun p q h1 h2 => by rw [am_uI_at, if_neg (by omega), am_uI_at, if_neg (by omega)], fun _ _ _ _ => rfl⟩
  have F1 := me_fr_t F0 (me_C_fr Ca) (Nat.le_refl _)
  have key : me_hd ext 6 D X I1 L1 (fun r => ∃ I' L', r = (none, (I', L', D, am_rf X)) ∧ mk_P w ls i a b I L I' L') := by
    refine G 0 0 I1 L1 _ (by omega) (me_J_fr (fun _ _ _ _ => rfl) F1) ⟨Ca.1, (F1.1 42 48 (by omega) (by omega)).trans h48, Ca.2.1, Ca.2.2.1, Ca.2.2.2.1, Ca.2.2.2.2.1, Ca.2.2.2.2.2.1⟩ (by omega) (fun h I2 L2 F2 h47 h49 V => ?_) (fun h I2 L2 F2 h49 => ?_)
    · refine w153_18 I2 L2 D X ⟨fun _ => ⟨fun _ => ⟨I2, L2, rfl, ?_, ?_, me_fr_t F1 F2 (Nat.le_refl _)⟩, fun z => absurd ?_ z⟩, fun z => absurd ?_ z⟩
      · rw [h49]; unfold aq_u ca_u; rw [if_pos h]
      · unfold aq_o ca_o; rw [if_pos h]; exact V
      · rw [h49]; exact (ni_le (b := 20000) (by omega) (by omega)).mpr h
      · rw [h47]; decide
    · have nle : ¬ I2 42 49 ≤ 20000 := by rw [h49]; decide
      have fin : ∃ I' L', ((none, (am_uI (am_uI I2 42 49 20001) 42 50 0, L2, D, am_rf X)) : am_R) = (none, (I', L', D, am_rf X)) ∧ mk_P w ls i a b I L I' L' := by
        refine ⟨_, _, rfl, ?_, ⟨?_, fun p hp => ?_⟩, me_fr_t F1 (me_fr_t F2 ⟨fun p q h1 h2 => by rw [am_uI_at, if_neg (by omega), am_uI_at, if_neg (by omega)], fun _ _ _ _ => rfl⟩ (Nat.le_refl _)) (Nat.le_refl _)⟩
        · rw [am_uI_at, if_neg (by omega), am_uI_at, if_pos ⟨rfl, rfl⟩]; unfold aq_u ca_u; rw [if_neg (by omega)]; rfl
        · rw [am_uI_at, if_pos ⟨rfl, rfl⟩, if_pos (by unfold aq_o ca_o; rw [if_neg (by omega)])]
        · unfold aq_o ca_o at hp; rw [if_neg (by omega)] at hp; cases hp
      refine w153_18 I2 L2 D X ⟨fun _ => ⟨fun z => absurd z nle, fun _ => fin⟩, fun _ => ⟨fun _ => ⟨fun z => absurd z nle, fun _ => fin⟩, fun z => absurd ?_ z⟩⟩
      rw [h49]; decide
  obtain ⟨r, rr, I', L', e, h⟩ := am_of_wp (ext := ext) (d := 6) (as := [.ref 42, .int (nI (tr_rt x.2.2)), .long a, .long b]) mh_153 rfl (w153_0 I L D X (nI (tr_rt x.2.2)) a b ⟨I1, L1, D, q1, key⟩)
  rw [e] at rr
  exact ⟨I', L', rr, h⟩
end MASK
