/-! ===== the class asks: reckon ===== -/
theorem rd_L2_of {ls : pt_L} {I I' : Nat → Nat → Int32} (h : rd_L 2 ls I) (e : ∀ a, a ≤ 10 → I' a = I a) : rd_L 2 ls I' := by
  unfold rd_L at h ⊢
  simp only [Nat.reduceAdd] at h ⊢
  rw [e 2 (by omega), e 3 (by omega), e 4 (by omega), e 5 (by omega), e 6 (by omega), e 7 (by omega), e 8 (by omega), e 9 (by omega), e 10 (by omega)]
  exact h
/-- what a line gives by w bits, and its work -/
def aq_o (w : Nat) (ls : pt_L) (i : Nat) (a b : Int64) : Option (Int64 × Int64) := ca_o 0 (ev_L w ls 18 i a b)
def aq_u (w : Nat) (ls : pt_L) (i : Nat) (a b : Int64) : Nat := ca_u 0 (ev_L w ls 18 i a b).2
theorem ca_o_gd2 {w u : Nat} {r : ev_R} (h : gd w r.1) : gd w (ca_o u r) := by
  unfold ca_o
  split
  · exact h
  · intro p hp; cases hp
theorem aq_gd {w : Nat} (hw : w ≤ 20) {ls : pt_L} (hwf : pt_wf ls) (i : Nat) {a b : Int64} (hab : gd2 w a b) : gd w (aq_o w ls i a b) := ca_o_gd2 (gd_all_L hwf (gd_all_of hw hwf) 18 i a b hab)
/-- what reckon leaves -/
def rk_P (w : Nat) (ls : pt_L) (i : Nat) (a b : Int64) (I : Nat → Nat → Int32) (L : Nat → Nat → Int64) (I' : Nat → Nat → Int32) (L' : Nat → Nat → Int64) : Prop := I' 25 8 = nI (aq_u w ls i a b) ∧ L' 25 9 = sp_lo (aq_o w ls i a b) ∧ L' 25 10 = sp_hi (aq_o w ls i a b) ∧ (∀ p q, ¬ (p = 25 ∨ p = 28) → I' p q = I p q) ∧ (∀ p q, ¬ (p = 25 ∨ p = 26 ∨ p = 27) → L' p q = L p q)
theorem c60 {ext : Nat → List Value → am_M → Option am_R} (D : Nat → Nat → UInt64) (xt xs xi xp xu xc : Nat) {w : Nat} {ls : pt_L} {i : Nat} {a b : Int64} {I : Nat → Nat → Int32} {L : Nat → Nat → Int64} (hw : w ≤ 20) (hwf : pt_wf ls) (hlen : ls.length ≤ 18) (hks : pt_ks ls ≤ 96) (hi : i < ls.length) (hab : gd2 w a b) (hL : rd_L 2 ls I) :
    ∃ I' L', am_Rn ext 83 60 [.ref 25, .ref 2, .int (nI i), .long a, .long b, .int (nI w)] (I, L, D, am_rf (xt, xs, xi, xp, xu, xc)) (some (.int (if aq_o w ls i a b = none then 0 else 1)), (I', L', D, am_rf (xt, xs, xi, 2, xu, xc))) ∧ rk_P w ls i a b I L I' L' := by
  have hcs := pt_cs_ks hwf
  have hx : ls[i]? = some ls[i] := List.getElem?_eq_getElem hi
  have hks1 : pt_ks (ls.take (i + 1)) ≤ 96 := by
    have e : ls.take (i + 1) = ls.take i ++ [ls[i]] := by rw [List.take_add_one, hx]; rfl
    have := pt_ks_le hx
    rw [e, pt_ks_app]
    omega
  have S0 : ce_S w 0 0 0 (am_uI (am_uI (am_uI (am_uI I 25 6 (nI w)) 25 8 0) 25 3 0) 25 4 0) (am_uL L 25 7 (2048 <<< ((Int32.toInt64 (nI w)) &&& 63))) := by
    refine ⟨?_, ?_, ?_, ?_, ?_⟩
    · rw [am_uI_at, if_neg (by omega), am_uI_at, if_neg (by omega), am_uI_at, if_neg (by omega), am_uI_at, if_pos ⟨rfl, rfl⟩]
    · rw [am_uI_at, if_neg (by omega), am_uI_at, if_neg (by omega), am_uI_at, if_pos ⟨rfl, rfl⟩]; rfl
    · rw [am_uI_at, if_neg (by omega), am_uI_at, if_pos ⟨rfl, rfl⟩]; rfl
    · rw [am_uI_at, if_pos ⟨rfl, rfl⟩]; rfl
    · rw [am_uL_at, if_pos ⟨rfl, rfl⟩]; rfl
  have hL0 : rd_L 2 ls (am_uI (am_uI (am_uI (am_uI I 25 6 (nI w)) 25 8 0) 25 3 0) 25 4 0) := rd_L2_of hL (fun p hp => funext fun q => by rw [am_uI_at, if_neg (by omega), am_uI_at, if_neg (by omega), am_uI_at, if_neg (by omega), am_uI_at, if_neg (by omega)])
  obtain ⟨I1, L1, r1, F1, S1, V1⟩ := ce_all (ext := ext) D xt xs xi xu xc hw hwf hlen (by omega) (gd_all_of hw hwf) 18 i 0 0 0 0 a b _ _ (by omega) hi (by omega) (by omega) (by omega) (by omega) hab hL0 S0
  obtain ⟨I2, L2, r2, g3, gf, l9, l10, lf⟩ := c61 (ext := ext) (d := 80) D (xt, xs, xi, 2, xu, xc) S1.2.2.1 (show (0 : Nat) < 100 by omega) (gd_le (aq_gd hw hwf i hab)) V1
  refine ⟨I2, L2, am_rn_of mh_60 rfl (w60_0 I L D xc xi xp xs xt xu (nI i) a b (nI w) ⟨I1, L1, D, am_up r1 (by omega), _, I2, L2, D, am_up r2 (by omega), ?_, rfl⟩), ?_, l9, l10, fun p q h => ?_, fun p q h => ?_⟩
  · split
    · exact Or.inl rfl
    · exact Or.inr rfl
  · rw [gf 25 8 (by omega), S1.2.1]; rfl
  · rw [gf p q (by omega), F1.1 p q (by omega) (by omega), am_uI_at, if_neg (by omega), am_uI_at, if_neg (by omega), am_uI_at, if_neg (by omega), am_uI_at, if_neg (by omega)]
  · rw [lf p q (by omega), F1.2 p q (by omega) (by omega), am_uL_at, if_neg (by omega)]
