/-! ===== what holds between the calls ===== -/
def iv_T (I : Nat → Nat → Int32) : Prop := ∃ t, t ≤ 500 ∧ I 0 8 = nI t ∧ I 42 1 = nI t ∧ (∀ i, I 1 i = I 43 i) ∧ I 0 9 = I 42 4 ∧ I 0 10 = I 42 5 ∧ rf_wd I
def iv_P (ls : pt_L) (I : Nat → Nat → Int32) : Prop := rd_L 2 ls I ∧ rm_K ls I ∧ pt_wf ls ∧ ls.length ≤ 18 ∧ pt_ks ls ≤ 96 ∧ pt_nn ls ≤ 12 ∧ pt_nf ls ≤ 6
/-- the cells that count -/
def iv_k (a b : Nat) : Prop := a ≤ 10 ∨ a = 36 ∨ (a = 42 ∧ (b = 1 ∨ b = 4 ∨ b = 5 ∨ b = 17 ∨ b = 21 ∨ b = 24 ∨ b = 25 ∨ b = 59 ∨ b = 60)) ∨ a = 43 ∨ a = 44 ∨ (45 ≤ a ∧ a ≤ 50 ∧ b < 96) ∨ ((a = 51 ∨ a = 52) ∧ b < 26) ∨ a = 53 ∨ a = 71 ∨ a = 76
def iv_s (I : Nat → Nat → Int32) (L : Nat → Nat → Int64) (D : Nat → Nat → UInt64) (I' : Nat → Nat → Int32) (L' : Nat → Nat → Int64) (D' : Nat → Nat → UInt64) : Prop := (∀ a b, iv_k a b → I' a b = I a b) ∧ (∀ a b, a = 30 ∨ a = 31 ∨ a = 69 ∨ a = 70 → L' a b = L a b) ∧ (∀ a b, a = 35 ∨ a = 75 → D' a b = D a b)
theorem iv_s_t {I I1 I2 : Nat → Nat → Int32} {L L1 L2 : Nat → Nat → Int64} {D D1 D2 : Nat → Nat → UInt64} (h : iv_s I L D I1 L1 D1) (g : iv_s I1 L1 D1 I2 L2 D2) : iv_s I L D I2 L2 D2 := ⟨fun a b k => (g.1 a b k).trans (h.1 a b k), fun a b k => (g.2.1 a b k).trans (h.2.1 a b k), fun a b k => (g.2.2 a b k).trans (h.2.2 a b k)⟩
theorem iv_s_I {I I' : Nat → Nat → Int32} {L L' : Nat → Nat → Int64} {D : Nat → Nat → UInt64} (h : ∀ a b, iv_k a b → I' a b = I a b) (g : ∀ a b, a = 30 ∨ a = 31 ∨ a = 69 ∨ a = 70 → L' a b = L a b) : iv_s I L D I' L' D := ⟨h, g, fun _ _ _ => rfl⟩
theorem iv_T_s {I I' : Nat → Nat → Int32} (h : iv_T I) (g : ∀ a b, iv_k a b → I' a b = I a b) : iv_T I' := by
  obtain ⟨t, h1, h2, h3, h4, h5, h6, h7⟩ := h
  refine ⟨t, h1, ?_, ?_, fun i => ?_, ?_, ?_, fun i hi => ?_⟩
  · rw [g 0 8 (by unfold iv_k; omega)]; exact h2
  · rw [g 42 1 (by unfold iv_k; omega)]; exact h3
  · rw [g 1 i (by unfold iv_k; omega), g 43 i (by unfold iv_k; omega)]; exact h4 i
  · rw [g 0 9 (by unfold iv_k; omega), g 42 4 (by unfold iv_k; omega)]; exact h5
  · rw [g 0 10 (by unfold iv_k; omega), g 42 5 (by unfold iv_k; omega)]; exact h6
  · rw [g 44 i (by unfold iv_k; omega)]; exact h7 i hi
theorem rm_K_s {ls : pt_L} {I I' : Nat → Nat → Int32} (h : rm_K ls I) (hwf : pt_wf ls) (hks : pt_ks ls ≤ 96) (g : ∀ a b, iv_k a b → I' a b = I a b) : rm_K ls I' := by
  obtain ⟨h1, h2, h3, h4, h5, h6, h7⟩ := h
  refine ⟨?_, ?_, ?_, ?_, fun l hl => ?_, fun i x hx => ⟨?_, ?_⟩, fun k x hx => ?_⟩
  · rw [g 42 24 (by unfold iv_k; omega)]; exact h1
  · rw [g 42 25 (by unfold iv_k; omega)]; exact h2
  · rw [g 42 21 (by unfold iv_k; omega)]; exact h3
  · rw [g 42 17 (by unfold iv_k; omega)]; exact h4
  · rw [g 51 l (by unfold iv_k; omega)]; exact h5 l hl
  · have := (hwf i x hx).1
    rw [g 52 x.1 (by unfold iv_k; omega)]; exact (h6 i x hx).1
  · have hk := pt_ks_le hx
    exact rf_rp_of x.2.2 _ (hwf i x hx).2.2.2 (h6 i x hx).2 (fun a j q1 q2 q3 q4 => g a j (by unfold iv_k; omega))
  · rw [g 53 k (by unfold iv_k; omega)]; exact h7 k x hx
theorem iv_P_s {ls : pt_L} {I I' : Nat → Nat → Int32} (h : iv_P ls I) (g : ∀ a b, iv_k a b → I' a b = I a b) : iv_P ls I' := by
  obtain ⟨h1, h2, h3, h4, h5, h6, h7⟩ := h
  exact ⟨rd_L2_of h1 (fun a ha => funext fun b => g a b (by unfold iv_k; omega)), rm_K_s h2 h3 h5 g, h3, h4, h5, h6, h7⟩
/-- what the caches hold is told later: any Cc that speaks of the counting cells alone -/
abbrev iv_C : Type := pt_L → (Nat → Nat → Int32) → (Nat → Nat → Int64) → (Nat → Nat → UInt64) → Prop
def iv_ok (Cc : iv_C) : Prop := ∀ ls I L D I' L' D', iv_P ls I → Cc ls I L D → iv_s I L D I' L' D' → Cc ls I' L' D'
def iv (Cc : iv_C) (m : am_M) : Prop := ∃ I L D xi xp xc ls, m = (I, L, D, am_rf (2, 11, xi, xp, 2, xc)) ∧ iv_T I ∧ iv_P ls I ∧ Cc ls I L D
theorem iv_go {Cc : iv_C} (hC : iv_ok Cc) {ls : pt_L} {I I' : Nat → Nat → Int32} {L L' : Nat → Nat → Int64} {D D' : Nat → Nat → UInt64} {xi xp xc : Nat} (hT : iv_T I) (hP : iv_P ls I) (hc : Cc ls I L D) (s : iv_s I L D I' L' D') : iv Cc (I', L', D', am_rf (2, 11, xi, xp, 2, xc)) :=
  ⟨I', L', D', xi, xp, xc, ls, rfl, iv_T_s hT s.1, iv_P_s hP s.1, hC _ _ _ _ _ _ _ hP hc s⟩
/-! letters -/
def lt_k (ls : pt_L) (v : Int32) : Nat := if v < 0 then 0 else if 26 ≤ v then 0 else pt_tl ls v.toNatClampNeg
def lt_i (ls : pt_L) (v : Int32) : Nat := pt_ix ls v.toNatClampNeg
theorem i32_nn {v : Int32} (h1 : ¬ v < 0) (h2 : ¬ 26 ≤ v) : v.toNatClampNeg < 26 ∧ v = nI v.toNatClampNeg := by
  have z : (0 : Int32).toInt = 0 := rfl
  have t : (26 : Int32).toInt = 26 := rfl
  rw [Int32.lt_iff_toInt_lt, z] at h1
  rw [Int32.le_iff_toInt_le, t] at h2
  have e : v.toNatClampNeg = v.toInt.toNat := rfl
  refine ⟨by omega, ?_⟩
  rw [← Int32.toInt_inj, nI_toInt (by omega)]
  omega
theorem lt_x {ls : pt_L} {v : Int32} (h : ¬ lt_k ls v = 0) : v.toNatClampNeg < 26 ∧ v = nI v.toNatClampNeg ∧ ¬ v < 0 ∧ ¬ 26 ≤ v ∧ ∃ b T, ls[lt_i ls v]? = some (v.toNatClampNeg, b, T) ∧ lt_i ls v < ls.length ∧ lt_k ls v = (if b = true then 2 else 1) := by
  unfold lt_k at h
  split at h
  · exact absurd rfl h
  · rename_i h1
    split at h
    · exact absurd rfl h
    · rename_i h2
      obtain ⟨h3, h4⟩ := i32_nn h1 h2
      obtain ⟨b, T, g1, g2, g3⟩ := pt_ix_at ls _ h
      refine ⟨h3, h4, h1, h2, b, T, g1, g3, ?_⟩
      unfold lt_k
      rw [if_neg h1, if_neg h2, g2]
section LETTERS
variable {ext : Nat → List Value → am_M → Option am_R} {d : Nat} (L : Nat → Nat → Int64) (D : Nat → Nat → UInt64) {I : Nat → Nat → Int32} {ls : pt_L}
theorem c32_2 (X : am_Rf) (hL : rd_L 2 ls I) (v : Int32) : am_Rn ext (d + 1) 32 [.ref 2, .int v] (I, L, D, am_rf X) (some (.int (if lt_k ls v = 0 then -1 else nI (lt_i ls v))), (I, L, D, am_rf X)) := by
  refine am_rn_of mh_32 rfl (w32_0_2 I L D X v ⟨fun z => ?_, fun z => ⟨fun y => ?_, fun y => ?_⟩⟩)
  · have e : lt_k ls v = 0 := by unfold lt_k; rw [if_pos z]
    rw [if_pos e]
  · have e : lt_k ls v = 0 := by unfold lt_k; rw [if_neg z, if_pos y]
    rw [if_pos e]
  · obtain ⟨h1, h2⟩ := i32_nn z y
    have e : lt_k ls v = pt_tl ls v.toNatClampNeg := by unfold lt_k; rw [if_neg z, if_neg y]
    have hb := ni_inb (n := 26) h1 (by omega)
    rw [← h2] at hb
    refine ⟨hb, ?_⟩
    rw [hL.2.2.2.2.2.1 _ h1, e]
    rfl
theorem c33_2 (X : am_Rf) (hL : rd_L 2 ls I) (hn : ls.length ≤ 18) {i : Nat} {x : Nat × Bool × tr_T} (hx : ls[i]? = some x) : am_Rn ext (d + 1) 33 [.ref 2, .int (nI i)] (I, L, D, am_rf X) (some (.int (if x.2.1 = true then 1 else 0)), (I, L, D, am_rf X)) := by
  have hi : i < ls.length := (List.getElem?_eq_some_iff.mp hx).1
  have ei : (nI i).toNatClampNeg = i := ni_nat (by omega)
  have h4 := (hL.2.2.2.2.2.2 i x hx).1
  refine am_rn_of mh_33 rfl (w33_0_2 I L D X (nI i) ⟨fun z => absurd z (ni_nn (by omega)), fun _ => ⟨fun z => ?_, fun _ => ⟨ni_inb (by omega) (by omega), ?_⟩⟩⟩)
  · rw [hL.1, ni_le (by omega) (by omega)] at z
    omega
  · rw [ei, show I 4 i = I (2 + 2) i from rfl, h4]
    cases x.2.1 with
    | true => exact ⟨fun z => absurd (show (1 : Int32) = 0 from z) (by decide), fun _ => rfl⟩
    | false => exact ⟨fun _ => rfl, fun z => absurd rfl z⟩
theorem c33_m (X : am_Rf) : am_Rn ext (d + 1) 33 [.ref 2, .int (-1)] (I, L, D, am_rf X) (some (.int 0), (I, L, D, am_rf X)) :=
  am_rn_of mh_33 rfl (w33_0_2 I L D X (-1) ⟨fun _ => rfl, fun z => absurd (by decide) z⟩)
theorem c111 (xi xp xu xc : Nat) (hL : rd_L 2 ls I) (hn : ls.length ≤ 18) (v : Int32) : am_Rn ext (d + 2) 111 [.ref 0, .int v] (I, L, D, am_rf (2, 11, xi, xp, xu, xc)) (some (.int (if lt_k ls v = 1 then nI (lt_i ls v) else -1)), (I, L, D, am_rf (2, 11, xi, xp, xu, xc))) := by
  have r := c32_2 (ext := ext) (d := d) L D (2, 11, xi, xp, xu, xc) hL v
  by_cases h : lt_k ls v = 0
  · rw [if_pos h] at r
    refine am_rn_of mh_111 rfl (w111_0 I L D xc xi xp xu v ⟨_, I, L, D, r, fun _ => ?_, fun z => absurd (by decide) z⟩)
    rw [if_neg (by omega)]
  · rw [if_neg h] at r
    obtain ⟨_, _, _, _, b, T, g1, g2, g3⟩ := lt_x h
    have r2 := c33_2 (ext := ext) (d := d) L D (2, 11, xi, xp, xu, xc) hL hn g1
    refine am_rn_of mh_111 rfl (w111_0 I L D xc xi xp xu v ⟨_, I, L, D, r, fun z => absurd z (ni_nn (by omega)), fun _ => ⟨_, I, L, D, r2, ?_⟩⟩)
    rw [g3]
    cases b with
    | true => exact ⟨fun _ => rfl, fun z => absurd (show (1 : Int32) = 0 from z) (by decide)⟩
    | false => exact ⟨fun z => absurd rfl z, fun _ => rfl⟩
theorem c112 (xi xp xu xc : Nat) (hL : rd_L 2 ls I) (hn : ls.length ≤ 18) (v : Int32) : am_Rn ext (d + 2) 112 [.ref 0, .int v] (I, L, D, am_rf (2, 11, xi, xp, xu, xc)) (some (.int (if lt_k ls v = 2 then nI (lt_i ls v) else -1)), (I, L, D, am_rf (2, 11, xi, xp, xu, xc))) := by
  have r := c32_2 (ext := ext) (d := d) L D (2, 11, xi, xp, xu, xc) hL v
  by_cases h : lt_k ls v = 0
  · rw [if_pos h] at r
    have r2 := c33_m (ext := ext) (d := d) (I := I) L D (2, 11, xi, xp, xu, xc)
    refine am_rn_of mh_112 rfl (w112_0 I L D xc xi xp xu v ⟨_, I, L, D, r, _, I, L, D, r2, fun _ => ?_, fun z => absurd rfl z⟩)
    rw [if_neg (by omega)]
  · rw [if_neg h] at r
    obtain ⟨_, _, _, _, b, T, g1, g2, g3⟩ := lt_x h
    have r2 := c33_2 (ext := ext) (d := d) L D (2, 11, xi, xp, xu, xc) hL hn g1
    refine am_rn_of mh_112 rfl (w112_0 I L D xc xi xp xu v ⟨_, I, L, D, r, _, I, L, D, r2, ?_⟩)
    rw [g3]
    cases b with
    | true => exact ⟨fun z => absurd (show (1 : Int32) = 0 from z) (by decide), fun _ => rfl⟩
    | false => exact ⟨fun _ => rfl, fun z => absurd rfl z⟩
theorem c146 (X : am_Rf) (v : Int32) : am_Rn ext (d + 1) 146 [.int v] (I, L, D, am_rf X) (some (.int (if v < 0 then 0 else if 26 ≤ v then 0 else 1)), (I, L, D, am_rf X)) := by
  refine am_rn_of mh_146 rfl (w146_0 I L D X v ⟨fun z => ?_, fun z => ⟨fun y => ?_, fun y => ?_⟩⟩)
  · rw [if_pos z]
  · rw [if_neg z, if_pos y]
  · rw [if_neg z, if_neg y]
theorem c148 (X : am_Rf) (hK : rm_K ls I) (v : Int32) : am_Rn ext (d + 2) 148 [.ref 42, .int v] (I, L, D, am_rf X) (some (.int (if lt_k ls v = 1 then 1 else 0)), (I, L, D, am_rf X)) := by
  have r := c146 (ext := ext) (d := d) (I := I) L D X v
  refine am_rn_of mh_148 rfl (w148_0 I L D X v ⟨_, I, L, D, r, fun z => ?_, fun z => ?_⟩)
  · have e : lt_k ls v = 0 := by
      unfold lt_k
      split
      · rfl
      · rename_i q
        rw [if_neg q] at z
        split at z
        · rw [if_pos (by assumption)]
        · exact absurd z (by decide)
    rw [e]; rfl
  · have h1 : ¬ v < 0 := fun q => z (by rw [if_pos q])
    have h2 : ¬ 26 ≤ v := fun q => z (by rw [if_neg h1, if_pos q])
    obtain ⟨h3, h4⟩ := i32_nn h1 h2
    have e : lt_k ls v = pt_tl ls v.toNatClampNeg := by unfold lt_k; rw [if_neg h1, if_neg h2]
    have hb := ni_inb (n := 52) (k := v.toNatClampNeg) (by omega) (by omega)
    rw [← h4] at hb
    have lt : pt_tl ls v.toNatClampNeg < 3 := by
      by_cases q : pt_tl ls v.toNatClampNeg = 0
      · omega
      · obtain ⟨b, T, _, g2, _⟩ := pt_ix_at ls _ q
        rw [g2]; split <;> omega
    refine ⟨hb, ?_⟩
    rw [hK.2.2.2.2.1 _ h3, e]
    refine ⟨fun q => ?_, fun q => ?_⟩
    · rw [if_neg (fun t => q (by rw [t]; rfl))]
    · rw [if_pos ((ni_eq (b := 1) (by omega) (by omega)).mp q)]
theorem c149 (X : am_Rf) (hK : rm_K ls I) (v : Int32) : am_Rn ext (d + 2) 149 [.ref 42, .int v] (I, L, D, am_rf X) (some (.int (if lt_k ls v = 2 then 1 else 0)), (I, L, D, am_rf X)) := by
  have r := c146 (ext := ext) (d := d) (I := I) L D X v
  refine am_rn_of mh_149 rfl (w149_0 I L D X v ⟨_, I, L, D, r, fun z => ?_, fun z => ?_⟩)
  · have e : lt_k ls v = 0 := by
      unfold lt_k
      split
      · rfl
      · rename_i q
        rw [if_neg q] at z
        split at z
        · rw [if_pos (by assumption)]
        · exact absurd z (by decide)
    rw [e]; rfl
  · have h1 : ¬ v < 0 := fun q => z (by rw [if_pos q])
    have h2 : ¬ 26 ≤ v := fun q => z (by rw [if_neg h1, if_pos q])
    obtain ⟨h3, h4⟩ := i32_nn h1 h2
    have e : lt_k ls v = pt_tl ls v.toNatClampNeg := by unfold lt_k; rw [if_neg h1, if_neg h2]
    have hb := ni_inb (n := 52) (k := v.toNatClampNeg) (by omega) (by omega)
    rw [← h4] at hb
    have lt : pt_tl ls v.toNatClampNeg < 3 := by
      by_cases q : pt_tl ls v.toNatClampNeg = 0
      · omega
      · obtain ⟨b, T, _, g2, _⟩ := pt_ix_at ls _ q
        rw [g2]; split <;> omega
    refine ⟨hb, ?_⟩
    rw [hK.2.2.2.2.1 _ h3, e]
    refine ⟨fun q => ?_, fun q => ?_⟩
    · rw [if_neg (fun t => q (by rw [t]; rfl))]
    · rw [if_pos ((ni_eq (b := 2) (by omega) (by omega)).mp q)]
end LETTERS
/-! feed, fault, kind, count -/
section SMALL
variable {ext : Nat → List Value → am_M → Option am_R} {Cc : iv_C}
theorem iv_2 (I : Nat → Nat → Int32) (x : Int32) : ∀ a b, iv_k a b → am_uI I 42 2 x a b = I a b := fun a b h => by rw [am_uI_at, if_neg (by unfold iv_k at h; omega)]
theorem ow_15 (hC : iv_ok Cc) : lw_t15 ext (iv Cc) := by
  intro v m hm
  obtain ⟨I, L, D, xi, xp, xc, ls, rfl, hT, hP, hc⟩ := hm
  obtain ⟨hL, hK, hwf, h18, h96, h12, h6⟩ := hP
  have key : ∀ r, am_Rn ext 400 110 [.ref 0, .int v] (I, L, D, am_rf (2, 11, xi, xp, 2, xc)) (some (.int r), (I, L, D, am_rf (2, 11, xi, xp, 2, xc))) → am_Rn ext 400 200 [.ref 42, .int v] (I, L, D, am_rf (2, 11, xi, xp, 2, xc)) (some (.int r), (am_uI I 42 2 0, L, D, am_rf (2, 11, xi, xp, 2, xc))) → ∃ (r : Int32) (m1 m2 : am_M), am_Rn ext 400 110 [.ref 0, .int v] (I, L, D, am_rf (2, 11, xi, xp, 2, xc)) (some (.int r), m1) ∧ am_Rn ext 400 200 [.ref 42, .int v] m1 (some (.int r), m2) ∧ (iv Cc m2 ∨ iv Cc (am_ren m2)) :=
    fun r r1 r2 => ⟨r, _, _, r1, r2, Or.inl (iv_go hC hT ⟨hL, hK, hwf, h18, h96, h12, h6⟩ hc (iv_s_I (iv_2 I 0) (fun _ _ _ => rfl)))⟩
  refine key (if v = 0 then nI (pt_nn ls) else if v = 1 then nI (pt_nf ls) else if v = 2 then nI (pt_ks ls) else if v = 3 then nI ls.length else -1) (am_rn_of (d := 399) mh_110 rfl (w110_0 I L D xc xi xp 2 v ⟨fun z => ?_, fun z => ?_, fun z => ?_, fun z => ?_, fun z => ?_⟩)) (am_rn_of (d := 399) mh_200 rfl (w200_0 I L D _ v ⟨fun z => ?_, fun z => ?_, fun z => ?_, fun z => ?_, fun z => ?_⟩))
  · subst z; rw [hL.2.1]; rfl
  · subst z; rw [hL.2.2.1]; rfl
  · subst z; rw [hL.2.2.2.2.1]; rfl
  · subst z; rw [hL.1]; rfl
  · rw [if_neg z.1, if_neg z.2.1, if_neg z.2.2.1, if_neg z.2.2.2]
  · subst z; rw [hK.1]; rfl
  · subst z; rw [hK.2.1]; rfl
  · subst z; rw [hK.2.2.2.1]; rfl
  · subst z; rw [hK.2.2.1]; rfl
  · rw [if_neg z.1, if_neg z.2.1, if_neg z.2.2.1, if_neg z.2.2.2]
theorem ow_2 (hC : iv_ok Cc) : lw_t2 ext (iv Cc) := by
  intro v m hm
  obtain ⟨I, L, D, xi, xp, xc, ls, rfl, hT, hP, hc⟩ := hm
  have hT' := hT
  obtain ⟨t, h1, h2, h3, h4, h5, h6, h7⟩ := hT'
  have r1 := am_up (c95 (ext := ext) (d := 0) I L D (2, 11, xi, xp, 2, xc) v) (show 1 ≤ 400 by omega)
  have r2 := am_up (c145 (ext := ext) (d := 0) I L D (2, 11, xi, xp, 2, xc) v) (show 1 ≤ 400 by omega)
  rw [h5, h6] at r1
  exact ⟨_, _, _, r1, r2, Or.inl (iv_go hC hT hP hc (iv_s_I (iv_2 I 0) (fun _ _ _ => rfl)))⟩
theorem ow_3 (hC : iv_ok Cc) : lw_t3 ext (iv Cc) := by
  intro v m hm
  obtain ⟨I, L, D, xi, xp, xc, ls, rfl, hT, hP, hc⟩ := hm
  have hP' := hP
  obtain ⟨hL, hK, hwf, h18, h96, h12, h6⟩ := hP'
  have r1 := am_up (c111 (ext := ext) (d := 0) L D xi xp 2 xc hL h18 v) (show 2 ≤ 399 by omega)
  have r2 := am_up (c112 (ext := ext) (d := 0) L D xi xp 2 xc hL h18 v) (show 2 ≤ 399 by omega)
  have r3 := am_up (c146 (ext := ext) (d := 0) (I := am_uI I 42 2 0) L D (2, 11, xi, xp, 2, xc) v) (show 1 ≤ 399 by omega)
  refine ⟨if v < 0 then -1 else if 26 ≤ v then -1 else nI (lt_k ls v), (I, L, D, am_rf (2, 11, xi, xp, 2, xc)), (am_uI I 42 2 0, L, D, am_rf (2, 11, xi, xp, 2, xc)), am_rn_of (d := 399) mh_96 rfl (w96_0 I L D _ v ⟨fun z => ?_, fun z => ⟨fun y => ⟨_, I, L, D, r1, fun q => ⟨_, I, L, D, r2, fun p => ?_, fun p => ?_⟩, fun q => ?_⟩, fun y => ?_⟩⟩), am_rn_of (d := 399) mh_147 rfl (w147_0 I L D _ v ⟨_, _, L, D, r3, fun z => ?_, fun z => ?_⟩), Or.inl (iv_go hC hT hP hc (iv_s_I (iv_2 I 0) (fun _ _ _ => rfl)))⟩
  · rw [if_pos z]
  · have y' : ¬ 26 ≤ v := fun t => by rw [Int32.le_iff_toInt_le] at t; rw [Int32.lt_iff_toInt_lt] at y; omega
    rw [if_neg z, if_neg y']
    have e : lt_k ls v = 0 := by
      by_cases h : lt_k ls v = 0
      · exact h
      · obtain ⟨_, _, _, _, b, T, g1, g2, g3⟩ := lt_x h
        cases b with
        | true => rw [if_pos (show lt_k ls v = 2 from g3)] at p; exact absurd p (ni_nn (by omega))
        | false => rw [if_pos (show lt_k ls v = 1 from g3)] at q; exact absurd q (ni_nn (by omega))
    rw [e]; rfl
  · have y' : ¬ 26 ≤ v := fun t => by rw [Int32.le_iff_toInt_le] at t; rw [Int32.lt_iff_toInt_lt] at y; omega
    rw [if_neg z, if_neg y']
    have e : lt_k ls v = 2 := by
      by_cases h : lt_k ls v = 2
      · exact h
      · rw [if_neg h] at p; exact absurd (by decide) p
    rw [e]; rfl
  · have y' : ¬ 26 ≤ v := fun t => by rw [Int32.le_iff_toInt_le] at t; rw [Int32.lt_iff_toInt_lt] at y; omega
    rw [if_neg z, if_neg y']
    have e : lt_k ls v = 1 := by
      by_cases h : lt_k ls v = 1
      · exact h
      · rw [if_neg h] at q; exact absurd (by decide) q
    rw [e]; rfl
  · have y' : 26 ≤ v := by rw [Int32.le_iff_toInt_le]; rw [Int32.lt_iff_toInt_lt] at y; omega
    rw [if_neg z, if_pos y']
  · by_cases h1 : v < 0
    · rw [if_pos h1]
    · rw [if_neg h1] at z ⊢
      by_cases h2 : 26 ≤ v
      · rw [if_pos h2]
      · rw [if_neg h2] at z; exact absurd z (by decide)
  · have h1 : ¬ v < 0 := fun q => z (by rw [if_pos q])
    have h2 : ¬ 26 ≤ v := fun q => z (by rw [if_neg h1, if_pos q])
    obtain ⟨h3, h4⟩ := i32_nn h1 h2
    have hb := ni_inb (n := 52) (k := v.toNatClampNeg) (by omega) (by omega)
    rw [← h4] at hb
    refine ⟨hb, ?_⟩
    rw [if_neg h1, if_neg h2, am_uI_at, if_neg (by omega), hK.2.2.2.2.1 _ h3]
    have e : lt_k ls v = pt_tl ls v.toNatClampNeg := by unfold lt_k; rw [if_neg h1, if_neg h2]
    rw [e]
theorem ow_0 (hC : iv_ok Cc) (hF : ∀ ls I L D I', iv_P ls I → Cc ls I L D → (∀ a b, ¬ (a = 0 ∨ a = 1 ∨ a = 43) → ¬ (a = 42 ∧ (b = 1 ∨ b = 2)) → I' a b = I a b) → Cc ls I' L D) : lw_t0 ext (iv Cc) := by
  intro v1 v2 v3 v4 v5 m hm
  obtain ⟨I, L, D, xi, xp, xc, ls, rfl, ⟨t, h1, h2, h3, h4, h5, h6, h7⟩, hP, hc⟩ := hm
  obtain ⟨I1, r1, a1, b1, c1⟩ := c92 (ext := ext) (d := 0) L D (2, 11, xi, xp, 2, xc) I v1 v2 v3 v4 v5 h2 h1
  obtain ⟨I2, r2, a2, b2, c2⟩ := c116 (ext := ext) (d := 0) L D (2, 11, xi, xp, 2, xc) I1 v1 v2 v3 v4 v5 (t := t) (by rw [c1 42 1 (by omega) (by omega)]; exact h3) h1
  have fr : ∀ a b, ¬ (a = 0 ∨ a = 1 ∨ a = 43) → ¬ (a = 42 ∧ (b = 1 ∨ b = 2)) → I2 a b = I a b := fun a b q1 q2 => by rw [c2 a b (by omega) (by omega), c1 a b (by omega) (by omega)]
  have fr0 : ∀ b, ¬ b = 8 → I2 0 b = I 0 b := fun b q => by rw [c2 0 b (by omega) (by omega), c1 0 b (by omega) (by omega)]
  refine ⟨_, _, _, am_up r1 (by omega), am_up r2 (by omega), Or.inl ⟨I2, L, D, xi, xp, xc, ls, rfl, ⟨if t + 20 ≤ 500 then t + 20 else t, ?_, ?_, ?_, fun i => ?_, ?_, ?_, fun i hi => ?_⟩, ?_, hF ls I L D I2 hP hc fr⟩⟩
  · split <;> omega
  · rw [c2 0 8 (by omega) (by omega), a1]; split <;> rfl
  · rw [a2]; split <;> rfl
  · rw [c2 1 i (by omega) (by omega), b1 i, b2 i, c1 43 i (by omega) (by omega), h4 i]
  · rw [fr0 9 (by omega), fr 42 4 (by omega) (by omega)]; exact h5
  · rw [fr0 10 (by omega), fr 42 5 (by omega) (by omega)]; exact h6
  · rw [fr 44 i (by omega) (by omega)]; exact h7 i hi
  · obtain ⟨hL, hK, hwf, h18, h96, h12, h6'⟩ := hP
    refine ⟨?_, ?_, hwf, h18, h96, h12, h6'⟩
    · have e : ∀ a, 2 ≤ a → a ≤ 10 → I2 a = I a := fun a q1 q2 => funext fun b => fr a b (by omega) (by omega)
      unfold rd_L at hL ⊢
      simp only [Nat.reduceAdd] at hL ⊢
      rw [e 2 (by omega) (by omega), e 3 (by omega) (by omega), e 4 (by omega) (by omega), e 5 (by omega) (by omega), e 6 (by omega) (by omega), e 7 (by omega) (by omega), e 8 (by omega) (by omega), e 9 (by omega) (by omega), e 10 (by omega) (by omega)]
      exact hL
    · have g : ∀ a b, iv_k a b → (fun p q => if p ≤ 1 ∨ p = 43 ∨ (p = 42 ∧ (q = 1 ∨ q = 2)) then I p q else I2 p q) a b = I a b := fun a b _ => by
        simp only
        split
        · rfl
        · exact fr a b (by omega) (by omega)
      have hK2 := rm_K_s hK hwf h96 g
      have e : ∀ a b, ¬ (a ≤ 1 ∨ a = 43 ∨ (a = 42 ∧ (b = 1 ∨ b = 2))) → (fun p q => if p ≤ 1 ∨ p = 43 ∨ (p = 42 ∧ (q = 1 ∨ q = 2)) then I p q else I2 p q) a b = I2 a b := fun a b h => if_neg h
      obtain ⟨k1, k2, k3, k4, k5, k6, k7⟩ := hK2
      refine ⟨(e 42 24 (by omega)).symm.trans k1, (e 42 25 (by omega)).symm.trans k2, (e 42 21 (by omega)).symm.trans k3, (e 42 17 (by omega)).symm.trans k4, fun l hl => (e 51 l (by omega)).symm.trans (k5 l hl), fun i x hx => ⟨(e 52 x.1 (by omega)).symm.trans (k6 i x hx).1, rf_rp_of x.2.2 _ (hwf i x hx).2.2.2 (k6 i x hx).2 (fun a j q1 q2 _ _ => (e a j (by omega)).symm)⟩, fun k x hx => (e 53 k (by omega)).symm.trans (k7 k x hx)⟩
end SMALL
