/-! ===== the class's doubles: a tree's code, a line ===== -/
theorem de_T_og {G : Nat → Option UInt64 → Option UInt64} {t : Option UInt64} (ht : og t) {e : pt_E} (hG : ∀ l x, ¬ e.2.1 l = 0 → og x → og (G (e.2.2 l) x)) : ∀ (T : tr_T) (s : Nat), tr_ok e T s → og (de_T G t T) := by
  refine tr_ind ?_ ?_ ?_ ?_ ?_
  · intro p s _ hk
    simp only [de_T]
    split
    · intro a h; cases h; exact nn_i2d _
    · split
      · exact ht
      · split
        · rcases hk with ⟨k, _⟩ | ⟨k, _⟩ | ⟨k, h0, h1, h2⟩ | ⟨k, _⟩
          · omega
          · omega
          · rw [h2]; exact hG _ _ (by omega) og_0
          · omega
        · intro a h; cases h
  · intro p A s _ hk _ ih
    simp only [de_T]
    split
    · rcases hk with k | k | k | ⟨k, h0, h1, h2⟩
      · omega
      · omega
      · omega
      · rw [h2]; exact hG _ _ (by omega) ih
    · exact de_1k_og (kd := p.2.1) ih
  · intro p A B s _ _ _ _ _ iha ihb
    exact de_2k_og (kd := p.2.1) iha ihb
  · intro p A B s _ _ _ _ iha ihb
    exact de_2k_og (kd := p.2.1) iha ihb
  · intro p A B V W s _ _ _ _ _ _ iha ihb ihv ihw
    simp only [de_T]
    split
    · exact ihv
    · exact ihw
theorem de_S_og {ls : pt_L} (hwf : pt_wf ls) : ∀ (i : Nat) (t : Option UInt64), og t → og (de_S ls i t) := by
  have key : ∀ n i, i < n → ∀ t, og t → og (de_S ls i t) := by
    intro n
    induction n with
    | zero => intro i h; omega
    | succ n ih =>
      intro i hi t ht
      by_cases hl : i < ls.length
      · have hx : ls[i]? = some ls[i] := List.getElem?_eq_getElem hl
        rw [de_S_at hwf hx]
        refine de_T_og ht (fun l x h hx' => ?_) _ _ (hwf i _ hx).2.2.2
        have lt := ix_lt (ls := ls) (k := i) (l := l) h
        exact ih _ (Nat.lt_of_lt_of_le lt.1 (by omega)) x hx'
      · unfold de_S
        simp only [de_L, List.getElem?_eq_none (Nat.le_of_not_lt hl)]
        intro a h; cases h
  exact fun i => key (i + 1) i (by omega)
def de_fr (t : Nat) (I : Nat → Nat → Int32) (D : Nat → Nat → UInt64) (I' : Nat → Nat → Int32) (D' : Nat → Nat → UInt64) : Prop := (∀ a b, ¬ (a = 34 ∧ b = 4) → ¬ (a = 38 ∧ t ≤ b) → ¬ a = 36 → I' a b = I a b) ∧ (∀ a b, ¬ (a = 37 ∧ t ≤ b) → ¬ a = 35 → D' a b = D a b)
theorem de_fr_0 (t : Nat) (I : Nat → Nat → Int32) (D : Nat → Nat → UInt64) : de_fr t I D I D := ⟨fun _ _ _ _ _ => rfl, fun _ _ _ _ => rfl⟩
theorem de_fr_t {t t' : Nat} {I I1 I2 : Nat → Nat → Int32} {D D1 D2 : Nat → Nat → UInt64} (h : de_fr t I D I1 D1) (g : de_fr t' I1 D1 I2 D2) (ht : t ≤ t') : de_fr t I D I2 D2 := ⟨fun a b q1 q2 q3 => (g.1 a b q1 (by omega) q3).trans (h.1 a b q1 q2 q3), fun a b q1 q2 => (g.2 a b (by omega) q2).trans (h.2 a b q1 q2)⟩
theorem de_fr_p {t : Nat} {o : Option UInt64} {I I' : Nat → Nat → Int32} {D D' : Nat → Nat → UInt64} (h : pq_P t o I D I' D') : de_fr t I D I' D' := ⟨fun a b q1 q2 _ => h.2.2.1 a b q1 (by omega), fun a b q1 _ => h.2.2.2 a b (by omega)⟩
theorem de_fr_u (t : Nat) (I : Nat → Nat → Int32) (D : Nat → Nat → UInt64) (x : Int32) : de_fr t I D (am_uI I 34 4 x) D := ⟨fun a b q1 _ _ => by rw [am_uI_at, if_neg q1], fun _ _ _ _ => rfl⟩
theorem de_fr_I {t : Nat} {I I' : Nat → Nat → Int32} {D D' : Nat → Nat → UInt64} (h : de_fr t I D I' D') (a : Nat) (ha : a ≤ 33) : I' a = I a := funext fun b => h.1 a b (by omega) (by omega) (by omega)
def dm_M (ls : pt_L) (I : Nat → Nat → Int32) (D : Nat → Nat → UInt64) : Prop := ∀ (i : Nat) (x : Nat × Bool × tr_T), ls[i]? = some x → x.2.1 = false → I 36 i = 0 ∨ (I 36 i = 1 ∧ de_S ls i (some d_0) = some (D 35 i)) ∨ (I 36 i = 2 ∧ de_S ls i (some d_0) = none)
theorem dm_M_of {ls : pt_L} {I I' : Nat → Nat → Int32} {D D' : Nat → Nat → UInt64} (h : dm_M ls I D) (h1 : ∀ b, I' 36 b = I 36 b) (h2 : ∀ b, D' 35 b = D 35 b) : dm_M ls I' D' := fun i x hx hb => by rw [h1, h2]; exact h i x hx hb
theorem dm_M_p {ls : pt_L} {t : Nat} {o : Option UInt64} {I I' : Nat → Nat → Int32} {D D' : Nat → Nat → UInt64} (h : dm_M ls I D) (g : pq_P t o I D I' D') : dm_M ls I' D' := dm_M_of h (fun b => g.2.2.1 36 b (by omega) (by omega)) (fun b => g.2.2.2 35 b (by omega))
theorem st_d_of {o : Option UInt64} {t t' : Nat} {I I' : Nat → Nat → Int32} {D D' : Nat → Nat → UInt64} (h : st_d o t I D) (g : de_fr t' I D I' D') (ht : t < t') : st_d o t I' D' := ⟨by rw [g.1 38 t (by omega) (by omega) (by omega)]; exact h.1, fun a ha => by rw [g.2 37 t (by omega) (by omega)]; exact h.2 a ha⟩
section DRUN
variable {ext : Nat → List Value → am_M → Option am_R} {d : Nat} (L : Nat → Nat → Int64) (xt xs xi xp xc : Nat) {ls : pt_L}
def de_H (ext : Nat → List Value → am_M → Option am_R) (dp : Nat) (L : Nat → Nat → Int64) (xt xs xi xp xc : Nat) (ls : pt_L) (n : Nat) : Prop := ∀ (i top dd : Nat) (t : Option UInt64) (v : UInt64) (I : Nat → Nat → Int32) (D : Nat → Nat → UInt64), i < n → i < ls.length → top + pt_ks (ls.take (i + 1)) ≤ 100 → dd + i ≤ 18 → og t → (∀ a, t = some a → v = a) → rd_L 2 ls I → I 34 4 = nI top → dm_M ls I D →
  ∃ I' D', am_Rn ext dp 7 [.ref 34, .int (nI i), .double v, .int (flg t), .int (nI dd)] (I, L, D, am_rf (xt, xs, xi, xp, 2, xc)) (none, (I', L, D', am_rf (xt, xs, xi, xp, 2, xc))) ∧ de_fr top I D I' D' ∧ I' 34 4 = nI (top + 1) ∧ st_d (de_S ls i t) top I' D' ∧ dm_M ls I' D'
def de_hd (ext : Nat → List Value → am_M → Option am_R) (d : Nat) (L : Nat → Nat → Int64) (xt xs xi xp xc : Nat) (v : UInt64) (t : Option UInt64) (dd en : Nat) (pl : Int32) (I : Nat → Nat → Int32) (D : Nat → Nat → UInt64) (P : am_R → Prop) : Prop := am_wp ext d mz_7 (59, [some (.ref 34), none, some (.double v), none, some (.int (flg t)), some (.int (nI dd)), some (.int (nI en)), some (.int pl), none], [], (I, L, D, am_rf (xt, xs, xi, xp, 2, xc))) P
theorem de_step {v : UInt64} {t : Option UInt64} {dd en s : Nat} {I I' : Nat → Nat → Int32} {D D' : Nat → Nat → UInt64} {P : am_R → Prop} (hd : 1 ≤ d) (hs : s < en) (hen : en ≤ 288) {op : Int32} (hop : I 7 s = op) (h1 : ¬ op = 1) {to : Nat} (hto : s ≤ to) (hto2 : to ≤ 288) (r : am_Rn ext d 8 [.ref 34, .int op, .int (nI s), .int (nI dd)] (I, L, D, am_rf (xt, xs, xi, xp, 2, xc)) (some (.int (nI to)), (I', L, D', am_rf (xt, xs, xi, xp, 2, xc)))) (h : de_hd ext d L xt xs xi xp xc v t dd en (nI (to + 1)) I' D' P) : de_hd ext d L xt xs xi xp xc v t dd en (nI s) I D P := by
  have ec : (nI s).toNatClampNeg = s := ni_nat (by omega)
  have emx : (if nI s < nI to then nI to else nI s) = nI to := by
    by_cases hlt : s < to
    · rw [if_pos ((ni_lt (by omega) (by omega)).mpr hlt)]
    · have : s = to := by omega
      subst this
      rw [if_neg (fun z => by have := (ni_lt (by omega) (by omega)).mp z; omega)]
  have r2 := c201 (ext := ext) (d := 0) (L := L) (I := I') D' (xt, xs, xi, xp, 2, xc) (nI s) (nI to)
  rw [emx] at r2
  refine w7_59 I L D xc xi xp xs xt v (flg t) (nI dd) (nI en) (nI s) ⟨fun z => ?_, fun _ => ⟨ni_inb (by omega) (by omega), ?_⟩⟩
  · rw [ni_le (by omega) (by omega)] at z; omega
  · rw [ec, hop]
    refine ⟨fun _ => ⟨_, I', L, D', r, _, I', L, D', am_up r2 hd, ?_⟩, fun z => absurd z h1⟩
    rw [show (1 : Int32) = nI 1 from rfl, ni_add (by omega)]
    exact h
theorem de_t {v : UInt64} {t : Option UInt64} {dd en s top : Nat} {I : Nat → Nat → Int32} {D : Nat → Nat → UInt64} {P : am_R → Prop} (hd : 1 ≤ d) (hs : s < en) (hen : en ≤ 288) (hv : ∀ a, t = some a → v = a) (hop : I 7 s = 1) (h4 : I 34 4 = nI top) (ht : top < 100) (h : ∀ I' D', pq_P top t I D I' D' → de_hd ext d L xt xs xi xp xc v t dd en (nI (s + 1)) I' D' P) : de_hd ext d L xt xs xi xp xc v t dd en (nI s) I D P := by
  have ec : (nI s).toNatClampNeg = s := ni_nat (by omega)
  obtain ⟨I', D', r, g⟩ := c11 (ext := ext) (d := 0) L (xt, xs, xi, xp, 2, xc) h4 ht v t hv
  refine w7_59 I L D xc xi xp xs xt v (flg t) (nI dd) (nI en) (nI s) ⟨fun z => ?_, fun _ => ⟨ni_inb (by omega) (by omega), ?_⟩⟩
  · rw [ni_le (by omega) (by omega)] at z; omega
  · rw [ec, hop]
    refine ⟨fun z => absurd rfl z, fun _ => ⟨I', L, D', am_up r hd, ?_⟩⟩
    rw [show (1 : Int32) = nI 1 from rfl, ni_add (by omega)]
    exact h I' D' g
/-- a number's line, kept or worked out -/
theorem c5 {n : Nat} (H : de_H ext d L xt xs xi xp xc ls n) (hd : 2 ≤ d) {i top dd : Nat} {x : Nat × Bool × tr_T} {I : Nat → Nat → Int32} {D : Nat → Nat → UInt64} (hx : ls[i]? = some x) (hb : x.2.1 = false) (hin : i < n) (h18 : ls.length ≤ 18) (hto : top + pt_ks (ls.take (i + 1)) ≤ 100) (hto1 : top < 100) (hdd : dd + i ≤ 18) (hL : rd_L 2 ls I) (h4 : I 34 4 = nI top) (hM : dm_M ls I D) :
    ∃ I' D', am_Rn ext (d + 1) 5 [.ref 34, .int (nI i), .int (nI dd)] (I, L, D, am_rf (xt, xs, xi, xp, 2, xc)) (none, (I', L, D', am_rf (xt, xs, xi, xp, 2, xc))) ∧ de_fr top I D I' D' ∧ I' 34 4 = nI (top + 1) ∧ st_d (de_S ls i (some d_0)) top I' D' ∧ dm_M ls I' D' := by
  have hil : i < ls.length := (List.getElem?_eq_some_iff.mp hx).1
  have ei : (nI i).toNatClampNeg = i := ni_nat (by omega)
  have hinb : am_inb (nI i) 18 = true := ni_inb (by omega) (by omega)
  have i18 : nI i < 18 := (ni_lt (b := 18) (by omega) (by omega)).mpr (by omega)
  have r34 := am_up (c34_2 (ext := ext) (d := 0) (L := L) D (xt, xs, xi, xp, 2, xc) hL.1 h18 hil) (show 1 ≤ d by omega)
  -- from 44 on
  have g44 : ∀ (I1 : Nat → Nat → Int32) (D1 : Nat → Nat → UInt64), I1 34 4 = nI top → ((I1 36 i = 1 ∧ de_S ls i (some d_0) = some (D1 35 i)) ∨ (I1 36 i = 2 ∧ de_S ls i (some d_0) = none)) → ∃ I' D', am_wp ext d mz_5 (44, [some (.ref 34), some (.int (nI i)), none], [], (I1, L, D1, am_rf (xt, xs, xi, xp, 2, xc))) (fun q => q = (none, (I', L, D', am_rf (xt, xs, xi, xp, 2, xc)))) ∧ pq_P top (de_S ls i (some d_0)) I1 D1 I' D' := by
    intro I1 D1 h41 hk
    rcases hk with ⟨k1, k2⟩ | ⟨k1, k2⟩
    · obtain ⟨I', D', r, g⟩ := c9 (ext := ext) (d := 0) (D := D1) L (xt, xs, xi, xp, 2, xc) h41 hto1 (D1 35 i)
      rw [k2]
      refine ⟨I', D', w5_44 I1 L D1 xc xi xp xs xt (nI i) ⟨hinb, ?_⟩, g⟩
      rw [ei, k1]
      exact ⟨fun z => absurd rfl z, fun _ => ⟨hinb, I', L, D', am_up r hd, rfl⟩⟩
    · obtain ⟨I', D', r, g⟩ := c10 (ext := ext) (d := 0) (D := D1) L (xt, xs, xi, xp, 2, xc) h41 hto1
      rw [k2]
      refine ⟨I', D', w5_44 I1 L D1 xc xi xp xs xt (nI i) ⟨hinb, ?_⟩, g⟩
      rw [ei, k1]
      exact ⟨fun _ => ⟨I', L, D', am_up r hd, rfl⟩, fun z => absurd z (by decide)⟩
  by_cases h0 : I 36 i = 0
  · obtain ⟨I1, D1, r7, F1, t1, v1, M1⟩ := H i top dd (some d_0) FP.dconst0 I D hin hil hto hdd og_0 (fun a h => by cases h; rfl) hL h4 hM
    have e1 : I1 34 4 - 1 = nI top := by rw [t1, show (1 : Int32) = nI 1 from rfl, ni_sub (by omega) (by omega)]; rfl
    have et : (nI top).toNatClampNeg = top := ni_nat (by omega)
    have hbt : am_inb (nI top) 100 = true := ni_inb hto1 (by omega)
    have lt1 : ¬ I1 34 4 < 1 := by
      rw [t1]
      intro z
      have := (ni_lt (b := 1) (by omega) (by omega)).mp z
      omega
    obtain ⟨I2, D2, r6, p4, p36, pD, fI, fD, hk⟩ : ∃ I2 D2, am_Rn ext 1 6 [.ref 34, .int (nI i)] (I1, L, D1, am_rf (xt, xs, xi, xp, 2, xc)) (none, (I2, L, D2, am_rf (xt, xs, xi, xp, 2, xc))) ∧ I2 34 4 = nI top ∧ (∀ b, ¬ b = i → I2 36 b = I1 36 b) ∧ (∀ b, ¬ b = i → D2 35 b = D1 35 b) ∧ (∀ a b, ¬ (a = 34 ∧ b = 4) → ¬ a = 36 → I2 a b = I1 a b) ∧ (∀ a b, ¬ a = 35 → D2 a b = D1 a b) ∧ ((I2 36 i = 1 ∧ de_S ls i (some d_0) = some (D2 35 i)) ∨ (I2 36 i = 2 ∧ de_S ls i (some d_0) = none)) := by
      cases hv : de_S ls i (some d_0) with
      | none =>
        rw [hv] at v1
        have f1 : I1 38 top = 1 := v1.1
        refine ⟨am_uI (am_uI I1 34 4 (nI top)) 36 i 2, am_uD D1 35 i (D1 37 top), am_rn_of mh_6 rfl (w6_0 I1 L D1 _ (nI i) ⟨fun z => absurd z lt1, fun _ => ⟨fun z => absurd z (ni_nn (by omega)), fun _ => ⟨fun _ => ?_, fun z => absurd i18 z⟩⟩⟩), by rw [am_uI_at, if_neg (by omega), am_uI_at, if_pos ⟨rfl, rfl⟩], fun b hb => by rw [am_uI_at, if_neg (by omega), am_uI_at, if_neg (by omega)], fun b hb => by rw [am_uD_at, if_neg (by omega)], fun a b q1 q2 => by rw [am_uI_at, if_neg (by omega), am_uI_at, if_neg q1], fun a b q => by rw [am_uD_at, if_neg (by omega)], Or.inr ⟨by rw [am_uI_at, if_pos ⟨rfl, rfl⟩], rfl⟩⟩
        rw [e1, et, ei, f1]
        exact ⟨hbt, hinb, hbt, fun z => absurd z (by decide), fun _ => ⟨hinb, rfl⟩⟩
      | some a =>
        rw [hv] at v1
        have f1 : I1 38 top = 0 := v1.1
        have f2 : D1 37 top = a := v1.2 a rfl
        refine ⟨am_uI (am_uI I1 34 4 (nI top)) 36 i 1, am_uD D1 35 i (D1 37 top), am_rn_of mh_6 rfl (w6_0 I1 L D1 _ (nI i) ⟨fun z => absurd z lt1, fun _ => ⟨fun z => absurd z (ni_nn (by omega)), fun _ => ⟨fun _ => ?_, fun z => absurd i18 z⟩⟩⟩), by rw [am_uI_at, if_neg (by omega), am_uI_at, if_pos ⟨rfl, rfl⟩], fun b hb => by rw [am_uI_at, if_neg (by omega), am_uI_at, if_neg (by omega)], fun b hb => by rw [am_uD_at, if_neg (by omega)], fun a b q1 q2 => by rw [am_uI_at, if_neg (by omega), am_uI_at, if_neg q1], fun a b q => by rw [am_uD_at, if_neg (by omega)], Or.inl ⟨by rw [am_uI_at, if_pos ⟨rfl, rfl⟩], by rw [am_uD_at, if_pos ⟨rfl, rfl⟩, f2]⟩⟩
        rw [e1, et, ei, f1]
        exact ⟨hbt, hinb, hbt, fun _ => ⟨hinb, rfl⟩, fun z => absurd rfl z⟩
    obtain ⟨I3, D3, W, g⟩ := g44 I2 D2 p4 hk
    have F12 : de_fr top I D I2 D2 := ⟨fun a b q1 q2 q3 => by rw [fI a b q1 q3, F1.1 a b q1 q2 q3], fun a b q1 q2 => by rw [fD a b q2, F1.2 a b q1 q2]⟩
    refine ⟨I3, D3, am_rn_of mh_5 rfl (w5_0 I L D xc xi xp xs xt (nI i) (nI dd) ⟨_, I, L, D, r34, fun z => absurd z (by decide), fun _ => ⟨fun _ => ⟨hinb, ?_⟩, fun z => absurd i18 z⟩⟩), de_fr_t F12 (de_fr_p g) (Nat.le_refl _), g.1, g.2.1, dm_M_p ?_ g⟩
    · rw [ei]
      exact ⟨fun z => absurd h0 z, fun _ => ⟨I1, L, D1, r7, I2, L, D2, am_up r6 (by omega), W⟩⟩
    · intro j y hy hyb
      by_cases hji : j = i
      · subst hji
        exact Or.inr hk
      · rw [p36 j hji, pD j hji]
        exact M1 j y hy hyb
  · have hk := (hM i x hx hb).resolve_left h0
    obtain ⟨I3, D3, W, g⟩ := g44 I D h4 hk
    refine ⟨I3, D3, am_rn_of mh_5 rfl (w5_0 I L D xc xi xp xs xt (nI i) (nI dd) ⟨_, I, L, D, r34, fun z => absurd z (by decide), fun _ => ⟨fun _ => ⟨hinb, ?_⟩, fun z => absurd i18 z⟩⟩), de_fr_p g, g.1, g.2.1, dm_M_p hM g⟩
    rw [ei]
    exact ⟨fun _ => W, fun z => absurd z h0⟩
end DRUN
