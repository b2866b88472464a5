/-! ===== the machine's numbers, purely; the class's steps ===== -/
def d_0 : UInt64 := FP.dconst0
noncomputable def de_o (kd : Nat) (a b : UInt64) : Option UInt64 := @ite _ (d_lz kd a b) (Classical.propDecidable _) none (some (d_two kd a b))
theorem de_o_n {kd : Nat} {a b : UInt64} (h : d_lz kd a b) : de_o kd a b = none := if_pos h
theorem de_o_s {kd : Nat} {a b : UInt64} (h : ¬ d_lz kd a b) : de_o kd a b = some (d_two kd a b) := if_neg h
noncomputable def de_a (kd : Nat) (a : UInt64) : Option UInt64 := if kd = 3 then some (FP.dneg a) else if kd = 4 then (if dz a < 0 then none else some (d_root a)) else some (d_abs a)
noncomputable def de_1 (p : tr_P) (x : Option UInt64) : Option UInt64 := match x with
  | none => none
  | some a => de_a p.2.1 a
noncomputable def de_2 (p : tr_P) (x y : Option UInt64) : Option UInt64 := match x, y with
  | some a, some b => de_o p.2.1 a b
  | _, _ => none
def de_i (p : tr_P) (x y : Option UInt64) : Bool := match x, y with
  | some a, some b => if p.2.1 = 12 then decide (dz a < dz b) else decide (dz b < dz a)
  | _, _ => false
noncomputable def de_T (G : Nat → Option UInt64 → Option UInt64) (t : Option UInt64) : tr_T → Option UInt64
  | .leaf p => if p.2.1 = 0 then some (FP.i2d (nI p.2.2.1)) else if p.2.1 = 1 then t else if p.2.1 = 2 then G p.2.2.2.1 (some d_0) else none
  | .branch 1 (.leaf p) A => if p.2.1 = 14 then G p.2.2.2.1 (de_T G t A) else de_1 p (de_T G t A)
  | .branch 2 (.leaf p) (.branch 0 A B) => de_2 p (de_T G t A) (de_T G t B)
  | .branch 4 (.leaf p) (.branch 0 (.branch 0 A B) (.branch 0 V W)) => if de_i p (de_T G t A) (de_T G t B) = true then de_T G t V else de_T G t W
  | _ => none
noncomputable def de_L (ls : pt_L) : Nat → Nat → Option UInt64 → Option UInt64
  | 0, _, _ => none
  | n + 1, i, t => match ls[i]? with
    | some x => de_T (de_L ls n) t x.2.2
    | none => none
noncomputable def de_S (ls : pt_L) (i : Nat) (t : Option UInt64) : Option UInt64 := de_L ls (i + 1) i t
theorem de_T_cong {e : pt_E} {G G' : Nat → Option UInt64 → Option UInt64} {t : Option UInt64} (h : ∀ l, ¬ e.2.1 l = 0 → ∀ x, G (e.2.2 l) x = G' (e.2.2 l) x) : ∀ (T : tr_T) (s : Nat), tr_ok e T s → de_T G t T = de_T G' t T := by
  refine tr_ind ?_ ?_ ?_ ?_ ?_
  · intro p s _ hk
    simp only [de_T]
    split
    · rfl
    · split
      · rfl
      · split
        · rcases hk with ⟨k, _⟩ | ⟨k, _⟩ | ⟨k, h0, h1, h2⟩ | ⟨k, _⟩
          · omega
          · omega
          · rw [h2, h _ (by omega)]
          · omega
        · rfl
  · intro p A s _ hk _ ih
    simp only [de_T]
    rw [ih]
    split
    · rcases hk with k | k | k | ⟨k, h0, h1, h2⟩
      · omega
      · omega
      · omega
      · rw [h2, h _ (by omega)]
    · rfl
  · intro p A B s _ _ _ _ _ iha ihb
    simp only [de_T]
    rw [iha, ihb]
  · intro p A B s _ _ _ _ iha ihb
    simp only [de_T]
    rw [iha, ihb]
  · intro p A B V W s _ _ _ _ _ _ iha ihb ihv ihw
    simp only [de_T]
    rw [iha, ihb, ihv, ihw]
theorem de_L_st {ls : pt_L} (hwf : pt_wf ls) : ∀ (n k : Nat), k < n → ∀ t, de_L ls n k t = de_S ls k t := by
  intro n
  induction n using Nat.strongRecOn with
  | ind n ih =>
    intro k hk t
    obtain ⟨n', rfl⟩ : ∃ n', n = n' + 1 := ⟨n - 1, by omega⟩
    show de_L ls (n' + 1) k t = de_L ls (k + 1) k t
    by_cases e : k = n'
    · subst e; rfl
    · simp only [de_L]
      cases hx : ls[k]? with
      | none => rfl
      | some x =>
        simp only
        refine de_T_cong (fun l hl y => ?_) x.2.2 _ (hwf k x hx).2.2.2
        have lt := ix_lt (ls := ls) (k := k) (l := l) hl
        show de_L ls n' (pt_ix (ls.take k) l) y = de_L ls k (pt_ix (ls.take k) l) y
        rw [ih n' (by omega) _ (by omega), ih k (by omega) _ (by omega)]
theorem de_S_at {ls : pt_L} (hwf : pt_wf ls) {i : Nat} {x : Nat × Bool × tr_T} (hx : ls[i]? = some x) (t : Option UInt64) : de_S ls i t = de_T (de_S ls) t x.2.2 := by
  unfold de_S
  simp only [de_L, hx]
  refine de_T_cong (fun l hl y => ?_) x.2.2 _ (hwf i x hx).2.2.2
  have lt := ix_lt (ls := ls) (k := i) (l := l) hl
  exact de_L_st hwf i _ lt.1 y
/-- no NaN -/
def og (o : Option UInt64) : Prop := ∀ a, o = some a → nn a
theorem og_0 : og (some d_0) := fun a h => by cases h; exact nn_0
theorem nn_rt {a : UInt64} {n : Nat} {r : UInt64} (h : rtR n r) : nn r := by
  obtain ⟨_, _, _, _, _, _, _, _, h⟩ := h
  exact dv_nn h
/-- the flag and the value of one that may be lost -/
def flg (o : Option UInt64) : Int32 := match o with
  | none => 1
  | some _ => 0
def dbl (o : Option UInt64) : UInt64 := match o with
  | none => d_0
  | some a => a
theorem flg01 (o : Option UInt64) : flg o = 0 ∨ flg o = 1 := by cases o <;> simp [flg]
/-- a value more on the row -/
def st_d (o : Option UInt64) (t : Nat) (I : Nat → Nat → Int32) (D : Nat → Nat → UInt64) : Prop := I 38 t = flg o ∧ (∀ a, o = some a → D 37 t = a)
def pq_P (t : Nat) (o : Option UInt64) (I : Nat → Nat → Int32) (D : Nat → Nat → UInt64) (I' : Nat → Nat → Int32) (D' : Nat → Nat → UInt64) : Prop := I' 34 4 = nI (t + 1) ∧ st_d o t I' D' ∧ (∀ a b, ¬ (a = 34 ∧ b = 4) → ¬ (a = 38 ∧ b = t) → I' a b = I a b) ∧ (∀ a b, ¬ (a = 37 ∧ b = t) → D' a b = D a b)
section DEV
variable {ext : Nat → List Value → am_M → Option am_R} {d : Nat} (L : Nat → Nat → Int64) (X : am_Rf) {I : Nat → Nat → Int32} {D : Nat → Nat → UInt64}
theorem c11 {t : Nat} (h4 : I 34 4 = nI t) (ht : t < 100) (v : UInt64) (o : Option UInt64) (hv : ∀ a, o = some a → v = a) : ∃ I' D', am_Rn ext (d + 1) 11 [.ref 34, .double v, .int (flg o)] (I, L, D, am_rf X) (none, (I', L, D', am_rf X)) ∧ pq_P t o I D I' D' := by
  have hb : am_inb (I 34 4) 100 = true := by rw [h4]; exact ni_inb ht (by omega)
  have et : (I 34 4).toNatClampNeg = t := by rw [h4, ni_nat (by omega)]
  have e1 : I 34 4 + 1 = nI (t + 1) := by rw [h4, show (1 : Int32) = nI 1 from rfl, ni_add (by omega)]
  refine ⟨am_uI (am_uI I 38 t (flg o)) 34 4 (nI (t + 1)), am_uD D 37 t v, am_rn_of mh_11 rfl (w11_0 I L D X v (flg o) ⟨fun z => ?_, fun _ => ⟨hb, hb, flg01 o, by rw [et, e1]⟩⟩), by rw [am_uI_at, if_pos ⟨rfl, rfl⟩], ⟨by rw [am_uI_at, if_neg (by omega), am_uI_at, if_pos ⟨rfl, rfl⟩], fun a ha => by rw [am_uD_at, if_pos ⟨rfl, rfl⟩, hv a ha]⟩, fun a b q1 q2 => by rw [am_uI_at, if_neg q1, am_uI_at, if_neg q2], fun a b q => by rw [am_uD_at, if_neg q]⟩
  rw [h4] at z
  have := (ni_le (a := 100) (by omega) (by omega)).mp z
  omega
theorem c9 {t : Nat} (h4 : I 34 4 = nI t) (ht : t < 100) (v : UInt64) : ∃ I' D', am_Rn ext (d + 2) 9 [.ref 34, .double v] (I, L, D, am_rf X) (none, (I', L, D', am_rf X)) ∧ pq_P t (some v) I D I' D' := by
  obtain ⟨I', D', r, g⟩ := c11 (ext := ext) (d := d) L X h4 ht v (some v) (fun a h => by cases h; rfl)
  exact ⟨I', D', am_rn_of mh_9 rfl (w9_0 I L D X v ⟨I', L, D', r, rfl⟩), g⟩
theorem c10 {t : Nat} (h4 : I 34 4 = nI t) (ht : t < 100) : ∃ I' D', am_Rn ext (d + 2) 10 [.ref 34] (I, L, D, am_rf X) (none, (I', L, D', am_rf X)) ∧ pq_P t none I D I' D' := by
  obtain ⟨I', D', r, g⟩ := c11 (ext := ext) (d := d) L X h4 ht FP.dconst0 none (fun a h => by cases h)
  exact ⟨I', D', am_rn_of mh_10 rfl (w10_0 I L D X ⟨I', L, D', r, rfl⟩), g⟩
theorem c17 {a : UInt64} (ha : nn a) : ∃ r : Int32, am_Rn ext (d + 1) 17 [.double a] (I, L, D, am_rf X) (some (.int r), (I, L, D, am_rf X)) ∧ (r = 0 ↔ ¬ d_inf a) := by
  have k1 := dcv_gt ha nn_Mx .l
  have k2 := dcv_ge ha nn_Mn .g
  by_cases h1 : dz dMx < dz a
  · exact ⟨1, am_rn_of mh_17 rfl (w17_0 I L D X a ⟨fun _ => rfl, fun z => absurd (k1.mpr h1) z⟩), ⟨fun z => absurd z (by decide), fun z => absurd (Or.inl h1) z⟩⟩
  · by_cases h2 : dz dMn ≤ dz a
    · refine ⟨0, am_rn_of mh_17 rfl (w17_0 I L D X a ⟨fun z => absurd (k1.mp z) h1, fun _ => ⟨fun _ => rfl, fun z => absurd (k2.mpr h2) z⟩⟩), ⟨fun _ q => ?_, fun _ => rfl⟩⟩
      rcases q with q | q
      · exact h1 q
      · omega
    · exact ⟨1, am_rn_of mh_17 rfl (w17_0 I L D X a ⟨fun z => absurd (k1.mp z) h1, fun _ => ⟨fun z => absurd (k2.mp z) h2, fun _ => rfl⟩⟩), ⟨fun z => absurd z (by decide), fun z => absurd (Or.inr (by omega)) z⟩⟩
theorem c18 {a b : UInt64} (ha : nn a) (hb : nn b) : am_Rn ext (d + 1) 18 [.double a, .double b] (I, L, D, am_rf X) (some (.double (d_max a b)), (I, L, D, am_rf X)) := by
  have k1 := dcv_eq ha nn_0 .l
  have k2 := dcv_eq hb nn_0 .l
  have k3 := dcv_lt ha hb .l
  rw [dz_0] at k1 k2
  refine am_rn_of mh_18 rfl (w18_0 I L D X a b ⟨fun z => ⟨fun y => ?_, fun y => ?_⟩, fun z => ⟨fun y => ⟨fun x => ?_, fun x => ?_⟩, fun y => ⟨(nn_am _).mpr ((nn_max ha hb).2 ⟨k1.mp z, k2.mp y⟩), ?_⟩⟩⟩)
  · unfold d_max; rw [if_neg (fun q => z (k1.mpr q.1)), if_pos (k3.mp y)]
  · unfold d_max; rw [if_neg (fun q => z (k1.mpr q.1)), if_neg (fun q => y (k3.mpr q))]
  · unfold d_max; rw [if_neg (fun q => y (k2.mpr q.2)), if_pos (k3.mp x)]
  · unfold d_max; rw [if_neg (fun q => y (k2.mpr q.2)), if_neg (fun q => x (k3.mpr q))]
  · unfold d_max; rw [if_pos ⟨k1.mp z, k2.mp y⟩]
end DEV
