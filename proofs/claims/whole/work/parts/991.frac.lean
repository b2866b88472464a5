/-! ===== exact fractions, purely; the class's pushes ===== -/
def gc : Nat → Int64 → Int64 → Int64
  | 0, a, _ => a
  | k + 1, a, b => if b = 0 then a else gc k b (a - a / b * b)
def xq1 (u l g : Int64) : Option (Int64 × Int64) := if g = 0 then none else if 1000000000 < sp_ab (u / g) then none else if 1000000000 < l / g then none else some (u / g, l / g)
def xq (u l : Int64) : Option (Int64 × Int64) := if l = 0 then none else xq1 u l (if 0 ≤ l then gc 128 (sp_ab u) (sp_ab l) else -(gc 128 (sp_ab u) (sp_ab l)))
def xo (kd : Nat) (q r : Int64 × Int64) : Option (Int64 × Int64) := if kd = 6 then xq (q.1 * r.2 + r.1 * q.2) (q.2 * r.2) else if kd = 7 then xq (q.1 * r.2 - r.1 * q.2) (q.2 * r.2) else if kd = 8 then xq (q.1 * r.1) (q.2 * r.2) else xq (q.1 * r.2) (q.2 * r.1)
def xm (o : Option (Int64 × Int64)) : Option (Int64 × Int64) := match o with
  | none => none
  | some q => xq q.1 q.2
def ex_0 (E : Nat → Option (Int64 × Int64)) (p : tr_P) : Option (Int64 × Int64) := if p.2.1 = 0 then xq (Int32.toInt64 (nI p.2.2.1)) 1 else if p.2.1 = 2 then xm (E p.2.2.2.1) else none
def ex_1 (p : tr_P) (x : Option (Int64 × Int64)) : Option (Int64 × Int64) := if p.2.1 = 3 then (match x with | none => none | some q => xq (-q.1) q.2) else none
def ex_2 (p : tr_P) (x y : Option (Int64 × Int64)) : Option (Int64 × Int64) := if p.2.1 ≤ 9 then (match x, y with | some q, some r => xo p.2.1 q r | _, _ => none) else none
def ex_T (E : Nat → Option (Int64 × Int64)) : tr_T → Option (Int64 × Int64)
  | .leaf p => ex_0 E p
  | .branch 1 (.leaf p) A => ex_1 p (ex_T E A)
  | .branch 2 (.leaf p) (.branch 0 A B) => ex_2 p (ex_T E A) (ex_T E B)
  | _ => none
/-- a line: n: lines below n are known -/
def ex_L (ls : pt_L) : Nat → Nat → Option (Int64 × Int64)
  | 0, _ => none
  | n + 1, i => match ls[i]? with
    | some x => if x.2.1 = true then none else ex_T (ex_L ls n) x.2.2
    | none => none
/-- what a push leaves -/
def xp_fr (t : Nat) (I : Nat → Nat → Int32) (L : Nat → Nat → Int64) (I' : Nat → Nat → Int32) (L' : Nat → Nat → Int64) : Prop := (∀ a b, ¬ (a = 29 ∧ b = 4) → I' a b = I a b) ∧ (∀ a b, ¬ ((a = 32 ∨ a = 33) ∧ t ≤ b) → L' a b = L a b)
def xp_v (t : Nat) (q : Int64 × Int64) (I : Nat → Nat → Int32) (L : Nat → Nat → Int64) : Prop := I 29 4 = nI (t + 1) ∧ L 32 t = q.1 ∧ L 33 t = q.2
theorem xp_fr_0 (t : Nat) (I : Nat → Nat → Int32) (L : Nat → Nat → Int64) : xp_fr t I L I L := ⟨fun _ _ _ => rfl, fun _ _ _ => rfl⟩
theorem xp_fr_t {t t' : Nat} {I I1 I2 : Nat → Nat → Int32} {L L1 L2 : Nat → Nat → Int64} (h1 : xp_fr t I L I1 L1) (h2 : xp_fr t' I1 L1 I2 L2) (h : t ≤ t') : xp_fr t I L I2 L2 := ⟨fun a b q => (h2.1 a b q).trans (h1.1 a b q), fun a b q => (h2.2 a b (by omega)).trans (h1.2 a b q)⟩
section FRAC
variable {ext : Nat → List Value → am_M → Option am_R} {d : Nat} (D : Nat → Nat → UInt64) (X : am_Rf) {I : Nat → Nat → Int32} {L : Nat → Nat → Int64}
theorem c30 (u l : Int64) : am_Rn ext (d + 2) 30 [.long u, .long l] (I, L, D, am_rf X) (some (.long (gc 128 (sp_ab u) (sp_ab l))), (I, L, D, am_rf X)) := by
  have key : ∀ (k n : Nat) (a b : Int64), n + k = 128 → am_wp ext (d + 1) mz_30 (15, [none, none, none, none, some (.long a), none, some (.long b), none, some (.int (nI n)), none, none], [], (I, L, D, am_rf X)) (fun r => r = (some (.long (gc k a b)), (I, L, D, am_rf X))) := by
    intro k
    induction k with
    | zero =>
      intro n a b hn
      have : n = 128 := by omega
      subst this
      exact w30_15 I L D X a b (nI 128) ⟨fun _ => rfl, fun z => absurd (by decide) z⟩
    | succ k ih =>
      intro n a b hn
      have n128 : ¬ (128 : Int32) ≤ nI n := fun z => by have := (ni_le (a := 128) (by omega) (by omega)).mp z; omega
      have e1 : nI n + 1 = nI (n + 1) := by rw [show (1 : Int32) = nI 1 from rfl, ni_add (by omega)]
      refine w30_15 I L D X a b (nI n) ⟨fun z => absurd z n128, fun _ => ⟨fun z => ?_, fun z => ⟨z, ?_⟩⟩⟩
      · rw [gc, if_pos z]
      · rw [gc, if_neg z, e1]
        exact ih (n + 1) _ _ (by omega)
  exact am_rn_of mh_30 rfl (w30_0 I L D X u l ⟨_, I, L, D, am_up (c205 (ext := ext) (d := 0) L D X I u) (by omega), _, I, L, D, am_up (c205 (ext := ext) (d := 0) L D X I l) (by omega), key 128 0 _ _ rfl⟩)
theorem c29 {t : Nat} (h4 : I 29 4 = nI t) (ht : t < 100) (u l : Int64) : ∃ I' L', am_Rn ext (d + 3) 29 [.ref 29, .long u, .long l] (I, L, D, am_rf X) (some (.int (if xq u l = none then 0 else 1)), (I', L', D, am_rf X)) ∧ xp_fr t I L I' L' ∧ (∀ q, xq u l = some q → xp_v t q I' L') := by
  have hb : am_inb (I 29 4) 100 = true := by rw [h4]; exact ni_inb ht (by omega)
  have e4 : (I 29 4).toNatClampNeg = t := by rw [h4, ni_nat (by omega)]
  have e5 : I 29 4 + 1 = nI (t + 1) := by rw [h4, show (1 : Int32) = nI 1 from rfl, ni_add (by omega)]
  have lt : I 29 4 < 100 := by rw [h4]; exact (ni_lt (b := 100) (by omega) (by omega)).mpr ht
  have r30 := c30 (ext := ext) (d := d) D X (I := I) (L := L) u l
  -- the tail at 37
  have tail : ∀ g : Int64, ∃ I' L', am_wp ext (d + 2) mz_29 (37, [some (.ref 29), some (.long u), none, some (.long l), none, none, none, none], [.long g], (I, L, D, am_rf X)) (fun r => r = (some (.int (if xq1 u l g = none then 0 else 1)), (I', L', D, am_rf X))) ∧ xp_fr t I L I' L' ∧ (∀ q, xq1 u l g = some q → xp_v t q I' L') := by
    intro g
    by_cases hg : g = 0
    · have e : xq1 u l g = none := by unfold xq1; rw [if_pos hg]
      refine ⟨I, L, w29_37 I L D X u l g ⟨fun z => absurd hg z, fun _ => by rw [e]; rfl⟩, xp_fr_0 t I L, fun q hq => by rw [e] at hq; cases hq⟩
    · have ra := am_up (c205 (ext := ext) (d := 0) (am_uL (am_uL L 32 t (u / g)) 33 t (l / g)) D X I (u / g)) (show 1 ≤ d + 2 by omega)
      have l32 : am_uL L 32 t (u / g) 32 t = u / g := by rw [am_uL_at, if_pos ⟨rfl, rfl⟩]
      have l33 : am_uL (am_uL L 32 t (u / g)) 33 t (l / g) 33 t = l / g := by rw [am_uL_at, if_pos ⟨rfl, rfl⟩]
      refine ⟨am_uI I 29 4 (nI (t + 1)), am_uL (am_uL L 32 t (u / g)) 33 t (l / g), w29_37 I L D X u l g ⟨fun _ => ⟨hg, hb, hg, hb, hb, _, I, _, D, by rw [e4, l32]; exact ra, fun z => ?_, fun z => ⟨hb, ?_⟩⟩, fun z => absurd z hg⟩, ⟨fun a b h => by rw [am_uI_at, if_neg h], fun a b h => by rw [am_uL_at, if_neg (by omega), am_uL_at, if_neg (by omega)]⟩, fun q hq => ?_⟩
      · have e : xq1 u l g = none := by unfold xq1; rw [if_neg hg, if_pos z]
        rw [e, e5]; rfl
      · rw [e4, l33, e5]
        refine ⟨fun y => ?_, fun y => ?_⟩
        · have e : xq1 u l g = none := by unfold xq1; rw [if_neg hg, if_neg z, if_pos y]
          rw [e]; rfl
        · have e : xq1 u l g = some (u / g, l / g) := by unfold xq1; rw [if_neg hg, if_neg z, if_neg y]
          rw [e, if_neg (by intro q; cases q)]
      · unfold xq1 at hq
        rw [if_neg hg] at hq
        split at hq
        · cases hq
        · split at hq
          · cases hq
          · cases hq
            exact ⟨by rw [am_uI_at, if_pos ⟨rfl, rfl⟩], by rw [am_uL_at, if_neg (by omega), am_uL_at, if_pos ⟨rfl, rfl⟩], l33⟩
  by_cases hl : l = 0
  · have e : xq u l = none := by unfold xq; rw [if_pos hl]
    exact ⟨I, L, am_rn_of mh_29 rfl (w29_0 I L D X u l ⟨fun _ => by rw [e]; rfl, fun z => absurd hl z⟩), xp_fr_0 t I L, fun q hq => by rw [e] at hq; cases hq⟩
  · by_cases hn : 0 ≤ l
    · have e : xq u l = xq1 u l (gc 128 (sp_ab u) (sp_ab l)) := by unfold xq; rw [if_neg hl, if_pos hn]
      obtain ⟨I', L', W, F, V⟩ := tail (gc 128 (sp_ab u) (sp_ab l))
      rw [e]
      exact ⟨I', L', am_rn_of mh_29 rfl (w29_0 I L D X u l ⟨fun z => absurd z hl, fun _ => ⟨fun _ => ⟨fun _ => ⟨_, I, L, D, r30, W⟩, fun z => absurd hn z⟩, fun z => absurd lt z⟩⟩), F, V⟩
    · have e : xq u l = xq1 u l (-(gc 128 (sp_ab u) (sp_ab l))) := by unfold xq; rw [if_neg hl, if_neg hn]
      obtain ⟨I', L', W, F, V⟩ := tail (-(gc 128 (sp_ab u) (sp_ab l)))
      rw [e]
      exact ⟨I', L', am_rn_of mh_29 rfl (w29_0 I L D X u l ⟨fun z => absurd z hl, fun _ => ⟨fun _ => ⟨fun z => absurd z hn, fun _ => ⟨_, I, L, D, r30, W⟩⟩, fun z => absurd lt z⟩⟩), F, V⟩
end FRAC
