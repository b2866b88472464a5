/-! ===== spans by w bits, purely: none, or LOW and HIGH; and how many knots are asked ===== -/
def sp_sh (w : Nat) : Int64 := (Int32.toInt64 (nI w)) &&& 63
def sp_l (w : Nat) (x : Int64) : Int64 := x <<< sp_sh w
def sp_r (w : Nat) (x : Int64) : Int64 := x >>> sp_sh w
def sp_up (w : Nat) (x : Int64) : Int64 := -((-x) >>> sp_sh w)
def sp_lim (w : Nat) : Int64 := 2048 <<< sp_sh w
def sp_mn (a b : Int64) : Int64 := if b < a then b else a
def sp_mx (a b : Int64) : Int64 := if a < b then b else a
def sp_ab (a : Int64) : Int64 := if 0 ≤ a then a else -a
/-- division downwards, upwards -/
def sp_fl (a b : Int64) : Int64 := if b = 0 then 0 else if 0 ≤ (a ^^^ b) then a / b else if (a / b) * b = a then a / b else a / b - 1
def sp_ce (a b : Int64) : Int64 := if b = 0 then 0 else -(sp_fl (-a) b)
/-- what lies within the limit -/
def sp_k (w : Nat) (lo hi : Int64) : Option (Int64 × Int64) := if lo < -(sp_lim w) then none else if sp_lim w < hi then none else some (lo, hi)
def sp_lo (o : Option (Int64 × Int64)) : Int64 := match o with
  | none => 1
  | some p => p.1
def sp_hi (o : Option (Int64 × Int64)) : Int64 := match o with
  | none => 0
  | some p => p.2
/-- roots, bit by bit -/
def sp_rt (n : Int64) : Nat → Int64 → Int64
  | 0, r => r
  | j + 1, r => if n < (r + (1 <<< sp_sh j)) * (r + (1 <<< sp_sh j)) then sp_rt n j r else sp_rt n j (r + (1 <<< sp_sh j))
def sp_rd (n : Int64) : Int64 := sp_rt n 27 0
def sp_ru (n : Int64) : Int64 := if sp_rd n * sp_rd n = n then sp_rd n else sp_rd n + 1
/-- one part: - (3), sqrt (4), abs (5) -/
def sp_1 (w kd : Nat) (lo hi : Int64) : Option (Int64 × Int64) :=
  if kd = 3 then sp_k w (-hi) (-lo)
  else if kd = 4 then (if lo < 0 then none else sp_k w (sp_rd (sp_l w lo)) (sp_ru (sp_l w hi)))
  else if 0 < lo then sp_k w (sp_mn (sp_ab lo) (sp_ab hi)) (sp_mx (sp_ab lo) (sp_ab hi))
  else if hi < 0 then sp_k w (sp_mn (sp_ab lo) (sp_ab hi)) (sp_mx (sp_ab lo) (sp_ab hi))
  else sp_k w 0 (sp_mx (-lo) hi)
/-- two parts: + - * / max min (6 .. 11) -/
def sp_2 (w kd : Nat) (a b c d : Int64) : Option (Int64 × Int64) :=
  if kd = 6 then sp_k w (a + c) (b + d)
  else if kd = 7 then sp_k w (a - d) (b - c)
  else if kd = 8 then sp_k w (sp_r w (sp_mn (sp_mn (a * c) (a * d)) (sp_mn (b * c) (b * d)))) (sp_up w (sp_mx (sp_mx (a * c) (a * d)) (sp_mx (b * c) (b * d))))
  else if kd = 9 then (if ¬ 0 < c ∧ ¬ d < 0 then none else sp_k w (sp_mn (sp_mn (sp_fl (sp_l w a) c) (sp_fl (sp_l w a) d)) (sp_mn (sp_fl (sp_l w b) c) (sp_fl (sp_l w b) d))) (sp_mx (sp_mx (sp_ce (sp_l w a) c) (sp_ce (sp_l w a) d)) (sp_mx (sp_ce (sp_l w b) c) (sp_ce (sp_l w b) d))))
  else if kd = 10 then sp_k w (sp_mx a c) (sp_mx b d)
  else sp_k w (sp_mn a c) (sp_mn b d)
abbrev ev_R : Type := Option (Int64 × Int64) × Nat
/-- the end of piece k -/
def sp_pe (w : Nat) (i j : Int) (k : Nat) : Int64 := ((Int32.toInt64 (Int32.ofInt i)) <<< ((Int32.toInt64 (nI w)) &&& 63)) + ((((Int32.toInt64 (Int32.ofInt j - Int32.ofInt i)) * (Int32.toInt64 (nI k))) <<< ((Int32.toInt64 (nI w)) &&& 63)) >>> ((Int32.toInt64 (nI w / 4)) &&& 63))
/-- -1, 1: surely below, above 0 -/
def sp_sg (o : Option (Int64 × Int64)) : Int32 := match o with
  | none => 0
  | some p => if p.2 < 0 then -1 else if 0 < p.1 then 1 else 0
def ev_nl (E : Int64 → Int64 → ev_R) (s1 s2 : Int32) : Nat → Int64 → Int64 → Nat → Int64 × Int64 × Nat
  | 0, l, r, u => (l, r, u)
  | k + 1, l, r, u => if r - l ≤ 1 then (l, r, u) else if sp_sg (E ((l + r) >>> sp_sh 1) ((l + r) >>> sp_sh 1)).1 = 0 then (l, r, u + (E ((l + r) >>> sp_sh 1) ((l + r) >>> sp_sh 1)).2) else
      ev_nl E s1 s2 k (if sp_sg (E ((l + r) >>> sp_sh 1) ((l + r) >>> sp_sh 1)).1 = s1 then (l + r) >>> sp_sh 1 else l) (if sp_sg (E ((l + r) >>> sp_sh 1) ((l + r) >>> sp_sh 1)).1 = s2 then (l + r) >>> sp_sh 1 else r) (u + (E ((l + r) >>> sp_sh 1) ((l + r) >>> sp_sh 1)).2)
def ev_n (w : Nat) (E : Int64 → Int64 → ev_R) (l r : Int64) : ev_R :=
  if sp_sg (E l l).1 * sp_sg (E r r).1 = -1 then
    (sp_k w (ev_nl E (sp_sg (E l l).1) (sp_sg (E r r).1) 64 l r ((E l l).2 + (E r r).2)).1 (ev_nl E (sp_sg (E l l).1) (sp_sg (E r r).1) 64 l r ((E l l).2 + (E r r).2)).2.1, (ev_nl E (sp_sg (E l l).1) (sp_sg (E r r).1) 64 l r ((E l l).2 + (E r r).2)).2.2 + 1)
  else (none, (E l l).2 + (E r r).2 + 1)
/-- area (16), most (17), least (18): m pieces left, k done -/
def ev_pl (w : Nat) (E : Int64 → Int64 → ev_R) (kd : Nat) (pe : Nat → Int64) : Nat → Nat → Int64 → Int64 → Nat → ev_R
  | 0, _, lo, hi, u => (sp_k w lo hi, u + 1)
  | m + 1, k, lo, hi, u => match (E (pe k) (pe (k + 1))).1 with
    | none => (none, u + (E (pe k) (pe (k + 1))).2 + 1)
    | some p => if kd = 16 then ev_pl w E kd pe m (k + 1) (lo + sp_r w (p.1 * (pe (k + 1) - pe k))) (hi + sp_up w (p.2 * (pe (k + 1) - pe k))) (u + (E (pe k) (pe (k + 1))).2)
      else if k = 0 then ev_pl w E kd pe m (k + 1) p.1 p.2 (u + (E (pe k) (pe (k + 1))).2)
      else if kd = 17 then ev_pl w E kd pe m (k + 1) (sp_mx lo p.1) (sp_mx hi p.2) (u + (E (pe k) (pe (k + 1))).2)
      else ev_pl w E kd pe m (k + 1) (sp_mn lo p.1) (sp_mn hi p.2) (u + (E (pe k) (pe (k + 1))).2)
def ev_0 (w : Nat) (E : Nat → Int64 → Int64 → ev_R) (p : tr_P) (a b : Int64) : ev_R :=
  if p.2.1 = 0 then (sp_k w (sp_l w (Int32.toInt64 (nI p.2.2.1))) (sp_l w (Int32.toInt64 (nI p.2.2.1))), 1)
  else if p.2.1 = 1 then (sp_k w a b, 1)
  else if p.2.1 = 2 then ((E p.2.2.2.1 0 0).1, (E p.2.2.2.1 0 0).2 + 1)
  else if p.2.1 = 15 then ev_n w (E p.2.2.2.1) (sp_l w (Int32.toInt64 (Int32.ofInt p.2.2.2.2.1))) (sp_l w (Int32.toInt64 (Int32.ofInt p.2.2.2.2.2)))
  else ev_pl w (E p.2.2.2.1) p.2.1 (sp_pe w p.2.2.2.2.1 p.2.2.2.2.2) (2 ^ (w / 4)) 0 0 0 0
def ev_1 (w : Nat) (E : Nat → Int64 → Int64 → ev_R) (p : tr_P) (x : ev_R) : ev_R := match x.1 with
  | none => (none, x.2 + 1)
  | some q => if p.2.1 = 14 then ((E p.2.2.2.1 q.1 q.2).1, x.2 + 1 + (E p.2.2.2.1 q.1 q.2).2) else (sp_1 w p.2.1 q.1 q.2, x.2 + 1)
def ev_2 (w : Nat) (p : tr_P) (x y : ev_R) : ev_R := match x.1, y.1 with
  | some q, some r => (sp_2 w p.2.1 q.1 q.2 r.1 r.2, x.2 + y.2 + 1)
  | _, _ => (none, x.2 + y.2 + 1)
/-- 1 the first alone, 2 the second alone, 3 both -/
def sp_ch (kd : Nat) (q r : Int64 × Int64) : Nat := if kd = 12 then (if q.2 < r.1 then 1 else if r.2 ≤ q.1 then 2 else 3) else (if r.2 < q.1 then 1 else if q.2 ≤ r.1 then 2 else 3)
def sp_j (w : Nat) (x y : Option (Int64 × Int64)) : Option (Int64 × Int64) := match x, y with
  | some q, some r => sp_k w (sp_mn q.1 r.1) (sp_mx q.2 r.2)
  | _, _ => none
def ev_4 (w : Nat) (p : tr_P) (x y v z : ev_R) : ev_R := match x.1, y.1 with
  | some q, some r => if sp_ch p.2.1 q r = 1 then (v.1, x.2 + y.2 + 1 + v.2) else if sp_ch p.2.1 q r = 2 then (z.1, x.2 + y.2 + 1 + z.2) else (sp_j w v.1 z.1, x.2 + y.2 + 1 + v.2 + z.2)
  | _, _ => (none, x.2 + y.2 + 1)
/-- a tree, t's span told -/
def ev_T (w : Nat) (E : Nat → Int64 → Int64 → ev_R) : tr_T → Int64 → Int64 → ev_R
  | .leaf p, a, b => ev_0 w E p a b
  | .branch 1 (.leaf p) A, a, b => ev_1 w E p (ev_T w E A a b)
  | .branch 2 (.leaf p) (.branch 0 A B), a, b => ev_2 w p (ev_T w E A a b) (ev_T w E B a b)
  | .branch 4 (.leaf p) (.branch 0 (.branch 0 A B) (.branch 0 V W)), a, b => ev_4 w p (ev_T w E A a b) (ev_T w E B a b) (ev_T w E V a b) (ev_T w E W a b)
  | _, _, _ => (none, 0)
/-- a line; n: lines below n may be asked -/
def ev_L (w : Nat) (ls : pt_L) : Nat → Nat → Int64 → Int64 → ev_R
  | 0, _, _, _ => (none, 0)
  | n + 1, i, a, b => match ls[i]? with
    | some x => ev_T w (ev_L w ls n) x.2.2 a b
    | none => (none, 0)
/-! the class's small methods -/
section OPS
variable {ext : Nat → List Value → am_M → Option am_R} {d : Nat} (L : Nat → Nat → Int64) (D : Nat → Nat → UInt64) (X : am_Rf) (I : Nat → Nat → Int32)
theorem c203 (a b : Int64) : am_Rn ext (d + 1) 203 [.long a, .long b] (I, L, D, am_rf X) (some (.long (sp_mx a b)), (I, L, D, am_rf X)) := by
  refine am_rn_of mh_203 rfl (w203_0 I L D X a b ⟨fun z => ?_, fun z => ?_⟩)
  · simp [sp_mx, z]
  · simp [sp_mx, z]
theorem c204 (a b : Int64) : am_Rn ext (d + 1) 204 [.long a, .long b] (I, L, D, am_rf X) (some (.long (sp_mn a b)), (I, L, D, am_rf X)) := by
  refine am_rn_of mh_204 rfl (w204_0 I L D X a b ⟨fun z => ?_, fun z => ?_⟩)
  · simp [sp_mn, z]
  · simp [sp_mn, z]
theorem c205 (a : Int64) : am_Rn ext (d + 1) 205 [.long a] (I, L, D, am_rf X) (some (.long (sp_ab a)), (I, L, D, am_rf X)) := by
  refine am_rn_of mh_205 rfl (w205_0 I L D X a ⟨fun z => ?_, fun z => ?_⟩)
  · simp [sp_ab, z]
  · simp [sp_ab, z]
theorem c206 {a b : Int64} (hb : ¬ b = 0) : am_Rn ext (d + 1) 206 [.long a, .long b] (I, L, D, am_rf X) (some (.long (sp_fl a b)), (I, L, D, am_rf X)) := by
  refine am_rn_of mh_206 rfl (w206_0 I L D X a b ⟨hb, fun z => ?_, fun z => ⟨fun y => ?_, fun y => ?_⟩⟩)
  · simp [sp_fl, hb, z]
  · simp only [sp_fl]; rw [if_neg hb, if_neg z, if_pos y]
  · simp only [sp_fl]; rw [if_neg hb, if_neg z, if_neg y]
theorem c72 (a b : Int64) : am_Rn ext (d + 2) 72 [.long a, .long b] (I, L, D, am_rf X) (some (.long (sp_fl a b)), (I, L, D, am_rf X)) := by
  refine am_rn_of mh_72 rfl (w72_0 I L D X a b ⟨fun z => ⟨_, I, L, D, c206 L D X I z, rfl⟩, fun z => ?_⟩)
  simp [sp_fl, z]
theorem c73 (a b : Int64) : am_Rn ext (d + 2) 73 [.long a, .long b] (I, L, D, am_rf X) (some (.long (sp_ce a b)), (I, L, D, am_rf X)) := by
  refine am_rn_of mh_73 rfl (w73_0 I L D X a b ⟨fun z => ⟨_, I, L, D, c206 L D X I z, ?_⟩, fun z => ?_⟩)
  · simp only [sp_ce]; rw [if_neg z]
  · simp [sp_ce, z]
theorem c70 {w : Nat} (h : I 25 6 = nI w) (a : Int64) : am_Rn ext (d + 1) 70 [.ref 25, .long a] (I, L, D, am_rf X) (some (.long (sp_r w a)), (I, L, D, am_rf X)) := am_rn_of mh_70 rfl (w70_0 I L D X a (by rw [h]; rfl))
theorem c71 {w : Nat} (h : I 25 6 = nI w) (a : Int64) : am_Rn ext (d + 1) 71 [.ref 25, .long a] (I, L, D, am_rf X) (some (.long (sp_up w a)), (I, L, D, am_rf X)) := am_rn_of mh_71 rfl (w71_0 I L D X a (by rw [h]; rfl))
theorem c74 (n : Int64) : am_Rn ext (d + 1) 74 [.long n] (I, L, D, am_rf X) (some (.long (sp_rd n)), (I, L, D, am_rf X)) := by
  have key : ∀ (j : Nat) (r : Int64) (v : Int32), j ≤ 27 → v.toInt = (j : Int) - 1 → am_wp ext d mz_74 (6, [some (.long n), none, some (.long r), none, some (.int v), none, none], [], (I, L, D, am_rf X)) (fun q => q = (some (.long (sp_rt n j r)), (I, L, D, am_rf X))) := by
    intro j
    induction j with
    | zero =>
      intro r v _ hv
      refine w74_6 I L D X n r v ⟨fun _ => rfl, fun z => absurd ?_ z⟩
      rw [Int32.lt_iff_toInt_lt, hv, Int32.toInt_zero]
      decide
    | succ j ih =>
      intro r v hj hv
      have ev : v = nI j := by rw [← Int32.toInt_inj, hv, nI_toInt (by omega)]; omega
      have hn : (v + (-1)).toInt = (j : Int) - 1 := by
        rw [Int32.toInt_add, hv]
        have : (-1 : Int32).toInt = -1 := rfl
        rw [this, Int.bmod_eq_of_le (by omega) (by omega)]
        omega
      refine w74_6 I L D X n r v ⟨fun z => absurd z ?_, fun _ => ⟨fun z => ?_, fun z => ?_⟩⟩
      · rw [Int32.lt_iff_toInt_lt, hv, Int32.toInt_zero]
        omega
      · rw [ev] at z
        have z' : n < (r + (1 <<< sp_sh j)) * (r + (1 <<< sp_sh j)) := z
        simp only [sp_rt]
        rw [if_pos z']
        exact ih r _ (by omega) hn
      · rw [ev] at z
        have z' : ¬ n < (r + (1 <<< sp_sh j)) * (r + (1 <<< sp_sh j)) := z
        simp only [sp_rt]
        rw [if_neg z']
        have := ih (r + (1 <<< sp_sh j)) _ (by omega) hn
        rw [ev] at this ⊢
        exact this
  exact am_rn_of mh_74 rfl (w74_0 I L D X n (key 27 0 26 (by omega) rfl))
theorem c75 (n : Int64) : am_Rn ext (d + 2) 75 [.long n] (I, L, D, am_rf X) (some (.long (sp_ru n)), (I, L, D, am_rf X)) := by
  refine am_rn_of mh_75 rfl (w75_0 I L D X n ⟨_, I, L, D, c74 L D X I n, fun z => ?_, fun z => ?_⟩)
  · simp only [sp_ru]; rw [if_neg z]
  · simp only [sp_ru]; rw [if_pos z]
theorem c82 (w k : Nat) (i j : Int) : am_Rn ext (d + 1) 82 [.int (Int32.ofInt i), .int (Int32.ofInt j), .int (nI k), .int (nI w)] (I, L, D, am_rf X) (some (.long (sp_pe w i j k)), (I, L, D, am_rf X)) := am_rn_of mh_82 rfl (w82_0 I L D X _ _ _ _ rfl)
/-- push -/
theorem c64 {w top : Nat} (h3 : I 25 3 = nI top) (ht : top < 100) (h7 : L 25 7 = sp_lim w) (lo hi : Int64) : am_Rn ext (d + 1) 64 [.ref 25, .long lo, .long hi] (I, L, D, am_rf X) (none, (am_uI I 25 3 (nI (top + 1)), am_uL (am_uL L 26 top (sp_lo (sp_k w lo hi))) 27 top (sp_hi (sp_k w lo hi)), D, am_rf X)) := by
  have e1 : I 25 3 + 1 = nI (top + 1) := by rw [h3, show (1 : Int32) = nI 1 from rfl, ni_add (by omega)]
  have e2 : (I 25 3).toNatClampNeg = top := by rw [h3, ni_nat (by omega)]
  have hb : am_inb (I 25 3) 100 = true := by rw [h3]; exact ni_inb ht (by omega)
  have n100 : ¬ (100 : Int32) ≤ I 25 3 := by rw [h3, show (100 : Int32) = nI 100 from rfl, ni_le (by omega) (by omega)]; omega
  have no : sp_k w lo hi = none → am_wp ext d mz_64 (32, [some (.ref 25), some (.long lo), none, some (.long hi), none, none], [], (I, L, D, am_rf X)) (fun r => r = (none, (am_uI I 25 3 (nI (top + 1)), am_uL (am_uL L 26 top (sp_lo (sp_k w lo hi))) 27 top (sp_hi (sp_k w lo hi)), D, am_rf X))) := by
    intro hk
    refine w64_32 I L D X lo hi (w64_33 I L D X lo hi 0 ⟨fun _ => w64_53 I L D X hi 0 1 _ ⟨hb, fun _ => ⟨hb, ?_⟩, fun z => absurd rfl z⟩, fun z => absurd rfl z⟩)
    rw [hk, e1, e2]
    rfl
  refine am_rn_of mh_64 rfl (w64_0 I L D X lo hi ⟨fun z => absurd z n100, fun _ => ⟨fun z => ?_, fun z => ⟨fun y => ?_, fun y => ?_⟩⟩⟩)
  · rw [h7] at z
    exact no (by simp only [sp_k]; rw [if_pos z])
  · rw [h7] at z y
    exact no (by simp only [sp_k]; rw [if_neg z, if_pos y])
  · rw [h7] at z y
    have hk : sp_k w lo hi = some (lo, hi) := by simp only [sp_k]; rw [if_neg z, if_neg y]
    refine w64_33 I L D X lo hi 1 ⟨fun q => absurd q (by decide), fun _ => w64_53 I L D X hi 1 lo _ ⟨hb, fun q => absurd q (by decide), fun _ => ⟨hb, ?_⟩⟩⟩
    rw [hk, e1, e2]
    rfl
end OPS
