/-! ===== fractions as whole numbers ===== -/
theorem i64_div {x y : Int64} (h : -9223372036854775808 < x.toInt) : (x / y).toInt = x.toInt.tdiv y.toInt := by
  have h2 := x.toInt_lt
  have h3 : (x.toInt.tdiv y.toInt).natAbs ≤ x.toInt.natAbs := by rw [Int.natAbs_tdiv]; exact Nat.div_le_self _ _
  rw [Int64.toInt_div, Int.bmod_eq_of_le (by omega) (by omega)]
theorem ab_i {x : Int64} (h : -9223372036854775808 < x.toInt) : (sp_ab x).toInt = x.toInt.natAbs := by
  have z : (0 : Int64).toInt = 0 := rfl
  unfold sp_ab
  split
  · rename_i h1; rw [Int64.le_iff_toInt_le, z] at h1; omega
  · rename_i h1; rw [Int64.le_iff_toInt_le, z] at h1; rw [i64_neg (by omega)]; omega
def xr1 (p r : Int64) : Option (Int64 × Int64) := if 1000000000 < sp_ab p then none else if 1000000000 < r then none else some (p, r)
def xi1 (a b : Int) : Option (Int64 × Int64) := if 1000000000 < a.natAbs then none else if 1000000000 < b then none else some (Int64.ofInt a, Int64.ofInt b)
theorem xr1_i {p r : Int64} (h : -9223372036854775808 < p.toInt) : xr1 p r = xi1 p.toInt r.toInt := by
  have t : (1000000000 : Int64).toInt = 1000000000 := rfl
  have e1 : 1000000000 < sp_ab p ↔ 1000000000 < p.toInt.natAbs := by rw [Int64.lt_iff_toInt_lt, t, ab_i h]; omega
  have e2 : 1000000000 < r ↔ 1000000000 < r.toInt := by rw [Int64.lt_iff_toInt_lt, t]
  unfold xr1 xi1
  rw [Int64.ofInt_toInt, Int64.ofInt_toInt]
  by_cases h1 : 1000000000 < sp_ab p
  · rw [if_pos h1, if_pos (e1.mp h1)]
  · rw [if_neg h1, if_neg (fun q => h1 (e1.mpr q))]
    by_cases h2 : 1000000000 < r
    · rw [if_pos h2, if_pos (e2.mp h2)]
    · rw [if_neg h2, if_neg (fun q => h2 (e2.mpr q))]
def xi (u l : Int) : Option (Int64 × Int64) := if l = 0 then none else xi1 ((if 0 ≤ l then u else -u) / (Nat.gcd u.natAbs l.natAbs : Nat)) ((l.natAbs : Int) / (Nat.gcd u.natAbs l.natAbs : Nat))
theorem xi_neg {u l : Int} (h : ¬ l = 0) : xi (-u) (-l) = xi u l := by
  unfold xi
  rw [if_neg h, if_neg (by omega), Int.natAbs_neg, Int.natAbs_neg, Int.neg_neg]
  by_cases h1 : 0 ≤ l
  · rw [if_pos h1, if_neg (by omega)]
  · rw [if_neg h1, if_pos (by omega)]
theorem xq_xi {u l : Int64} (h1 : -4611686018427387904 < u.toInt) (h2 : u.toInt < 4611686018427387904) (h3 : -4611686018427387904 < l.toInt) (h4 : l.toInt < 4611686018427387904) : xq u l = xi u.toInt l.toInt := by
  have z : (0 : Int64).toInt = 0 := rfl
  have G := gc_i h1 h2 h3 h4
  by_cases hl : l = 0
  · subst hl
    unfold xq xi
    rw [if_pos rfl, if_pos z]
  · have hl' : ¬ l.toInt = 0 := fun e => hl (by rw [← Int64.toInt_inj, e, z])
    have gp : 0 < Nat.gcd u.toInt.natAbs l.toInt.natAbs := Nat.gcd_pos_of_pos_right _ (by omega)
    have gl : Nat.gcd u.toInt.natAbs l.toInt.natAbs ≤ l.toInt.natAbs := Nat.gcd_le_right _ (by omega)
    have du : ((Nat.gcd u.toInt.natAbs l.toInt.natAbs : Nat) : Int) ∣ u.toInt := Int.ofNat_dvd_left.mpr (Nat.gcd_dvd_left _ _)
    have dl : ((Nat.gcd u.toInt.natAbs l.toInt.natAbs : Nat) : Int) ∣ l.toInt := Int.ofNat_dvd_left.mpr (Nat.gcd_dvd_right _ _)
    unfold xq
    rw [if_neg hl]
    unfold xi
    rw [if_neg hl']
    generalize Nat.gcd u.toInt.natAbs l.toInt.natAbs = g at *
    generalize gc 128 (sp_ab u) (sp_ab l) = k at *
    have xs : ∀ k : Int64, ¬ k.toInt = 0 → xq1 u l k = xr1 (u / k) (l / k) := fun k hk => by
      unfold xq1 xr1
      rw [if_neg (fun e => hk (by rw [e, z]))]
    have bd : ∀ k : Int64, -9223372036854775808 < (u / k).toInt := fun k => by
      have h3 : (u.toInt.tdiv k.toInt).natAbs ≤ u.toInt.natAbs := by rw [Int.natAbs_tdiv]; exact Nat.div_le_self _ _
      rw [i64_div (by omega)]
      omega
    by_cases hn : 0 ≤ l
    · have hn' : 0 ≤ l.toInt := by rwa [Int64.le_iff_toInt_le, z] at hn
      rw [if_pos hn, if_pos hn', xs k (by rw [G]; omega), xr1_i (bd k), i64_div (by omega), i64_div (by omega), G, Int.tdiv_eq_ediv_of_dvd du, Int.tdiv_eq_ediv_of_dvd dl, Int.natAbs_of_nonneg hn']
    · have hn' : ¬ 0 ≤ l.toInt := by rwa [Int64.le_iff_toInt_le, z] at hn
      have e : (l.toInt.natAbs : Int) = -l.toInt := by omega
      have G' : (-k).toInt = -(g : Int) := by rw [i64_neg (by omega), G]
      rw [if_neg hn, if_neg hn', xs (-k) (by rw [G']; omega), xr1_i (bd _), i64_div (by omega), i64_div (by omega), G', Int.tdiv_neg, Int.tdiv_neg, Int.tdiv_eq_ediv_of_dvd du, Int.tdiv_eq_ediv_of_dvd dl, e, Int.neg_ediv_of_dvd du, Int.neg_ediv_of_dvd dl]
/-- the reference: the lower part above 0 -/
theorem xr_xi {u l : Int64} (h1 : -4611686018427387904 < u.toInt) (h2 : u.toInt < 4611686018427387904) (h3 : 0 < l.toInt) (h4 : l.toInt < 4611686018427387904) : ¬ gc 128 (sp_ab u) (sp_ab l) = 0 ∧ xr1 (u / gc 128 (sp_ab u) (sp_ab l)) (l / gc 128 (sp_ab u) (sp_ab l)) = xi u.toInt l.toInt := by
  have z : (0 : Int64).toInt = 0 := rfl
  have G := gc_i h1 h2 (show -4611686018427387904 < l.toInt by omega) h4
  have gp : 0 < Nat.gcd u.toInt.natAbs l.toInt.natAbs := Nat.gcd_pos_of_pos_right _ (by omega)
  have hk : ¬ gc 128 (sp_ab u) (sp_ab l) = 0 := fun e => by rw [e, z] at G; omega
  refine ⟨hk, ?_⟩
  rw [← xq_xi h1 h2 (by omega) h4]
  unfold xq
  rw [if_neg (fun e => by rw [e, z] at h3; omega), if_pos (by rw [Int64.le_iff_toInt_le, z]; omega)]
  unfold xq1 xr1
  rw [if_neg hk]
def xg (q : Int64 × Int64) : Prop := q.1.toInt.natAbs ≤ 1000000000 ∧ 1 ≤ q.2.toInt ∧ q.2.toInt ≤ 1000000000
theorem xi_good {u l : Int} {q : Int64 × Int64} (h : xi u l = some q) : xg q := by
  unfold xi at h
  split at h
  · cases h
  · rename_i hl
    have gp : 0 < Nat.gcd u.natAbs l.natAbs := Nat.gcd_pos_of_pos_right _ (by omega)
    have gl : Nat.gcd u.natAbs l.natAbs ≤ l.natAbs := Nat.gcd_le_right _ (by omega)
    have d1 : 1 ≤ l.natAbs / Nat.gcd u.natAbs l.natAbs := Nat.div_pos gl gp
    have d2 : ((l.natAbs : Int) / (Nat.gcd u.natAbs l.natAbs : Nat)) = ((l.natAbs / Nat.gcd u.natAbs l.natAbs : Nat) : Int) := (Int.natCast_ediv _ _).symm
    rw [d2] at h
    generalize (if 0 ≤ l then u else -u) / (Nat.gcd u.natAbs l.natAbs : Nat) = a at h
    unfold xi1 at h
    split at h
    · cases h
    · split at h
      · cases h
      · cases h
        refine ⟨?_, ?_, ?_⟩
        · show (Int64.ofInt _).toInt.natAbs ≤ _
          rw [Int64.toInt_ofInt, show Int64.size = 18446744073709551616 from rfl, Int.bmod_eq_of_le (by omega) (by omega)]
          omega
        · show 1 ≤ (Int64.ofInt _).toInt
          rw [Int64.toInt_ofInt, show Int64.size = 18446744073709551616 from rfl, Int.bmod_eq_of_le (by omega) (by omega)]
          omega
        · show (Int64.ofInt _).toInt ≤ _
          rw [Int64.toInt_ofInt, show Int64.size = 18446744073709551616 from rfl, Int.bmod_eq_of_le (by omega) (by omega)]
          omega
theorem mb {a b : Int} (h : a.natAbs ≤ 1000000000) (g : b.natAbs ≤ 1000000000) : (a * b).natAbs ≤ 1000000000000000000 := by
  rw [Int.natAbs_mul]
  exact Nat.le_trans (Nat.mul_le_mul h g) (by decide)
theorem mb_i {a b : Int64} (h : a.toInt.natAbs ≤ 1000000000) (g : b.toInt.natAbs ≤ 1000000000) : (a * b).toInt = a.toInt * b.toInt := by
  have := mb h g
  exact i64_mul (by omega) (by omega)
/-- one knot of two, by whole numbers -/
def xoi (kd : Nat) (q r : Int64 × Int64) : Option (Int64 × Int64) := if kd = 6 then xi (q.1.toInt * r.2.toInt + r.1.toInt * q.2.toInt) (q.2.toInt * r.2.toInt) else if kd = 7 then xi (q.1.toInt * r.2.toInt - r.1.toInt * q.2.toInt) (q.2.toInt * r.2.toInt) else if kd = 8 then xi (q.1.toInt * r.1.toInt) (q.2.toInt * r.2.toInt) else xi (q.1.toInt * r.2.toInt) (q.2.toInt * r.1.toInt)
theorem xo_i {kd : Nat} {q r : Int64 × Int64} (hq : xg q) (hr : xg r) : xo kd q r = xoi kd q r := by
  obtain ⟨a1, a2, a3⟩ := hq
  obtain ⟨b1, b2, b3⟩ := hr
  have p1 := mb_i a1 (show r.2.toInt.natAbs ≤ 1000000000 by omega)
  have p2 := mb_i b1 (show q.2.toInt.natAbs ≤ 1000000000 by omega)
  have p3 := mb_i (show q.2.toInt.natAbs ≤ 1000000000 by omega) (show r.2.toInt.natAbs ≤ 1000000000 by omega)
  have p4 := mb_i a1 b1
  have p5 := mb_i (show q.2.toInt.natAbs ≤ 1000000000 by omega) b1
  have m1 := mb a1 (show r.2.toInt.natAbs ≤ 1000000000 by omega)
  have m2 := mb b1 (show q.2.toInt.natAbs ≤ 1000000000 by omega)
  have m3 := mb (show q.2.toInt.natAbs ≤ 1000000000 by omega) (show r.2.toInt.natAbs ≤ 1000000000 by omega)
  have m4 := mb a1 b1
  have m5 := mb (show q.2.toInt.natAbs ≤ 1000000000 by omega) b1
  unfold xo xoi
  split
  · rw [xq_xi, p3, i64_add, p1, p2] <;> first | omega | (rw [i64_add (by omega) (by omega), p1, p2]; omega)
  · split
    · rw [xq_xi, p3, i64_sub, p1, p2] <;> first | omega | (rw [i64_sub (by omega) (by omega), p1, p2]; omega)
    · split
      · rw [xq_xi, p3, p4] <;> omega
      · rw [xq_xi, p1, p5] <;> omega
theorem xo_good {kd : Nat} {q r s : Int64 × Int64} (hq : xg q) (hr : xg r) (h : xo kd q r = some s) : xg s := by
  rw [xo_i hq hr] at h
  unfold xoi at h
  split at h
  · exact xi_good h
  · split at h
    · exact xi_good h
    · split at h <;> exact xi_good h
theorem xm_good {o : Option (Int64 × Int64)} (h : ∀ q, o = some q → xg q) {s : Int64 × Int64} (hs : xm o = some s) : xg s := by
  cases o with
  | none => cases hs
  | some q =>
    obtain ⟨a1, a2, a3⟩ := h q rfl
    have hs' : xq q.1 q.2 = some s := hs
    rw [xq_xi (by omega) (by omega) (by omega) (by omega)] at hs'
    exact xi_good hs'
theorem ex_good {E : Nat → Option (Int64 × Int64)} (hE : ∀ i q, E i = some q → xg q) {e : pt_E} : ∀ (T : tr_T) (s : Nat), tr_ok e T s → ∀ q, ex_T E T = some q → xg q := by
  refine tr_ind ?_ ?_ ?_ ?_ ?_
  · intro p s _ hk q h
    have h' : ex_0 E p = some q := h
    unfold ex_0 at h'
    split at h'
    · rename_i k
      have h9 : p.2.2.1 ≤ 999 := by rcases hk with ⟨_, h⟩ | ⟨h, _⟩ | ⟨h, _⟩ | ⟨h, _⟩ <;> omega
      have en : (Int32.toInt64 (nI p.2.2.1)).toInt = p.2.2.1 := by rw [Int32.toInt_toInt64, nI_toInt (by omega)]
      have e1 : (1 : Int64).toInt = 1 := rfl
      rw [xq_xi (by omega) (by omega) (by omega) (by omega)] at h'
      exact xi_good h'
    · split at h'
      · exact xm_good (hE _) h'
      · cases h'
  · intro p A s _ _ _ ih q h
    have h' : ex_1 p (ex_T E A) = some q := h
    unfold ex_1 at h'
    split at h'
    · cases hA : ex_T E A with
      | none => rw [hA] at h'; cases h'
      | some r =>
        rw [hA] at h'
        obtain ⟨a1, a2, a3⟩ := ih r hA
        have en : (-r.1).toInt = -r.1.toInt := i64_neg (by omega)
        have h2 : xq (-r.1) r.2 = some q := h'
        rw [xq_xi (by omega) (by omega) (by omega) (by omega)] at h2
        exact xi_good h2
    · cases h'
  · intro p A B s _ k9 _ _ _ iha ihb q h
    have h' : ex_2 p (ex_T E A) (ex_T E B) = some q := h
    unfold ex_2 at h'
    rw [if_pos k9] at h'
    cases hA : ex_T E A with
    | none => rw [hA] at h'; cases h'
    | some r =>
      cases hB : ex_T E B with
      | none => rw [hA, hB] at h'; cases h'
      | some t =>
        rw [hA, hB] at h'
        exact xo_good (iha r hA) (ihb t hB) h'
  · intro p A B s hk _ _ _ _ _ q h
    have h' : ex_2 p (ex_T E A) (ex_T E B) = some q := h
    unfold ex_2 at h'
    rw [if_neg (by omega)] at h'
    cases h'
  · intro p A B V W s _ _ _ _ _ _ _ _ _ _ q h
    cases h
