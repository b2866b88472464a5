/-! ===== the reference's fractions: exactly ===== -/
section MEXACT
variable {ext : Nat → List Value → am_M → Option am_R} {d : Nat} (D : Nat → Nat → UInt64) (X : am_Rf)
theorem c176 {I : Nat → Nat → Int32} {L : Nat → Nat → Int64} (u : Int64) : am_Rn ext (d + 1) 176 [.long u] (I, L, D, am_rf X) (some (.long (sp_ab u)), (I, L, D, am_rf X)) := by
  refine am_rn_of mh_176 rfl (w176_0 I L D X u ⟨fun z => ?_, fun z => ?_⟩)
  · unfold sp_ab; rw [if_pos z]
  · unfold sp_ab; rw [if_neg z]
theorem c177 {I : Nat → Nat → Int32} {L : Nat → Nat → Int64} {u l : Int64} (h1 : -4611686018427387904 < u.toInt) (h2 : u.toInt < 4611686018427387904) (h3 : -4611686018427387904 < l.toInt) (h4 : l.toInt < 4611686018427387904) : am_Rn ext (d + 2) 177 [.long u, .long l] (I, L, D, am_rf X) (some (.long (gc 128 (sp_ab u) (sp_ab l))), (I, L, D, am_rf X)) := by
  have z : (0 : Int64).toInt = 0 := rfl
  have key : ∀ (n : Nat) (x y r : Int64), 0 ≤ x.toInt → 0 ≤ y.toInt → y.toInt ≤ n → r.toInt = (Nat.gcd x.toInt.toNat y.toInt.toNat : Nat) → am_wp ext (d + 1) mz_177 (12, [none, none, none, none, some (.long x), none, some (.long y), none, none, none], [], (I, L, D, am_rf X)) (fun q => q = (some (.long r), (I, L, D, am_rf X))) := by
    intro n
    induction n with
    | zero =>
      intro x y r hx hy hn hr
      have e : y = 0 := by rw [← Int64.toInt_inj, z]; omega
      subst e
      refine w177_12 I L D X x 0 ⟨fun _ => ?_, fun q => absurd rfl q⟩
      have : r = x := by rw [← Int64.toInt_inj, hr, z, Int.toNat_zero, Nat.gcd_zero_right]; omega
      rw [this]
    | succ n ih =>
      intro x y r hx hy hn hr
      by_cases e : y = 0
      · subst e
        refine w177_12 I L D X x 0 ⟨fun _ => ?_, fun q => absurd rfl q⟩
        have : r = x := by rw [← Int64.toInt_inj, hr, z, Int.toNat_zero, Nat.gcd_zero_right]; omega
        rw [this]
      · have yp : 0 < y.toInt := by rw [← Int64.toInt_inj, z] at e; omega
        have er := rem_i hx yp
        have r0 : 0 ≤ x.toInt % y.toInt := Int.emod_nonneg _ (by omega)
        have r1 : x.toInt % y.toInt < y.toInt := Int.emod_lt_of_pos _ yp
        refine w177_12 I L D X x y ⟨fun q => absurd q e, fun _ => ⟨e, ih y _ r hy (by omega) (by omega) ?_⟩⟩
        rw [hr, er]
        congr 1
        rw [Nat.gcd_comm, Nat.gcd_rec, Nat.gcd_comm]
        congr 1
        rw [Int.toNat_emod hx hy]
  have G := gc_i h1 h2 h3 h4
  have au := ab_i (x := u) (by omega)
  have al := ab_i (x := l) (by omega)
  refine am_rn_of mh_177 rfl (w177_0 I L D X u l ⟨_, I, L, D, c176 D X u, _, I, L, D, c176 D X l, key (2 ^ 63) _ _ _ (by omega) (by omega) (by have := (sp_ab l).toInt_lt; omega) ?_⟩)
  rw [G, au, al]
  simp
/-- what is left when both parts stand -/
theorem c179_t {I : Nat → Nat → Int32} {L : Nat → Nat → Int64} {k : Nat} (hk : k < 96) {u l : Int64} (h1 : -4611686018427387904 < u.toInt) (h2 : u.toInt < 4611686018427387904) (h3 : 0 < l.toInt) (h4 : l.toInt < 4611686018427387904) : ∃ L', am_wp ext (d + 2) mz_179 (294, [some (.ref 42), some (.int (nI k)), none, some (.long u), none, some (.long l), none, none, none, none, none, none, none, none, none], [], (I, L, D, am_rf X)) (fun r => r = (some (.int (if xi u.toInt l.toInt = none then 0 else 1)), (I, L', D, am_rf X))) ∧ (∀ a b, ¬ ((a = 72 ∨ a = 73) ∧ b = k) → L' a b = L a b) ∧ (∀ q, xi u.toInt l.toInt = some q → L' 72 k = q.1 ∧ L' 73 k = q.2) := by
  obtain ⟨hg, e⟩ := xr_xi h1 h2 h3 h4
  have r7 := c177 (ext := ext) (d := d) D X (I := I) (L := L) h1 h2 (show -4611686018427387904 < l.toInt by omega) h4
  rw [← e]
  generalize gc 128 (sp_ab u) (sp_ab l) = g at *
  have ek : (nI k).toNatClampNeg = k := ni_nat (by omega)
  have b1 : am_inb (nI k) 96 = true := ni_inb hk (by omega)
  have l72 : am_uL L 72 k (u / g) 72 k = u / g := by rw [am_uL_at, if_pos ⟨rfl, rfl⟩]
  have l73 : am_uL (am_uL L 72 k (u / g)) 73 k (l / g) 73 k = l / g := by rw [am_uL_at, if_pos ⟨rfl, rfl⟩]
  refine ⟨am_uL (am_uL L 72 k (u / g)) 73 k (l / g), ?_, fun a b h => by rw [am_uL_at, if_neg (by omega), am_uL_at, if_neg (by omega)], fun q hq => ?_⟩
  · refine w179_294 I L D X (nI k) u l ⟨_, I, L, D, r7, hg, b1, hg, b1, b1, ?_⟩
    rw [ek, l72]
    refine ⟨_, I, _, D, am_up (c176 (ext := ext) (d := 0) D X (u / g)) (by omega), fun z => ?_, fun z => ⟨b1, ?_⟩⟩
    · have : xr1 (u / g) (l / g) = none := by unfold xr1; rw [if_pos z]
      rw [this]; rfl
    · rw [l73]
      refine ⟨fun y => ?_, fun y => ?_⟩
      · have : xr1 (u / g) (l / g) = none := by unfold xr1; rw [if_neg z, if_pos y]
        rw [this]; rfl
      · have : xr1 (u / g) (l / g) = some (u / g, l / g) := by unfold xr1; rw [if_neg z, if_neg y]
        rw [this, if_neg (by intro h; cases h)]
  · unfold xr1 at hq
    split at hq
    · cases hq
    · split at hq
      · cases hq
      · cases hq
        exact ⟨by rw [am_uL_at, if_neg (by omega)]; exact l72, l73⟩
def xv (E : Nat → Option (Int64 × Int64)) (L : Nat → Nat → Int64) (S : tr_T) : Prop := ∃ q, ex_T E S = some q ∧ L 72 (tr_rt S) = q.1 ∧ L 73 (tr_rt S) = q.2
theorem c179 {E : Nat → Option (Int64 × Int64)} {e : pt_E} (hG : ∀ i q, E i = some q → xg q) {I : Nat → Nat → Int32} {L : Nat → Nat → Int64} (hE : ∀ l, l < 26 → e.2.1 l = 1 → (E (e.2.2 l) = none → I 71 l = 0) ∧ (∀ q, E (e.2.2 l) = some q → I 71 l = 1 ∧ L 69 l = q.1 ∧ L 70 l = q.2)) {S : tr_T} {s : Nat} (ok : tr_ok e S s) (hs : s + tr_sz S ≤ 96) (rS : rf_rp 0 false I S) (hK : ∀ A, A ∈ tr_kd S → xv E L A ∧ tr_rt A < 96) : ∃ L', am_Rn ext (d + 3) 179 [.ref 42, .int (nI (tr_rt S))] (I, L, D, am_rf X) (some (.int (if ex_T E S = none then 0 else 1)), (I, L', D, am_rf X)) ∧ (∀ a b, ¬ ((a = 72 ∨ a = 73) ∧ b = tr_rt S) → L' a b = L a b) ∧ (∀ q, ex_T E S = some q → L' 72 (tr_rt S) = q.1 ∧ L' 73 (tr_rt S) = q.2) := by
  have rt := tr_rt_rg S s ok
  have z32 : (0 : Int64).toInt = 0 := rfl
  have er : (nI (tr_rt S)).toNatClampNeg = tr_rt S := ni_nat (by omega)
  have b2 : am_inb (nI (tr_rt S)) 192 = true := ni_inb (by omega) (by omega)
  have kq : ∀ k, k < 100 → ((nI k = 0 ↔ k = 0) ∧ (nI k = 2 ↔ k = 2) ∧ (nI k = 3 ↔ k = 3) ∧ (nI k < 6 ↔ k < 6) ∧ (9 < nI k ↔ 9 < k) ∧ (nI k = 9 ↔ k = 9) ∧ (nI k = 6 ↔ k = 6) ∧ (nI k = 7 ↔ k = 7) ∧ (nI k = 8 ↔ k = 8)) := fun k hk => ⟨ni_eq (b := 0) (by omega) (by omega), ni_eq (b := 2) (by omega) (by omega), ni_eq (b := 3) (by omega) (by omega), ni_lt (b := 6) (by omega) (by omega), ni_lt (a := 9) (by omega) (by omega), ni_eq (b := 9) (by omega) (by omega), ni_eq (b := 6) (by omega) (by omega), ni_eq (b := 7) (by omega) (by omega), ni_eq (b := 8) (by omega) (by omega)⟩
  -- kinds that are never exact
  have bad : ∀ k, k < 100 → I 45 (tr_rt S) = nI k → (k = 1 ∨ k = 4 ∨ k = 5 ∨ 10 ≤ k) → ex_T E S = none → ∃ L', am_Rn ext (d + 3) 179 [.ref 42, .int (nI (tr_rt S))] (I, L, D, am_rf X) (some (.int (if ex_T E S = none then 0 else 1)), (I, L', D, am_rf X)) ∧ (∀ a b, ¬ ((a = 72 ∨ a = 73) ∧ b = tr_rt S) → L' a b = L a b) ∧ (∀ q, ex_T E S = some q → L' 72 (tr_rt S) = q.1 ∧ L' 73 (tr_rt S) = q.2) := by
    intro k hk h45 hkk hn
    obtain ⟨x0, x2, x3, x6, x9, _⟩ := kq k hk
    refine ⟨L, am_rn_of mh_179 rfl (w179_0 I L D X _ ?_), fun _ _ _ => rfl, fun q h => by rw [hn] at h; cases h⟩
    rw [er, h45, hn]
    refine ⟨b2, fun _ => ⟨fun _ => ⟨fun _ => ⟨fun _ => rfl, fun y => ⟨fun _ => rfl, fun z => ?_⟩⟩, fun z => ?_⟩, fun z => ?_⟩, fun z => ?_⟩
    · rw [x9] at z; rw [x6] at y; omega
    · rw [x3] at z; omega
    · rw [x2] at z; omega
    · rw [x0] at z; omega
  -- with both parts at 294
  have good : ∀ (u l : Int64), -4611686018427387904 < u.toInt → u.toInt < 4611686018427387904 → 0 < l.toInt → l.toInt < 4611686018427387904 → ex_T E S = xi u.toInt l.toInt → (∀ Q : am_R → Prop, am_wp ext (d + 2) mz_179 (294, [some (.ref 42), some (.int (nI (tr_rt S))), none, some (.long u), none, some (.long l), none, none, none, none, none, none, none, none, none], [], (I, L, D, am_rf X)) Q → am_wp ext (d + 2) mz_179 (0, [some (.ref 42), some (.int (nI (tr_rt S))), none, none, none, none, none, none, none, none, none, none, none, none, none], [], (I, L, D, am_rf X)) Q) → ∃ L', am_Rn ext (d + 3) 179 [.ref 42, .int (nI (tr_rt S))] (I, L, D, am_rf X) (some (.int (if ex_T E S = none then 0 else 1)), (I, L', D, am_rf X)) ∧ (∀ a b, ¬ ((a = 72 ∨ a = 73) ∧ b = tr_rt S) → L' a b = L a b) ∧ (∀ q, ex_T E S = some q → L' 72 (tr_rt S) = q.1 ∧ L' 73 (tr_rt S) = q.2) := by
    intro u l g1 g2 g3 g4 eS W
    obtain ⟨L', W1, F, V⟩ := c179_t (ext := ext) (d := d) D X (I := I) (L := L) (k := tr_rt S) (by omega) g1 g2 g3 g4
    rw [eS]
    exact ⟨L', am_rn_of mh_179 rfl (W _ W1), F, V⟩
  rcases tr_cs S s ok with ⟨p, rfl, hk⟩ | ⟨p, A, rfl, hk, sA, hA⟩ | ⟨p, A, B, rfl, k1, k2, ⟨sA, hA⟩, sB, hB⟩ | ⟨p, A, B, V, W', rfl, hk⟩
  · have hr : tr_rt (.leaf p) = p.1 := rfl
    simp only [rf_rp, Nat.zero_add] at rS
    rw [← hr] at rS
    have eT : ex_T E (.leaf p) = ex_0 E p := rfl
    rcases hk with ⟨k, h9⟩ | ⟨k, _⟩ | ⟨k, h26, htl, hli⟩ | ⟨k, k', _⟩
    · obtain ⟨h45, h46⟩ := rS.1 (by omega)
      have h46 := h46 (by omega)
      rw [k] at h45
      have en : (Int32.toInt64 (nI p.2.2.1)).toInt = p.2.2.1 := by rw [Int32.toInt_toInt64, nI_toInt (by omega)]
      have e1 : (1 : Int64).toInt = 1 := rfl
      refine good (Int32.toInt64 (nI p.2.2.1)) 1 (by omega) (by omega) (by omega) (by omega) ?_ (fun Q W => w179_0 I L D X _ ?_)
      · rw [eT]; unfold ex_0; rw [if_pos k, xq_xi (by omega) (by omega) (by omega) (by omega)]
      · rw [er, h45, h46]
        exact ⟨b2, fun z => absurd rfl z, fun _ => ⟨b2, W⟩⟩
    · obtain ⟨h45, _⟩ := rS.1 (by omega)
      exact bad p.2.1 (by omega) h45 (by omega) (by rw [eT]; unfold ex_0; rw [if_neg (by omega), if_neg (by omega)])
    · obtain ⟨h45, h46⟩ := rS.1 (by omega)
      have h46 := h46 (by omega)
      rw [k] at h45
      have ex0 : ex_T E (.leaf p) = xm (E p.2.2.2.1) := by rw [eT]; unfold ex_0; rw [if_neg (by omega), if_pos k]
      obtain ⟨y0, y1⟩ := hE _ h26 htl
      rw [← hli] at y0 y1
      have el : (nI p.2.2.1).toNatClampNeg = p.2.2.1 := ni_nat (by omega)
      have b26 : am_inb (nI p.2.2.1) 26 = true := ni_inb h26 (by omega)
      cases hq : E p.2.2.2.1 with
      | none =>
        have hn : ex_T E (.leaf p) = none := by rw [ex0, hq]; rfl
        refine ⟨L, am_rn_of mh_179 rfl (w179_0 I L D X _ ?_), fun _ _ _ => rfl, fun q h => by rw [hn] at h; cases h⟩
        rw [er, h45, h46, el, y0 hq, hn]
        exact ⟨b2, fun _ => ⟨fun z => absurd rfl z, fun _ => ⟨b2, b26, fun z => absurd rfl z, fun _ => rfl⟩⟩, fun z => absurd z (by decide)⟩
      | some q =>
        obtain ⟨g1, g2, g3⟩ := hG _ q hq
        obtain ⟨v1, v2, v3⟩ := y1 q hq
        refine good q.1 q.2 (by omega) (by omega) (by omega) (by omega) ?_ (fun Q W => w179_0 I L D X _ ?_)
        · rw [ex0, hq]
          show xq q.1 q.2 = _
          rw [xq_xi (by omega) (by omega) (by omega) (by omega)]
        · rw [er, h45, h46, el, v1, v2, v3]
          exact ⟨b2, fun _ => ⟨fun z => absurd rfl z, fun _ => ⟨b2, b26, fun _ => ⟨b2, b26, b2, b26, W⟩, fun z => absurd z (by decide)⟩⟩, fun z => absurd z (by decide)⟩
    · obtain ⟨h45, _⟩ := rS.2 (by omega)
      exact bad 15 (by omega) h45 (by omega) (by rw [eT]; unfold ex_0; rw [if_neg (by omega), if_neg (by omega)])
  · have hr : tr_rt (tr_1 p A) = p.1 := rfl
    simp only [rf_rp, Nat.zero_add] at rS
    obtain ⟨h45, _, h47, _⟩ := rS
    rw [← hr] at h45 h47
    have eT : ex_T E (tr_1 p A) = ex_1 p (ex_T E A) := rfl
    obtain ⟨⟨q, hq, v1, v2⟩, rA⟩ := hK A (by simp [tr_kd])
    obtain ⟨g1, g2, g3⟩ := ex_good hG A sA hA q hq
    have eA : (nI (tr_rt A)).toNatClampNeg = tr_rt A := ni_nat (by omega)
    have b3 : am_inb (nI (tr_rt A)) 96 = true := ni_inb rA (by omega)
    by_cases k : p.2.1 = 3
    · rw [k] at h45
      have en : (-q.1).toInt = -q.1.toInt := i64_neg (by omega)
      refine good (-q.1) q.2 (by omega) (by omega) (by omega) (by omega) ?_ (fun Q W => w179_0 I L D X _ ?_)
      · rw [eT, hq]
        unfold ex_1
        rw [if_pos k]
        show xq (-q.1) q.2 = _
        rw [xq_xi (by omega) (by omega) (by omega) (by omega)]
      · rw [er, h45, h47, eA, v1, v2]
        exact ⟨b2, fun _ => ⟨fun _ => ⟨fun z => absurd rfl z, fun _ => ⟨b2, b3, b2, b3, W⟩⟩, fun z => absurd z (by decide)⟩, fun z => absurd z (by decide)⟩
    · have kk : p.2.1 = 4 ∨ p.2.1 = 5 ∨ p.2.1 = 14 := by rcases hk with h | h | h | ⟨h, _⟩ <;> omega
      exact bad p.2.1 (by omega) h45 (by omega) (by rw [eT]; unfold ex_1; rw [if_neg k])
  · have hr : tr_rt (tr_2 p A B) = p.1 := rfl
    simp only [rf_rp, Nat.zero_add] at rS
    obtain ⟨h45, h47, h48, _⟩ := rS
    rw [← hr] at h45 h47 h48
    have eT : ex_T E (tr_2 p A B) = ex_2 p (ex_T E A) (ex_T E B) := rfl
    obtain ⟨⟨q, hq, v1, v2⟩, rA⟩ := hK A (by simp [tr_kd])
    obtain ⟨⟨r, hr', v3, v4⟩, rB⟩ := hK B (by simp [tr_kd])
    have xq' := ex_good hG A sA hA q hq
    have xr' := ex_good hG B sB hB r hr'
    have eA : (nI (tr_rt A)).toNatClampNeg = tr_rt A := ni_nat (by omega)
    have b3 : am_inb (nI (tr_rt A)) 96 = true := ni_inb rA (by omega)
    have eB : (nI (tr_rt B)).toNatClampNeg = tr_rt B := ni_nat (by omega)
    have b4 : am_inb (nI (tr_rt B)) 96 = true := ni_inb rB (by omega)
    by_cases k : p.2.1 ≤ 9
    · have exo : ex_T E (tr_2 p A B) = xoi p.2.1 q r := by
        rw [eT, hq, hr']
        unfold ex_2
        rw [if_pos k]
        show xo p.2.1 q r = _
        rw [xo_i xq' xr']
      obtain ⟨a1, a2, a3⟩ := xq'
      obtain ⟨c1, c2, c3⟩ := xr'
      have p1 := mb_i a1 (show r.2.toInt.natAbs ≤ 1000000000 by omega)
      have p2 := mb_i c1 (show q.2.toInt.natAbs ≤ 1000000000 by omega)
      have p3 := mb_i (show q.2.toInt.natAbs ≤ 1000000000 by omega) (show r.2.toInt.natAbs ≤ 1000000000 by omega)
      have p4 := mb_i a1 c1
      have p5 := mb_i (show q.2.toInt.natAbs ≤ 1000000000 by omega) c1
      have m1 := mb a1 (show r.2.toInt.natAbs ≤ 1000000000 by omega)
      have m2 := mb c1 (show q.2.toInt.natAbs ≤ 1000000000 by omega)
      have m3 := mb (show q.2.toInt.natAbs ≤ 1000000000 by omega) (show r.2.toInt.natAbs ≤ 1000000000 by omega)
      have m4 := mb a1 c1
      have m5 := mb (show q.2.toInt.natAbs ≤ 1000000000 by omega) c1
      have pos3 : 0 < q.2.toInt * r.2.toInt := Int.mul_pos (by omega) (by omega)
      obtain ⟨x0, x2, x3, x6, x9, y9, y6, y7, y8⟩ := kq p.2.1 (by omega)
      have n0 : ¬ nI p.2.1 = 0 := fun z => by rw [x0] at z; omega
      have n2 : ¬ nI p.2.1 = 2 := fun z => by rw [x2] at z; omega
      have n3 : ¬ nI p.2.1 = 3 := fun z => by rw [x3] at z; omega
      have n6 : ¬ nI p.2.1 < 6 := fun z => by rw [x6] at z; omega
      have n9 : ¬ 9 < nI p.2.1 := fun z => by rw [x9] at z; omega
      -- from the entry to 189
      have to189 : ∀ Q : am_R → Prop, (nI p.2.1 = 9 → ¬ r.1 = 0) → am_wp ext (d + 2) mz_179 (189, [some (.ref 42), some (.int (nI (tr_rt (tr_2 p A B)))), some (.int (nI p.2.1)), none, none, none, none, some (.long q.1), none, some (.long q.2), none, some (.long r.1), none, some (.long r.2), none], [], (I, L, D, am_rf X)) Q → am_wp ext (d + 2) mz_179 (0, [some (.ref 42), some (.int (nI (tr_rt (tr_2 p A B)))), none, none, none, none, none, none, none, none, none, none, none, none, none], [], (I, L, D, am_rf X)) Q := by
        intro Q h0 W
        refine w179_0 I L D X _ ?_
        rw [er, h45, h47, h48, eA, eB, v1, v2, v3, v4]
        exact ⟨b2, fun _ => ⟨fun _ => ⟨fun _ => ⟨fun z => absurd z n6, fun _ => ⟨fun z => absurd z n9, fun _ => ⟨b2, b3, b2, b3, b2, b4, b2, b4, fun _ => W, fun z => ⟨fun _ => W, fun y => absurd y (h0 z)⟩⟩⟩⟩, fun z => absurd z n3⟩, fun z => absurd z n2⟩, fun z => absurd z n0⟩
      have k' : p.2.1 = 6 ∨ p.2.1 = 7 ∨ p.2.1 = 8 ∨ p.2.1 = 9 := by omega
      rcases k' with k' | k' | k' | k'
      · have en : (q.1 * r.2 + r.1 * q.2).toInt = q.1.toInt * r.2.toInt + r.1.toInt * q.2.toInt := by rw [i64_add (by omega) (by omega), p1, p2]
        refine good (q.1 * r.2 + r.1 * q.2) (q.2 * r.2) (by omega) (by omega) (by omega) (by omega) ?_ (fun Q W => to189 Q (fun z => by rw [y9] at z; omega) (w179_189 I L D X _ _ _ _ _ _ ⟨fun z => absurd (y6.mpr k') z, fun _ => w179_264 I L D X _ _ _ _ _ _ ⟨fun _ => w179_287 I L D X _ _ _ W, fun z => by rw [y9] at z; omega⟩⟩))
        rw [exo, en, p3]; unfold xoi; rw [if_pos k']
      · have en : (q.1 * r.2 - r.1 * q.2).toInt = q.1.toInt * r.2.toInt - r.1.toInt * q.2.toInt := by rw [i64_sub (by omega) (by omega), p1, p2]
        refine good (q.1 * r.2 - r.1 * q.2) (q.2 * r.2) (by omega) (by omega) (by omega) (by omega) ?_ (fun Q W => to189 Q (fun z => by rw [y9] at z; omega) (w179_189 I L D X _ _ _ _ _ _ ⟨fun _ => ⟨fun z => absurd (y7.mpr k') z, fun _ => w179_264 I L D X _ _ _ _ _ _ ⟨fun _ => w179_287 I L D X _ _ _ W, fun z => by rw [y9] at z; omega⟩⟩, fun z => by rw [y6] at z; omega⟩))
        rw [exo, en, p3]; unfold xoi; rw [if_neg (by omega), if_pos k']
      · refine good (q.1 * r.1) (q.2 * r.2) (by omega) (by omega) (by omega) (by omega) ?_ (fun Q W => to189 Q (fun z => by rw [y9] at z; omega) (w179_189 I L D X _ _ _ _ _ _ ⟨fun _ => ⟨fun _ => ⟨fun z => absurd (y8.mpr k') z, fun _ => w179_264 I L D X _ _ _ _ _ _ ⟨fun _ => w179_287 I L D X _ _ _ W, fun z => by rw [y9] at z; omega⟩⟩, fun z => by rw [y7] at z; omega⟩, fun z => by rw [y6] at z; omega⟩))
        rw [exo, p4, p3]; unfold xoi; rw [if_neg (by omega), if_neg (by omega), if_pos k']
      · have exo9 : ex_T E (tr_2 p A B) = xi (q.1.toInt * r.2.toInt) (q.2.toInt * r.1.toInt) := by rw [exo]; unfold xoi; rw [if_neg (by omega), if_neg (by omega), if_neg (by omega)]
        by_cases h0 : r.1 = 0
        · have hn : ex_T E (tr_2 p A B) = none := by rw [exo9, h0, z32, Int.mul_zero]; unfold xi; rw [if_pos rfl]
          refine ⟨L, am_rn_of mh_179 rfl (w179_0 I L D X _ ?_), fun _ _ _ => rfl, fun q h => by rw [hn] at h; cases h⟩
          rw [er, h45, h47, h48, eA, eB, v1, v2, v3, v4, hn]
          exact ⟨b2, fun _ => ⟨fun _ => ⟨fun _ => ⟨fun z => absurd z n6, fun _ => ⟨fun z => absurd z n9, fun _ => ⟨b2, b3, b2, b3, b2, b4, b2, b4, fun z => absurd (y9.mpr k') z, fun z => ⟨fun y => absurd h0 y, fun y => rfl⟩⟩⟩⟩, fun z => absurd z n3⟩, fun z => absurd z n2⟩, fun z => absurd z n0⟩
        · have h0' : ¬ r.1.toInt = 0 := fun z => h0 (by rw [← Int64.toInt_inj, z, z32])
          have c176' := c176 (ext := ext) (d := d + 1) (I := I) (L := L) D X r.1
          by_cases hp : 0 ≤ r.1
          · have hp' : 0 ≤ r.1.toInt := by rwa [Int64.le_iff_toInt_le, z32] at hp
            have ea : sp_ab r.1 = r.1 := by unfold sp_ab; rw [if_pos hp]
            have ps : 0 < q.2.toInt * r.1.toInt := Int.mul_pos (by omega) (by omega)
            rw [ea] at c176'
            refine good (q.1 * r.2) (q.2 * r.1) (by omega) (by omega) (by omega) (by omega) (by rw [exo9, p1, p5]) (fun Q W => to189 Q (fun _ => h0) (w179_189 I L D X _ _ _ _ _ _ ⟨fun _ => ⟨fun _ => ⟨fun _ => ⟨fun _ => w179_264 I L D X _ _ _ _ _ _ ⟨fun z => absurd (y9.mpr k') z, fun _ => ⟨_, I, L, D, c176', w179_287 I L D X _ _ _ W⟩⟩, fun z => absurd hp z⟩, fun z => by rw [y8] at z; omega⟩, fun z => by rw [y7] at z; omega⟩, fun z => by rw [y6] at z; omega⟩))
          · have hp' : ¬ 0 ≤ r.1.toInt := by rwa [Int64.le_iff_toInt_le, z32] at hp
            have ea : sp_ab r.1 = -r.1 := by unfold sp_ab; rw [if_neg hp]
            have en : (-r.1).toInt = -r.1.toInt := i64_neg (by omega)
            have en2 : (-q.1).toInt = -q.1.toInt := i64_neg (by omega)
            have pn1 : ((-q.1) * r.2).toInt = -(q.1.toInt * r.2.toInt) := by rw [mb_i (by rw [en2]; omega) (by omega), en2, Int.neg_mul]
            have pn2 : (q.2 * (-r.1)).toInt = -(q.2.toInt * r.1.toInt) := by rw [mb_i (by omega) (by rw [en]; omega), en, Int.mul_neg]
            have ps : 0 < q.2.toInt * (-r.1.toInt) := Int.mul_pos (by omega) (by omega)
            rw [Int.mul_neg] at ps
            rw [ea] at c176'
            refine good ((-q.1) * r.2) (q.2 * (-r.1)) (by omega) (by omega) (by omega) (by omega) (by rw [exo9, pn1, pn2, xi_neg (by omega)]) (fun Q W => to189 Q (fun _ => h0) (w179_189 I L D X _ _ _ _ _ _ ⟨fun _ => ⟨fun _ => ⟨fun _ => ⟨fun z => absurd z hp, fun _ => w179_264 I L D X _ _ _ _ _ _ ⟨fun z => absurd (y9.mpr k') z, fun _ => ⟨_, I, L, D, c176', w179_287 I L D X _ _ _ W⟩⟩⟩, fun z => by rw [y8] at z; omega⟩, fun z => by rw [y7] at z; omega⟩, fun z => by rw [y6] at z; omega⟩))
    · exact bad p.2.1 (by omega) h45 (by omega) (by rw [eT]; unfold ex_2; rw [if_neg k])
  · have hr : tr_rt (tr_4 p A B V W') = p.1 := rfl
    simp only [rf_rp, Nat.zero_add] at rS
    obtain ⟨h45, _⟩ := rS
    rw [if_neg (by decide)] at h45
    rw [← hr] at h45
    exact bad p.2.1 (by omega) h45 (by omega) rfl
end MEXACT
