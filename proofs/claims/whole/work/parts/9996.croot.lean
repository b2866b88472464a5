/-! ===== the class's root ===== -/
theorem n1200 {k : Nat} (h : k < 1200) : ¬ (1200 : Int32) ≤ nI k := fun z => by have := (ni_le (a := 1200) (by omega) (by omega)).mp z; omega
theorem p4s (n r : Nat) : n * 2 ^ 2 * 4 ^ r = n * 4 ^ (r + 1) := by
  show n * 4 * 4 ^ r = n * (4 ^ r * 4)
  rw [Nat.mul_assoc, Nat.mul_comm 4]
section CROOT
variable {ext : Nat → List Value → am_M → Option am_R} {d : Nat} (I : Nat → Nat → Int32) (L : Nat → Nat → Int64) (D : Nat → Nat → UInt64) (X : am_Rf) {P : am_R → Prop}
theorem c19_8 : ∀ (f : Nat) (a : UInt64) (n k t : Nat), dv a n → n < tB * 4 ^ f → k + f < 1200 → t + f ≤ 600 → (∀ b n' s, s ≤ f → dv b n' → n = n' * 4 ^ s → n' < tB → (s = 0 ∨ tA ≤ n') → am_wp ext d mz_19 (42, [none, none, some (.double b), none, some (.int (nI (t + s))), some (.int 0), none, none], [], (I, L, D, am_rf X)) P) → am_wp ext d mz_19 (8, [none, none, some (.double a), none, some (.int (nI t)), some (.int (nI k)), none, none], [], (I, L, D, am_rf X)) P := by
  have tb := tB_e
  have cmp : ∀ (a : UInt64) (n : Nat), dv a n → ((Op.cmpValue (FP.dcmp a 4850376798678024192) .l) < 0 ↔ n < tB) := fun a n h => by
    rw [dcv_lt (dv_nn h) (dv_nn kB), dv_dz h, dv_dz kB]
    omega
  intro f
  induction f with
  | zero =>
    intro a n k t ha hn hk ht K
    rw [Nat.pow_zero, Nat.mul_one] at hn
    exact w19_8 I L D X a (nI t) (nI k) ⟨fun z => absurd z (n1200 (by omega)), fun _ => ⟨fun _ => K a n 0 (Nat.le_refl _) ha (by rw [Nat.pow_zero, Nat.mul_one]) hn (Or.inl rfl), fun z => absurd ((cmp a n ha).mpr hn) z⟩⟩
  | succ f ih =>
    intro a n k t ha hn hk ht K
    refine w19_8 I L D X a (nI t) (nI k) ⟨fun z => absurd z (n1200 (by omega)), fun _ => ⟨fun z => K a n 0 (Nat.zero_le _) ha (by rw [Nat.pow_zero, Nat.mul_one]) ((cmp a n ha).mp z) (Or.inl rfl), fun z => ?_⟩⟩
    have hge : tB ≤ n := Nat.le_of_not_lt (fun h => z ((cmp a n ha).mpr h))
    obtain ⟨m, hm⟩ := four_dvd ha (Nat.le_trans (show 2 ^ 1076 ≤ tB by decide +kernel) hge)
    rw [hm] at ha
    have hb := dv_dn 2 k_q ha
    have hm4 : n = m * 4 := hm
    have hlt : m < tB * 4 ^ f := by
      rw [Nat.pow_succ, ← Nat.mul_assoc] at hn
      omega
    have e1 : nI t + 1 = nI (t + 1) := by rw [show (1 : Int32) = nI 1 from rfl, ni_add (by omega)]
    have e2 : nI k + 1 = nI (k + 1) := by rw [show (1 : Int32) = nI 1 from rfl, ni_add (by omega)]
    refine ⟨dv_am hb, ?_⟩
    rw [e1, e2]
    refine ih _ m (k + 1) (t + 1) hb hlt (by omega) (by omega) (fun b n' s hs h1 h2 h3 h4 => ?_)
    have := K b n' (s + 1) (by omega) h1 (by rw [hm4, h2, Nat.pow_succ, Nat.mul_assoc]) h3 (Or.inr (by
      rcases h4 with h4 | h4
      · subst h4
        rw [Nat.pow_zero, Nat.mul_one] at h2
        omega
      · exact h4))
    rwa [show t + (s + 1) = t + 1 + s by omega] at this
theorem c19_42 {v0 : Int32} {T : Int} (hT : v0.toInt = T) (hT0 : 0 ≤ T) (hT1 : T ≤ 600) : ∀ (f : Nat) (a : UInt64) (n k r : Nat) (v4 : Int32), dv a n → n < tB → tA ≤ n * 4 ^ f → k + f < 1200 → r + f ≤ 563 → v4.toInt = T - r → (∀ b n' r' (w : Int32), r' ≤ f → dv b n' → n' = n * 4 ^ r' → tA ≤ n' → n' < tB → w.toInt = T - (r + r' : Nat) → am_wp ext d mz_19 (85, [none, none, none, none, some (.int w), some (.double (FP.l2d (kpl (n' / 2 ^ 1074)))), none, some (.int 26)], [], (I, L, D, am_rf X)) P) → 1 ≤ d → am_wp ext d mz_19 (42, [none, none, some (.double a), none, some (.int v4), some (.int (nI k)), none, none], [], (I, L, D, am_rf X)) P := by
  have tb := tB_e
  have cmp : ∀ (a : UInt64) (n : Nat), dv a n → (0 ≤ (Op.cmpValue (FP.dcmp a 4841369599423283200) .g) ↔ tA ≤ n) := fun a n h => by
    rw [dcv_ge (dv_nn h) (dv_nn kA), dv_dz h, dv_dz kA]
    omega
  intro f
  induction f with
  | zero =>
    intro a n k r v4 ha hn hA hk hr h4 K hd
    rw [Nat.pow_zero, Nat.mul_one] at hA
    obtain ⟨_, e2, _⟩ := dv_d2l ha hA hn
    refine w19_42 I L D X a v4 (nI k) ⟨fun z => absurd z (n1200 (by omega)), fun _ => ⟨fun _ => ⟨_, I, L, D, am_up (c20 (ext := ext) (d := 0) I L D X e2) hd, K a n 0 v4 (Nat.le_refl _) ha (by rw [Nat.pow_zero, Nat.mul_one]) hA hn (by rw [h4]; rfl)⟩, fun z => absurd ((cmp a n ha).mpr hA) z⟩⟩
  | succ f ih =>
    intro a n k r v4 ha hn hA hk hr h4 K hd
    refine w19_42 I L D X a v4 (nI k) ⟨fun z => absurd z (n1200 (by omega)), fun _ => ⟨fun z => ?_, fun z => ?_⟩⟩
    · have hA' := (cmp a n ha).mp z
      obtain ⟨_, e2, _⟩ := dv_d2l ha hA' hn
      exact ⟨_, I, L, D, am_up (c20 (ext := ext) (d := 0) I L D X e2) hd, K a n 0 v4 (Nat.zero_le _) ha (by rw [Nat.pow_zero, Nat.mul_one]) hA' hn (by rw [h4]; rfl)⟩
    · have hlt : n < tA := Nat.lt_of_not_le (fun h => z ((cmp a n ha).mpr h))
      have hB : n * 2 ^ 2 < 2 ^ 2098 := by
        have h1 : n * 2 ^ 2 < tB := by show n * 4 < tB; omega
        exact Nat.lt_of_lt_of_le h1 (show tB ≤ 2 ^ 2098 by decide +kernel)
      have hb := dv_up 2 k_4 ha hB
      have e2 : nI k + 1 = nI (k + 1) := by rw [show (1 : Int32) = nI 1 from rfl, ni_add (by omega)]
      have e3 := i32_dec (x := v4) (by omega) (by omega)
      refine ⟨dv_am hb, ?_⟩
      rw [e2]
      refine ih _ (n * 2 ^ 2) (k + 1) (r + 1) _ hb (by show n * 4 < tB; omega) (by rw [Nat.mul_assoc]; rw [Nat.pow_succ, Nat.mul_comm (4 ^ f)] at hA; exact hA) (by omega) (by omega) (by rw [e3, h4]; omega) (fun b n' r' w q1 q2 q3 q4 q5 q6 => ?_) hd
      exact K b n' (r' + 1) w (by omega) q2 (q3.trans (p4s n r')) q4 q5 (by rw [q6]; omega)
theorem c19_110 {v4 : Int32} {T : Int} (hT : v4.toInt = T) (hT1 : T ≤ 600) : ∀ (f : Nat) (a : UInt64) (n : Nat) (v7 : Int32), v7.toInt + f = T → 0 ≤ v7.toInt → dv a n → n * 2 ^ f < 2 ^ 2098 → (∀ b, dv b (n * 2 ^ f) → P (some (.double b), (I, L, D, am_rf X))) → am_wp ext d mz_19 (110, [none, none, none, none, some (.int v4), some (.double a), none, some (.int v7)], [], (I, L, D, am_rf X)) P := by
  intro f
  induction f with
  | zero =>
    intro a n v7 h7 h0 ha hb K
    refine w19_110 I L D X v4 a v7 ⟨fun _ => K a (by rw [Nat.pow_zero, Nat.mul_one]; exact ha), fun z => absurd ?_ z⟩
    rw [Int32.le_iff_toInt_le]; omega
  | succ f ih =>
    intro a n v7 h7 h0 ha hb K
    have e1 : n * 2 ^ (f + 1) = n * 2 ^ 1 * 2 ^ f := by rw [Nat.mul_assoc, ← Nat.pow_add, Nat.add_comm]
    have hn1 : n * 2 ^ 1 < 2 ^ 2098 := by
      rw [e1] at hb
      exact Nat.lt_of_le_of_lt (Nat.le_mul_of_pos_right _ (Nat.two_pow_pos f)) hb
    have hc := dv_up 1 k_2 ha hn1
    have e3 := i32_inc (x := v7) (by omega) (by omega)
    refine w19_110 I L D X v4 a v7 ⟨fun z => ?_, fun _ => ⟨dv_am hc, ih _ (n * 2 ^ 1) _ (by rw [e3]; omega) (by rw [e3]; omega) hc (by rw [← e1]; exact hb) (fun b h => K b (by rw [e1]; exact h))⟩⟩
    rw [Int32.le_iff_toInt_le] at z; omega
theorem c19_85 {v4 : Int32} {T : Int} (hT : v4.toInt = T) (hT0 : -600 ≤ T) : ∀ (f : Nat) (a : UInt64) (n : Nat) (v7 : Int32), v7.toInt = T + f → v7.toInt ≤ 26 → dv a (n * 2 ^ f) → (∀ b, dv b n → P (some (.double b), (I, L, D, am_rf X))) → am_wp ext d mz_19 (85, [none, none, none, none, some (.int v4), some (.double a), none, some (.int v7)], [], (I, L, D, am_rf X)) P := by
  intro f
  induction f with
  | zero =>
    intro a n v7 h7 h0 ha K
    rw [Nat.pow_zero, Nat.mul_one] at ha
    refine w19_85 I L D X v4 a v7 ⟨fun _ => w19_110 I L D X v4 a 26 ⟨fun _ => K a ha, fun z => absurd ?_ z⟩, fun z => absurd ?_ z⟩
    · rw [Int32.le_iff_toInt_le, show (26 : Int32).toInt = 26 from rfl]; omega
    · rw [Int32.le_iff_toInt_le]; omega
  | succ f ih =>
    intro a n v7 h7 h0 ha K
    rw [show n * 2 ^ (f + 1) = n * 2 ^ f * 2 ^ 1 by rw [Nat.mul_assoc, ← Nat.pow_add]] at ha
    have hc := dv_dn 1 k_h ha
    have e3 := i32_dec (x := v7) (by omega) (by omega)
    refine w19_85 I L D X v4 a v7 ⟨fun z => ?_, fun _ => ⟨dv_am hc, ih _ n _ (by rw [e3]; omega) (by rw [e3]; omega) hc K⟩⟩
    rw [Int32.le_iff_toInt_le] at z; omega
theorem c19 {a : UInt64} {n : Nat} (ha : dv a n) (h0 : 0 < n) : ∃ r, am_Rn ext (d + 2) 19 [.double a] (I, L, D, am_rf X) (some (.double r), (I, L, D, am_rf X)) ∧ rtR n r := by
  have tb := tB_e
  have hlt := rep_lt (dv_rep ha)
  have e485 : tB * 4 ^ 485 = 2 ^ 2098 := by decide +kernel
  have e563 : (4 : Nat) ^ 563 = tA := by decide +kernel
  have key : am_wp ext (d + 1) mz_19 (8, [none, none, some (.double a), none, some (.int (nI 0)), some (.int (nI 0)), none, none], [], (I, L, D, am_rf X)) (fun x => ∃ r, x = (some (.double r), (I, L, D, am_rf X)) ∧ rtR n r) := by
    refine c19_8 (ext := ext) I L D X 485 a n 0 0 ha (by rw [e485]; exact hlt) (by omega) (by omega) (fun b n' s hs h1 h2 h3 h4 => ?_)
    have hn' : 0 < n' := by
      rcases Nat.eq_zero_or_pos n' with z | z
      · rw [z, Nat.zero_mul] at h2; omega
      · exact z
    have hs0 : (nI (0 + s)).toInt = (s : Int) := by rw [Nat.zero_add, nI_toInt (by omega)]
    refine c19_42 (ext := ext) I L D X (T := (s : Int)) hs0 (by omega) (by omega) 563 b n' 0 0 _ h1 h3 (by rw [e563]; exact Nat.le_mul_of_pos_left _ hn') (by omega) (by omega) (by rw [hs0]; omega) (fun b2 m r' w q1 q2 q3 q4 q5 q6 => ?_) (by omega)
    have hkp := kp_le (m / 2 ^ 1074)
    have hl := dv_l2d (v := kpl (m / 2 ^ 1074)) (by rw [kpl_i]; omega) (by rw [kpl_i]; omega)
    rw [kpl_i, Int.toNat_natCast] at hl
    have R : ∀ r, dv r (kp (m / 2 ^ 1074) * 2 ^ (1048 + s - r')) → rtR n r := fun r hr => ⟨m, s, r', q1, by omega, q4, q5, by rw [q3, h2, Nat.mul_assoc, Nat.mul_assoc, Nat.mul_comm (4 ^ s)], hr⟩
    generalize kp (m / 2 ^ 1074) = K at *
    by_cases hT : (s : Int) - r' ≤ 26
    · refine c19_85 (ext := ext) I L D X (T := (s : Int) - r') (by rw [q6]; omega) (by omega) (26 + r' - s) _ (K * 2 ^ (1048 + s - r')) 26 (by rw [show (26 : Int32).toInt = 26 from rfl]; omega) (by decide) ?_ (fun b3 h3 => ⟨b3, rfl, R b3 h3⟩)
      rw [Nat.mul_assoc, ← Nat.pow_add, show 1048 + s - r' + (26 + r' - s) = 1074 by omega]
      exact hl
    · have e26 : (26 : Int32).toInt = 26 := rfl
      refine w19_85 I L D X w _ 26 ⟨fun _ => ?_, fun z => absurd ?_ z⟩
      · refine c19_110 (ext := ext) I L D X (T := (s : Int) - r') (by rw [q6]; omega) (by omega) (s - r' - 26) _ (K * 2 ^ 1074) 26 (by rw [e26]; omega) (by decide) hl ?_ (fun b3 h3 => ⟨b3, rfl, R b3 ?_⟩)
        · rw [Nat.mul_assoc, ← Nat.pow_add]
          have p1 : 2 ^ (1074 + (s - r' - 26)) ≤ 2 ^ 1700 := Nat.pow_le_pow_right (by omega) (by omega)
          have p2 : K * 2 ^ (1074 + (s - r' - 26)) ≤ 2 ^ 53 * 2 ^ 1700 := Nat.mul_le_mul hkp p1
          rw [← Nat.pow_add] at p2
          exact Nat.lt_of_le_of_lt p2 (Nat.pow_lt_pow_right (by omega) (by omega))
        · rw [Nat.mul_assoc, ← Nat.pow_add, show 1074 + (s - r' - 26) = 1048 + s - r' by omega] at h3
          exact h3
      · rw [Int32.le_iff_toInt_le, e26, q6]; omega
  obtain ⟨q, rq, r, e, h⟩ := am_of_wp (ext := ext) (d := d + 1) (as := [.double a]) mh_19 rfl (w19_0 I L D X a key)
  rw [e] at rq
  exact ⟨r, rq, h⟩
end CROOT
