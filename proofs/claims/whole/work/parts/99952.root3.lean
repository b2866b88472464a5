/-! ===== roots: what both come to ===== -/
section ROOT
variable {ext : Nat → List Value → am_M → Option am_R} {d : Nat} (I : Nat → Nat → Int32) (L : Nat → Nat → Int64) (D : Nat → Nat → UInt64) (X : am_Rf)
theorem c20 {v : Int64} {sq : Nat} (hv : v.toInt = (sq : Int)) : am_Rn ext (d + 1) 20 [.long v] (I, L, D, am_rf X) (some (.long (kpl sq)), (I, L, D, am_rf X)) :=
  am_rn_of mh_20 rfl (w20_0 I L D X v (c20_l I L D X (W := wr sq 54 0 0) hv (kpl_i sq) 54 0 0 0 0 26 rfl rfl rfl ⟨Nat.lt_of_lt_of_le Nat.zero_lt_one (Nat.le_refl _), Nat.le_refl _, Nat.le_refl _⟩ rfl))
/-! from 2 to the 52 to 2 to the 54 -/
theorem p4 {x y : Nat} (h : x < y) : 4 ^ y = 4 ^ (y - x - 1) * 4 * 4 ^ x := by
  rw [← Nat.pow_succ, ← Nat.pow_add]
  congr 1
  omega
def tA : Nat := 2 ^ 1126
def tB : Nat := 2 ^ 1128
theorem tB_e : tB = 4 * tA := by decide +kernel
theorem tA_pos : 0 < tA := by decide +kernel
theorem kB : dv 4850376798678024192 tB := ⟨2 ^ 52, 2, by decide +kernel, by decide +kernel⟩
theorem kA : dv 4841369599423283200 tA := ⟨_, _, k_52, by decide +kernel⟩
def rtR (n : Nat) (r : UInt64) : Prop := ∃ S s t : Nat, t ≤ 563 ∧ s ≤ 600 ∧ tA ≤ S ∧ S < tB ∧ n * 4 ^ t = S * 4 ^ s ∧ dv r (kp (S / 2 ^ 1074) * 2 ^ (1048 + s - t))
theorem rt_u {n : Nat} {r r' : UInt64} (h : rtR n r) (g : rtR n r') : r = r' := by
  obtain ⟨S, s, t, h1, h2, h3, h4, h5, h6⟩ := h
  obtain ⟨S', s', t', g1, g2, g3, g4, g5, g6⟩ := g
  have e : S * 4 ^ (s + t') = S' * 4 ^ (s' + t) := by
    rw [Nat.pow_add, Nat.pow_add, ← Nat.mul_assoc, ← Nat.mul_assoc, ← h5, ← g5, Nat.mul_assoc, Nat.mul_assoc, Nat.mul_comm (4 ^ t)]
  have tb := tB_e
  have no : ∀ (A B x y : Nat), tA ≤ A → A < tB → tA ≤ B → B < tB → A * 4 ^ x = B * 4 ^ y → ¬ x < y := by
    intro A B x y a1 a2 b1 b2 e hxy
    have ey := p4 hxy
    rw [ey, ← Nat.mul_assoc] at e
    have e2 := Nat.eq_of_mul_eq_mul_right (Nat.pow_pos (by omega : 0 < 4)) e
    have p : 1 ≤ 4 ^ (y - x - 1) := Nat.pow_pos (by omega)
    have : B * 4 ≤ B * (4 ^ (y - x - 1) * 4) := Nat.mul_le_mul_left _ (by omega)
    omega
  have n1 := no S S' (s + t') (s' + t) h3 h4 g3 g4 e
  have n2 := no S' S (s' + t) (s + t') g3 g4 h3 h4 e.symm
  have ex : s + t' = s' + t := by omega
  rw [ex] at e
  have eS := Nat.eq_of_mul_eq_mul_right (Nat.pow_pos (by omega : 0 < 4)) e
  subst eS
  rw [show 1048 + s' - t' = 1048 + s - t by omega] at g6
  exact dv_inj h6 g6
theorem four_dvd {a : UInt64} {n : Nat} (h : dv a n) (hn : 2 ^ 1076 ≤ n) : ∃ m, n = m * 2 ^ 2 := by
  obtain ⟨c, t, h1, h2, e⟩ := dv_rep h
  have ht : 2 ≤ t := by
    by_cases ht : 2 ≤ t
    · exact ht
    · have p1 : 2 ^ t ≤ 2 ^ 1 := Nat.pow_le_pow_right (by omega) (by omega)
      have p2 : n < 2 ^ 53 * 2 ^ 1 := by
        rw [e]
        exact Nat.lt_of_lt_of_le (Nat.mul_lt_mul_of_pos_right h1 (Nat.two_pow_pos _)) (Nat.mul_le_mul_left _ p1)
      have p3 : 2 ^ 53 * 2 ^ 1 ≤ 2 ^ 1076 := by rw [← Nat.pow_add]; exact Nat.pow_le_pow_right (by omega) (by omega)
      omega
  refine ⟨c * 2 ^ (t - 2), ?_⟩
  rw [e, Nat.mul_assoc, ← Nat.pow_add]
  congr 2
  omega
end ROOT
