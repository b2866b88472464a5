/-! ===== small things for the pure half ===== -/
theorem am_uI_at (I : Nat → Nat → Int32) (k j : Nat) (x : Int32) (a b : Nat) : am_uI I k j x a b = if a = k ∧ b = j then x else I a b := by
  unfold am_uI
  cases hc : (a == k && b == j) with
  | true =>
    have h : a = k ∧ b = j := by simpa using hc
    simp [h]
  | false =>
    have h : ¬ (a = k ∧ b = j) := by
      intro h
      rw [h.1, h.2] at hc
      simp at hc
    simp [h]
theorem am_uL_at (I : Nat → Nat → Int64) (k j : Nat) (x : Int64) (a b : Nat) : am_uL I k j x a b = if a = k ∧ b = j then x else I a b := by
  unfold am_uL
  cases hc : (a == k && b == j) with
  | true =>
    have h : a = k ∧ b = j := by simpa using hc
    simp [h]
  | false =>
    have h : ¬ (a = k ∧ b = j) := by
      intro h
      rw [h.1, h.2] at hc
      simp at hc
    simp [h]
theorem am_uD_at (I : Nat → Nat → UInt64) (k j : Nat) (x : UInt64) (a b : Nat) : am_uD I k j x a b = if a = k ∧ b = j then x else I a b := by
  unfold am_uD
  cases hc : (a == k && b == j) with
  | true =>
    have h : a = k ∧ b = j := by simpa using hc
    simp [h]
  | false =>
    have h : ¬ (a = k ∧ b = j) := by
      intro h
      rw [h.1, h.2] at hc
      simp at hc
    simp [h]
theorem ni_nat {k : Nat} (h : k < 2 ^ 31) : (nI k).toNatClampNeg = k := by
  unfold Int32.toNatClampNeg
  rw [nI_toInt h]
  simp
theorem ni_inb {k n : Nat} (h : k < n) (hn : n < 2 ^ 31) : am_inb (nI k) n = true := by
  unfold am_inb
  rw [ni_nat (by omega)]
  have h0 : ¬ nI k < 0 := by
    rw [Int32.lt_iff_toInt_lt, nI_toInt (by omega), Int32.toInt_zero]
    omega
  simp [h0, h]
theorem ni_lt {a b : Nat} (ha : a < 2 ^ 31) (hb : b < 2 ^ 31) : nI a < nI b ↔ a < b := by
  rw [Int32.lt_iff_toInt_lt, nI_toInt ha, nI_toInt hb]
  omega
theorem ni_le {a b : Nat} (ha : a < 2 ^ 31) (hb : b < 2 ^ 31) : nI a ≤ nI b ↔ a ≤ b := by
  rw [Int32.le_iff_toInt_le, nI_toInt ha, nI_toInt hb]
  omega
theorem ni_eq {a b : Nat} (ha : a < 2 ^ 31) (hb : b < 2 ^ 31) : nI a = nI b ↔ a = b := by
  rw [← Int32.toInt_inj, nI_toInt ha, nI_toInt hb]
  omega
theorem ni_add {a b : Nat} (h : a + b < 2 ^ 31) : nI a + nI b = nI (a + b) := by
  rw [← Int32.toInt_inj, Int32.toInt_add, nI_toInt (by omega), nI_toInt (by omega), nI_toInt h, Int.bmod_eq_of_le (by omega) (by omega)]
  omega
theorem ni_sub {a b : Nat} (h : b ≤ a) (ha : a < 2 ^ 31) : nI a - nI b = nI (a - b) := by
  rw [← Int32.toInt_inj, Int32.toInt_sub, nI_toInt ha, nI_toInt (by omega), nI_toInt (by omega), Int.bmod_eq_of_le (by omega) (by omega)]
  omega
theorem ni_nn {k : Nat} (h : k < 2 ^ 31) : ¬ nI k < 0 := by
  rw [Int32.lt_iff_toInt_lt, nI_toInt h, Int32.toInt_zero]
  omega
/-- an answer told outright -/
theorem am_rn_of {ext : Nat → List Value → am_M → Option am_R} {d j : Nat} {y : am_Y} {as : List Value} {m : am_M} {r : am_R} (hy : am_Ys j = some y) (hl : Nat.ble (am_ent as).length y.2.1 = true) (h : am_wp ext d y (0, am_loc y.2.1 as, [], m) (fun q => q = r)) : am_Rn ext (d + 1) j as m r := by
  obtain ⟨q, h1, h2⟩ := am_of_wp hy hl h
  rw [← h2]
  exact h1
theorem am_ca_of {ext : Nat → List Value → am_M → Option am_R} {d j : Nat} {as : List Value} {m : am_M} {r : am_R} {P : am_R → Prop} (h : am_Rn ext d j as m r) (hp : P r) : am_ca ext d j as m P := ⟨r, h, hp⟩
/-! fault(what) -/
section FAULT
variable {ext : Nat → List Value → am_M → Option am_R} {d : Nat} (I : Nat → Nat → Int32) (L : Nat → Nat → Int64) (D : Nat → Nat → UInt64) (X : am_Rf)
def pu_fault (a b w : Int32) : Int32 := if w = 0 then a else if w = 1 then b else -1
theorem c95 (w : Int32) : am_Rn ext (d + 1) 95 [.ref 0, .int w] (I, L, D, am_rf X) (some (.int (pu_fault (I 0 9) (I 0 10) w)), (I, L, D, am_rf X)) := by
  refine am_rn_of mh_95 rfl (w95_0 I L D X w ⟨fun h0 => ⟨fun h1 => ?_, fun h1 => ?_⟩, fun h0 => ?_⟩)
  · simp [pu_fault, h0, h1]
  · simp [pu_fault, h1]
  · simp [pu_fault, h0]
theorem c145 (w : Int32) : am_Rn ext (d + 1) 145 [.ref 42, .int w] (I, L, D, am_rf X) (some (.int (pu_fault (I 42 4) (I 42 5) w)), (am_uI I 42 2 0, L, D, am_rf X)) := by
  refine am_rn_of mh_145 rfl (w145_0 I L D X w ⟨fun h0 => ⟨fun h1 => ?_, fun h1 => ?_⟩, fun h0 => ?_⟩)
  · simp [pu_fault, h0, h1]
  · simp [pu_fault, h1]
  · simp [pu_fault, h0]
end FAULT
