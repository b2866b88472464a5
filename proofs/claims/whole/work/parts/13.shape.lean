/-! ===== the shape of the world: the class's cells, the reference's cells, the law's own array ===== -/
def am_SH : am_Sh := [
  .inl (7, am_k7),
  .inr (0, 500),
  .inl (3, am_k3),
  .inr (0, 26),
  .inr (4, 18),
  .inr (0, 18),
  .inr (0, 18),
  .inr (0, 288),
  .inr (0, 288),
  .inr (0, 288),
  .inr (0, 288),
  .inl (3, am_k3),
  .inr (0, 26),
  .inr (4, 18),
  .inr (0, 18),
  .inr (0, 18),
  .inr (0, 288),
  .inr (0, 288),
  .inr (0, 288),
  .inr (0, 288),
  .inl (4, am_k4),
  .inl (6, am_k6),
  .inr (0, 501),
  .inr (0, 501),
  .inr (0, 501),
  .inl (5, am_k5),
  .inr (1, 100),
  .inr (1, 100),
  .inr (0, 96),
  .inl (2, am_k2),
  .inr (1, 18),
  .inr (1, 18),
  .inr (1, 100),
  .inr (1, 100),
  .inl (1, am_k1),
  .inr (2, 18),
  .inr (0, 18),
  .inr (2, 100),
  .inr (4, 100),
  .inl (0, am_k0),
  .inr (1, 17),
  .inr (1, 17),
  .inl (8, am_k8),
  .inr (0, 500),
  .inr (0, 51),
  .inr (0, 192),
  .inr (0, 192),
  .inr (0, 192),
  .inr (0, 192),
  .inr (0, 192),
  .inr (0, 192),
  .inr (0, 52),
  .inr (0, 52),
  .inr (0, 12),
  .inr (0, 12),
  .inr (0, 120),
  .inr (0, 120),
  .inr (0, 120),
  .inr (0, 120),
  .inr (0, 128),
  .inr (0, 128),
  .inr (1, 128),
  .inr (1, 128),
  .inr (1, 128),
  .inr (1, 128),
  .inr (4, 128),
  .inr (1, 128),
  .inr (1, 128),
  .inr (4, 128),
  .inr (1, 26),
  .inr (1, 26),
  .inr (4, 26),
  .inr (1, 96),
  .inr (1, 96),
  .inr (0, 96),
  .inr (2, 26),
  .inr (4, 26),
  .inr (2, 128),
  .inr (4, 128),
  .inr (2, 128),
  .inr (4, 128),
  .inr (2, 1)]
theorem am_SH_ok : am_shB am_SH = true := by decide +kernel
/-- the references that never change: cell * 128 + slot, cell -/
def am_rsl : List (Nat × Nat) := [(0, 1), (256, 3), (257, 4), (258, 5), (259, 6), (260, 7), (261, 8), (262, 9), (263, 10), (1408, 12), (1409, 13), (1410, 14), (1411, 15), (1412, 16), (1413, 17), (1414, 18), (1415, 19), (3, 20), (2560, 21), (2688, 22), (2689, 23), (2690, 24), (4, 25), (3200, 26), (3201, 27), (3202, 28), (5, 29), (3712, 30), (3713, 31), (3714, 32), (3715, 33), (6, 34), (4352, 35), (4353, 36), (4354, 37), (4355, 38), (7, 39), (4992, 25), (4993, 40), (4994, 41), (5376, 43), (5379, 44), (5387, 45), (5388, 46), (5389, 47), (5390, 48), (5391, 49), (5392, 50), (5395, 51), (5396, 52), (5398, 53), (5399, 54), (5404, 55), (5405, 56), (5406, 57), (5408, 58), (5413, 59), (5414, 60), (5415, 61), (5416, 62), (5417, 63), (5418, 64), (5419, 65), (5420, 66), (5421, 67), (5422, 68), (5429, 69), (5430, 70), (5431, 71), (5432, 72), (5433, 73), (5434, 74), (5437, 75), (5438, 76), (5439, 77), (5440, 78), (5441, 79), (5442, 80)]
/-- those that do: told, spare, the reader's, the spans', the doubles', the curve's program -/
abbrev am_Rf : Type := Nat × Nat × Nat × Nat × Nat × Nat
def am_rf (x : am_Rf) (a b : Nat) : Option Nat := bif a == 0 && b == 1 then some x.1 else bif a == 0 && b == 2 then some x.2.1 else bif a == 20 && b == 1 then some x.2.2.1 else bif a == 25 && b == 5 then some x.2.2.2.1 else bif a == 34 && b == 5 then some x.2.2.2.2.1 else bif a == 39 && b == 3 then some x.2.2.2.2.2 else am_rsl.lookup (a * 128 + b)
theorem am_rf_w0 (I : Nat → Nat → Int32) (L : Nat → Nat → Int64) (D : Nat → Nat → UInt64) (t s i p u c v : Nat) : am_wR (I, L, D, am_rf (t, s, i, p, u, c)) 0 1 (some v) = (I, L, D, am_rf (v, s, i, p, u, c)) := by
  unfold am_wR
  congr 3
  funext a b
  simp only [am_rf]
  cases h : (a == 0 && b == 1) with
  | true =>
    rw [Bool.and_eq_true, beq_iff_eq, beq_iff_eq] at h
    obtain ⟨rfl, rfl⟩ := h
    rfl
  | false => simp only [h, cond_false]
theorem am_rf_w1 (I : Nat → Nat → Int32) (L : Nat → Nat → Int64) (D : Nat → Nat → UInt64) (t s i p u c v : Nat) : am_wR (I, L, D, am_rf (t, s, i, p, u, c)) 0 2 (some v) = (I, L, D, am_rf (t, v, i, p, u, c)) := by
  unfold am_wR
  congr 3
  funext a b
  simp only [am_rf]
  cases h : (a == 0 && b == 2) with
  | true =>
    rw [Bool.and_eq_true, beq_iff_eq, beq_iff_eq] at h
    obtain ⟨rfl, rfl⟩ := h
    rfl
  | false => simp only [h, cond_false]
theorem am_rf_w2 (I : Nat → Nat → Int32) (L : Nat → Nat → Int64) (D : Nat → Nat → UInt64) (t s i p u c v : Nat) : am_wR (I, L, D, am_rf (t, s, i, p, u, c)) 20 1 (some v) = (I, L, D, am_rf (t, s, v, p, u, c)) := by
  unfold am_wR
  congr 3
  funext a b
  simp only [am_rf]
  cases h : (a == 20 && b == 1) with
  | true =>
    rw [Bool.and_eq_true, beq_iff_eq, beq_iff_eq] at h
    obtain ⟨rfl, rfl⟩ := h
    rfl
  | false => simp only [h, cond_false]
theorem am_rf_w3 (I : Nat → Nat → Int32) (L : Nat → Nat → Int64) (D : Nat → Nat → UInt64) (t s i p u c v : Nat) : am_wR (I, L, D, am_rf (t, s, i, p, u, c)) 25 5 (some v) = (I, L, D, am_rf (t, s, i, v, u, c)) := by
  unfold am_wR
  congr 3
  funext a b
  simp only [am_rf]
  cases h : (a == 25 && b == 5) with
  | true =>
    rw [Bool.and_eq_true, beq_iff_eq, beq_iff_eq] at h
    obtain ⟨rfl, rfl⟩ := h
    rfl
  | false => simp only [h, cond_false]
theorem am_rf_w4 (I : Nat → Nat → Int32) (L : Nat → Nat → Int64) (D : Nat → Nat → UInt64) (t s i p u c v : Nat) : am_wR (I, L, D, am_rf (t, s, i, p, u, c)) 34 5 (some v) = (I, L, D, am_rf (t, s, i, p, v, c)) := by
  unfold am_wR
  congr 3
  funext a b
  simp only [am_rf]
  cases h : (a == 34 && b == 5) with
  | true =>
    rw [Bool.and_eq_true, beq_iff_eq, beq_iff_eq] at h
    obtain ⟨rfl, rfl⟩ := h
    rfl
  | false => simp only [h, cond_false]
theorem am_rf_w5 (I : Nat → Nat → Int32) (L : Nat → Nat → Int64) (D : Nat → Nat → UInt64) (t s i p u c v : Nat) : am_wR (I, L, D, am_rf (t, s, i, p, u, c)) 39 3 (some v) = (I, L, D, am_rf (t, s, i, p, u, v)) := by
  unfold am_wR
  congr 3
  funext a b
  simp only [am_rf]
  cases h : (a == 39 && b == 3) with
  | true =>
    rw [Bool.and_eq_true, beq_iff_eq, beq_iff_eq] at h
    obtain ⟨rfl, rfl⟩ := h
    rfl
  | false => simp only [h, cond_false]
