/-! ===== what is found is in order: area ===== -/
theorem pe_64 {w k : Nat} {i j : Int} (hw : w ≤ 20) (h1 : -64 ≤ i) (h2 : i < j) (h3 : j ≤ 64) (hk : k < 2 ^ (w / 4)) : (sp_pe w i j k).toInt ≤ (sp_pe w i j (k + 1)).toInt ∧ -64 * 2 ^ w ≤ (sp_pe w i j k).toInt ∧ (sp_pe w i j (k + 1)).toInt ≤ 64 * 2 ^ w := by
  obtain ⟨p1, p2⟩ := p2_le hw
  have q3 : (0 : Int) < 2 ^ (w / 4) := Int.pow_pos (by omega)
  have hk' : ((k : Nat) : Int) + 1 ≤ 2 ^ (w / 4) := by
    have : ((2 ^ (w / 4) : Nat) : Int) = (2 : Int) ^ (w / 4) := by rw [Int.natCast_pow]; rfl
    omega
  have f1 : -64 * 2 ^ w ≤ i * 2 ^ w := Int.mul_le_mul_of_nonneg_right h1 (by omega)
  have f2 : j * 2 ^ w ≤ 64 * 2 ^ w := Int.mul_le_mul_of_nonneg_right h3 (by omega)
  have c1 : 0 ≤ (j - i) * k * 2 ^ w := Int.mul_nonneg (Int.mul_nonneg (by omega) (by omega)) (by omega)
  have d1 : 0 ≤ ((j - i) * k * 2 ^ w) / 2 ^ (w / 4) := Int.ediv_nonneg c1 (by omega)
  have d3 : ((j - i) * ((k + 1 : Nat) : Int) * 2 ^ w) / 2 ^ (w / 4) ≤ (j - i) * 2 ^ w := by
    refine Int.ediv_le_of_le_mul q3 ?_
    rw [Int.mul_assoc, Int.mul_assoc, Int.mul_comm ((k + 1 : Nat) : Int) (2 ^ w)]
    refine Int.mul_le_mul_of_nonneg_left (Int.mul_le_mul_of_nonneg_left (by omega) (by omega)) (by omega)
  have d4 : (j - i) * 2 ^ w = j * 2 ^ w - i * 2 ^ w := Int.sub_mul ..
  refine ⟨(pe_gd hw h1 h2 h3 hk).1, ?_, ?_⟩
  · rw [pe_i hw h1 h2 h3 (by omega)]; omega
  · rw [pe_i hw h1 h2 h3 (by omega)]; omega
/-- a piece's share: v of w bits times a width -/
theorem ar_b {w : Nat} (hw : w ≤ 20) {v D : Int} (h1 : -(2048 * 2 ^ w) ≤ v) (h2 : v ≤ 2048 * 2 ^ w) (h3 : 0 ≤ D) (h4 : D ≤ 134217728) : -274877906944 ≤ v * D / 2 ^ w ∧ v * D / 2 ^ w ≤ 274877906944 := by
  obtain ⟨p1, p2⟩ := p2_le hw
  have a1 : v * D ≤ 2048 * 2 ^ w * D := Int.mul_le_mul_of_nonneg_right h2 h3
  have a2 : -(2048 * 2 ^ w) * D ≤ v * D := Int.mul_le_mul_of_nonneg_right h1 h3
  have e1 : 2048 * 2 ^ w * D = 2048 * D * 2 ^ w := by rw [Int.mul_assoc, Int.mul_comm (2 ^ w) D, Int.mul_assoc]
  have e2 : -(2048 * 2 ^ w) * D = -(2048 * D) * 2 ^ w := by rw [Int.neg_mul, Int.neg_mul, e1]
  have b1 : v * D / 2 ^ w ≤ 2048 * D := Int.ediv_le_of_le_mul (by omega) (by rw [← e1]; exact a1)
  have b2 : -(2048 * D) ≤ v * D / 2 ^ w := Int.le_ediv_of_mul_le (by omega) (by rw [← e2]; exact a2)
  omega
theorem ev_pl_gd_a {w : Nat} (hw : w ≤ 20) (E : Int64 → Int64 → ev_R) (pe : Nat → Int64) (N : Nat) (hN : N ≤ 32) {B : Nat → Int} (hB : ∀ k, B k = k * 274877906944) (hpe : ∀ k, k < N → (pe k).toInt ≤ (pe (k + 1)).toInt ∧ -64 * 2 ^ w ≤ (pe k).toInt ∧ (pe (k + 1)).toInt ≤ 64 * 2 ^ w) (hE : ∀ k, k < N → gd w (E (pe k) (pe (k + 1))).1) : ∀ (m k : Nat) (lo hi : Int64) (u : Nat), k + m = N → lo.toInt ≤ hi.toInt → -(B k) ≤ lo.toInt → hi.toInt ≤ B k → gd w (ev_pl w E 16 pe m k lo hi u).1
  | 0, k, lo, hi, u, _, h, _, _ => by
    rw [ev_pl]
    exact sp_k_gd hw h
  | m + 1, k, lo, hi, u, hk, h, hl, hh => by
    have hB0 := hB k
    have hB1 := hB (k + 1)
    obtain ⟨p1, p2⟩ := p2_le hw
    have hEk := hE k (by omega)
    obtain ⟨g1, g2, g3⟩ := hpe k (by omega)
    cases hq : (E (pe k) (pe (k + 1))).1 with
    | none =>
      rw [ev_pl, hq]
      intro p hp; cases hp
    | some p =>
      have gp := hEk p hq
      have hb := gd_b hw gp
      rw [ev_pl_s hq]
      unfold pl_lo pl_hi
      rw [if_pos rfl, if_pos rfl]
      have eD : (pe (k + 1) - pe k).toInt = (pe (k + 1)).toInt - (pe k).toInt := i64_sub (by omega) (by omega)
      generalize pe (k + 1) - pe k = D at *
      have D1 : 0 ≤ D.toInt := by omega
      have D2 : D.toInt ≤ 134217728 := by omega
      have m1 := mul_b (x := p.1.toInt) (y := D.toInt) (by omega) (by omega) (by omega) (by omega)
      have m2 := mul_b (x := p.2.toInt) (y := D.toInt) (by omega) (by omega) (by omega) (by omega)
      have e1 : (p.1 * D).toInt = p.1.toInt * D.toInt := i64_mul (by omega) (by omega)
      have e2 : (p.2 * D).toInt = p.2.toInt * D.toInt := i64_mul (by omega) (by omega)
      have le : p.1.toInt * D.toInt ≤ p.2.toInt * D.toInt := Int.mul_le_mul_of_nonneg_right (by omega) D1
      have ru := sp_r_up hw (x := p.1 * D) (y := p.2 * D) (by omega) (by omega)
      have b1 := ar_b hw (v := p.1.toInt) (D := D.toInt) gp.2.1 (by have := gp.1; have := gp.2.2; omega) D1 D2
      have b2 := ar_b hw (v := -p.2.toInt) (D := D.toInt) (by have := gp.2.2; omega) (by have := gp.1; have := gp.2.1; omega) D1 D2
      have r1 : (sp_r w (p.1 * D)).toInt = p.1.toInt * D.toInt / 2 ^ w := by unfold sp_r; rw [sh_r _ (by omega), e1]
      have r2 : ((-(p.2 * D)) >>> sp_sh w).toInt = -p.2.toInt * D.toInt / 2 ^ w := by rw [sh_r _ (by omega), i64_neg (by omega), e2, Int.neg_mul]
      have r3 : (sp_up w (p.2 * D)).toInt = -(-p.2.toInt * D.toInt / 2 ^ w) := by unfold sp_up; rw [i64_neg (by omega), r2]
      have x1 : (lo + sp_r w (p.1 * D)).toInt = lo.toInt + (sp_r w (p.1 * D)).toInt := i64_add (by omega) (by omega)
      have x2 : (hi + sp_up w (p.2 * D)).toInt = hi.toInt + (sp_up w (p.2 * D)).toInt := i64_add (by omega) (by omega)
      refine ev_pl_gd_a hw E pe N hN hB hpe hE m (k + 1) _ _ _ (by omega) ?_ ?_ ?_
      · rw [x1, x2]; omega
      · rw [x1]; omega
      · rw [x2]; omega
