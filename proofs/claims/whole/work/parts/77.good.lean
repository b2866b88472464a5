/-! ===== what is found is in order: single steps ===== -/
theorem mn_i (a b : Int64) : (sp_mn a b).toInt ≤ a.toInt ∧ (sp_mn a b).toInt ≤ b.toInt ∧ ((sp_mn a b).toInt = a.toInt ∨ (sp_mn a b).toInt = b.toInt) := by
  unfold sp_mn
  split
  · rename_i h; rw [Int64.lt_iff_toInt_lt] at h; omega
  · rename_i h; rw [Int64.lt_iff_toInt_lt] at h; omega
theorem mx_i (a b : Int64) : a.toInt ≤ (sp_mx a b).toInt ∧ b.toInt ≤ (sp_mx a b).toInt ∧ ((sp_mx a b).toInt = a.toInt ∨ (sp_mx a b).toInt = b.toInt) := by
  unfold sp_mx
  split
  · rename_i h; rw [Int64.lt_iff_toInt_lt] at h; omega
  · rename_i h; rw [Int64.lt_iff_toInt_lt] at h; omega
theorem gd_b {w : Nat} (hw : w ≤ 20) {a b : Int64} (h : gd2 w a b) : -2147483648 ≤ a.toInt ∧ a.toInt ≤ b.toInt ∧ b.toInt ≤ 2147483648 := by
  obtain ⟨p1, p2⟩ := p2_le hw
  obtain ⟨h1, h2, h3⟩ := h
  omega
theorem sp_1_gd3 {w : Nat} (hw : w ≤ 20) {a b : Int64} (h : gd2 w a b) : gd w (sp_1 w 3 a b) := by
  have := gd_b hw h
  rw [sp_1_3]
  refine sp_k_gd hw ?_
  rw [i64_neg (by omega), i64_neg (by omega)]
  omega
theorem sp_1_gd5 {w : Nat} (hw : w ≤ 20) {a b : Int64} (h : gd2 w a b) : gd w (sp_1 w 5 a b) := by
  have hb := gd_b hw h
  unfold sp_1
  rw [if_neg (by omega), if_neg (by omega)]
  have q1 := mn_i (sp_ab a) (sp_ab b)
  have q2 := mx_i (sp_ab a) (sp_ab b)
  split
  · exact sp_k_gd hw (by omega)
  · split
    · exact sp_k_gd hw (by omega)
    · rename_i h1 h2
      refine sp_k_gd hw ?_
      have q3 := mx_i (-a) b
      have z : (0 : Int64).toInt = 0 := rfl
      rw [Int64.lt_iff_toInt_lt, z] at h1
      rw [i64_neg (by omega)] at q3
      rw [z]
      omega
theorem sp_2_gd6 {w : Nat} (hw : w ≤ 20) {a b c e : Int64} (h : gd2 w a b) (g : gd2 w c e) : gd w (sp_2 w 6 a b c e) := by
  have h1 := gd_b hw h
  have h2 := gd_b hw g
  rw [sp_2_6]
  refine sp_k_gd hw ?_
  rw [i64_add (by omega) (by omega), i64_add (by omega) (by omega)]
  omega
theorem sp_2_gd7 {w : Nat} (hw : w ≤ 20) {a b c e : Int64} (h : gd2 w a b) (g : gd2 w c e) : gd w (sp_2 w 7 a b c e) := by
  have h1 := gd_b hw h
  have h2 := gd_b hw g
  rw [sp_2_7]
  refine sp_k_gd hw ?_
  rw [i64_sub (by omega) (by omega), i64_sub (by omega) (by omega)]
  omega
theorem sp_2_gd10 {w : Nat} (hw : w ≤ 20) {a b c e : Int64} (h : gd2 w a b) (g : gd2 w c e) : gd w (sp_2 w 10 a b c e) := by
  have h1 := gd_b hw h
  have h2 := gd_b hw g
  rw [sp_2_10]
  have q1 := mx_i a c
  have q2 := mx_i b e
  exact sp_k_gd hw (by omega)
theorem sp_2_gd11 {w : Nat} (hw : w ≤ 20) {a b c e : Int64} (h : gd2 w a b) (g : gd2 w c e) : gd w (sp_2 w 11 a b c e) := by
  have h1 := gd_b hw h
  have h2 := gd_b hw g
  rw [sp_2_11]
  have q1 := mn_i a c
  have q2 := mn_i b e
  exact sp_k_gd hw (by omega)
theorem sp_j_gd {w : Nat} (hw : w ≤ 20) {x y : Option (Int64 × Int64)} (h : gd w x) (g : gd w y) : gd w (sp_j w x y) := by
  cases x with
  | none => intro p hp; cases hp
  | some q =>
    cases y with
    | none => intro p hp; cases hp
    | some r =>
      have h1 := gd_b hw (h q rfl)
      have h2 := gd_b hw (g r rfl)
      have q1 := mn_i q.1 r.1
      have q2 := mx_i q.2 r.2
      exact sp_k_gd hw (by omega)
/-- down, up by w bits -/
theorem sp_r_up {w : Nat} (hw : w ≤ 20) {x y : Int64} (h : x.toInt ≤ y.toInt) (h1 : -9223372036854775807 ≤ y.toInt) : (sp_r w x).toInt ≤ (sp_up w y).toInt := by
  obtain ⟨p1, p2⟩ := p2_le hw
  unfold sp_r sp_up
  have e2 : ((-y) >>> sp_sh w).toInt = (-y.toInt) / 2 ^ w := by rw [sh_r _ (by omega), i64_neg h1]
  have lo : -9223372036854775807 ≤ ((-y) >>> sp_sh w).toInt := by
    rw [e2]
    have := y.toInt_lt
    refine Int.le_trans ?_ (Int.le_ediv_of_mul_le (a := -9223372036854775807) (by omega) ?_)
    · omega
    · have : (-9223372036854775807 : Int) * 2 ^ w ≤ -9223372036854775807 * 1 := by omega
      omega
  rw [sh_r _ (by omega), i64_neg lo, e2]
  have k0 : (0 : Int) < 2 ^ w := by omega
  have d1 := Int.ediv_mul_le x.toInt (b := 2 ^ w) (by omega)
  have d2 := Int.ediv_mul_le (-y.toInt) (b := 2 ^ w) (by omega)
  have s : (x.toInt / 2 ^ w + (-y.toInt) / 2 ^ w) * 2 ^ w ≤ 0 := by rw [Int.add_mul]; omega
  have : x.toInt / 2 ^ w + (-y.toInt) / 2 ^ w ≤ 0 := by
    by_cases q : x.toInt / 2 ^ w + (-y.toInt) / 2 ^ w ≤ 0
    · exact q
    · have := Int.mul_pos (show 0 < x.toInt / 2 ^ w + (-y.toInt) / 2 ^ w by omega) k0
      omega
  omega
