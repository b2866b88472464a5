/-! ===== what is found is in order: roots; all trees ===== -/
theorem one_sh {j : Nat} (hj : j ≤ 27) : ((1 : Int64) <<< sp_sh j).toInt = 2 ^ j := by
  rw [sh_l 1 (by omega)]
  have o : (1 : Int64).toInt = 1 := rfl
  have h2 : (2 : Nat) ^ j ≤ 2 ^ 27 := Nat.pow_le_pow_right (by omega) hj
  have e : ((2 ^ j : Nat) : Int) = (2 : Int) ^ j := by rw [Int.natCast_pow]; rfl
  have h1 : (1 : Nat) ≤ 2 ^ j := Nat.one_le_two_pow
  rw [o, Int.one_mul, ← e, Int.bmod_eq_of_le (by omega) (by omega)]
theorem sq_lt {s t : Int} (hs : 0 ≤ s) (ht : 0 ≤ t) (h : s * s < t * t) : s < t := by
  by_cases q : s < t
  · exact q
  · have := Int.mul_le_mul (show t ≤ s by omega) (show t ≤ s by omega) ht hs
    omega
theorem rt_i (n : Int64) : ∀ (j : Nat) (r : Int64), j ≤ 27 → 0 ≤ r.toInt → r.toInt + 2 ^ j ≤ 134217728 → r.toInt * r.toInt ≤ n.toInt → n.toInt < (r.toInt + 2 ^ j) * (r.toInt + 2 ^ j) → 0 ≤ (sp_rt n j r).toInt ∧ (sp_rt n j r).toInt < 134217728 ∧ (sp_rt n j r).toInt * (sp_rt n j r).toInt ≤ n.toInt ∧ n.toInt < ((sp_rt n j r).toInt + 1) * ((sp_rt n j r).toInt + 1)
  | 0, r, _, h1, h2, h3, h4 => ⟨h1, by show r.toInt < _; omega, h3, h4⟩
  | j + 1, r, hj, h1, h2, h3, h4 => by
    have p : (0 : Int) < 2 ^ j := Int.pow_pos (by omega)
    have e2 : (2 : Int) ^ (j + 1) = 2 ^ j * 2 := Int.pow_succ ..
    have eo := one_sh (j := j) (by omega)
    have et : (r + (1 <<< sp_sh j)).toInt = r.toInt + 2 ^ j := by rw [i64_add (by omega) (by omega), eo]
    have m := mul_b (x := (r + (1 <<< sp_sh j)).toInt) (y := (r + (1 <<< sp_sh j)).toInt) (by omega) (by omega) (by omega) (by omega)
    have em : ((r + (1 <<< sp_sh j)) * (r + (1 <<< sp_sh j))).toInt = (r.toInt + 2 ^ j) * (r.toInt + 2 ^ j) := by rw [i64_mul (by omega) (by omega), et]
    simp only [sp_rt]
    split
    · rename_i h
      rw [Int64.lt_iff_toInt_lt, em] at h
      exact rt_i n j r (by omega) h1 (by omega) h3 h
    · rename_i h
      rw [Int64.lt_iff_toInt_lt, em] at h
      refine rt_i n j _ (by omega) (by omega) (by rw [et]; omega) (by rw [et]; omega) ?_
      rw [et]
      have : r.toInt + 2 ^ j + 2 ^ j = r.toInt + 2 ^ (j + 1) := by omega
      rw [this]
      exact h4
theorem rd_i {n : Int64} (h1 : 0 ≤ n.toInt) (h2 : n.toInt < 18014398509481984) : 0 ≤ (sp_rd n).toInt ∧ (sp_rd n).toInt < 134217728 ∧ (sp_rd n).toInt * (sp_rd n).toInt ≤ n.toInt ∧ n.toInt < ((sp_rd n).toInt + 1) * ((sp_rd n).toInt + 1) := by
  have z : (0 : Int64).toInt = 0 := rfl
  have k : ((0 : Int) + 2 ^ 27) * (0 + 2 ^ 27) = 18014398509481984 := by decide
  exact rt_i n 27 0 (by omega) (by rw [z]; omega) (by rw [z]; decide) (by rw [z]; omega) (by rw [z]; omega)
theorem ru_i {n : Int64} (h1 : 0 ≤ n.toInt) (h2 : n.toInt < 18014398509481984) : ((sp_ru n).toInt = (sp_rd n).toInt ∧ (sp_rd n).toInt * (sp_rd n).toInt = n.toInt) ∨ ((sp_ru n).toInt = (sp_rd n).toInt + 1 ∧ (sp_rd n).toInt * (sp_rd n).toInt < n.toInt) := by
  obtain ⟨r1, r2, r3, r4⟩ := rd_i h1 h2
  have m := mul_b (x := (sp_rd n).toInt) (y := (sp_rd n).toInt) (by omega) (by omega) (by omega) (by omega)
  have em : (sp_rd n * sp_rd n).toInt = (sp_rd n).toInt * (sp_rd n).toInt := i64_mul (by omega) (by omega)
  have o : (1 : Int64).toInt = 1 := rfl
  unfold sp_ru
  split
  · rename_i h
    rw [← Int64.toInt_inj, em] at h
    exact Or.inl ⟨rfl, h⟩
  · rename_i h
    rw [← Int64.toInt_inj, em] at h
    exact Or.inr ⟨by rw [i64_add (by omega) (by omega), o], by omega⟩
theorem l_nn {w : Nat} (hw : w ≤ 20) {a b : Int64} (h : gd2 w a b) (h0 : 0 ≤ a.toInt) : 0 ≤ (sp_l w a).toInt ∧ (sp_l w a).toInt ≤ (sp_l w b).toInt ∧ (sp_l w b).toInt < 18014398509481984 := by
  have hb := gd_b hw h
  obtain ⟨p1, p2⟩ := p2_le hw
  rw [sp_l_i a hw (by omega) (by omega), sp_l_i b hw (by omega) (by omega)]
  have q1 : 0 ≤ a.toInt * 2 ^ w := Int.mul_nonneg h0 (by omega)
  have q2 : a.toInt * 2 ^ w ≤ b.toInt * 2 ^ w := Int.mul_le_mul_of_nonneg_right (by omega) (by omega)
  have q3 : b.toInt * 2 ^ w ≤ 2147483648 * 2 ^ w := Int.mul_le_mul_of_nonneg_right (by omega) (by omega)
  omega
theorem sp_1_gd4 {w : Nat} (hw : w ≤ 20) {a b : Int64} (h : gd2 w a b) : gd w (sp_1 w 4 a b) := by
  by_cases hn : a < 0
  · unfold sp_1
    rw [if_neg (by omega), if_pos rfl, if_pos hn]
    intro p hp; cases hp
  · rw [sp_1_4 w hn]
    have z : (0 : Int64).toInt = 0 := rfl
    rw [Int64.lt_iff_toInt_lt, z] at hn
    obtain ⟨l1, l2, l3⟩ := l_nn hw h (by omega)
    obtain ⟨s1, s2, s3, s4⟩ := rd_i (n := sp_l w a) l1 (by omega)
    obtain ⟨t1, t2, t3, t4⟩ := rd_i (n := sp_l w b) (by omega) l3
    refine sp_k_gd hw ?_
    have key := sq_lt s1 (show 0 ≤ (sp_rd (sp_l w b)).toInt + 1 by omega) (by omega)
    rcases ru_i (n := sp_l w b) (by omega) l3 with ⟨e, q⟩ | ⟨e, q⟩
    · rw [e]; omega
    · rw [e]; omega
theorem no_gd {w : Nat} (hw : w ≤ 20) {i j : Int} (h1 : -64 ≤ i) (h2 : i ≤ j) (h3 : j ≤ 64) : gd2 w (sp_l w (Int32.toInt64 (Int32.ofInt i))) (sp_l w (Int32.toInt64 (Int32.ofInt j))) := by
  obtain ⟨p1, p2⟩ := p2_le hw
  have ei := i64_of (i := i) (by omega) (by omega)
  have ej := i64_of (i := j) (by omega) (by omega)
  unfold gd2
  rw [sp_l_i _ hw (by omega) (by omega), sp_l_i _ hw (by omega) (by omega), ei, ej]
  have f1 : -64 * 2 ^ w ≤ i * 2 ^ w := Int.mul_le_mul_of_nonneg_right h1 (by omega)
  have f2 : j * 2 ^ w ≤ 64 * 2 ^ w := Int.mul_le_mul_of_nonneg_right h3 (by omega)
  have f3 : i * 2 ^ w ≤ j * 2 ^ w := Int.mul_le_mul_of_nonneg_right h2 (by omega)
  omega
theorem ev_0_gd {w : Nat} (hw : w ≤ 20) {e : pt_E} (E : Nat → Int64 → Int64 → ev_R) (hE : ∀ i a b, gd2 w a b → gd w (E i a b).1) (p : tr_P) (hp : tr_k0 e p) {a b : Int64} (hab : gd2 w a b) : gd w (ev_0 w E p a b).1 := by
  unfold ev_0
  rcases hp with ⟨k, h⟩ | ⟨k, h⟩ | ⟨k, h⟩ | ⟨k1, k2, _, _, _, h1, h2, h3⟩
  · rw [if_pos k]
    exact sp_k_gd hw (Int.le_refl _)
  · rw [if_neg (by omega), if_pos k]
    exact sp_k_gd hw hab.1
  · rw [if_neg (by omega), if_neg (by omega), if_pos k]
    exact hE _ 0 0 (gd2_0 w)
  · rw [if_neg (by omega), if_neg (by omega), if_neg (by omega)]
    split
    · exact ev_n_gd hw _ (no_gd hw h1 (by omega) h3)
    · have z : (0 : Int64).toInt = 0 := rfl
      have hpe : ∀ k, k < 2 ^ (w / 4) → gd w (E p.2.2.2.1 (sp_pe w p.2.2.2.2.1 p.2.2.2.2.2 k) (sp_pe w p.2.2.2.2.1 p.2.2.2.2.2 (k + 1))).1 := fun k hk => hE _ _ _ (pe_gd hw h1 h2 h3 hk)
      by_cases h16 : p.2.1 = 16
      · rw [h16]
        exact ev_pl_gd_a hw (E p.2.2.2.1) (sp_pe w p.2.2.2.2.1 p.2.2.2.2.2) (2 ^ (w / 4)) (p4_le hw).2 (B := fun k => k * 274877906944) (fun _ => rfl) (fun k hk => pe_64 hw h1 h2 h3 hk) hpe (2 ^ (w / 4)) 0 0 0 0 (by omega) (Int.le_refl _) (by rw [z]; decide) (by rw [z]; decide)
      · exact ev_pl_gd_m hw (E p.2.2.2.1) p.2.1 (sp_pe w p.2.2.2.2.1 p.2.2.2.2.2) h16 (2 ^ (w / 4)) hpe (2 ^ (w / 4)) 0 0 0 0 (by omega) (Int.le_refl _)
theorem ev_T_gd {w : Nat} (hw : w ≤ 20) {e : pt_E} (E : Nat → Int64 → Int64 → ev_R) (hE : ∀ i a b, gd2 w a b → gd w (E i a b).1) : ∀ (T : tr_T) (q : Nat), tr_ok e T q → ∀ a b, gd2 w a b → gd w (ev_T w E T a b).1 := by
  have no : ∀ {n : Nat}, gd w ((none, n) : ev_R).1 := fun {n} p hp => by cases hp
  refine tr_ind ?_ ?_ ?_ ?_ ?_
  · intro p s _ hp a b hab
    exact ev_0_gd hw E hE p hp hab
  · intro p A s _ hp _ ih a b hab
    have hA := ih a b hab
    show gd w (ev_1 w E p (ev_T w E A a b)).1
    unfold ev_1
    split
    · exact no
    · rename_i q hq
      have g := hA q hq
      rcases hp with k | k | k | ⟨k, _⟩
      · rw [if_neg (by omega), k]; exact sp_1_gd3 hw g
      · rw [if_neg (by omega), k]; exact sp_1_gd4 hw g
      · rw [if_neg (by omega), k]; exact sp_1_gd5 hw g
      · rw [if_pos k]; exact hE _ _ _ g
  · intro p A B s k1 k2 _ _ _ iha ihb a b hab
    have hA := iha a b hab
    have hB := ihb a b hab
    show gd w (ev_2 w p (ev_T w E A a b) (ev_T w E B a b)).1
    unfold ev_2
    split
    · rename_i q r hq hr
      have g := hA q hq
      have h := hB r hr
      have : p.2.1 = 6 ∨ p.2.1 = 7 ∨ p.2.1 = 8 ∨ p.2.1 = 9 := by omega
      rcases this with k | k | k | k
      · rw [k]; exact sp_2_gd6 hw g h
      · rw [k]; exact sp_2_gd7 hw g h
      · rw [k]; exact sp_2_gd8 hw g h
      · rw [k]; exact sp_2_gd9 hw g
    · exact no
  · intro p A B s k _ _ _ iha ihb a b hab
    have hA := iha a b hab
    have hB := ihb a b hab
    show gd w (ev_2 w p (ev_T w E A a b) (ev_T w E B a b)).1
    unfold ev_2
    split
    · rename_i q r hq hr
      have g := hA q hq
      have h := hB r hr
      rcases k with k | k
      · rw [k]; exact sp_2_gd10 hw g h
      · rw [k]; exact sp_2_gd11 hw g h
    · exact no
  · intro p A B V W s _ _ _ _ _ _ iha ihb ihv ihw a b hab
    show gd w (ev_4 w p (ev_T w E A a b) (ev_T w E B a b) (ev_T w E V a b) (ev_T w E W a b)).1
    unfold ev_4
    split
    · split
      · exact ihv a b hab
      · split
        · exact ihw a b hab
        · exact sp_j_gd hw (ihv a b hab) (ihw a b hab)
    · exact no
theorem gd_all_of {w : Nat} (hw : w ≤ 20) {ls : pt_L} (hwf : pt_wf ls) : gd_all w ls := by
  have key : ∀ n i a b, gd2 w a b → gd w (ev_L w ls n i a b).1 := by
    intro n
    induction n with
    | zero => intro i a b _ p hp; cases hp
    | succ n ih =>
      intro i a b hab
      cases hx : ls[i]? with
      | none =>
        have e : ev_L w ls (n + 1) i a b = (none, 0) := by
          show (match ls[i]? with | some x => ev_T w (ev_L w ls n) x.2.2 a b | none => (none, 0)) = _
          rw [hx]
        rw [e]
        intro p hp; cases hp
      | some x =>
        have e : ev_L w ls (n + 1) i a b = ev_T w (ev_L w ls n) x.2.2 a b := by
          show (match ls[i]? with | some x => ev_T w (ev_L w ls n) x.2.2 a b | none => (none, 0)) = _
          rw [hx]
        rw [e]
        exact ev_T_gd hw _ ih _ _ (hwf i x hx).2.2.2 a b hab
  intro n m fn T q a b hab hT
  exact ev_T_gd hw _ (key n) T q hT a b hab
