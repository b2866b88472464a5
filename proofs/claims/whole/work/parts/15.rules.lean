section AWB
variable {ext : Nat → List Value → am_M → Option am_R} {d : Nat} {y : am_Y} {P : am_R → Prop} {pc t : Nat} {ls : List (Option Value)} {st : List Value} {m : am_M} {off : Int}
theorem am_bk1 {k : ClassFile.Cond} {x : Int32} {len : Nat} (hq : y.1 pc = some (.ifCond k off, len, [t])) (kt : am_cond k x 0 = true → am_wp ext d y (t, ls, st, m) P) (kf : am_cond k x 0 = false → am_wp ext d y (pc + 3, ls, st, m) P) : am_wp ext d y (pc, ls, .int x :: st, m) P := by
  refine am_wps (c' := (bif am_cond k x 0 then t else pc + 3, ls, st, m)) hq rfl rfl ?_
  cases h : am_cond k x 0 with
  | true => exact kt h
  | false => exact kf h
theorem am_bk2 {k : ClassFile.Cond} {x z : Int32} {len : Nat} (hq : y.1 pc = some (.if_icmp k off, len, [t])) (kt : am_cond k x z = true → am_wp ext d y (t, ls, st, m) P) (kf : am_cond k x z = false → am_wp ext d y (pc + 3, ls, st, m) P) : am_wp ext d y (pc, ls, .int z :: .int x :: st, m) P := by
  refine am_wps (c' := (bif am_cond k x z then t else pc + 3, ls, st, m)) hq rfl rfl ?_
  cases h : am_cond k x z with
  | true => exact kt h
  | false => exact kf h
theorem am_b1_eq {x : Int32} {len : Nat} (hq : y.1 pc = some (.ifCond .eq off, len, [t])) (kt : x = 0 → am_wp ext d y (t, ls, st, m) P) (kf : ¬ x = 0 → am_wp ext d y (pc + 3, ls, st, m) P) : am_wp ext d y (pc, ls, .int x :: st, m) P := am_bk1 hq (fun h => kt (of_decide_eq_true h)) (fun h => kf (of_decide_eq_false h))
theorem am_b2_eq {x z : Int32} {len : Nat} (hq : y.1 pc = some (.if_icmp .eq off, len, [t])) (kt : x = z → am_wp ext d y (t, ls, st, m) P) (kf : ¬ x = z → am_wp ext d y (pc + 3, ls, st, m) P) : am_wp ext d y (pc, ls, .int z :: .int x :: st, m) P := am_bk2 hq (fun h => kt (of_decide_eq_true h)) (fun h => kf (of_decide_eq_false h))
theorem am_b1_ne {x : Int32} {len : Nat} (hq : y.1 pc = some (.ifCond .ne off, len, [t])) (kt : ¬ x = 0 → am_wp ext d y (t, ls, st, m) P) (kf : x = 0 → am_wp ext d y (pc + 3, ls, st, m) P) : am_wp ext d y (pc, ls, .int x :: st, m) P := am_bk1 hq (fun h => kt (of_decide_eq_true h)) (fun h => kf (Decidable.not_not.mp (of_decide_eq_false h)))
theorem am_b2_ne {x z : Int32} {len : Nat} (hq : y.1 pc = some (.if_icmp .ne off, len, [t])) (kt : ¬ x = z → am_wp ext d y (t, ls, st, m) P) (kf : x = z → am_wp ext d y (pc + 3, ls, st, m) P) : am_wp ext d y (pc, ls, .int z :: .int x :: st, m) P := am_bk2 hq (fun h => kt (of_decide_eq_true h)) (fun h => kf (Decidable.not_not.mp (of_decide_eq_false h)))
theorem am_b1_lt {x : Int32} {len : Nat} (hq : y.1 pc = some (.ifCond .lt off, len, [t])) (kt : x < 0 → am_wp ext d y (t, ls, st, m) P) (kf : ¬ x < 0 → am_wp ext d y (pc + 3, ls, st, m) P) : am_wp ext d y (pc, ls, .int x :: st, m) P := am_bk1 hq (fun h => kt (of_decide_eq_true h)) (fun h => kf (of_decide_eq_false h))
theorem am_b2_lt {x z : Int32} {len : Nat} (hq : y.1 pc = some (.if_icmp .lt off, len, [t])) (kt : x < z → am_wp ext d y (t, ls, st, m) P) (kf : ¬ x < z → am_wp ext d y (pc + 3, ls, st, m) P) : am_wp ext d y (pc, ls, .int z :: .int x :: st, m) P := am_bk2 hq (fun h => kt (of_decide_eq_true h)) (fun h => kf (of_decide_eq_false h))
theorem am_b1_ge {x : Int32} {len : Nat} (hq : y.1 pc = some (.ifCond .ge off, len, [t])) (kt : 0 ≤ x → am_wp ext d y (t, ls, st, m) P) (kf : ¬ 0 ≤ x → am_wp ext d y (pc + 3, ls, st, m) P) : am_wp ext d y (pc, ls, .int x :: st, m) P := am_bk1 hq (fun h => kt (of_decide_eq_true h)) (fun h => kf (of_decide_eq_false h))
theorem am_b2_ge {x z : Int32} {len : Nat} (hq : y.1 pc = some (.if_icmp .ge off, len, [t])) (kt : z ≤ x → am_wp ext d y (t, ls, st, m) P) (kf : ¬ z ≤ x → am_wp ext d y (pc + 3, ls, st, m) P) : am_wp ext d y (pc, ls, .int z :: .int x :: st, m) P := am_bk2 hq (fun h => kt (of_decide_eq_true h)) (fun h => kf (of_decide_eq_false h))
theorem am_b1_gt {x : Int32} {len : Nat} (hq : y.1 pc = some (.ifCond .gt off, len, [t])) (kt : 0 < x → am_wp ext d y (t, ls, st, m) P) (kf : ¬ 0 < x → am_wp ext d y (pc + 3, ls, st, m) P) : am_wp ext d y (pc, ls, .int x :: st, m) P := am_bk1 hq (fun h => kt (of_decide_eq_true h)) (fun h => kf (of_decide_eq_false h))
theorem am_b2_gt {x z : Int32} {len : Nat} (hq : y.1 pc = some (.if_icmp .gt off, len, [t])) (kt : z < x → am_wp ext d y (t, ls, st, m) P) (kf : ¬ z < x → am_wp ext d y (pc + 3, ls, st, m) P) : am_wp ext d y (pc, ls, .int z :: .int x :: st, m) P := am_bk2 hq (fun h => kt (of_decide_eq_true h)) (fun h => kf (of_decide_eq_false h))
theorem am_b1_le {x : Int32} {len : Nat} (hq : y.1 pc = some (.ifCond .le off, len, [t])) (kt : x ≤ 0 → am_wp ext d y (t, ls, st, m) P) (kf : ¬ x ≤ 0 → am_wp ext d y (pc + 3, ls, st, m) P) : am_wp ext d y (pc, ls, .int x :: st, m) P := am_bk1 hq (fun h => kt (of_decide_eq_true h)) (fun h => kf (of_decide_eq_false h))
theorem am_b2_le {x z : Int32} {len : Nat} (hq : y.1 pc = some (.if_icmp .le off, len, [t])) (kt : x ≤ z → am_wp ext d y (t, ls, st, m) P) (kf : ¬ x ≤ z → am_wp ext d y (pc + 3, ls, st, m) P) : am_wp ext d y (pc, ls, .int z :: .int x :: st, m) P := am_bk2 hq (fun h => kt (of_decide_eq_true h)) (fun h => kf (of_decide_eq_false h))
theorem am_lcmp_lt (x z : Int64) : lg_cmp x z < 0 ↔ x < z := by
  unfold lg_cmp
  simp only [gt_iff_lt, Int64.lt_iff_toInt_lt, ← Int64.toInt_inj]
  split
  · next h => exact ⟨fun q => absurd q (by decide), fun q => by omega⟩
  · next h =>
    split
    · next h2 => exact ⟨fun q => absurd q (by decide), fun q => by omega⟩
    · next h2 => exact ⟨fun _ => by omega, fun _ => by decide⟩
theorem am_lcmp_gt (x z : Int64) : 0 < lg_cmp x z ↔ z < x := by
  unfold lg_cmp
  simp only [gt_iff_lt, Int64.lt_iff_toInt_lt, ← Int64.toInt_inj]
  split
  · next h => exact ⟨fun _ => h, fun _ => by decide⟩
  · next h =>
    split
    · next h2 => exact ⟨fun q => absurd q (by decide), fun q => by omega⟩
    · next h2 => exact ⟨fun q => absurd q (by decide), fun q => by omega⟩
theorem am_lcmp_eq (x z : Int64) : lg_cmp x z = 0 ↔ x = z := by
  unfold lg_cmp
  simp only [gt_iff_lt, Int64.lt_iff_toInt_lt, ← Int64.toInt_inj]
  split
  · next h => exact ⟨fun q => absurd q (by decide), fun q => by omega⟩
  · next h =>
    split
    · next h2 => exact ⟨fun _ => h2, fun _ => rfl⟩
    · next h2 => exact ⟨fun q => absurd q (by decide), fun q => absurd q h2⟩
theorem am_lcmp_ge (x z : Int64) : 0 ≤ lg_cmp x z ↔ z ≤ x := lg_cmp_ge x z
theorem am_lcmp_le (x z : Int64) : lg_cmp x z ≤ 0 ↔ x ≤ z := by
  have h := am_lcmp_gt x z
  have h1 : lg_cmp x z ≤ 0 ↔ ¬ 0 < lg_cmp x z := by simp only [Int32.le_iff_toInt_le, Int32.lt_iff_toInt_lt]; omega
  have h2 : x ≤ z ↔ ¬ z < x := by simp only [Int64.le_iff_toInt_le, Int64.lt_iff_toInt_lt]; omega
  rw [h1, h2, h]
theorem am_lc_eq {x z : Int64} {len l2 : Nat} {i2 : List Nat} (hq : y.1 pc = some (.lcmp, l2, i2)) (hq2 : y.1 (pc + 1) = some (.ifCond .eq off, len, [t])) (kt : x = z → am_wp ext d y (t, ls, st, m) P) (kf : ¬ x = z → am_wp ext d y (pc + 4, ls, st, m) P) : am_wp ext d y (pc, ls, .long z :: .long x :: st, m) P := am_wps (c' := (pc + 1, ls, .int (lg_cmp x z) :: st, m)) hq rfl rfl (am_b1_eq hq2 (fun h => kt ((am_lcmp_eq x z).mp h)) (fun h => kf (fun q => h ((am_lcmp_eq x z).mpr q))))
theorem am_lc_ne {x z : Int64} {len l2 : Nat} {i2 : List Nat} (hq : y.1 pc = some (.lcmp, l2, i2)) (hq2 : y.1 (pc + 1) = some (.ifCond .ne off, len, [t])) (kt : ¬ x = z → am_wp ext d y (t, ls, st, m) P) (kf : x = z → am_wp ext d y (pc + 4, ls, st, m) P) : am_wp ext d y (pc, ls, .long z :: .long x :: st, m) P := am_wps (c' := (pc + 1, ls, .int (lg_cmp x z) :: st, m)) hq rfl rfl (am_b1_ne hq2 (fun h => kt ((not_congr (am_lcmp_eq x z)).mp h)) (fun h => kf ((am_lcmp_eq x z).mp h)))
theorem am_lc_lt {x z : Int64} {len l2 : Nat} {i2 : List Nat} (hq : y.1 pc = some (.lcmp, l2, i2)) (hq2 : y.1 (pc + 1) = some (.ifCond .lt off, len, [t])) (kt : x < z → am_wp ext d y (t, ls, st, m) P) (kf : ¬ x < z → am_wp ext d y (pc + 4, ls, st, m) P) : am_wp ext d y (pc, ls, .long z :: .long x :: st, m) P := am_wps (c' := (pc + 1, ls, .int (lg_cmp x z) :: st, m)) hq rfl rfl (am_b1_lt hq2 (fun h => kt ((am_lcmp_lt x z).mp h)) (fun h => kf (fun q => h ((am_lcmp_lt x z).mpr q))))
theorem am_lc_ge {x z : Int64} {len l2 : Nat} {i2 : List Nat} (hq : y.1 pc = some (.lcmp, l2, i2)) (hq2 : y.1 (pc + 1) = some (.ifCond .ge off, len, [t])) (kt : z ≤ x → am_wp ext d y (t, ls, st, m) P) (kf : ¬ z ≤ x → am_wp ext d y (pc + 4, ls, st, m) P) : am_wp ext d y (pc, ls, .long z :: .long x :: st, m) P := am_wps (c' := (pc + 1, ls, .int (lg_cmp x z) :: st, m)) hq rfl rfl (am_b1_ge hq2 (fun h => kt ((am_lcmp_ge x z).mp h)) (fun h => kf (fun q => h ((am_lcmp_ge x z).mpr q))))
theorem am_lc_gt {x z : Int64} {len l2 : Nat} {i2 : List Nat} (hq : y.1 pc = some (.lcmp, l2, i2)) (hq2 : y.1 (pc + 1) = some (.ifCond .gt off, len, [t])) (kt : z < x → am_wp ext d y (t, ls, st, m) P) (kf : ¬ z < x → am_wp ext d y (pc + 4, ls, st, m) P) : am_wp ext d y (pc, ls, .long z :: .long x :: st, m) P := am_wps (c' := (pc + 1, ls, .int (lg_cmp x z) :: st, m)) hq rfl rfl (am_b1_gt hq2 (fun h => kt ((am_lcmp_gt x z).mp h)) (fun h => kf (fun q => h ((am_lcmp_gt x z).mpr q))))
theorem am_lc_le {x z : Int64} {len l2 : Nat} {i2 : List Nat} (hq : y.1 pc = some (.lcmp, l2, i2)) (hq2 : y.1 (pc + 1) = some (.ifCond .le off, len, [t])) (kt : x ≤ z → am_wp ext d y (t, ls, st, m) P) (kf : ¬ x ≤ z → am_wp ext d y (pc + 4, ls, st, m) P) : am_wp ext d y (pc, ls, .long z :: .long x :: st, m) P := am_wps (c' := (pc + 1, ls, .int (lg_cmp x z) :: st, m)) hq rfl rfl (am_b1_le hq2 (fun h => kt ((am_lcmp_le x z).mp h)) (fun h => kf (fun q => h ((am_lcmp_le x z).mpr q))))
theorem am_ts_in {x : Int32} {dd lo hi : Int} {offs : Array Int} {len : Nat} {t0 : Nat} {ts : List Nat} (k : Nat) (hq : y.1 pc = some (.tableswitch dd lo hi offs, len, t0 :: ts)) (hx : x.toInt = lo + (k : Int)) (hk : lo + (k : Int) ≤ hi) (ht : ts[k]? = some t) (g : am_wp ext d y (t, ls, st, m) P) : am_wp ext d y (pc, ls, .int x :: st, m) P := by
  refine am_wps (c' := (t, ls, st, m)) hq rfl ?_ g
  have h1 : (decide (x.toInt < lo) || decide (hi < x.toInt)) = false := by
    rw [Bool.or_eq_false_iff]
    exact ⟨decide_eq_false (by omega), decide_eq_false (by omega)⟩
  have h2 : (x.toInt - lo).toNat = k := by omega
  simp only [am_step, am_ts, h1, cond_false, h2, ht]
theorem am_ts_out {x : Int32} {dd lo hi : Int} {offs : Array Int} {len : Nat} {t0 : Nat} {ts : List Nat} (hq : y.1 pc = some (.tableswitch dd lo hi offs, len, t0 :: ts)) (hx : x.toInt < lo ∨ hi < x.toInt) (g : am_wp ext d y (t0, ls, st, m) P) : am_wp ext d y (pc, ls, .int x :: st, m) P := by
  refine am_wps (c' := (t0, ls, st, m)) hq rfl ?_ g
  have h1 : (decide (x.toInt < lo) || decide (hi < x.toInt)) = true := by
    rw [Bool.or_eq_true, decide_eq_true_eq, decide_eq_true_eq]
    exact hx
  simp only [am_step, am_ts, h1, cond_true]
theorem am_lk_go {x : Int32} {dd : Int} {ps : Array (Int × Int)} {len : Nat} {t0 : Nat} {ts : List Nat} (hq : y.1 pc = some (.lookupswitch dd ps, len, t0 :: ts)) (ht : am_look ps.toList ts t0 x.toInt = t) (g : am_wp ext d y (t, ls, st, m) P) : am_wp ext d y (pc, ls, .int x :: st, m) P := by
  subst ht
  exact am_wps (c' := (am_look ps.toList ts t0 x.toInt, ls, st, m)) hq rfl rfl g
/-! fewer locals known -/
def am_le (l l' : List (Option Value)) : Prop := l.length = l'.length ∧ ∀ (i : Nat) (v : Value), l[i]? = some (some v) → l'[i]? = some (some v)
theorem am_le_set {l l' : List (Option Value)} (h : am_le l l') (i : Nat) (x : Option Value) : am_le (l.set i x) (l'.set i x) := by
  refine ⟨by simp [h.1], fun j v hj => ?_⟩
  by_cases hi : i = j
  · subst hi
    rw [List.getElem?_set] at hj ⊢
    simp only [if_true] at hj ⊢
    rw [← h.1]
    exact hj
  · rw [List.getElem?_set_ne hi] at hj ⊢
    exact h.2 j v hj
theorem am_le_kill {l l' : List (Option Value)} (h : am_le l l') (i : Nat) (x : Option Value) : am_le ((am_kill l i).set i x) ((am_kill l' i).set i x) := by
  refine am_le_set ⟨by rw [am_kill_len, am_kill_len]; exact h.1, fun j v hj => ?_⟩ i x
  obtain ⟨h1, h2⟩ := am_kill_get hj
  have h3 := h.2 j v h1
  cases i with
  | zero => exact h3
  | succ i =>
    simp only [am_kill]
    split
    · next w hw =>
      cases hc : (w.category == 2) with
      | false => exact h3
      | true =>
        simp only [cond_true]
        by_cases hji : i = j
        · subst hji
          rw [hw] at h3
          cases h3
          exact absurd ⟨rfl, by simpa using hc⟩ h2
        · rw [List.getElem?_set_ne hji]
          exact h3
    · exact h3
theorem am_le_st1 {l l' l1 : List (Option Value)} (h : am_le l l') {i : Nat} {v : Value} (hs : am_st1 l i v = some l1) : ∃ l2, am_st1 l' i v = some l2 ∧ am_le l1 l2 := by
  unfold am_st1 at hs ⊢
  rw [← h.1]
  cases hb : Nat.ble (i + 1) l.length with
  | false => rw [hb] at hs; cases hs
  | true =>
    rw [hb] at hs
    cases hs
    exact ⟨_, rfl, am_le_kill h i _⟩
theorem am_le_st2 {l l' l1 : List (Option Value)} (h : am_le l l') {i : Nat} {v : Value} (hs : am_st2 l i v = some l1) : ∃ l2, am_st2 l' i v = some l2 ∧ am_le l1 l2 := by
  unfold am_st2 at hs ⊢
  rw [← h.1]
  cases hb : Nat.ble (i + 2) l.length with
  | false => rw [hb] at hs; cases hs
  | true =>
    rw [hb] at hs
    cases hs
    exact ⟨_, rfl, am_le_set (am_le_kill h i _) _ _⟩
theorem am_fs {q : am_Q} {l l' : List (Option Value)} {c1 : am_C} (h : am_le l l') (hs : am_step am_SH q (pc, l, st, m) = some c1) : ∃ l2, am_step am_SH q (pc, l', st, m) = some (c1.1, l2, c1.2.2.1, c1.2.2.2) ∧ am_le c1.2.1 l2 := by
  obtain ⟨ins, len, info⟩ := q
  have hld : ∀ ln i k, am_ld (pc, l, st, m) ln i k = some c1 → ∃ l2, am_ld (pc, l', st, m) ln i k = some (c1.1, l2, c1.2.2.1, c1.2.2.2) ∧ am_le c1.2.1 l2 := by
    intro ln i k hh
    obtain ⟨v, hv, hi, rfl⟩ := am_ld_inv hh
    exact ⟨l', by simp only [am_ld, h.2 i v hv, hi, cond_true], h⟩
  have hso1 : ∀ ln i k, am_so1 (pc, l, st, m) ln i k = some c1 → ∃ l2, am_so1 (pc, l', st, m) ln i k = some (c1.1, l2, c1.2.2.1, c1.2.2.2) ∧ am_le c1.2.1 l2 := by
    intro ln i k hh
    obtain ⟨v, r, l1, hst, hi, hs1, rfl⟩ := am_so1_inv hh
    obtain ⟨l2, h2, h3⟩ := am_le_st1 h hs1
    simp only at hst
    subst hst
    exact ⟨l2, by simp only [am_so1, hi, cond_true, h2], h3⟩
  have hso2 : ∀ ln i k, am_so2 (pc, l, st, m) ln i k = some c1 → ∃ l2, am_so2 (pc, l', st, m) ln i k = some (c1.1, l2, c1.2.2.1, c1.2.2.2) ∧ am_le c1.2.1 l2 := by
    intro ln i k hh
    obtain ⟨v, r, l1, hst, hi, hs1, rfl⟩ := am_so2_inv hh
    obtain ⟨l2, h2, h3⟩ := am_le_st2 h hs1
    simp only at hst
    subst hst
    exact ⟨l2, by simp only [am_so2, hi, cond_true, h2], h3⟩
  cases ins
  case iload i => exact hld _ _ _ hs
  case iload_n i => exact hld _ _ _ hs
  case lload i => exact hld _ _ _ hs
  case lload_n i => exact hld _ _ _ hs
  case dload i => exact hld _ _ _ hs
  case dload_n i => exact hld _ _ _ hs
  case aload i => exact hld _ _ _ hs
  case aload_n i => exact hld _ _ _ hs
  case istore i => exact hso1 _ _ _ hs
  case istore_n i => exact hso1 _ _ _ hs
  case astore i => exact hso1 _ _ _ hs
  case astore_n i => exact hso1 _ _ _ hs
  case lstore i => exact hso2 _ _ _ hs
  case lstore_n i => exact hso2 _ _ _ hs
  case dstore i => exact hso2 _ _ _ hs
  case dstore_n i => exact hso2 _ _ _ hs
  case iinc i n =>
    obtain ⟨v, l1, hv, hs1, rfl⟩ := am_inc_inv hs
    obtain ⟨l2, h2, h3⟩ := am_le_st1 h hs1
    simp only at hv
    exact ⟨l2, by simp only [am_step, am_inc, h.2 i _ hv, h2], h3⟩
  case iconst n =>
    cases hs
    exact ⟨l', rfl, h⟩
  case bipush n =>
    cases hs
    exact ⟨l', rfl, h⟩
  case sipush n =>
    cases hs
    exact ⟨l', rfl, h⟩
  case lconst n =>
    cases hs
    exact ⟨l', rfl, h⟩
  case ldc n =>
    cases hs
    exact ⟨l', rfl, h⟩
  case ldc_w n =>
    cases hs
    exact ⟨l', rfl, h⟩
  case goto n =>
    cases hs
    exact ⟨l', rfl, h⟩
  case dconst n =>
    rcases (by omega : n = 0 ∨ n = 1) with rfl | rfl <;> (cases hs; exact ⟨l', rfl, h⟩)
  case ldc2_w n =>
    simp only [am_step] at hs ⊢
    split at hs
    · cases hs
      exact ⟨l', rfl, h⟩
    · cases hs
      exact ⟨l', rfl, h⟩
    · cases hs
  case iadd =>
    obtain ⟨a, b, r, hst, rfl⟩ := am_ii_inv hs
    simp only at hst
    subst hst
    exact ⟨l', by simp [am_step, am_ii], h⟩
  case isub =>
    obtain ⟨a, b, r, hst, rfl⟩ := am_ii_inv hs
    simp only at hst
    subst hst
    exact ⟨l', by simp [am_step, am_ii], h⟩
  case imul =>
    obtain ⟨a, b, r, hst, rfl⟩ := am_ii_inv hs
    simp only at hst
    subst hst
    exact ⟨l', by simp [am_step, am_ii], h⟩
  case iand =>
    obtain ⟨a, b, r, hst, rfl⟩ := am_ii_inv hs
    simp only at hst
    subst hst
    exact ⟨l', by simp [am_step, am_ii], h⟩
  case ior =>
    obtain ⟨a, b, r, hst, rfl⟩ := am_ii_inv hs
    simp only at hst
    subst hst
    exact ⟨l', by simp [am_step, am_ii], h⟩
  case ishl =>
    obtain ⟨a, b, r, hst, rfl⟩ := am_ii_inv hs
    simp only at hst
    subst hst
    exact ⟨l', by simp [am_step, am_ii], h⟩
  case ishr =>
    obtain ⟨a, b, r, hst, rfl⟩ := am_ii_inv hs
    simp only at hst
    subst hst
    exact ⟨l', by simp [am_step, am_ii], h⟩
  case idiv =>
    obtain ⟨a, b, r, hst, hz, rfl⟩ := am_iid_inv hs
    simp only at hst
    subst hst
    exact ⟨l', by simp [am_step, am_iid, (by simpa using hz : (b == 0) = false)], h⟩
  case irem =>
    obtain ⟨a, b, r, hst, hz, rfl⟩ := am_iid_inv hs
    simp only at hst
    subst hst
    exact ⟨l', by simp [am_step, am_iid, (by simpa using hz : (b == 0) = false)], h⟩
  case ineg =>
    obtain ⟨a, r, hst, rfl⟩ := am_i1_inv hs
    simp only at hst
    subst hst
    exact ⟨l', by simp [am_step, am_i1], h⟩
  case i2l =>
    obtain ⟨a, r, hst, rfl⟩ := am_i1_inv hs
    simp only at hst
    subst hst
    exact ⟨l', by simp [am_step, am_i1], h⟩
  case i2d =>
    obtain ⟨a, r, hst, rfl⟩ := am_i1_inv hs
    simp only at hst
    subst hst
    exact ⟨l', by simp [am_step, am_i1], h⟩
  case ladd =>
    obtain ⟨a, b, r, hst, rfl⟩ := am_ll_inv hs
    simp only at hst
    subst hst
    exact ⟨l', by simp [am_step, am_ll], h⟩
  case lsub =>
    obtain ⟨a, b, r, hst, rfl⟩ := am_ll_inv hs
    simp only at hst
    subst hst
    exact ⟨l', by simp [am_step, am_ll], h⟩
  case lmul =>
    obtain ⟨a, b, r, hst, rfl⟩ := am_ll_inv hs
    simp only at hst
    subst hst
    exact ⟨l', by simp [am_step, am_ll], h⟩
  case land =>
    obtain ⟨a, b, r, hst, rfl⟩ := am_ll_inv hs
    simp only at hst
    subst hst
    exact ⟨l', by simp [am_step, am_ll], h⟩
  case lor =>
    obtain ⟨a, b, r, hst, rfl⟩ := am_ll_inv hs
    simp only at hst
    subst hst
    exact ⟨l', by simp [am_step, am_ll], h⟩
  case lxor =>
    obtain ⟨a, b, r, hst, rfl⟩ := am_ll_inv hs
    simp only at hst
    subst hst
    exact ⟨l', by simp [am_step, am_ll], h⟩
  case ldiv =>
    obtain ⟨a, b, r, hst, hz, rfl⟩ := am_lld_inv hs
    simp only at hst
    subst hst
    exact ⟨l', by simp [am_step, am_lld, (by simpa using hz : (b == 0) = false)], h⟩
  case lrem =>
    obtain ⟨a, b, r, hst, hz, rfl⟩ := am_lld_inv hs
    simp only at hst
    subst hst
    exact ⟨l', by simp [am_step, am_lld, (by simpa using hz : (b == 0) = false)], h⟩
  case lneg =>
    obtain ⟨a, r, hst, rfl⟩ := am_l1_inv hs
    simp only at hst
    subst hst
    exact ⟨l', by simp [am_step, am_l1], h⟩
  case l2d =>
    obtain ⟨a, r, hst, rfl⟩ := am_l1_inv hs
    simp only at hst
    subst hst
    exact ⟨l', by simp [am_step, am_l1], h⟩
  case l2i =>
    obtain ⟨a, r, hst, rfl⟩ := am_l1_inv hs
    simp only at hst
    subst hst
    exact ⟨l', by simp [am_step, am_l1], h⟩
  case lshl =>
    obtain ⟨a, b, r, hst, rfl⟩ := am_li_inv hs
    simp only at hst
    subst hst
    exact ⟨l', by simp [am_step, am_li], h⟩
  case lshr =>
    obtain ⟨a, b, r, hst, rfl⟩ := am_li_inv hs
    simp only at hst
    subst hst
    exact ⟨l', by simp [am_step, am_li], h⟩
  case lcmp =>
    obtain ⟨a, b, r, hst, rfl⟩ := am_lc_inv hs
    simp only at hst
    subst hst
    exact ⟨l', by simp [am_step, am_lc], h⟩
  case dadd =>
    obtain ⟨a, b, r, hst, hz, rfl⟩ := am_dd_inv hs
    simp only at hst
    subst hst
    have hz2 : am_nn (FP.dadd a b) = true := by unfold am_nn; unfold vf_n64 at hz; exact decide_eq_true hz
    exact ⟨l', by simp [am_step, am_dd, hz2], h⟩
  case dsub =>
    obtain ⟨a, b, r, hst, hz, rfl⟩ := am_dd_inv hs
    simp only at hst
    subst hst
    have hz2 : am_nn (FP.dsub a b) = true := by unfold am_nn; unfold vf_n64 at hz; exact decide_eq_true hz
    exact ⟨l', by simp [am_step, am_dd, hz2], h⟩
  case dmul =>
    obtain ⟨a, b, r, hst, hz, rfl⟩ := am_dd_inv hs
    simp only at hst
    subst hst
    have hz2 : am_nn (FP.dmul a b) = true := by unfold am_nn; unfold vf_n64 at hz; exact decide_eq_true hz
    exact ⟨l', by simp [am_step, am_dd, hz2], h⟩
  case ddiv =>
    obtain ⟨a, b, r, hst, hz, rfl⟩ := am_dd_inv hs
    simp only at hst
    subst hst
    have hz2 : am_nn (FP.ddiv a b) = true := by unfold am_nn; unfold vf_n64 at hz; exact decide_eq_true hz
    exact ⟨l', by simp [am_step, am_dd, hz2], h⟩
  case dneg =>
    obtain ⟨a, r, hst, rfl⟩ := am_d1_inv hs
    simp only at hst
    subst hst
    exact ⟨l', by simp [am_step, am_d1], h⟩
  case d2l =>
    obtain ⟨a, r, hst, rfl⟩ := am_d1_inv hs
    simp only at hst
    subst hst
    exact ⟨l', by simp [am_step, am_d1], h⟩
  case dcmp op =>
    obtain ⟨a, b, r, hst, rfl⟩ := am_dc_inv hs
    simp only at hst
    subst hst
    exact ⟨l', by simp [am_step, am_dc], h⟩
  case dup =>
    obtain ⟨a, r, hst, hz, rfl⟩ := am_dup_inv hs
    simp only at hst
    subst hst
    exact ⟨l', by simp [am_step, am_dup, hz], h⟩
  case pop =>
    obtain ⟨a, r, hst, hz, rfl⟩ := am_pop_inv hs
    simp only at hst
    subst hst
    exact ⟨l', by simp [am_step, am_pop, hz], h⟩
  case dup2 =>
    obtain ⟨a, b, r, hst, hz, hz2, rfl⟩ := am_du2_inv hs
    simp only at hst
    subst hst
    exact ⟨l', by simp [am_step, am_du2, hz, hz2], h⟩
  case ifCond k off =>
    obtain ⟨a, r, hst, rfl⟩ := am_b1_inv hs
    simp only at hst
    subst hst
    exact ⟨l', by simp [am_step, am_b1], h⟩
  case if_icmp k off =>
    obtain ⟨a, b, r, hst, rfl⟩ := am_b2_inv hs
    simp only at hst
    subst hst
    exact ⟨l', by simp [am_step, am_b2], h⟩
  case tableswitch dd lo hi offs =>
    obtain ⟨a, r, t0, ts, hst, hi, hc⟩ := am_ts_inv hs
    simp only at hst hi
    subst hst
    subst hi
    rcases hc with ⟨hout, rfl⟩ | ⟨h1, h2, g, hg, rfl⟩
    · have hb : (decide (a.toInt < lo) || decide (hi < a.toInt)) = true := by rw [Bool.or_eq_true, decide_eq_true_eq, decide_eq_true_eq]; exact hout
      exact ⟨l', by simp only [am_step, am_ts, hb, cond_true], h⟩
    · have hb : (decide (a.toInt < lo) || decide (hi < a.toInt)) = false := by rw [Bool.or_eq_false_iff]; exact ⟨decide_eq_false h1, decide_eq_false h2⟩
      exact ⟨l', by simp only [am_step, am_ts, hb, cond_false, hg], h⟩
  case lookupswitch dd ps =>
    obtain ⟨a, r, t0, ts, hst, hi, rfl⟩ := am_ls_inv hs
    simp only at hst
    subst hst
    have hi : info = t0 :: ts := hi
    subst hi
    exact ⟨l', rfl, h⟩
  case iaload =>
    obtain ⟨i, a, r, n, hst, ha, hi, rfl⟩ := am_al_inv (sh := am_SH) (k := 0) (rd := fun m a j => .int (m.1 a j)) hs
    simp only at hst
    subst hst
    exact ⟨l', by simp [am_step, am_al, ha, hi], h⟩
  case laload =>
    obtain ⟨i, a, r, n, hst, ha, hi, rfl⟩ := am_al_inv (sh := am_SH) (k := 1) (rd := fun m a j => .long (m.2.1 a j)) hs
    simp only at hst
    subst hst
    exact ⟨l', by simp [am_step, am_al, ha, hi], h⟩
  case daload =>
    obtain ⟨i, a, r, n, hst, ha, hi, rfl⟩ := am_al_inv (sh := am_SH) (k := 2) (rd := fun m a j => .double (m.2.2.1 a j)) hs
    simp only at hst
    subst hst
    exact ⟨l', by simp [am_step, am_al, ha, hi], h⟩
  case baload =>
    obtain ⟨i, a, r, n, hst, ha, hi, rfl⟩ := am_al_inv (sh := am_SH) (k := 4) (rd := fun m a j => .int (m.1 a j)) hs
    simp only at hst
    subst hst
    exact ⟨l', by simp [am_step, am_al, ha, hi], h⟩
  case iastore =>
    obtain ⟨v, i, a, r, n, m', hst, ha, hi, hw, rfl⟩ := am_as_inv hs
    simp only at hst hw
    subst hst
    exact ⟨l', by simp [am_step, am_as, ha, hi, hw], h⟩
  case lastore =>
    obtain ⟨v, i, a, r, n, m', hst, ha, hi, hw, rfl⟩ := am_as_inv hs
    simp only at hst hw
    subst hst
    exact ⟨l', by simp [am_step, am_as, ha, hi, hw], h⟩
  case dastore =>
    obtain ⟨v, i, a, r, n, m', hst, ha, hi, hw, rfl⟩ := am_as_inv hs
    simp only at hst hw
    subst hst
    exact ⟨l', by simp [am_step, am_as, ha, hi, hw], h⟩
  case bastore =>
    obtain ⟨v, i, a, r, n, m', hst, ha, hi, hw, rfl⟩ := am_as_inv hs
    simp only at hst hw
    subst hst
    exact ⟨l', by simp [am_step, am_as, ha, hi, hw], h⟩
  case arraylength =>
    obtain ⟨a, r, k, n, hst, ha, rfl⟩ := am_len_inv hs
    simp only at hst
    subst hst
    exact ⟨l', by simp [am_step, am_len, ha], h⟩
  case getfield i =>
    match info, hs with
    | ci :: k :: rs, hs =>
      obtain ⟨a, r, ks, ty, hst, ha, hk, rfl⟩ := am_gf_inv hs
      simp only at hst
      subst hst
      exact ⟨l', by simp [am_step, am_gf, ha, hk], h⟩
  case putfield i =>
    match info, hs with
    | ci :: k :: rs, hs =>
      obtain ⟨v, a, r, ks, ty, m', hst, ha, hk, hw, rfl⟩ := am_pf_inv hs
      simp only at hst hw
      subst hst
      exact ⟨l', by simp [am_step, am_pf, ha, hk, hw], h⟩
  all_goals cases hs
theorem am_fgt {l l' : List (Option Value)} (h : am_le l l') (g : am_wp ext d y (pc, l, st, m) P) : am_wp ext d y (pc, l', st, m) P := by
  obtain ⟨r, ⟨n0, h1⟩, h2⟩ := g
  refine ⟨r, ⟨n0, fun n f hn hf => ?_⟩, h2⟩
  have key : ∀ (f : Nat) (pc : Nat) (l l' : List (Option Value)) (st : List Value) (m : am_M), am_le l l' → am_go y.1 am_SH y.2.2 (am_ex am_Ys ext am_SH n d) f (pc, l, st, m) = some r → am_go y.1 am_SH y.2.2 (am_ex am_Ys ext am_SH n d) f (pc, l', st, m) = some r := by
    intro f
    induction f with
    | zero => intro pc l l' st m _ hh; cases hh
    | succ f ih =>
      intro pc l l' st m hle hh
      simp only [am_go] at hh ⊢
      cases hq : y.1 pc with
      | none => rw [hq] at hh; cases hh
      | some q =>
        rw [hq] at hh
        simp only at hh ⊢
        have hstep : (match am_step am_SH q (pc, l, st, m) with | some c' => am_go y.1 am_SH y.2.2 (am_ex am_Ys ext am_SH n d) f c' | none => none) = some r → (match am_step am_SH q (pc, l', st, m) with | some c' => am_go y.1 am_SH y.2.2 (am_ex am_Ys ext am_SH n d) f c' | none => none) = some r := by
          intro h3
          split at h3
          · next c1 hc1 =>
            obtain ⟨l2, h4, h5⟩ := am_fs hle hc1
            rw [h4]
            exact ih _ _ _ _ _ h5 h3
          · cases h3
        have hinv : (match am_inv am_SH (am_ex am_Ys ext am_SH n d) q (pc, l, st, m) with | some c' => am_go y.1 am_SH y.2.2 (am_ex am_Ys ext am_SH n d) f c' | none => none) = some r → (match am_inv am_SH (am_ex am_Ys ext am_SH n d) q (pc, l', st, m) with | some c' => am_go y.1 am_SH y.2.2 (am_ex am_Ys ext am_SH n d) f c' | none => none) = some r := by
          intro h3
          split at h3
          · next c1 hc1 =>
            have h4 : am_inv am_SH (am_ex am_Ys ext am_SH n d) q (pc, l', st, m) = some (c1.1, l', c1.2.2.1, c1.2.2.2) ∧ c1.2.1 = l := by
              obtain ⟨j, nn, vi, ci, rs, rr, hinfo, hn, hW8, hrecv, hc, rfl⟩ := am_inv_inv hc1
              refine ⟨?_, rfl⟩
              unfold am_inv at hc1 ⊢
              rw [hinfo] at hc1 ⊢
              simp only at hc1 ⊢
              cases hb : (Nat.ble nn st.length && Nat.ble (((st.drop nn).map fun v => v.category).sum) 8 && am_rc am_SH vi ci (st.take nn).reverse) with
              | false => rw [hb] at hc1; cases hc1
              | true =>
                rw [hb] at hc1
                simp only [cond_true] at hc1 ⊢
                rw [hc]
            rw [h4.1]
            obtain ⟨c11, c12, c13, c14⟩ := c1
            exact ih _ _ _ _ _ (by rw [← h4.2] at hle; exact hle) h3
          · cases h3
        obtain ⟨ins, len, info⟩ := q
        cases ins <;> first | exact hh | exact hinv hh | exact hstep hh
  exact key f pc l l' st m h (h1 n f hn hf)
end AWB
