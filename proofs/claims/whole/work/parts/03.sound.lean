/-! ===== the small machine's steps are the machine's ===== -/
theorem am_ii_inv {c x : am_C} {f : Int32 → Int32 → Int32} (h : am_ii c f = some x) : ∃ a b r, c.2.2.1 = .int b :: .int a :: r ∧ x = (c.1 + 1, c.2.1, .int (f a b) :: r, c.2.2.2) := by
  unfold am_ii at h
  split at h
  · next b a r hs => exact ⟨a, b, r, hs, (Option.some.inj h).symm⟩
  · cases h
theorem am_iid_inv {c x : am_C} {f : Int32 → Int32 → Int32} (h : am_iid c f = some x) : ∃ a b r, c.2.2.1 = .int b :: .int a :: r ∧ ¬ b = 0 ∧ x = (c.1 + 1, c.2.1, .int (f a b) :: r, c.2.2.2) := by
  unfold am_iid at h
  split at h
  · next b a r hs =>
    cases hb : (b == 0) with
    | true => rw [hb] at h; cases h
    | false =>
      rw [hb] at h
      exact ⟨a, b, r, hs, by simpa using hb, (Option.some.inj h).symm⟩
  · cases h
theorem am_i1_inv {c x : am_C} {f : Int32 → Value} (h : am_i1 c f = some x) : ∃ a r, c.2.2.1 = .int a :: r ∧ x = (c.1 + 1, c.2.1, f a :: r, c.2.2.2) := by
  unfold am_i1 at h
  split at h
  · next a r hs => exact ⟨a, r, hs, (Option.some.inj h).symm⟩
  · cases h
theorem am_ll_inv {c x : am_C} {f : Int64 → Int64 → Int64} (h : am_ll c f = some x) : ∃ a b r, c.2.2.1 = .long b :: .long a :: r ∧ x = (c.1 + 1, c.2.1, .long (f a b) :: r, c.2.2.2) := by
  unfold am_ll at h
  split at h
  · next b a r hs => exact ⟨a, b, r, hs, (Option.some.inj h).symm⟩
  · cases h
theorem am_lld_inv {c x : am_C} {f : Int64 → Int64 → Int64} (h : am_lld c f = some x) : ∃ a b r, c.2.2.1 = .long b :: .long a :: r ∧ ¬ b = 0 ∧ x = (c.1 + 1, c.2.1, .long (f a b) :: r, c.2.2.2) := by
  unfold am_lld at h
  split at h
  · next b a r hs =>
    cases hb : (b == 0) with
    | true => rw [hb] at h; cases h
    | false =>
      rw [hb] at h
      exact ⟨a, b, r, hs, by simpa using hb, (Option.some.inj h).symm⟩
  · cases h
theorem am_li_inv {c x : am_C} {f : Int64 → Int32 → Int64} (h : am_li c f = some x) : ∃ a b r, c.2.2.1 = .int b :: .long a :: r ∧ x = (c.1 + 1, c.2.1, .long (f a b) :: r, c.2.2.2) := by
  unfold am_li at h
  split at h
  · next b a r hs => exact ⟨a, b, r, hs, (Option.some.inj h).symm⟩
  · cases h
theorem am_l1_inv {c x : am_C} {f : Int64 → Value} (h : am_l1 c f = some x) : ∃ a r, c.2.2.1 = .long a :: r ∧ x = (c.1 + 1, c.2.1, f a :: r, c.2.2.2) := by
  unfold am_l1 at h
  split at h
  · next a r hs => exact ⟨a, r, hs, (Option.some.inj h).symm⟩
  · cases h
theorem am_lc_inv {c x : am_C} (h : am_lc c = some x) : ∃ a b r, c.2.2.1 = .long b :: .long a :: r ∧ x = (c.1 + 1, c.2.1, .int (lg_cmp a b) :: r, c.2.2.2) := by
  unfold am_lc at h
  split at h
  · next b a r hs => exact ⟨a, b, r, hs, (Option.some.inj h).symm⟩
  · cases h
theorem am_dd_inv {c x : am_C} {f : UInt64 → UInt64 → UInt64} (h : am_dd c f = some x) : ∃ a b r, c.2.2.1 = .double b :: .double a :: r ∧ vf_n64 (f a b) ∧ x = (c.1 + 1, c.2.1, .double (f a b) :: r, c.2.2.2) := by
  unfold am_dd at h
  split at h
  · next b a r hs =>
    cases hb : am_nn (f a b) with
    | false => rw [hb] at h; cases h
    | true =>
      rw [hb] at h
      exact ⟨a, b, r, hs, by unfold vf_n64; exact of_decide_eq_true hb, (Option.some.inj h).symm⟩
  · cases h
theorem am_d1_inv {c x : am_C} {f : UInt64 → Value} (h : am_d1 c f = some x) : ∃ a r, c.2.2.1 = .double a :: r ∧ x = (c.1 + 1, c.2.1, f a :: r, c.2.2.2) := by
  unfold am_d1 at h
  split at h
  · next a r hs => exact ⟨a, r, hs, (Option.some.inj h).symm⟩
  · cases h
theorem am_dc_inv {c x : am_C} {op : CmpOp} (h : am_dc c op = some x) : ∃ a b r, c.2.2.1 = .double b :: .double a :: r ∧ x = (c.1 + 1, c.2.1, .int (Op.cmpValue (FP.dcmp a b) op) :: r, c.2.2.2) := by
  unfold am_dc at h
  split at h
  · next b a r hs => exact ⟨a, b, r, hs, (Option.some.inj h).symm⟩
  · cases h
theorem am_ld_inv {c x : am_C} {len i k : Nat} (h : am_ld c len i k = some x) : ∃ v, c.2.1[i]? = some (some v) ∧ am_is k v = true ∧ x = (c.1 + len, c.2.1, v :: c.2.2.1, c.2.2.2) := by
  unfold am_ld at h
  split at h
  · next v hv =>
    cases hb : am_is k v with
    | false => rw [hb] at h; cases h
    | true =>
      rw [hb] at h
      exact ⟨v, hv, hb, (Option.some.inj h).symm⟩
  · cases h
theorem am_so1_inv {c x : am_C} {len i k : Nat} (h : am_so1 c len i k = some x) : ∃ v r ls, c.2.2.1 = v :: r ∧ am_is k v = true ∧ am_st1 c.2.1 i v = some ls ∧ x = (c.1 + len, ls, r, c.2.2.2) := by
  unfold am_so1 at h
  split at h
  · next v r hs =>
    cases hb : am_is k v with
    | false => rw [hb] at h; cases h
    | true =>
      rw [hb] at h
      simp only [cond_true] at h
      split at h
      · next ls hl => exact ⟨v, r, ls, hs, hb, hl, (Option.some.inj h).symm⟩
      · cases h
  · cases h
theorem am_so2_inv {c x : am_C} {len i k : Nat} (h : am_so2 c len i k = some x) : ∃ v r ls, c.2.2.1 = v :: r ∧ am_is k v = true ∧ am_st2 c.2.1 i v = some ls ∧ x = (c.1 + len, ls, r, c.2.2.2) := by
  unfold am_so2 at h
  split at h
  · next v r hs =>
    cases hb : am_is k v with
    | false => rw [hb] at h; cases h
    | true =>
      rw [hb] at h
      simp only [cond_true] at h
      split at h
      · next ls hl => exact ⟨v, r, ls, hs, hb, hl, (Option.some.inj h).symm⟩
      · cases h
  · cases h
theorem am_inc_inv {c x : am_C} {i : Nat} {n : Int} (h : am_inc c i n = some x) : ∃ v ls, c.2.1[i]? = some (some (.int v)) ∧ am_st1 c.2.1 i (.int (v + Int32.ofInt n)) = some ls ∧ x = (c.1 + 3, ls, c.2.2.1, c.2.2.2) := by
  unfold am_inc at h
  split at h
  · next v hv =>
    split at h
    · next ls hl => exact ⟨v, ls, hv, hl, (Option.some.inj h).symm⟩
    · cases h
  · cases h
theorem am_b1_inv {c x : am_C} {f : Int32 → Bool} {t : Nat} (h : am_b1 c f t = some x) : ∃ a r, c.2.2.1 = .int a :: r ∧ x = (bif f a then t else c.1 + 3, c.2.1, r, c.2.2.2) := by
  unfold am_b1 at h
  split at h
  · next a r hs => exact ⟨a, r, hs, (Option.some.inj h).symm⟩
  · cases h
theorem am_b2_inv {c x : am_C} {f : Int32 → Int32 → Bool} {t : Nat} (h : am_b2 c f t = some x) : ∃ a b r, c.2.2.1 = .int b :: .int a :: r ∧ x = (bif f a b then t else c.1 + 3, c.2.1, r, c.2.2.2) := by
  unfold am_b2 at h
  split at h
  · next b a r hs => exact ⟨a, b, r, hs, (Option.some.inj h).symm⟩
  · cases h
theorem am_al_inv {sh : am_Sh} {c x : am_C} {k : Nat} {rd : am_M → Nat → Nat → Value} (h : am_al sh c k rd = some x) : ∃ i a r n, c.2.2.1 = .int i :: .ref a :: r ∧ sh[a]? = some (.inr (k, n)) ∧ am_inb i n = true ∧ x = (c.1 + 1, c.2.1, rd c.2.2.2 a i.toNatClampNeg :: r, c.2.2.2) := by
  unfold am_al at h
  split at h
  · next i a r hs =>
    split at h
    · next kn hk =>
      obtain ⟨k1, n⟩ := kn
      cases hb : (k1 == k && am_inb i n) with
      | false => simp only [hb] at h; cases h
      | true =>
        simp only [hb] at h
        simp only [Bool.and_eq_true, beq_iff_eq] at hb
        obtain ⟨rfl, hb⟩ := hb
        exact ⟨i, a, r, n, hs, hk, hb, (Option.some.inj h).symm⟩
    · cases h
  · cases h
theorem am_as_inv {sh : am_Sh} {c x : am_C} {k : Nat} (h : am_as sh c k = some x) : ∃ v i a r n m, c.2.2.1 = v :: .int i :: .ref a :: r ∧ sh[a]? = some (.inr (k, n)) ∧ am_inb i n = true ∧ am_wv c.2.2.2 a i.toNatClampNeg k v = some m ∧ x = (c.1 + 1, c.2.1, r, m) := by
  unfold am_as at h
  split at h
  · next v i a r hs =>
    split at h
    · next kn hk =>
      obtain ⟨k1, n⟩ := kn
      cases hb : (k1 == k && am_inb i n) with
      | false => simp only [hb] at h; cases h
      | true =>
        simp only [hb, cond_true] at h
        simp only [Bool.and_eq_true, beq_iff_eq] at hb
        obtain ⟨rfl, hb⟩ := hb
        split at h
        · next m hm => exact ⟨v, i, a, r, n, m, hs, hk, hb, hm, (Option.some.inj h).symm⟩
        · cases h
    · cases h
  · cases h
theorem am_len_inv {sh : am_Sh} {c x : am_C} (h : am_len sh c = some x) : ∃ a r k n, c.2.2.1 = .ref a :: r ∧ sh[a]? = some (.inr (k, n)) ∧ x = (c.1 + 1, c.2.1, .int (Int32.ofNat n) :: r, c.2.2.2) := by
  unfold am_len at h
  split at h
  · next a r hs =>
    split at h
    · next kn hk =>
      obtain ⟨k1, n⟩ := kn
      exact ⟨a, r, k1, n, hs, hk, (Option.some.inj h).symm⟩
    · cases h
  · cases h
theorem am_gf_inv {sh : am_Sh} {c x : am_C} {ci k : Nat} (h : am_gf sh c ci k = some x) : ∃ a r ks ty, c.2.2.1 = .ref a :: r ∧ sh[a]? = some (.inl (ci, ks)) ∧ ks[k]? = some ty ∧ x = (c.1 + 3, c.2.1, am_rv c.2.2.2 a k ty :: r, c.2.2.2) := by
  unfold am_gf at h
  split at h
  · next a r hs =>
    split at h
    · next o ho =>
      obtain ⟨c1, ks⟩ := o
      cases hb : (c1 == ci) with
      | false => simp only [hb] at h; cases h
      | true =>
        simp only [hb, cond_true] at h
        simp only [beq_iff_eq] at hb
        subst hb
        split at h
        · next ty ht => exact ⟨a, r, ks, ty, hs, ho, ht, (Option.some.inj h).symm⟩
        · cases h
    · cases h
  · cases h
theorem am_pf_inv {sh : am_Sh} {c x : am_C} {ci k : Nat} (h : am_pf sh c ci k = some x) : ∃ v a r ks ty m, c.2.2.1 = v :: .ref a :: r ∧ sh[a]? = some (.inl (ci, ks)) ∧ ks[k]? = some ty ∧ am_wv c.2.2.2 a k ty v = some m ∧ x = (c.1 + 3, c.2.1, r, m) := by
  unfold am_pf at h
  split at h
  · next v a r hs =>
    split at h
    · next o ho =>
      obtain ⟨c1, ks⟩ := o
      cases hb : (c1 == ci) with
      | false => simp only [hb] at h; cases h
      | true =>
        simp only [hb, cond_true] at h
        simp only [beq_iff_eq] at hb
        subst hb
        split at h
        · next ty ht =>
          split at h
          · next m hm => exact ⟨v, a, r, ks, ty, m, hs, ho, ht, hm, (Option.some.inj h).symm⟩
          · cases h
        · cases h
    · cases h
  · cases h
theorem am_ts_inv {c x : am_C} {lo hi : Int} {t : List Nat} (h : am_ts c lo hi t = some x) : ∃ a r d ts, c.2.2.1 = .int a :: r ∧ t = d :: ts ∧ (((a.toInt < lo ∨ hi < a.toInt) ∧ x = (d, c.2.1, r, c.2.2.2)) ∨ (¬ a.toInt < lo ∧ ¬ hi < a.toInt ∧ ∃ g, ts[(a.toInt - lo).toNat]? = some g ∧ x = (g, c.2.1, r, c.2.2.2))) := by
  unfold am_ts at h
  split at h
  · next a r hs =>
    split at h
    · next d ts =>
      cases hb : (decide (a.toInt < lo) || decide (hi < a.toInt)) with
      | true =>
        rw [hb] at h
        simp only [Bool.or_eq_true, decide_eq_true_eq] at hb
        exact ⟨a, r, d, ts, hs, rfl, Or.inl ⟨hb, (Option.some.inj h).symm⟩⟩
      | false =>
        rw [hb] at h
        simp only [Bool.or_eq_false_iff, decide_eq_false_iff_not] at hb
        simp only [cond_false] at h
        split at h
        · next g hg => exact ⟨a, r, d, ts, hs, rfl, Or.inr ⟨hb.1, hb.2, g, hg, (Option.some.inj h).symm⟩⟩
        · cases h
    · cases h
  · cases h
theorem am_ls_inv {c x : am_C} {ps : List (Int × Int)} {t : List Nat} (h : am_ls c ps t = some x) : ∃ a r d ts, c.2.2.1 = .int a :: r ∧ t = d :: ts ∧ x = (am_look ps ts d a.toInt, c.2.1, r, c.2.2.2) := by
  unfold am_ls at h
  split at h
  · next a r hs =>
    split at h
    · next d ts => exact ⟨a, r, d, ts, hs, rfl, (Option.some.inj h).symm⟩
    · cases h
  · cases h
theorem am_dup_inv {c x : am_C} (h : am_dup c = some x) : ∃ v r, c.2.2.1 = v :: r ∧ v.category = 1 ∧ x = (c.1 + 1, c.2.1, v :: v :: r, c.2.2.2) := by
  unfold am_dup at h
  split at h
  · next v r hs =>
    cases hb : (v.category == 1) with
    | false => rw [hb] at h; cases h
    | true =>
      rw [hb] at h
      exact ⟨v, r, hs, by simpa using hb, (Option.some.inj h).symm⟩
  · cases h
theorem am_pop_inv {c x : am_C} (h : am_pop c = some x) : ∃ v r, c.2.2.1 = v :: r ∧ v.category = 1 ∧ x = (c.1 + 1, c.2.1, r, c.2.2.2) := by
  unfold am_pop at h
  split at h
  · next v r hs =>
    cases hb : (v.category == 1) with
    | false => rw [hb] at h; cases h
    | true =>
      rw [hb] at h
      exact ⟨v, r, hs, by simpa using hb, (Option.some.inj h).symm⟩
  · cases h
theorem am_du2_inv {c x : am_C} (h : am_du2 c = some x) : ∃ v w r, c.2.2.1 = v :: w :: r ∧ v.category = 1 ∧ w.category = 1 ∧ x = (c.1 + 1, c.2.1, v :: w :: v :: w :: r, c.2.2.2) := by
  unfold am_du2 at h
  split at h
  · next v w r hs =>
    cases hb : (v.category == 1 && w.category == 1) with
    | false => rw [hb] at h; cases h
    | true =>
      rw [hb] at h
      simp only [Bool.and_eq_true, beq_iff_eq] at hb
      exact ⟨v, w, r, hs, hb.1, hb.2, (Option.some.inj h).symm⟩
  · cases h
theorem am_inb_in {i : Int32} {n : Nat} (h : am_inb i n = true) : vp_in i n := by
  unfold am_inb at h
  simp only [Bool.and_eq_true, Bool.not_eq_true', decide_eq_false_iff_not, decide_eq_true_eq] at h
  rintro (h1 | h1)
  · exact h.1 h1
  · omega
