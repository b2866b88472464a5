/-! ===== checks of the code's numbers, by program ===== -/
def am_lkB (own : String) (pc : Nat) (q : am_Q) : Bool := (am_sw q.1 || q.2.1 == am_ln q.1) && match q.1 with
  | .ldc i => (match q.2.2 with
    | n :: pos :: _ => am_at pos (Cond.constant own i (Int32.ofNat n))
    | _ => false)
  | .ldc_w i => (match q.2.2 with
    | n :: pos :: _ => am_at pos (Cond.constant own i (Int32.ofNat n))
    | _ => false)
  | .ldc2_w i => (match q.2.2 with
    | 0 :: n :: pos :: _ => am_at pos (Cond.constantLong own i (Int64.ofNat n))
    | 1 :: n :: pos :: _ => am_at pos (Cond.constantDouble own i (UInt64.ofNat n))
    | _ => false)
  | .ifCond _ off => decide ((pc : Int) + off = ((am_hd q : Nat) : Int))
  | .if_icmp _ off => decide ((pc : Int) + off = ((am_hd q : Nat) : Int))
  | .goto off => decide ((pc : Int) + off = ((am_hd q : Nat) : Int))
  | .tableswitch d _ _ offs => (match q.2.2 with
    | t :: ts => decide ((pc : Int) + d = (t : Int)) && decide (offs.toList.map (fun o => (pc : Int) + o) = ts.map Int.ofNat)
    | _ => false)
  | .lookupswitch d ps => (match q.2.2 with
    | t :: ts => decide ((pc : Int) + d = (t : Int)) && decide (ps.toList.map (fun o => (pc : Int) + o.2) = ts.map Int.ofNat) && (ps.toList.zip (ps.toList.drop 1)).all (fun (a, next) => a.1 < next.1)
    | _ => false)
  | .getfield i => (match q.2.2 with
    | ci :: k :: nest :: pos :: _ => (match am_cl[ci]? with | some r => am_at pos (am_fl own i r k nest) | none => false)
    | _ => false)
  | .putfield i => (match q.2.2 with
    | ci :: k :: nest :: pos :: _ => (match am_cl[ci]? with | some r => !(r.2.1 k).2.2.2 && am_at pos (am_fl own i r k nest) | none => false)
    | _ => false)
  | _ => true
def am_ckB (Nm : Nat → Option am_N) (own : String) (q : am_Q) : Bool := match q.1 with
  | .invokevirtual i => (match q.2.2 with
    | j :: n :: vi :: ci :: nest :: p1 :: p2 :: p3 :: _ => q.2.1 == 3 && vi == 1 && (match Nm j with
      | some nm => (match nest with | 0 => am_at p1 (Cond.methodLink own i nm.1) | _ => am_at p1 (Cond.methodLinkNest own i nm.1 am_host)) && am_at p2 (Cond.instanceMethod nm.1) && am_at p3 (Cond.selects nm.1.cls nm.1 nm.1) && (match am_cl[ci]? with | some r => decide (r.1 = nm.1.cls) | none => false) && decide ((parseMethodDescriptor nm.1.desc).map (fun d => d.parameters.length + 1) = some n)
      | none => false)
    | _ => false)
  | .invokestatic i => (match q.2.2 with
    | j :: n :: vi :: _ :: nest :: p1 :: p2 :: _ => q.2.1 == 3 && vi == 0 && (match Nm j with
      | some nm => (match nest with | 0 => am_at p1 (Cond.methodLink own i nm.1) | _ => am_at p1 (Cond.methodLinkNest own i nm.1 am_host)) && am_at p2 (Cond.static nm.1) && decide ((parseMethodDescriptor nm.1.desc).map (fun d => d.parameters.length) = some n)
      | none => false)
    | _ => false)
  | _ => true
def am_chk (Nm : Nat → Option am_N) (own : String) (bytes : ByteArray) (code : List (Nat × am_Q)) : Bool := code.all (fun x => decide (decode bytes x.1 = .ok (x.2.1, x.2.2.1)) && am_lkB own x.1 x.2 && am_ckB Nm own x.2)
theorem am_lkB_ok {own : String} {pc : Nat} {q : am_Q} (h : am_lkB own pc q = true) : am_lk own am_cl am_U pc q := by
  unfold am_lkB at h
  obtain ⟨h1, h2⟩ := Bool.and_eq_true_iff.mp h
  refine ⟨by simpa using h1, ?_⟩
  obtain ⟨ins, len, info⟩ := q
  cases ins <;> simp only at h2 ⊢
  case ldc i =>
    split at h2
    · next n pos rs => exact am_at_mem h2
    · cases h2
  case ldc_w i =>
    split at h2
    · next n pos rs => exact am_at_mem h2
    · cases h2
  case ldc2_w i =>
    split at h2
    · exact am_at_mem h2
    · exact am_at_mem h2
    · cases h2
  case ifCond k off => exact of_decide_eq_true h2
  case if_icmp k off => exact of_decide_eq_true h2
  case goto off => exact of_decide_eq_true h2
  case tableswitch d lo hi offs =>
    split at h2
    · next t ts =>
      simp only [Bool.and_eq_true, decide_eq_true_eq] at h2
      exact h2
    · cases h2
  case lookupswitch d ps =>
    split at h2
    · next t ts =>
      rw [Bool.and_eq_true, Bool.and_eq_true] at h2
      exact ⟨of_decide_eq_true h2.1.1, of_decide_eq_true h2.1.2, h2.2⟩
    · cases h2
  case getfield i =>
    split at h2
    · next ci k nest pos rs =>
      split at h2
      · next r hr => exact ⟨r, hr, am_at_mem h2⟩
      · cases h2
    · cases h2
  case putfield i =>
    split at h2
    · next ci k nest pos rs =>
      split at h2
      · next r hr =>
        simp only [Bool.and_eq_true, Bool.not_eq_true'] at h2
        exact ⟨r, hr, h2.1, am_at_mem h2.2⟩
      · cases h2
    · cases h2
theorem am_ckB_ok {Nm : Nat → Option am_N} {own : String} {q : am_Q} (h : am_ckB Nm own q = true) : am_ck own am_cl am_U Nm q := by
  unfold am_ckB at h
  unfold am_ck
  obtain ⟨ins, len, info⟩ := q
  cases ins <;> simp only at h ⊢
  case invokevirtual i =>
    split at h
    · next j n vi ci nest p1 p2 p3 rs =>
      simp only [Bool.and_eq_true, beq_iff_eq] at h
      obtain ⟨⟨h1, h2⟩, h3⟩ := h
      refine ⟨h1, h2, ?_⟩
      split at h3
      · next nm hnm =>
        simp only [Bool.and_eq_true, decide_eq_true_eq] at h3
        obtain ⟨⟨⟨⟨g1, g2⟩, g3⟩, g4⟩, g5⟩ := h3
        refine ⟨nm, hnm, ?_, am_at_mem g2, am_at_mem g3, ?_, g5⟩
        · cases nest with
          | zero => exact am_at_mem g1
          | succ _ => exact am_at_mem g1
        · split at g4
          · next r hr => exact ⟨r, hr, of_decide_eq_true g4⟩
          · cases g4
      · cases h3
    · cases h
  case invokestatic i =>
    split at h
    · next j n vi ci nest p1 p2 rs =>
      simp only [Bool.and_eq_true, beq_iff_eq] at h
      obtain ⟨⟨h1, h2⟩, h3⟩ := h
      refine ⟨h1, h2, ?_⟩
      split at h3
      · next nm hnm =>
        simp only [Bool.and_eq_true, decide_eq_true_eq] at h3
        obtain ⟨⟨g1, g2⟩, g3⟩ := h3
        refine ⟨nm, hnm, ?_, am_at_mem g2, g3⟩
        cases nest with
        | zero => exact am_at_mem g1
        | succ _ => exact am_at_mem g1
      · cases h3
    · cases h
theorem am_chk_at {Nm : Nat → Option am_N} {own : String} {bytes : ByteArray} {code : List (Nat × am_Q)} (h : am_chk Nm own bytes code = true) {pc : Nat} {q : am_Q} (hq : code.lookup pc = some q) : decode bytes pc = .ok (q.1, q.2.1) ∧ am_lk own am_cl am_U pc q ∧ am_ck own am_cl am_U Nm q := by
  have hm : (pc, q) ∈ code := by
    clear h
    induction code with
    | nil => cases hq
    | cons x xs ih =>
      obtain ⟨k, v⟩ := x
      rw [List.lookup_cons] at hq
      by_cases hk : (pc == k) = true
      · rw [hk] at hq
        simp only [beq_iff_eq] at hk
        cases hq
        rw [hk]
        exact List.mem_cons_self
      · simp only [Bool.not_eq_true] at hk
        rw [hk] at hq
        exact List.mem_cons_of_mem _ (ih hq)
  have h1 := List.all_eq_true.mp h _ hm
  rw [Bool.and_eq_true, Bool.and_eq_true] at h1
  exact ⟨of_decide_eq_true h1.1.1, am_lkB_ok h1.1.2, am_ckB_ok h1.2⟩
