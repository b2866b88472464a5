def am_leL : List (Option Value) → List (Option Value) → Prop
  | [], [] => True
  | none :: a, _ :: b => am_leL a b
  | some x :: a, z :: b => z = some x ∧ am_leL a b
  | _, _ => False
theorem am_le_of : ∀ {a b : List (Option Value)}, am_leL a b → am_le a b
  | [], [], _ => ⟨rfl, fun _ _ h => h⟩
  | none :: a, z :: b, h => by
    obtain ⟨h1, h2⟩ := am_le_of (a := a) (b := b) h
    refine ⟨by simp [h1], fun i v hi => ?_⟩
    cases i with
    | zero => simp at hi
    | succ i => exact h2 i v hi
  | some x :: a, z :: b, h => by
    obtain ⟨h0, h⟩ := h
    obtain ⟨h1, h2⟩ := am_le_of (a := a) (b := b) h
    refine ⟨by simp [h1], fun i v hi => ?_⟩
    cases i with
    | zero => rw [h0]; exact hi
    | succ i => exact h2 i v hi
  | [], _ :: _, h => h.elim
  | none :: _, [], h => h.elim
  | some _ :: _, [], h => h.elim
theorem am_i32 {x v : Int32} (h : x.toInt = v.toInt) : x = v := Int32.toInt_inj.mp h
theorem am_swc (x : Int32) (lo : Int) (n : Nat) : (x.toInt < lo ∨ lo + (n : Int) < x.toInt) ∨ ∃ k : Nat, k ≤ n ∧ x.toInt = lo + (k : Int) := by
  by_cases h1 : x.toInt < lo
  · exact Or.inl (Or.inl h1)
  · by_cases h2 : lo + (n : Int) < x.toInt
    · exact Or.inl (Or.inr h2)
    · exact Or.inr ⟨(x.toInt - lo).toNat, by omega, by omega⟩
theorem am_sw_d {ts bad : List Nat} {t n k : Nat} (hk : k ≤ n) (hall : (List.range (n + 1)).all (fun k => bad.contains k || decide (ts[k]? = some t)) = true) (hb : k ∉ bad) : ts[k]? = some t := by
  have h1 := List.all_eq_true.mp hall k (List.mem_range.mpr (by omega))
  rw [Bool.or_eq_true] at h1
  rcases h1 with h1 | h1
  · exact absurd (List.contains_iff_mem.mp h1) hb
  · exact of_decide_eq_true h1
theorem am_lk_no : ∀ {ps : List (Int × Int)} {ts : List Nat} {t : Nat} {x : Int}, (∀ q ∈ ps, ¬ x = q.1) → am_look ps ts t x = t
  | [], _, _, _, _ => by unfold am_look; rfl
  | _ :: _, [], _, _, _ => by unfold am_look; rfl
  | (k, o) :: ps, t0 :: ts, t, x, h => by
    have h1 : ¬ x = k := h (k, o) List.mem_cons_self
    simp only [am_look, h1, decide_false, cond_false]
    exact am_lk_no (fun q hq => h q (List.mem_cons_of_mem _ hq))
theorem am_leZ : am_leL [] [] := trivial
theorem am_leN {a b : List (Option Value)} {z : Option Value} (h : am_leL a b) : am_leL (none :: a) (z :: b) := h
theorem am_leS {a b : List (Option Value)} {x : Value} (h : am_leL a b) : am_leL (some x :: a) (some x :: b) := ⟨rfl, h⟩
theorem am_s_rput {a ci k v : Nat} {ks : List Nat} {i : Nat} {q : List Nat} {len pc : Nat} {ls : List (Option Value)} {st : List Value} {m m' : am_M} (hsh : am_SH[a]? = some (.inl (ci, ks))) (hk : ks[k]? = some 3) (hw : am_wR m a k (some v) = m') : am_step am_SH (.putfield i, len, ci :: k :: q) (pc, ls, .ref v :: .ref a :: st, m) = some (pc + 3, ls, st, m') := by
  simp [am_step, am_pf, hsh, hk, am_wv, hw]
