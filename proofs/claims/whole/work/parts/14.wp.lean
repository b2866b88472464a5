/-! ===== what the small machine's methods do, method by method: rules ===== -/
def am_pl : Instr → Bool
  | .ireturn | .lreturn | .dreturn | .return_ | .invokevirtual _ | .invokestatic _ => false
  | _ => true
def am_iv : Instr → Bool
  | .invokevirtual _ => true
  | .invokestatic _ => true
  | _ => false
theorem am_iv_of {i : Instr} (h : am_iv i = true) : (∃ k, i = .invokevirtual k) ∨ ∃ k, i = .invokestatic k := by
  cases i <;> simp [am_iv] at h ⊢
def am_Rn (ext : Nat → List Value → am_M → Option am_R) (d j : Nat) (as : List Value) (m : am_M) (r : am_R) : Prop := ∃ n0, ∀ n, n0 ≤ n → am_ex am_Ys ext am_SH n d j as m = some r
def am_G (ext : Nat → List Value → am_M → Option am_R) (d : Nat) (y : am_Y) (c : am_C) (r : am_R) : Prop := ∃ n0, ∀ n f, n0 ≤ n → n0 ≤ f → am_go y.1 am_SH y.2.2 (am_ex am_Ys ext am_SH n d) f c = some r
/-- from c the method returns, and P holds of its answer and the memory then -/
def am_wp (ext : Nat → List Value → am_M → Option am_R) (d : Nat) (y : am_Y) (c : am_C) (P : am_R → Prop) : Prop := ∃ r, am_G ext d y c r ∧ P r
/-- a call returns, and P holds -/
def am_ca (ext : Nat → List Value → am_M → Option am_R) (d j : Nat) (as : List Value) (m : am_M) (P : am_R → Prop) : Prop := ∃ r, am_Rn ext d j as m r ∧ P r
def am_uI (I : Nat → Nat → Int32) (k j : Nat) (x : Int32) : Nat → Nat → Int32 := fun a b => bif a == k && b == j then x else I a b
def am_uL (L : Nat → Nat → Int64) (k j : Nat) (x : Int64) : Nat → Nat → Int64 := fun a b => bif a == k && b == j then x else L a b
def am_uD (D : Nat → Nat → UInt64) (k j : Nat) (x : UInt64) : Nat → Nat → UInt64 := fun a b => bif a == k && b == j then x else D a b
def am_run (cd : Nat → Option am_Q) : Nat → am_C → Option am_C
  | 0, c => some c
  | k + 1, c => match cd c.1 with
    | none => none
    | some q => bif am_pl q.1 then (match am_step am_SH q c with | some c' => am_run cd k c' | none => none) else none
section AWP
variable {ext : Nat → List Value → am_M → Option am_R} {d : Nat} {y : am_Y} {P Q : am_R → Prop} {c c' : am_C} {pc : Nat} {ls : List (Option Value)} {st : List Value} {m : am_M}
theorem am_wp_mono (h : am_wp ext d y c P) (hPQ : ∀ r, P r → Q r) : am_wp ext d y c Q := by
  obtain ⟨r, h1, h2⟩ := h
  exact ⟨r, h1, hPQ r h2⟩
theorem am_ca_mono {j : Nat} {as : List Value} (h : am_ca ext d j as m P) (hPQ : ∀ r, P r → Q r) : am_ca ext d j as m Q := by
  obtain ⟨r, h1, h2⟩ := h
  exact ⟨r, h1, hPQ r h2⟩
/-- a method's walk is a call of it -/
theorem am_of_wp {j : Nat} {as : List Value} (hy : am_Ys j = some y) (hl : Nat.ble (am_ent as).length y.2.1 = true) (h : am_wp ext d y (0, am_loc y.2.1 as, [], m) P) : am_ca ext (d + 1) j as m P := by
  obtain ⟨r, ⟨n0, h1⟩, h2⟩ := h
  refine ⟨r, ⟨n0, fun n hn => ?_⟩, h2⟩
  simp only [am_ex, hy, hl, cond_true]
  exact h1 n n hn hn
theorem am_go_pl {cd : Nat → Option am_Q} {sh : am_Sh} {ret : Nat} {call : Nat → List Value → am_M → Option am_R} {n : Nat} {q : am_Q} (hq : cd c.1 = some q) (hp : am_pl q.1 = true) (hs : am_step sh q c = some c') : am_go cd sh ret call (n + 1) c = am_go cd sh ret call n c' := by
  simp only [am_go, hq]
  obtain ⟨ins, len, info⟩ := q
  cases ins <;> first | (simp only [hs]; done) | (cases hp; done)
theorem am_wps {q : am_Q} (hq : y.1 c.1 = some q) (hp : am_pl q.1 = true) (hs : am_step am_SH q c = some c') (k : am_wp ext d y c' P) : am_wp ext d y c P := by
  obtain ⟨r, ⟨n0, h1⟩, h2⟩ := k
  refine ⟨r, ⟨n0 + 1, fun n f hn hf => ?_⟩, h2⟩
  obtain ⟨f', rfl⟩ : ∃ f', f = f' + 1 := ⟨f - 1, by omega⟩
  rw [am_go_pl hq hp hs]
  exact h1 n f' (by omega) (by omega)
theorem am_wpb (k : Nat) : ∀ {c : am_C}, am_run y.1 k c = some c' → am_wp ext d y c' P → am_wp ext d y c P := by
  induction k with
  | zero =>
    intro c h g
    cases h
    exact g
  | succ k ih =>
    intro c h g
    simp only [am_run] at h
    split at h
    · cases h
    · next q hq =>
      cases hp : am_pl q.1 with
      | false => rw [hp] at h; cases h
      | true =>
        rw [hp] at h
        simp only [cond_true] at h
        split at h
        · next c1 hc1 => exact am_wps hq hp hc1 (ih h g)
        · cases h
theorem am_wp_inv {ins : Instr} {j n vi ci : Nat} {rs : List Nat} {as : List Value} (hq : y.1 pc = some (ins, 3, j :: n :: vi :: ci :: rs)) (hi : am_iv ins = true) (has : (st.take n).reverse = as) (hc : (Nat.ble n st.length && Nat.ble (((st.drop n).map fun v => v.category).sum) 8 && am_rc am_SH vi ci as) = true)
    (h : am_ca ext d j as m (fun r => am_wp ext d y (pc + 3, ls, r.1.toList ++ st.drop n, r.2) P)) : am_wp ext d y (pc, ls, st, m) P := by
  obtain ⟨r, ⟨n1, h1⟩, r2, ⟨n2, h2⟩, h3⟩ := h
  refine ⟨r2, ⟨n1 + n2 + 1, fun k f hk hf => ?_⟩, h3⟩
  obtain ⟨f', rfl⟩ : ∃ f', f = f' + 1 := ⟨f - 1, by omega⟩
  have hinv : am_inv am_SH (am_ex am_Ys ext am_SH k d) (ins, 3, j :: n :: vi :: ci :: rs) (pc, ls, st, m) = some (pc + 3, ls, r.1.toList ++ st.drop n, r.2) := by
    subst has
    simp only [am_inv, hc, cond_true, h1 k (by omega)]
  have := h2 k f' (by omega) (by omega)
  simp only [am_go, hq]
  rcases am_iv_of hi with ⟨i, rfl⟩ | ⟨i, rfl⟩
  · simp only [hinv]
    exact this
  · simp only [hinv]
    exact this
theorem am_ret_i {x : Int32} {i : List Nat} {len : Nat} (hq : y.1 pc = some (.ireturn, len, i)) (hr : y.2.2 = 1) (h : P (some (.int x), m)) : am_wp ext d y (pc, ls, [.int x], m) P := by
  refine ⟨_, ⟨1, fun n f hn hf => ?_⟩, h⟩
  obtain ⟨f', rfl⟩ : ∃ f', f = f' + 1 := ⟨f - 1, by omega⟩
  simp [am_go, hq, am_rok, hr]
theorem am_ret_z {x : Int32} {i : List Nat} {len : Nat} (hq : y.1 pc = some (.ireturn, len, i)) (hr : y.2.2 = 2) (hx : x = 0 ∨ x = 1) (h : P (some (.int x), m)) : am_wp ext d y (pc, ls, [.int x], m) P := by
  refine ⟨_, ⟨1, fun n f hn hf => ?_⟩, h⟩
  obtain ⟨f', rfl⟩ : ∃ f', f = f' + 1 := ⟨f - 1, by omega⟩
  have hz : (x == 0 || x == 1) = true := by simpa using hx
  simp [am_go, hq, am_rok, hr, hz]
theorem am_ret_l {x : Int64} {i : List Nat} {len : Nat} (hq : y.1 pc = some (.lreturn, len, i)) (hr : y.2.2 = 3) (h : P (some (.long x), m)) : am_wp ext d y (pc, ls, [.long x], m) P := by
  refine ⟨_, ⟨1, fun n f hn hf => ?_⟩, h⟩
  obtain ⟨f', rfl⟩ : ∃ f', f = f' + 1 := ⟨f - 1, by omega⟩
  simp [am_go, hq, hr]
theorem am_ret_d {x : UInt64} {i : List Nat} {len : Nat} (hq : y.1 pc = some (.dreturn, len, i)) (hr : y.2.2 = 4) (h : P (some (.double x), m)) : am_wp ext d y (pc, ls, [.double x], m) P := by
  refine ⟨_, ⟨1, fun n f hn hf => ?_⟩, h⟩
  obtain ⟨f', rfl⟩ : ∃ f', f = f' + 1 := ⟨f - 1, by omega⟩
  simp [am_go, hq, hr]
theorem am_ret_v {i : List Nat} {len : Nat} (hq : y.1 pc = some (.return_, len, i)) (hr : y.2.2 = 0) (h : P (none, m)) : am_wp ext d y (pc, ls, [], m) P := by
  refine ⟨_, ⟨1, fun n f hn hf => ?_⟩, h⟩
  obtain ⟨f', rfl⟩ : ∃ f', f = f' + 1 := ⟨f - 1, by omega⟩
  simp [am_go, hq, hr]
/-! arrays -/
theorem am_s_iald {a n : Nat} {i : Int32} {q : List Nat} {len : Nat} (hsh : am_SH[a]? = some (.inr (0, n))) (hb : am_inb i n = true) : am_step am_SH (.iaload, len, q) (pc, ls, .int i :: .ref a :: st, m) = some (pc + 1, ls, .int (m.1 a i.toNatClampNeg) :: st, m) := by
  simp [am_step, am_al, hsh, hb]
theorem am_s_zald {a n : Nat} {i : Int32} {q : List Nat} {len : Nat} (hsh : am_SH[a]? = some (.inr (4, n))) (hb : am_inb i n = true) : am_step am_SH (.baload, len, q) (pc, ls, .int i :: .ref a :: st, m) = some (pc + 1, ls, .int (m.1 a i.toNatClampNeg) :: st, m) := by
  simp [am_step, am_al, hsh, hb]
theorem am_s_lald {a n : Nat} {i : Int32} {q : List Nat} {len : Nat} (hsh : am_SH[a]? = some (.inr (1, n))) (hb : am_inb i n = true) : am_step am_SH (.laload, len, q) (pc, ls, .int i :: .ref a :: st, m) = some (pc + 1, ls, .long (m.2.1 a i.toNatClampNeg) :: st, m) := by
  simp [am_step, am_al, hsh, hb]
theorem am_s_dald {a n : Nat} {i : Int32} {q : List Nat} {len : Nat} (hsh : am_SH[a]? = some (.inr (2, n))) (hb : am_inb i n = true) : am_step am_SH (.daload, len, q) (pc, ls, .int i :: .ref a :: st, m) = some (pc + 1, ls, .double (m.2.2.1 a i.toNatClampNeg) :: st, m) := by
  simp [am_step, am_al, hsh, hb]
theorem am_s_iast {a n : Nat} {i x : Int32} {q : List Nat} {len : Nat} (hsh : am_SH[a]? = some (.inr (0, n))) (hb : am_inb i n = true) : am_step am_SH (.iastore, len, q) (pc, ls, .int x :: .int i :: .ref a :: st, m) = some (pc + 1, ls, st, am_wI m a i.toNatClampNeg x) := by
  simp [am_step, am_as, hsh, hb, am_wv]
theorem am_s_zast {a n : Nat} {i x : Int32} {q : List Nat} {len : Nat} (hsh : am_SH[a]? = some (.inr (4, n))) (hb : am_inb i n = true) (hx : x = 0 ∨ x = 1) : am_step am_SH (.bastore, len, q) (pc, ls, .int x :: .int i :: .ref a :: st, m) = some (pc + 1, ls, st, am_wI m a i.toNatClampNeg x) := by
  have hz : (x == 0 || x == 1) = true := by simpa using hx
  simp [am_step, am_as, hsh, hb, am_wv, hz]
theorem am_s_last {a n : Nat} {i : Int32} {x : Int64} {q : List Nat} {len : Nat} (hsh : am_SH[a]? = some (.inr (1, n))) (hb : am_inb i n = true) : am_step am_SH (.lastore, len, q) (pc, ls, .long x :: .int i :: .ref a :: st, m) = some (pc + 1, ls, st, am_wL m a i.toNatClampNeg x) := by
  simp [am_step, am_as, hsh, hb, am_wv]
theorem am_s_dast {a n : Nat} {i : Int32} {x : UInt64} {q : List Nat} {len : Nat} (hsh : am_SH[a]? = some (.inr (2, n))) (hb : am_inb i n = true) : am_step am_SH (.dastore, len, q) (pc, ls, .double x :: .int i :: .ref a :: st, m) = some (pc + 1, ls, st, am_wD m a i.toNatClampNeg x) := by
  simp [am_step, am_as, hsh, hb, am_wv]
/-- a boolean field -/
theorem am_s_zput {a ci k : Nat} {ks : List Nat} {x : Int32} {i : Nat} {q : List Nat} {len : Nat} (hsh : am_SH[a]? = some (.inl (ci, ks))) (hk : ks[k]? = some 4) (hx : x = 0 ∨ x = 1) : am_step am_SH (.putfield i, len, ci :: k :: q) (pc, ls, .int x :: .ref a :: st, m) = some (pc + 3, ls, st, am_wI m a k x) := by
  have hz : (x == 0 || x == 1) = true := by simpa using hx
  simp [am_step, am_pf, hsh, hk, am_wv, hz]
/-! divisions; numbers that are none -/
theorem am_s_idiv {x z : Int32} {q : List Nat} {len : Nat} (h : ¬ z = 0) : am_step am_SH (.idiv, len, q) (pc, ls, .int z :: .int x :: st, m) = some (pc + 1, ls, .int (x / z) :: st, m) := by
  have hz : (z == 0) = false := by simpa using h
  simp [am_step, am_iid, hz]
theorem am_s_irem {x z : Int32} {q : List Nat} {len : Nat} (h : ¬ z = 0) : am_step am_SH (.irem, len, q) (pc, ls, .int z :: .int x :: st, m) = some (pc + 1, ls, .int (x - x / z * z) :: st, m) := by
  have hz : (z == 0) = false := by simpa using h
  simp [am_step, am_iid, hz]
theorem am_s_ldiv {x z : Int64} {q : List Nat} {len : Nat} (h : ¬ z = 0) : am_step am_SH (.ldiv, len, q) (pc, ls, .long z :: .long x :: st, m) = some (pc + 1, ls, .long (x / z) :: st, m) := by
  have hz : (z == 0) = false := by simpa using h
  simp [am_step, am_lld, hz]
theorem am_s_lrem {x z : Int64} {q : List Nat} {len : Nat} (h : ¬ z = 0) : am_step am_SH (.lrem, len, q) (pc, ls, .long z :: .long x :: st, m) = some (pc + 1, ls, .long (x - x / z * z) :: st, m) := by
  have hz : (z == 0) = false := by simpa using h
  simp [am_step, am_lld, hz]
theorem am_s_dadd {x z : UInt64} {q : List Nat} {len : Nat} (h : am_nn (FP.dadd x z) = true) : am_step am_SH (.dadd, len, q) (pc, ls, .double z :: .double x :: st, m) = some (pc + 1, ls, .double (FP.dadd x z) :: st, m) := by
  simp [am_step, am_dd, h]
theorem am_s_dsub {x z : UInt64} {q : List Nat} {len : Nat} (h : am_nn (FP.dsub x z) = true) : am_step am_SH (.dsub, len, q) (pc, ls, .double z :: .double x :: st, m) = some (pc + 1, ls, .double (FP.dsub x z) :: st, m) := by
  simp [am_step, am_dd, h]
theorem am_s_dmul {x z : UInt64} {q : List Nat} {len : Nat} (h : am_nn (FP.dmul x z) = true) : am_step am_SH (.dmul, len, q) (pc, ls, .double z :: .double x :: st, m) = some (pc + 1, ls, .double (FP.dmul x z) :: st, m) := by
  simp [am_step, am_dd, h]
theorem am_s_ddiv {x z : UInt64} {q : List Nat} {len : Nat} (h : am_nn (FP.ddiv x z) = true) : am_step am_SH (.ddiv, len, q) (pc, ls, .double z :: .double x :: st, m) = some (pc + 1, ls, .double (FP.ddiv x z) :: st, m) := by
  simp [am_step, am_dd, h]
end AWP
