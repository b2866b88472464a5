/-- how long an instruction is that the small machine knows -/
def am_ln : Instr → Nat
  | .bipush _ | .ldc _ | .iload _ | .lload _ | .dload _ | .aload _ | .istore _ | .lstore _ | .dstore _ | .astore _ => 2
  | .sipush _ | .ldc_w _ | .ldc2_w _ | .iinc _ _ | .ifCond _ _ | .if_icmp _ _ | .goto _ | .getfield _ | .putfield _ | .invokevirtual _ | .invokestatic _ => 3
  | _ => 1
def am_sw : Instr → Bool
  | .tableswitch .. => true
  | .lookupswitch .. => true
  | _ => false
def am_host : String := "SureSums"
def am_fl (own : String) (i : Nat) (r : vw_C) (k nest : Nat) : Cond := match nest with
  | 0 => .fieldLink own i (r.2.1 k).1 (r.2.1 k).2.1 (r.2.1 k).2.2.1
  | _ => .fieldLinkNest own i (r.2.1 k).1 (r.2.1 k).2.1 (r.2.1 k).2.2.1 am_host
/-- what must hold of an instruction's numbers: constants, fields, where branches go -/
def am_lk (own : String) (cl : List vw_C) (Ts : List Cond) (pc : Nat) (q : am_Q) : Prop := (am_sw q.1 = true ∨ q.2.1 = am_ln q.1) ∧ match q.1 with
  | .ldc i => Cond.constant own i (Int32.ofNat (am_hd q)) ∈ Ts
  | .ldc_w i => Cond.constant own i (Int32.ofNat (am_hd q)) ∈ Ts
  | .ldc2_w i => (match q.2.2 with
    | 0 :: n :: _ => Cond.constantLong own i (Int64.ofNat n) ∈ Ts
    | 1 :: n :: _ => Cond.constantDouble own i (UInt64.ofNat n) ∈ Ts
    | _ => True)
  | .ifCond _ off => (pc : Int) + off = ((am_hd q : Nat) : Int)
  | .if_icmp _ off => (pc : Int) + off = ((am_hd q : Nat) : Int)
  | .goto off => (pc : Int) + off = ((am_hd q : Nat) : Int)
  | .tableswitch d _ _ offs => (match q.2.2 with
    | t :: ts => (pc : Int) + d = (t : Int) ∧ offs.toList.map (fun o => (pc : Int) + o) = ts.map Int.ofNat
    | _ => True)
  | .lookupswitch d ps => (match q.2.2 with
    | t :: ts => (pc : Int) + d = (t : Int) ∧ ps.toList.map (fun o => (pc : Int) + o.2) = ts.map Int.ofNat ∧ (ps.toList.zip (ps.toList.drop 1)).all (fun (a, next) => a.1 < next.1) = true
    | _ => True)
  | .getfield i => (match q.2.2 with
    | ci :: k :: nest :: _ => ∃ r, cl[ci]? = some r ∧ am_fl own i r k nest ∈ Ts
    | _ => False)
  | .putfield i => (match q.2.2 with
    | ci :: k :: nest :: _ => ∃ r, cl[ci]? = some r ∧ (r.2.1 k).2.2.2 = false ∧ am_fl own i r k nest ∈ Ts
    | _ => False)
  | _ => True
/-- a field's type and its kind -/
def am_tk (t : FieldType) (k : Nat) : Bool := match t, k with
  | .int, 0 => true
  | .long, 1 => true
  | .double, 2 => true
  | .object _, 3 => true
  | .array _, 3 => true
  | .boolean, 4 => true
  | _, _ => false
/-- what the tables say of the classes -/
def am_cls (cl : List vw_C) (Ts : List Cond) : Prop := ∀ (ci : Nat) (r : vw_C), cl[ci]? = some r → (∀ w ∈ u_ws r.1 r.2.1 r.2.2, w ∈ Ts) ∧ (∃ ty0 : Nat → FieldType, ∀ k, k < r.2.2 → parseFieldDescriptor (r.2.1 k).2.2.1 = some (ty0 k)) ∧ ∀ a, a < r.2.2 → ∀ b, b < r.2.2 → a ≠ b → (r.2.1 a).2.1 ≠ (r.2.1 b).2.1
/-- the shape: each object has the slots of its class -/
def am_shk (cl : List vw_C) (sh : am_Sh) : Prop := ∀ (a ci : Nat) (ks : List Nat), sh[a]? = some (.inl (ci, ks)) → ∃ r : vw_C, cl[ci]? = some r ∧ ks.length = r.2.2 ∧ ∀ (k ty : Nat), ks[k]? = some ty → ∃ t, parseFieldDescriptor (r.2.1 k).2.2.1 = some t ∧ am_tk t ty = true
def am_tys (cy : Nat → ClassId) : List (ClassId × FieldType) := [(cy 0, .int), (cy 1, .long), (cy 2, .double), (cy 4, .boolean)]
theorem am_fs_set {ad : Nat → Nat} {mem m' : am_M} {a k ty : Nat} {v : Value} {ks : List Nat} (hk : ks[k]? = some ty) (h : am_wv mem a k ty v = some m') :
    ((List.range ks.length).map (fun j => am_fv ad mem a j (ks.getD j 0))).set k (am_cv ad v) = (List.range ks.length).map (fun j => am_fv ad m' a j (ks.getD j 0)) := by
  have hl := (List.getElem?_eq_some_iff.mp hk).1
  have hg : ks.getD k 0 = ty := by simp [List.getD, hk]
  apply List.ext_getElem?
  intro i
  by_cases hi : i = k
  · subst hi
    rw [List.getElem?_set_self (by simpa using hl), List.getElem?_map, List.getElem?_range hl]
    simp only [Option.map_some, Option.some.injEq, hg]
    unfold am_wv at h
    split at h
    · cases h; simp [am_fv, am_rv, am_wI]
    · cases h; simp [am_fv, am_rv, am_wL]
    · cases h; simp [am_fv, am_rv, am_wD]
    · cases h; simp [am_fv, am_rv, am_wR, va_rf]
    · cases h; simp [am_fv, am_rv, am_wR, va_rf]
    · next x =>
      cases hc : (x == 0 || x == 1) with
      | false => rw [hc] at h; cases h
      | true =>
        rw [hc] at h
        cases h
        simp [am_fv, am_rv, am_wI]
    · cases h
  · rw [List.getElem?_set_ne (fun z => hi z.symm), List.getElem?_map, List.getElem?_map]
    cases hr : (List.range ks.length)[i]? with
    | none => rfl
    | some j =>
      have hj : j = i := by
        obtain ⟨h1, h2⟩ := List.getElem?_eq_some_iff.mp hr
        simpa using h2.symm
      subst hj
      have hb : (j == k) = false := by simpa using hi
      simp only [Option.map_some, Option.some.injEq]
      unfold am_wv at h
      split at h
      · cases h; unfold am_fv am_rv; split <;> simp [am_wI, hb]
      · cases h; unfold am_fv am_rv; split <;> simp [am_wL, hb]
      · cases h; unfold am_fv am_rv; split <;> simp [am_wD, hb]
      · cases h; unfold am_fv am_rv; split <;> simp [am_wR, hb]
      · cases h; unfold am_fv am_rv; split <;> simp [am_wR, hb]
      · next x =>
        cases hc : (x == 0 || x == 1) with
        | false => rw [hc] at h; cases h
        | true =>
          rw [hc] at h
          cases h
          unfold am_fv am_rv; split <;> simp [am_wI, hb]
      · cases h
theorem am_wI_on {mem : am_M} {a k : Nat} {x : Int32} : (am_wI mem a k x).1 a = upd (mem.1 a) k x := by
  funext b
  by_cases h : b = k
  · simp [am_wI, upd, h]
  · have hb : (b == k) = false := by simpa using h
    simp [am_wI, upd, h, hb]
theorem am_wL_on {mem : am_M} {a k : Nat} {x : Int64} : (am_wL mem a k x).2.1 a = vp_updL (mem.2.1 a) k x := by
  funext b
  by_cases h : b = k
  · simp [am_wL, vp_updL, h]
  · have hb : (b == k) = false := by simpa using h
    simp [am_wL, vp_updL, h, hb]
theorem am_wD_on {mem : am_M} {a k : Nat} {x : UInt64} : (am_wD mem a k x).2.2.1 a = vf_upd (mem.2.2.1 a) k x := by
  funext b
  by_cases h : b = k
  · simp [am_wD, vf_upd, h]
  · have hb : (b == k) = false := by simpa using h
    simp [am_wD, vf_upd, h, hb]
theorem am_look_off {ps : List (Int × Int)} : ∀ {ts : List Nat} {d : Nat} {dd pc x : Int}, pc + dd = (d : Int) → ps.map (fun o => pc + o.2) = ts.map Int.ofNat → pc + Op.lookupswitch.offset ps dd x = ((am_look ps ts d x : Nat) : Int) := by
  induction ps with
  | nil =>
    intro ts d dd pc x h1 h2
    cases ts with
    | nil => simpa [am_look, Op.lookupswitch.offset] using h1
    | cons t ts => simp at h2
  | cons q ps ih =>
    intro ts d dd pc x h1 h2
    obtain ⟨k, o⟩ := q
    cases ts with
    | nil => simp at h2
    | cons t ts =>
      simp only [List.map_cons, List.cons.injEq] at h2
      by_cases hx : x = k
      · subst hx
        simp only [am_look, decide_true, cond_true]
        have h3 : pc + o = (t : Int) := h2.1
        rw [← h3]
        simp [Op.lookupswitch.offset]
      · have := ih h1 h2.2 (x := x)
        simp only [am_look, hx, decide_false, cond_false]
        rw [← this]
        simp [Op.lookupswitch.offset, Ne.symm hx]
theorem am_is0 {v : Value} (h : am_is 0 v = true) : ∃ x, v = .int x := by
  cases v <;> simp [am_is] at h ⊢
theorem am_is1 {v : Value} (h : am_is 1 v = true) : ∃ x, v = .long x := by
  cases v <;> simp [am_is] at h ⊢
theorem am_is2 {v : Value} (h : am_is 2 v = true) : ∃ x, v = .double x := by
  cases v <;> simp [am_is] at h ⊢
theorem am_is3 {v : Value} (h : am_is 3 v = true) : v = .null ∨ ∃ x, v = .ref x := by
  cases v <;> simp [am_is] at h ⊢
section AMW
variable {p : Program} {l : Launch} {e : Env} {R : Room} {s : State} {m : MethodId} {args : Array Value} {below : List Frame} {meth : Method} {c : Code} {cells slots : Nat} {Q : State → Prop} {cc : ByteArray} {nL : Nat} {D : va_G} {cl : List vw_C} {cy : Nat → ClassId} {A : Nat → Prop} {H0 : Heap} {ad : Nat → Nat} {sh : am_Sh} {own : String} {Ts : List Cond}
def am_Ws (p : Program) (l : Launch) (e : Env) (R : Room) (s : State) (m : MethodId) (args : Array Value) (below : List Frame) (meth : Method) (c : Code) (cells slots : Nat) (Q : State → Prop) (nL : Nat) (D : va_G) (cl : List vw_C) (cy : Nat → ClassId) (A : Nat → Prop) (H0 : Heap) (ad : Nat → Nat) (sh : am_Sh) (x : am_C) : Prop :=
  ∀ (H : Heap) (locs : List Loc) (ls : Array Slot), va_P D cl (am_W cy ad sh x.2.2.2) H → va_D A (am_W cy ad sh x.2.2.2) → va_S A H0 H locs → lv_has ls nL (am_lv ad x.2.1) → x.2.1.length = nL →
    W p l e R s m args below meth c H locs cells slots Q (F0 m x.1 ls (x.2.2.1.map (am_cv ad)))
theorem am_tgt {q : am_Q} {pc t : Nat} {off : Int} (h : (pc : Int) + off = ((am_hd q : Nat) : Int)) (ht : am_hd q = t) : (pc : Int) + off = (t : Int) := by rw [← ht]; exact h
set_option maxHeartbeats 4000000 in
set_option maxRecDepth 100000 in
theorem am_ldW (hx : p.tables.exec = Jvm.exec) (hb : c.code = cc) {pc len i k : Nat} {ls : List (Option Value)} {st : List Value} {mem : am_M} {x : am_C}
    (h : am_ld (pc, ls, st, mem) len i k = some x)
    (hd : (k = 0 ∧ ((len = 2 ∧ decode cc pc = .ok (.iload i, 2)) ∨ (len = 1 ∧ ∃ f : Fin 4, (f : Nat) = i ∧ decode cc pc = .ok (.iload_n f, 1)))) ∨ (k = 1 ∧ ((len = 2 ∧ decode cc pc = .ok (.lload i, 2)) ∨ (len = 1 ∧ ∃ f : Fin 4, (f : Nat) = i ∧ decode cc pc = .ok (.lload_n f, 1)))) ∨ (k = 2 ∧ ((len = 2 ∧ decode cc pc = .ok (.dload i, 2)) ∨ (len = 1 ∧ ∃ f : Fin 4, (f : Nat) = i ∧ decode cc pc = .ok (.dload_n f, 1)))) ∨ (k = 3 ∧ ((len = 2 ∧ decode cc pc = .ok (.aload i, 2)) ∨ (len = 1 ∧ ∃ f : Fin 4, (f : Nat) = i ∧ decode cc pc = .ok (.aload_n f, 1)))))
    (kk : am_Ws p l e R s m args below meth c cells slots Q nL D cl cy A H0 ad sh x) : am_Ws p l e R s m args below meth c cells slots Q nL D cl cy A H0 ad sh (pc, ls, st, mem) := by
  obtain ⟨v, hv, hi, rfl⟩ := am_ld_inv h
  intro H locs L hP hD hS hl hn
  have hg : L[i]? = some (.val (am_cv ad v)) := hl.2.2 (i, am_cv ad v) (am_lv_mem.mpr ⟨v, hv, rfl⟩)
  have k2 := kk H locs L hP hD hS hl hn
  rcases hd with ⟨rfl, hd⟩ | ⟨rfl, hd⟩ | ⟨rfl, hd⟩ | ⟨rfl, hd⟩
  · obtain ⟨y, rfl⟩ := am_is0 hi
    rcases hd with ⟨rfl, hd⟩ | ⟨rfl, f, hf, hd⟩
    · exact lv_iload hx hb hd hg k2
    · exact lv_iload_n hx hb hd hf hg k2
  · obtain ⟨y, rfl⟩ := am_is1 hi
    rcases hd with ⟨rfl, hd⟩ | ⟨rfl, f, hf, hd⟩
    · exact lv_lload hx hb hd hg k2
    · exact lv_lload_n hx hb hd hf hg k2
  · obtain ⟨y, rfl⟩ := am_is2 hi
    rcases hd with ⟨rfl, hd⟩ | ⟨rfl, f, hf, hd⟩
    · exact lv_dload hx hb hd hg k2
    · exact lv_dload_n hx hb hd hf hg k2
  · rcases am_is3 hi with rfl | ⟨y, rfl⟩
    · rcases hd with ⟨rfl, hd⟩ | ⟨rfl, f, hf, hd⟩
      · exact lv_aloadN hx hb hd hg k2
      · exact lv_aload_nN hx hb hd hf hg k2
    · rcases hd with ⟨rfl, hd⟩ | ⟨rfl, f, hf, hd⟩
      · exact lv_aload hx hb hd hg k2
      · exact lv_aload_n hx hb hd hf hg k2
set_option maxHeartbeats 4000000 in
set_option maxRecDepth 100000 in
theorem am_so1W (hx : p.tables.exec = Jvm.exec) (hb : c.code = cc) {pc len i k : Nat} {ls : List (Option Value)} {st : List Value} {mem : am_M} {x : am_C}
    (h : am_so1 (pc, ls, st, mem) len i k = some x)
    (hd : (k = 0 ∧ ((len = 2 ∧ decode cc pc = .ok (.istore i, 2)) ∨ (len = 1 ∧ ∃ f : Fin 4, (f : Nat) = i ∧ decode cc pc = .ok (.istore_n f, 1)))) ∨ (k = 3 ∧ ((len = 2 ∧ decode cc pc = .ok (.astore i, 2)) ∨ (len = 1 ∧ ∃ f : Fin 4, (f : Nat) = i ∧ decode cc pc = .ok (.astore_n f, 1)))))
    (kk : am_Ws p l e R s m args below meth c cells slots Q nL D cl cy A H0 ad sh x) : am_Ws p l e R s m args below meth c cells slots Q nL D cl cy A H0 ad sh (pc, ls, st, mem) := by
  obtain ⟨v, r, ls', hs, hi, hst, rfl⟩ := am_so1_inv h
  simp only at hs hst
  subst hs
  intro H locs L hP hD hS hl hn
  obtain ⟨g1, g2⟩ := am_st1_len hst
  simp only at hn
  have hin : i < nL := by omega
  rcases hd with ⟨rfl, hd⟩ | ⟨rfl, hd⟩
  · obtain ⟨y, rfl⟩ := am_is0 hi
    rcases hd with ⟨rfl, hd⟩ | ⟨rfl, f, hf, hd⟩
    · exact lv_istore hx hb hd hl hin rfl fun L' hl' => kk H locs L' hP hD hS (am_st1_has hst hl') (by simp only; omega)
    · exact lv_istore_n hx hb hd hf hl hin rfl fun L' hl' => kk H locs L' hP hD hS (am_st1_has hst hl') (by simp only; omega)
  · rcases am_is3 hi with rfl | ⟨y, rfl⟩
    · rcases hd with ⟨rfl, hd⟩ | ⟨rfl, f, hf, hd⟩
      · exact lv_astoreN hx hb hd hl hin rfl fun L' hl' => kk H locs L' hP hD hS (am_st1_has hst hl') (by simp only; omega)
      · exact lv_astore_nN hx hb hd hf hl hin rfl fun L' hl' => kk H locs L' hP hD hS (am_st1_has hst hl') (by simp only; omega)
    · rcases hd with ⟨rfl, hd⟩ | ⟨rfl, f, hf, hd⟩
      · exact lv_astore hx hb hd hl hin rfl fun L' hl' => kk H locs L' hP hD hS (am_st1_has hst hl') (by simp only; omega)
      · exact lv_astore_n hx hb hd hf hl hin rfl fun L' hl' => kk H locs L' hP hD hS (am_st1_has hst hl') (by simp only; omega)
set_option maxHeartbeats 4000000 in
set_option maxRecDepth 100000 in
theorem am_so2W (hx : p.tables.exec = Jvm.exec) (hb : c.code = cc) {pc len i k : Nat} {ls : List (Option Value)} {st : List Value} {mem : am_M} {x : am_C}
    (h : am_so2 (pc, ls, st, mem) len i k = some x)
    (hd : (k = 1 ∧ ((len = 2 ∧ decode cc pc = .ok (.lstore i, 2)) ∨ (len = 1 ∧ ∃ f : Fin 4, (f : Nat) = i ∧ decode cc pc = .ok (.lstore_n f, 1)))) ∨ (k = 2 ∧ ((len = 2 ∧ decode cc pc = .ok (.dstore i, 2)) ∨ (len = 1 ∧ ∃ f : Fin 4, (f : Nat) = i ∧ decode cc pc = .ok (.dstore_n f, 1)))))
    (kk : am_Ws p l e R s m args below meth c cells slots Q nL D cl cy A H0 ad sh x) : am_Ws p l e R s m args below meth c cells slots Q nL D cl cy A H0 ad sh (pc, ls, st, mem) := by
  obtain ⟨v, r, ls', hs, hi, hst, rfl⟩ := am_so2_inv h
  simp only at hs hst
  subst hs
  intro H locs L hP hD hS hl hn
  obtain ⟨g1, g2⟩ := am_st2_len hst
  simp only at hn
  have hin : i + 1 < nL := by omega
  rcases hd with ⟨rfl, hd⟩ | ⟨rfl, hd⟩
  · obtain ⟨y, rfl⟩ := am_is1 hi
    rcases hd with ⟨rfl, hd⟩ | ⟨rfl, f, hf, hd⟩
    · exact lv_lstore hx hb hd hl hin rfl fun L' hl' => kk H locs L' hP hD hS (am_st2_has hst hl') (by simp only; omega)
    · exact lv_lstore_n hx hb hd hf hl hin rfl fun L' hl' => kk H locs L' hP hD hS (am_st2_has hst hl') (by simp only; omega)
  · obtain ⟨y, rfl⟩ := am_is2 hi
    rcases hd with ⟨rfl, hd⟩ | ⟨rfl, f, hf, hd⟩
    · exact lv_dstore hx hb hd hl hin rfl fun L' hl' => kk H locs L' hP hD hS (am_st2_has hst hl') (by simp only; omega)
    · exact lv_dstore_n hx hb hd hf hl hin rfl fun L' hl' => kk H locs L' hP hD hS (am_st2_has hst hl') (by simp only; omega)
end AMW
