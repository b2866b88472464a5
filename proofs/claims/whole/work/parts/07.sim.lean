/-! ===== whole methods: what the small machine answers, the machine answers ===== -/
def am_A (ad : Nat → Nat) (n sz : Nat) : Nat → Prop := fun q => (∃ k, k < n ∧ q = ad k) ∨ sz ≤ q
abbrev am_N : Type := MethodName × ByteArray × Nat × Option FieldType
def am_rm (d : Nat) : Room := { frames := d, cells := 0, slots := 0, locals := 64 * d }
def am_Pc (D : va_G) (cl : List vw_C) (cy : Nat → ClassId) (ad : Nat → Nat) (sh : am_Sh) (Ex : State → Prop) (sz : Nat) (as : List Value) (mem : am_M) : Array Value → State → Prop :=
  va_Pc (as.map (am_cv ad)) (fun U => U.heap.size = sz ∧ va_P D cl (am_W cy ad sh mem) U.heap ∧ va_K D cl (am_tys cy) U ∧ va_D (am_A ad sh.length sz) (am_W cy ad sh mem) ∧ Ex U)
def am_Qc (D : va_G) (cl : List vw_C) (cy : Nat → ClassId) (ad : Nat → Nat) (sh : am_Sh) (sz : Nat) (r : am_R) : Array Value → State → Outcome → State → Prop := fun _ st oc t =>
  oc = .returned (r.1.map (am_cv ad)) ∧ va_P D cl (am_W cy ad sh r.2) t.heap ∧ va_F (am_A ad sh.length sz) st t
def am_ws (UW : List Cond) (nm : am_N) : List Cond := .code nm.1 nm.2.1 nm.2.2.1 nm.2.2.2 :: UW
/-- the contract that an answer of the small machine gives -/
def am_Mt (l : Launch) (D : va_G) (cl : List vw_C) (cy : Nat → ClassId) (ad : Nat → Nat) (sh : am_Sh) (Ex : State → Prop) (UW : List Cond) (nm : am_N) (d : Nat) (as : List Value) (mem : am_M) (r : am_R) : Prop :=
  ∀ sz, Met l nm.1 (am_ws UW nm) (am_rm d) (am_Pc D cl cy ad sh Ex sz as mem) (am_Qc D cl cy ad sh sz r) 0 0 (am_A ad sh.length sz)
/-- what is kept of a state's other cells -/
def am_Exk (ad : Nat → Nat) (n : Nat) (Ex : State → Prop) : Prop := ∀ s U : State, Ex s → s.vm.Alike U.vm → s.heap.size ≤ U.heap.size → (∀ q : Nat, q < s.heap.size → ¬ am_A ad n s.heap.size q → U.heap[q]? = s.heap[q]?) → Ex U
def am_nest : Cond → Bool
  | .fieldLinkNest .. => true
  | .methodLinkNest .. => true
  | _ => false
def am_uw (UW : List Cond) : Prop := ∀ w ∈ UW, goodWord w = true ∨ am_nest w = true
theorem am_uw_at {UW : List Cond} {args a' : Array Value} {s U : State} (hu : am_uw UW) (hts : ∀ w ∈ UW, w.before args s = true) (hW : s.WarmedH U.vm) : ∀ w ∈ UW, w.before a' U = true := by
  intro w hw
  rcases hu w hw with h | h
  · exact word_at hW (good_of_word h) (hts w hw)
  · cases w <;> first | (simp [am_nest] at h; done) | skip
    · exact (va_Nw.warmM hW (va_Nw.of rfl (hts _ hw))).use rfl
    · exact (va_Nw.warmF hW (va_Nw.of rfl (hts _ hw))).use rfl
/-- what must hold of a call's numbers -/
def am_ck (own : String) (cl : List vw_C) (UW : List Cond) (Nm : Nat → Option am_N) (q : am_Q) : Prop := match q.1 with
  | .invokevirtual i => (match q.2.2 with
    | j :: n :: vi :: ci :: nest :: _ => q.2.1 = 3 ∧ vi = 1 ∧ ∃ nm, Nm j = some nm ∧ (match nest with | 0 => Cond.methodLink own i nm.1 ∈ UW | _ => Cond.methodLinkNest own i nm.1 am_host ∈ UW) ∧ Cond.instanceMethod nm.1 ∈ UW ∧ Cond.selects nm.1.cls nm.1 nm.1 ∈ UW ∧ (∃ r, cl[ci]? = some r ∧ r.1 = nm.1.cls) ∧ (parseMethodDescriptor nm.1.desc).map (fun d => d.parameters.length + 1) = some n
    | _ => False)
  | .invokestatic i => (match q.2.2 with
    | j :: n :: vi :: _ :: nest :: _ => q.2.1 = 3 ∧ vi = 0 ∧ ∃ nm, Nm j = some nm ∧ (match nest with | 0 => Cond.methodLink own i nm.1 ∈ UW | _ => Cond.methodLinkNest own i nm.1 am_host ∈ UW) ∧ Cond.static nm.1 ∈ UW ∧ (parseMethodDescriptor nm.1.desc).map (fun d => d.parameters.length) = some n
    | _ => False)
  | _ => True
/-- what must hold of every method that has a name -/
def am_nk (UW : List Cond) (nm : am_N) : Prop := plainFor nm.1 = true ∧ nm.2.2.1 ≤ 45 ∧ Cond.code nm.1 nm.2.1 nm.2.2.1 nm.2.2.2 ∈ UW ∧ Cond.initialized nm.1.cls ∈ UW ∧ nm.1.cls ≠ "java/lang/invoke/MethodHandle" ∧ nm.1.cls ≠ "java/lang/invoke/VarHandle"
def am_rk (t : Option FieldType) (k : Nat) : Bool := match t, k with
  | none, 0 => true
  | some .int, 1 => true
  | some .boolean, 2 => true
  | some .long, 3 => true
  | some .double, 4 => true
  | _, _ => false
/-- the tables of methods are right -/
def am_yk (cl : List vw_C) (UW : List Cond) (Nm : Nat → Option am_N) (Ys : Nat → Option am_Y) : Prop := ∀ j y, Ys j = some y → ∃ nm, Nm j = some nm ∧ nm.2.2.1 = y.2.1 ∧ am_rk nm.2.2.2 y.2.2 = true ∧ ∀ pc q, y.1 pc = some q → decode nm.2.1 pc = .ok (q.1, q.2.1) ∧ am_lk nm.1.cls cl UW pc q ∧ am_ck nm.1.cls cl UW Nm q
theorem am_W_ad {cy : Nat → ClassId} {ad : Nat → Nat} {sh : am_Sh} {m m' : am_M} {A : Nat → Prop} (h : va_D A (am_W cy ad sh m)) : va_D A (am_W cy ad sh m') := by
  have key : ∀ (k : Nat) (q : Nat × va_E), (am_W cy ad sh m')[k]? = some q → ∃ q', (am_W cy ad sh m)[k]? = some q' ∧ q'.1 = q.1 := by
    intro k q hq
    unfold am_W at hq ⊢
    rw [List.getElem?_map] at hq ⊢
    cases hr : (List.range sh.length)[k]? with
    | none => rw [hr] at hq; cases hq
    | some j =>
      rw [hr] at hq
      cases hq
      exact ⟨_, rfl, rfl⟩
  refine ⟨fun i j a b ha hb hab => ?_, fun k q hq => ?_⟩
  · obtain ⟨a', ha', ea⟩ := key i a ha
    obtain ⟨b', hb', eb⟩ := key j b hb
    exact h.1 i j a' b' ha' hb' (by rw [ea, eb]; exact hab)
  · obtain ⟨q', hq', e⟩ := key k q hq
    rw [← e]
    exact h.2 k q' hq'
theorem am_W_own {cy : Nat → ClassId} {ad : Nat → Nat} {sh : am_Sh} {m : am_M} {A : Nat → Prop} (h : va_D A (am_W cy ad sh m)) (sz : Nat) : va_D (am_A ad sh.length sz) (am_W cy ad sh m) := by
  refine ⟨h.1, fun k q hq => ?_⟩
  unfold am_W at hq
  rw [List.getElem?_map] at hq
  cases hr : (List.range sh.length)[k]? with
  | none => rw [hr] at hq; cases hq
  | some j =>
    rw [hr] at hq
    cases hq
    obtain ⟨h1, h2⟩ := List.getElem?_eq_some_iff.mp hr
    exact Or.inl ⟨j, by simp at h1 h2; omega, rfl⟩
theorem am_W_in {cy : Nat → ClassId} {ad : Nat → Nat} {sh : am_Sh} {m : am_M} {A : Nat → Prop} (h : va_D A (am_W cy ad sh m)) {k : Nat} (hk : k < sh.length) : A (ad k) := by
  obtain ⟨x, hx⟩ : ∃ x, sh[k]? = some x := ⟨_, List.getElem?_eq_getElem hk⟩
  exact h.2 k _ (am_W_at hx)
section AMC
variable {p : Program} {l : Launch} {e : Env} {R : Room} {s : State} {m : MethodId} {args : Array Value} {below : List Frame} {meth : Method} {c : Code} {cells slots : Nat} {Q : State → Prop} {cc : ByteArray} {nL : Nat} {D : va_G} {cl : List vw_C} {cy : Nat → ClassId} {A : Nat → Prop} {H0 : Heap} {ad : Nat → Nat} {sh : am_Sh} {Ts : List Cond} {Ex : State → Prop}
/-- behind a call whose contract is the small machine's -/
theorem am_call {pc : Nat} {ls : Array Slot} {st0 rest : List Value} {a : Array Value} {H : Heap} {locs : List Loc} {r : am_R} {mem : am_M} (hr : va_Run p l e R s m args below meth c H locs cells slots 0 0 (F0 m pc ls st0) rest (am_Qc D cl cy ad sh H.size r a) (am_A ad sh.length H.size)) (hS : va_S A H0 H locs) (hD : va_D A (am_W cy ad sh mem)) (hA : ∀ q, H0.size ≤ q → A q)
    (kk : ∀ (H1 : Heap) (locs1 : List Loc), va_P D cl (am_W cy ad sh r.2) H1 → va_D A (am_W cy ad sh r.2) → va_S A H0 H1 locs1 → W p l e R s m args below meth c H1 locs1 cells slots Q (F0 m (pc + 3) ls ((r.1.map (am_cv ad)).toList ++ rest))) : W p l e R s m args below meth c H locs cells slots Q (F0 m pc ls st0) := by
  have hsub : ∀ q, am_A ad sh.length H.size q → A q := by
    rintro q (⟨k, hk, rfl⟩ | h)
    · exact am_W_in hD hk
    · exact hA q (Nat.le_trans hS.1 h)
  intro T hT X
  obtain ⟨v, st₀, t, T', L, h0, X', hL, e1, e2, ⟨hv, hP1, hz, hk⟩, st⟩ := hr T hT X
  cases hv
  rw [h0] at hz hk
  obtain ⟨t2, a1, b1⟩ := kk T'.heap (locs ++ L) (by rw [e1]; exact hP1) (am_W_ad hD)
    ⟨Nat.le_trans hS.1 (by rw [e1]; exact hz), fun q h1 h2 => by rw [e1, hk q (Nat.lt_of_lt_of_le h1 hS.1) (fun z => h2 (hsub q z))]; exact hS.2.1 q h1 h2, fun q hq => by
      rcases List.mem_append.mp hq with h | h
      · exact hS.2.2 q h
      · exact hsub _ (hL q h)⟩ T' rfl X'
  exact ⟨t2, st t2 a1, b1⟩
end AMC
