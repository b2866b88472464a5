section ANC
variable {p : Program} {l : Launch} {e : Env} {s : State} {m : MethodId} {args : Array Value} {below : List Frame} {meth : Method} {c : Code} {Q : State → Prop} {cc : ByteArray} {nL : Nat} {D : va_G} {cl : List vw_C} {cy : Nat → ClassId} {A : Nat → Prop} {ad : Nat → Nat} {sh : am_Sh} {own : String} {UW : List Cond} {Ex : State → Prop} {Nm : Nat → Option am_N}
set_option maxHeartbeats 4000000 in
set_option maxRecDepth 100000 in
/-- a call of the small machine, from a larger room -/
theorem an_invW (hx : p.tables.exec = Jvm.exec) (hb : c.code = cc) (hml : c.maxLocals = nL) (hown : s.vm.findClass own = some m.cls) (hts : ∀ w ∈ UW, w.before args s = true) (hu : am_uw UW) (hK : va_K D cl (am_tys cy) s) (hE : am_Exk ad sh.length Ex) (hEs : Ex s) {R : Room} {cells slots d0 : Nat} (hRf : d0 + 1 ≤ R.frames) (hRl : 64 * (d0 + 1) ≤ R.locals) (hRc : cells ≤ R.cells) (hRs : slots ≤ R.slots) (hA : ∀ q : Nat, q < s.heap.size → ¬ am_A ad sh.length s.heap.size q → ¬ A q) (hAs : ∀ q : Nat, s.heap.size ≤ q → A q)
    (hnk : ∀ j nm, Nm j = some nm → am_nk UW nm)
    {call : Nat → List Value → am_M → Option am_R} (hcall : ∀ j as mem r nm, call j as mem = some r → Nm j = some nm → am_Mt l D cl cy ad sh Ex UW nm d0 as mem r)
    {pc : Nat} {q : am_Q} {ls : List (Option Value)} {st : List Value} {mem : am_M} {x : am_C} (hd : decode cc pc = .ok (q.1, q.2.1)) (hck : am_ck own cl UW Nm q) (hq : (∃ i, q.1 = .invokevirtual i) ∨ ∃ i, q.1 = .invokestatic i) (h : am_inv sh call q (pc, ls, st, mem) = some x)
    (kk : am_Ws p l e R s m args below meth c cells slots Q nL D cl cy A s.heap ad sh x) : am_Ws p l e R s m args below meth c cells slots Q nL D cl cy A s.heap ad sh (pc, ls, st, mem) := by
  obtain ⟨j, n, vi, ci, rs, r, hinfo, hn, hW8, hrecv, hc, rfl⟩ := am_inv_inv h
  simp only at hn hW8 hrecv hc
  obtain ⟨ins, len, info⟩ := q
  simp only at hinfo hd
  subst hinfo
  intro H locs L hP hD hS hl hnl
  have hst : st.map (am_cv ad) = ((st.take n).reverse.map (am_cv ad)).reverse ++ (st.drop n).map (am_cv ad) := by
    rw [← List.map_reverse, List.reverse_reverse, ← List.map_append, List.take_append_drop]
  have hW9 : (((st.drop n).map (am_cv ad)).map fun v => v.category).sum ≤ 8 := by
    have : (((st.drop n).map (am_cv ad)).map fun v => v.category) = ((st.drop n).map fun v => v.category) := by
      rw [List.map_map]
      apply List.map_congr_left
      intro v _
      exact am_cv_cat ad v
    rw [this]
    exact hW8
  have hPre : ∀ U : State, U.heap = H → s.WarmedH U.vm → am_Pc D cl cy ad sh Ex H.size (st.take n).reverse mem (((st.take n).reverse.map (am_cv ad)).toArray) U := by
    intro U hU hWm
    refine ⟨rfl, by rw [hU], by rw [hU]; exact hP, va_K.moved hWm.alike hK, am_W_own hD _, hE s U hEs hWm.alike (by rw [hU]; exact hS.1) (fun q h1 h2 => by rw [hU]; exact hS.2.1 q h1 (hA q h1 h2))⟩
  have k3 : ∀ (H1 : Heap) (locs1 : List Loc), va_P D cl (am_W cy ad sh r.2) H1 → va_D A (am_W cy ad sh r.2) → va_S A s.heap H1 locs1 → W p l e R s m args below meth c H1 locs1 cells slots Q (F0 m (pc + 3) L ((r.1.map (am_cv ad)).toList ++ (st.drop n).map (am_cv ad))) := by
    intro H1 locs1 hP1 hD1 hS1
    have k2 := kk H1 locs1 L hP1 hD1 hS1 hl hnl
    have e1 : (r.1.toList ++ st.drop n).map (am_cv ad) = (r.1.map (am_cv ad)).toList ++ (st.drop n).map (am_cv ad) := by
      rw [List.map_append]
      cases r.1 <;> rfl
    rw [← e1]
    exact k2
  rcases hq with ⟨i, hi⟩ | ⟨i, hi⟩
  · simp only at hi
    subst hi
    simp only [am_ck] at hck
    cases rs with
    | nil => exact absurd hck (by simp)
    | cons nest rs =>
      obtain ⟨h3, hvi, nm, hnm, hlk, hin, hsel, ⟨r0, hr0, hr0c⟩, hpar⟩ := hck
      have hlen : len = 3 := h3
      subst hlen
      obtain ⟨a, As, ks, has, hsa⟩ := hrecv (by omega)
      obtain ⟨hpl, hmx, hcd, hini, hn1, hn2⟩ := hnk j nm hnm
      have hM := hcall j _ mem r nm hc hnm H.size
      have hlenA : (st.take n).reverse.length = n := by simp; omega
      have hAl : As.length + 1 = n := by rw [has] at hlenA; simpa using hlenA
      have hstk : st.map (am_cv ad) = (As.map (am_cv ad)).reverse ++ .ref (ad a) :: (st.drop n).map (am_cv ad) := by
        rw [hst, has]
        simp [am_cv]
      have hrc := va_recv hK hP hr0 (am_W_at (cy := cy) (ad := ad) (m := mem) hsa)
      rw [hr0c] at hrc
      have hparm : ∀ sig, parseMethodDescriptor nm.1.desc = some sig → As.length = sig.parameters.length := by
        intro sig hsig
        rw [hsig] at hpar
        simp only [Option.map_some, Option.some.injEq] at hpar
        omega
      rw [has] at hPre hM
      have hp : PreV s H nm.1.cls (ad a) (am_Pc D cl cy ad sh Ex H.size (.ref a :: As) mem) (As.map (am_cv ad)) := ⟨am_Pc_blind hE, hrc, fun U hU hWm => hPre U hU hWm⟩
      have hwsall : ∀ w ∈ am_ws UW nm, ∀ (a' : Array Value) (U : State), s.WarmedH U.vm → w.before a' U = true := by
        intro w hw a' U hWm
        rcases List.mem_cons.mp hw with rfl | hw
        · exact am_uw_at hu hts hWm _ hcd
        · exact am_uw_at hu hts hWm _ hw
      refine am_call (mem := mem) (r := r) (st0 := st.map (am_cv ad)) (rest := (st.drop n).map (am_cv ad)) (a := (Value.ref (ad a) :: As.map (am_cv ad)).toArray) ?_ hS hD hAs k3
      cases nest with
      | zero =>
        exact va_runV (n := As.length) (nL := nL) (C := nm.1.cls) (bytes := nm.2.1) (maxL := nm.2.2.1) (ret := nm.2.2.2) ⟨hx, hb, hml, hown, hts⟩ hM ⟨⟨rfl, rfl, hRf, by show 8 + (nm.2.2.1 + 11) + 64 * d0 ≤ R.locals; omega, hwsall, List.mem_cons_self, hts _ hcd, hts _ hini, ⟨hn1, hn2⟩, hparm, hts _ hlk⟩, hts _ hin, hts _ hsel⟩ hp rfl (by simp) hl.1 hstk (lv_room hW9) hd ⟨hRc, hRs⟩
      | succ _ =>
        exact va_runVN (n := As.length) (nL := nL) (C := nm.1.cls) (bytes := nm.2.1) (maxL := nm.2.2.1) (ret := nm.2.2.2) ⟨hx, hb, hml, hown, hts⟩ hM ⟨⟨⟨rfl, rfl, hRf, by show 8 + (nm.2.2.1 + 11) + 64 * d0 ≤ R.locals; omega, hwsall, List.mem_cons_self⟩, hts _ hcd, hts _ hini, ⟨hn1, hn2⟩, hparm, hts _ hlk⟩, hts _ hin, hts _ hsel⟩ hp rfl (by simp) hl.1 hstk (lv_room hW9) hd ⟨hRc, hRs⟩
  · simp only at hi
    subst hi
    simp only [am_ck] at hck
    cases rs with
    | nil => exact absurd hck (by simp)
    | cons nest rs =>
      obtain ⟨h3, hvi, nm, hnm, hlk, hin, hpar⟩ := hck
      have hlen : len = 3 := h3
      subst hlen
      obtain ⟨hpl, hmx, hcd, hini, hn1, hn2⟩ := hnk j nm hnm
      have hM := hcall j _ mem r nm hc hnm H.size
      have hlenA : (st.take n).reverse.length = n := by simp; omega
      have hparm : ∀ sig, parseMethodDescriptor nm.1.desc = some sig → n = sig.parameters.length := by
        intro sig hsig
        rw [hsig] at hpar
        simp only [Option.map_some, Option.some.injEq] at hpar
        omega
      have hp : PreS s H (am_Pc D cl cy ad sh Ex H.size (st.take n).reverse mem) ((st.take n).reverse.map (am_cv ad)) := ⟨am_Pc_blind hE, fun U hU hWm => hPre U hU hWm⟩
      have hwsall : ∀ w ∈ am_ws UW nm, ∀ (a' : Array Value) (U : State), s.WarmedH U.vm → w.before a' U = true := by
        intro w hw a' U hWm
        rcases List.mem_cons.mp hw with rfl | hw
        · exact am_uw_at hu hts hWm _ hcd
        · exact am_uw_at hu hts hWm _ hw
      refine am_call (mem := mem) (r := r) (st0 := st.map (am_cv ad)) (rest := (st.drop n).map (am_cv ad)) (a := ((st.take n).reverse.map (am_cv ad)).toArray) ?_ hS hD hAs k3
      cases nest with
      | zero =>
        exact va_runS (n := n) (nL := nL) (bytes := nm.2.1) (maxL := nm.2.2.1) (ret := nm.2.2.2) ⟨hx, hb, hml, hown, hts⟩ hM ⟨⟨rfl, rfl, hRf, by show 8 + (nm.2.2.1 + 11) + 64 * d0 ≤ R.locals; omega, hwsall, List.mem_cons_self, hts _ hcd, hts _ hini, ⟨hn1, hn2⟩, hparm, hts _ hlk⟩, hts _ hin⟩ hp rfl (by rw [List.length_map]; exact hlenA) hl.1 hst (lv_room hW9) hd ⟨hRc, hRs⟩
      | succ _ =>
        exact va_runSN (n := n) (nL := nL) (bytes := nm.2.1) (maxL := nm.2.2.1) (ret := nm.2.2.2) ⟨hx, hb, hml, hown, hts⟩ hM ⟨⟨⟨rfl, rfl, hRf, by show 8 + (nm.2.2.1 + 11) + 64 * d0 ≤ R.locals; omega, hwsall, List.mem_cons_self⟩, hts _ hcd, hts _ hini, ⟨hn1, hn2⟩, hparm, hts _ hlk⟩, hts _ hin, trivial⟩ hp rfl (by rw [List.length_map]; exact hlenA) hl.1 hst (lv_room hW9) hd ⟨hRc, hRs⟩
end ANC
/-! a constructor's numbers -/
def an_atk (a : ArrayType) (k : Nat) : Bool := match a, k with
  | .int, 0 => true
  | .long, 1 => true
  | .double, 2 => true
  | .boolean, 4 => true
  | _, _ => false
def an_lk (own : String) (UW : List Cond) (pc : Nat) (q : am_Q) : Prop := match q.1 with
  | .putfield i => q.2.1 = 3 ∧ (match q.2.2 with
    | ci :: k :: nest :: _ => ∃ r, am_cl[ci]? = some r ∧ ((r.2.1 k).2.2.2 = false ∨ (nest = 0 ∧ (r.2.1 k).1 = own ∧ (r.2.1 k).2.2.2 = true)) ∧ am_fl own i r k nest ∈ UW
    | _ => False)
  | .new _ => True
  | .newarray _ => True
  | .invokespecial _ => True
  | _ => am_lk own am_cl UW pc q
def an_ck (own : String) (UW : List Cond) (Nc : Nat → Option am_N) (q : am_Q) : Prop := match q.1 with
  | .new i => q.2.1 = 3 ∧ (match q.2.2 with
    | ci :: _ => ∃ r, am_cl[ci]? = some r ∧ Cond.classLink own i r.1 ∈ UW ∧ Cond.instantiable r.1 r.2.2 ∈ UW ∧ Cond.initialized r.1 ∈ UW
    | _ => False)
  | .newarray a => q.2.1 = 2 ∧ (match q.2.2 with
    | k :: _ => an_atk a k = true ∧ Cond.arrayClass (newarray.typeOf a) ∈ UW
    | _ => False)
  | .invokespecial i => q.2.1 = 3 ∧ (match q.2.2 with
    | j :: nn :: nest :: _ => ∃ nm, Nc j = some nm ∧ (match nest with | 0 => Cond.methodLink own i nm.1 ∈ UW | _ => Cond.methodLinkNest own i nm.1 am_host ∈ UW) ∧ Cond.instanceMethod nm.1 ∈ UW ∧ nm.1.name = "<init>" ∧ nm.2.2.2 = none ∧ (parseMethodDescriptor nm.1.desc).map (fun d => d.parameters.length + 1) = some nn
    | [] => Cond.methodLink own i Lib.objectInit ∈ UW ∧ Cond.instanceMethod Lib.objectInit ∈ UW ∧ Cond.code Lib.objectInit ⟨#[0xb1]⟩ 1 none ∈ UW
    | _ => False)
  | _ => True
def an_rm (d mc ms : Nat) : Room := { frames := d, cells := mc, slots := ms, locals := 64 * d }
def an_Pc (D : va_G) (cy : Nat → ClassId) (ad : Nat → Nat) (sz : Nat) (as : List Value) (sh : am_Sh) (mem : am_M) : Array Value → State → Prop :=
  va_Pc (as.map (am_cv ad)) (fun U => U.heap.size = sz ∧ va_P D am_cl (am_W cy ad sh mem) U.heap ∧ va_K D am_cl (am_tys cy) U ∧ va_D (am_A ad sh.length sz) (am_W cy ad sh mem))
def an_Qc (D : va_G) (cy : Nat → ClassId) (ad : Nat → Nat) (sz : Nat) (sh : am_Sh) (r : an_R) : Array Value → State → Outcome → State → Prop := fun _ st oc t =>
  (oc = .returned none ∧ ∃ ad' : Nat → Nat, (∀ k, k < sh.length → ad' k = ad k) ∧ va_P D am_cl (am_W cy ad' r.1 r.2) t.heap ∧ va_D (am_A ad sh.length sz) (am_W cy ad' r.1 r.2)) ∧ va_F (am_A ad sh.length sz) st t
def an_Mt (l : Launch) (D : va_G) (cy : Nat → ClassId) (UW : List Cond) (nm : am_N) (d : Nat) (as : List Value) (sh : am_Sh) (mem : am_M) (r : an_R) : Prop :=
  ∀ (ad : Nat → Nat) (sz : Nat), Met l nm.1 (am_ws UW nm) (an_rm d (r.1.length - sh.length) (am_sz r.1 - am_sz sh)) (an_Pc D cy ad sz as sh mem) (an_Qc D cy ad sz sh r) (r.1.length - sh.length) (am_sz r.1 - am_sz sh) (am_A ad sh.length sz)
