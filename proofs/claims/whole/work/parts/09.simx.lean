section AMC
variable {p : Program} {l : Launch} {e : Env} {s : State} {m : MethodId} {args : Array Value} {below : List Frame} {meth : Method} {c : Code} {cc : ByteArray} {nL : Nat} {D : va_G} {cl : List vw_C} {cy : Nat → ClassId} {A : Nat → Prop} {ad : Nat → Nat} {sh : am_Sh} {own : String} {UW : List Cond} {Ex : State → Prop} {Nm : Nat → Option am_N}
/-- a contract out of a walk, by the method's own name (java.lang.Math has natives beside) -/
theorem am_ofW {y : MethodName} {ws ws' : List Cond} {rm : Room} {Pc : Array Value → State → Prop} {Qc : Array Value → State → Outcome → State → Prop} {mc ms : Nat} {free : Addr → Prop} {maxL : Nat} {ret : Option FieldType}
    (hy : plainFor y = true) (hw : ws = Cond.code y cc maxL ret :: ws')
    (body : ∀ p e s m args below meth c s₁, BodyLoose p l y (headSpec ws rm) cc maxL ret e s m args below meth c s₁ → c.maxLocals = maxL → Pc args s →
      W p l e (headSpec ws rm).room s m args below meth c s.heap [] 0 0 (MQ below Qc args s mc ms free) (entryFrame m args maxL)) : Met l y ws rm Pc Qc mc ms free := by
  refine MetFree.of_bodySF (code := cc) (maxLocals := maxL) (ret := ret) hy ?_ ?_
  · intro args s m h hn
    obtain ⟨meth, c, h1, h2, h3, h4, h5, h6, -, -⟩ := Cond.code_spec hn (atoms_spec (ws := ws) h _ (by rw [hw]; exact List.mem_cons_self))
    exact ⟨meth, c, h1, h2, h3, h4, h5, h6⟩
  · intro p e s m args below meth c s₁ B hml hP _
    have hh0 : s₁.heap = s.heap := by rw [B.state]; rfl
    obtain ⟨t, a1, o, b1, b2, b3⟩ := body p e s m args below meth c s₁ B hml hP s₁ hh0 (Stand.of_body B)
    exact ⟨t, o, a1, b1, b2, ⟨b3.1, b3.2⟩⟩
theorem am_rokz {x : Int32} (h : (x == 0 || x == 1) = true) : narrow .boolean (.int x) = .int x := by
  simp only [Bool.or_eq_true, beq_iff_eq] at h
  rcases h with rfl | rfl <;> decide +kernel
set_option maxHeartbeats 4000000 in
set_option maxRecDepth 100000 in
theorem am_goW (hx : p.tables.exec = Jvm.exec) (hb : c.code = cc) (hml : c.maxLocals = nL) (hown : s.vm.findClass own = some m.cls) (hts : ∀ w ∈ UW, w.before args s = true) (hu : am_uw UW) (hK : va_K D cl (am_tys cy) s) (hE : am_Exk ad sh.length Ex) (hEs : Ex s) (hA : A = am_A ad sh.length s.heap.size) (hcl : am_cls cl UW) (hsk : am_shk cl sh) (hlocks : meth.locks = false)
    (hnk : ∀ j nm, Nm j = some nm → am_nk UW nm) {ft : Option FieldType} {ret : Nat} (hr : meth.sig.returnType = ft) (hrk : am_rk ft ret = true)
    {call : Nat → List Value → am_M → Option am_R} {d : Nat} (hcall : ∀ j as mem r nm, call j as mem = some r → Nm j = some nm → am_Mt l D cl cy ad sh Ex UW nm d as mem r)
    {Cd : Nat → Option am_Q} (hCd : ∀ pc q, Cd pc = some q → decode cc pc = .ok (q.1, q.2.1) ∧ am_lk own cl UW pc q ∧ am_ck own cl UW Nm q) {r : am_R} :
    ∀ (n : Nat) (x : am_C), am_go Cd sh ret call n x = some r → am_Ws p l e (am_rm (d + 1)) s m args below meth c 0 0 (MQ below (am_Qc D cl cy ad sh s.heap.size r) args s 0 0 (am_A ad sh.length s.heap.size)) nL D cl cy A s.heap ad sh x := by
  intro n
  induction n with
  | zero => intro x h; cases h
  | succ n ih =>
    intro x h
    obtain ⟨pc, ls, st, mem⟩ := x
    have hstep : ∀ q, Cd pc = some q → (match am_step sh q (pc, ls, st, mem) with | some c' => am_go Cd sh ret call n c' | none => none) = some r → am_Ws p l e (am_rm (d + 1)) s m args below meth c 0 0 (MQ below (am_Qc D cl cy ad sh s.heap.size r) args s 0 0 (am_A ad sh.length s.heap.size)) nL D cl cy A s.heap ad sh (pc, ls, st, mem) := by
      intro q hq h2
      split at h2
      · next c' hc' => exact am_stepW hx hb hown hts hK hcl hsk (hCd pc q hq).1 (hCd pc q hq).2.1 hc' (ih c' h2)
      · cases h2
    have hinv : ∀ q, Cd pc = some q → ((∃ i, q.1 = .invokevirtual i) ∨ ∃ i, q.1 = .invokestatic i) → (match am_inv sh call q (pc, ls, st, mem) with | some c' => am_go Cd sh ret call n c' | none => none) = some r → am_Ws p l e (am_rm (d + 1)) s m args below meth c 0 0 (MQ below (am_Qc D cl cy ad sh s.heap.size r) args s 0 0 (am_A ad sh.length s.heap.size)) nL D cl cy A s.heap ad sh (pc, ls, st, mem) := by
      intro q hq hi h2
      split at h2
      · next c' hc' => exact am_invW hx hb hml hown hts hu hK hE hEs hA hnk hcall (hCd pc q hq).1 (hCd pc q hq).2.2 hi hc' (ih c' h2)
      · cases h2
    have hpost : ∀ (H : Heap) (locs : List Loc) (v : Option Value), r = (v, mem) → va_P D cl (am_W cy ad sh mem) H → va_S A s.heap H locs → ∀ t : State, t.heap = H → s.WarmedH t.vm → am_Qc D cl cy ad sh s.heap.size r args s (.returned (v.map (am_cv ad))) t := by
      intro H locs v hv hP hS t ht hW
      subst hv
      exact ⟨rfl, by rw [ht]; exact hP, by rw [← hA]; exact hS.F ht⟩
    have hfree : ∀ (H : Heap) (locs : List Loc), va_S A s.heap H locs → ∀ q ∈ locs, am_A ad sh.length s.heap.size q.base := by
      intro H locs hS q hq
      rw [← hA]
      exact hS.2.2 q hq
    simp only [am_go] at h
    cases hq : Cd pc with
    | none => rw [hq] at h; cases h
    | some q =>
      rw [hq] at h
      simp only at h
      have hdec := (hCd pc q hq).1
      have hln := (hCd pc q hq).2.1.1
      obtain ⟨ins, len, info⟩ := q
      cases ins
      case ireturn =>
        have hlen : len = 1 := by
          rcases hln with z | z
          · cases z
          · exact z
        subst hlen
        simp only at h
        split at h
        · next v =>
          cases hok : am_rok ret v with
          | false => rw [hok] at h; cases h
          | true =>
            rw [hok] at h
            cases h
            intro H locs L hP hD hS hl hn
            unfold am_rok at hok
            split at hok
            · have e1 : ft = some .int := by
                cases ft with
                | none => simp [am_rk] at hrk
                | some t => cases t <;> simp [am_rk] at hrk ⊢
              exact W.iret hx hb (hr.trans e1) (hpost H locs (some (.int v)) rfl hP hS) (hfree H locs hS) hdec
            · have e1 : ft = some .boolean := by
                cases ft with
                | none => simp [am_rk] at hrk
                | some t => cases t <;> simp [am_rk] at hrk ⊢
              exact W.zret hx hb (hr.trans e1) (am_rokz hok) (hpost H locs (some (.int v)) rfl hP hS) (hfree H locs hS) hdec
            · cases hok
        · cases h
      case lreturn =>
        have hlen : len = 1 := by
          rcases hln with z | z
          · cases z
          · exact z
        subst hlen
        simp only at h
        split at h
        · next v =>
          cases h
          intro H locs L hP hD hS hl hn
          have e1 : ft = some .long := by
            cases ft with
            | none => simp [am_rk] at hrk
            | some t => cases t <;> simp [am_rk] at hrk ⊢
          exact W.lret hx hb (hr.trans e1) (hpost H locs (some (.long v)) rfl hP hS) (hfree H locs hS) hdec
        · cases h
      case dreturn =>
        have hlen : len = 1 := by
          rcases hln with z | z
          · cases z
          · exact z
        subst hlen
        simp only at h
        split at h
        · next v =>
          cases h
          intro H locs L hP hD hS hl hn
          have e1 : ft = some .double := by
            cases ft with
            | none => simp [am_rk] at hrk
            | some t => cases t <;> simp [am_rk] at hrk ⊢
          exact W.dret hx hb (hr.trans e1) (hpost H locs (some (.double v)) rfl hP hS) (hfree H locs hS) hdec
        · cases h
      case return_ =>
        have hlen : len = 1 := by
          rcases hln with z | z
          · cases z
          · exact z
        subst hlen
        simp only at h
        split at h
        · cases h
          intro H locs L hP hD hS hl hn
          have e1 : ft = none := by
            cases ft with
            | none => rfl
            | some t => cases t <;> simp [am_rk] at hrk
          exact W.vret hx hb (hr.trans e1) (hpost H locs none rfl hP hS) (hfree H locs hS) hdec
        · cases h
      case invokevirtual i => exact hinv _ hq (Or.inl ⟨i, rfl⟩) h
      case invokestatic i => exact hinv _ hq (Or.inr ⟨i, rfl⟩) h
      all_goals exact hstep _ hq h
theorem am_ent_len (ad : Nat → Nat) (vs : List Value) : (lg_sl (vs.map (am_cv ad))).length = (am_ent vs).length := by
  induction vs with
  | nil => rfl
  | cons v vs ih =>
    have e : lg_sl ((v :: vs).map (am_cv ad)) = (if (am_cv ad v).category = 2 then [Slot.val (am_cv ad v), .second] else [.val (am_cv ad v)]) ++ lg_sl (vs.map (am_cv ad)) := by simp [lg_sl]
    rw [e, am_cv_cat]
    by_cases hc : v.category = 2
    · simp [am_ent, hc, ih]
    · have hb : (v.category == 2) = false := by simpa using hc
      simp [am_ent, hc, hb, ih]
theorem am_ent_at (ad : Nat → Nat) : ∀ (vs : List Value) (pre : List (Option Value)) (i : Nat) (v : Value), (pre ++ am_ent vs)[i]? = some (some v) → pre.length ≤ i → (i, am_cv ad v) ∈ lv_args pre.length (vs.map (am_cv ad)) := by
  intro vs
  induction vs with
  | nil =>
    intro pre i v h hi
    rw [show am_ent [] = ([] : List (Option Value)) from rfl, List.append_nil] at h
    have := (List.getElem?_eq_some_iff.mp h).1
    omega
  | cons w vs ih =>
    intro pre i v h hi
    by_cases hc : w.category = 2
    · have e : am_ent (w :: vs) = some w :: none :: am_ent vs := by simp [am_ent, hc]
      rw [e] at h
      have e2 : lv_args pre.length ((w :: vs).map (am_cv ad)) = (pre.length, am_cv ad w) :: lv_args (pre.length + 2) (vs.map (am_cv ad)) := by simp [lv_args, am_cv_cat, hc]
      rw [e2]
      by_cases h0 : i = pre.length
      · subst h0
        rw [List.getElem?_append_right (Nat.le_refl _), Nat.sub_self] at h
        simp only [List.getElem?_cons_zero, Option.some.injEq] at h
        subst h
        exact List.mem_cons_self
      · by_cases h1 : i = pre.length + 1
        · subst h1
          rw [List.getElem?_append_right (by omega), Nat.add_sub_cancel_left] at h
          simp at h
        · refine List.mem_cons_of_mem _ ?_
          have := ih (pre ++ [some w, none]) i v (by rw [List.append_assoc]; exact h) (by simp; omega)
          simpa using this
    · have hb : (w.category == 2) = false := by simpa using hc
      have e : am_ent (w :: vs) = some w :: am_ent vs := by simp [am_ent, hb]
      rw [e] at h
      have e2 : lv_args pre.length ((w :: vs).map (am_cv ad)) = (pre.length, am_cv ad w) :: lv_args (pre.length + 1) (vs.map (am_cv ad)) := by simp [lv_args, am_cv_cat, hc]
      rw [e2]
      by_cases h0 : i = pre.length
      · subst h0
        rw [List.getElem?_append_right (Nat.le_refl _), Nat.sub_self] at h
        simp only [List.getElem?_cons_zero, Option.some.injEq] at h
        subst h
        exact List.mem_cons_self
      · refine List.mem_cons_of_mem _ ?_
        have := ih (pre ++ [some w]) i v (by rw [List.append_assoc]; exact h) (by simp; omega)
        simpa using this
theorem am_loc_has {n : Nat} {vs : List Value} {L : Array Slot} (h : lv_has L n (lv_args 0 (vs.map (am_cv ad)))) : lv_has L n (am_lv ad (am_loc n vs)) := by
  refine am_has_sub h fun q hq => ?_
  obtain ⟨i, u⟩ := q
  obtain ⟨v, hv, rfl⟩ := am_lv_mem.mp hq
  unfold am_loc at hv
  by_cases hi : i < (am_ent vs).length
  · rw [List.getElem?_append_left hi] at hv
    exact am_ent_at ad vs [] i v hv (Nat.zero_le _)
  · rw [List.getElem?_append_right (by omega)] at hv
    have := List.eq_of_mem_replicate (List.mem_of_getElem? hv)
    cases this
set_option maxHeartbeats 4000000 in
set_option maxRecDepth 100000 in
/-- THE SMALL MACHINE IS RIGHT: what it answers, the method does, by contract -/
theorem am_exW (hu : am_uw UW) (hE : am_Exk ad sh.length Ex) (hcl : am_cls cl UW) (hsk : am_shk cl sh) (hnk : ∀ j nm, Nm j = some nm → am_nk UW nm) {Ys : Nat → Option am_Y} (hyk : am_yk cl UW Nm Ys)
    {ext : Nat → List Value → am_M → Option am_R} (hext : ∀ d j as mem r nm, Ys j = none → ext j as mem = some r → Nm j = some nm → am_Mt l D cl cy ad sh Ex UW nm (d + 1) as mem r) (n : Nat) :
    ∀ (d j : Nat) (as : List Value) (mem : am_M) (r : am_R) (nm : am_N), am_ex Ys ext sh n d j as mem = some r → Nm j = some nm → am_Mt l D cl cy ad sh Ex UW nm d as mem r := by
  intro d
  induction d with
  | zero => intro j as mem r nm h; cases h
  | succ d ih =>
    intro j as mem r nm h hnm
    simp only [am_ex] at h
    cases hy : Ys j with
    | none =>
      rw [hy] at h
      exact hext d j as mem r nm hy h hnm
    | some y =>
      rw [hy] at h
      simp only at h
      cases hb : Nat.ble (am_ent as).length y.2.1 with
      | false => rw [hb] at h; cases h
      | true =>
        rw [hb] at h
        simp only [cond_true] at h
        obtain ⟨nm2, hnm2, hmx, hrk, hCd⟩ := hyk j y hy
        cases hnm.symm.trans hnm2
        obtain ⟨hpl, -, -, -, -, -⟩ := hnk j nm hnm
        intro sz
        refine am_ofW (cc := nm.2.1) (maxL := nm.2.2.1) (ret := nm.2.2.2) hpl rfl ?_
        intro p e s m args below meth c s₁ B hml hv
        obtain ⟨rfl, hsz, hP, hK, hD, hEs⟩ := hv
        subst hsz
        have hts := atoms_spec (ws := am_ws UW nm) B.pre
        have hle : (am_ent as).length ≤ nm.2.2.1 := by rw [hmx]; exact Nat.le_of_ble_eq_true hb
        have hle2 : (lg_sl (as.map (am_cv ad))).length ≤ nm.2.2.1 := by rw [am_ent_len]; exact hle
        have hl := lv_entry (as.map (am_cv ad)) (n := nm.2.2.1) hle2
        rw [lg_entry_eq]
        have hW := am_goW (e := e) (below := below) (args := (as.map (am_cv ad)).toArray) (A := am_A ad sh.length s.heap.size) B.exec B.bytes hml (findClass_of_methodNamed B.named) (fun w hw => hts w (List.mem_cons_of_mem _ hw)) hu hK hE hEs rfl hcl hsk B.notSynchronized hnk B.returns hrk (fun j as mem r nm => ih j as mem r nm) hCd n (0, am_loc y.2.1 as, [], mem) h
        have hll : (am_loc y.2.1 as).length = nm.2.2.1 := by
          unfold am_loc
          rw [List.length_append, List.length_replicate]
          omega
        exact hW s.heap [] _ hP hD va_S.rf (by rw [← hmx]; exact am_loc_has hl) hll
end AMC
