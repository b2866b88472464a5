/-! ===== the small machine is right: other cells kept over warmed tables, outside calls wanting more room ===== -/
def am_Exh (ad : Nat → Nat) (n : Nat) (Ex : State → Prop) : Prop := ∀ s U : State, Ex s → s.WarmedH U.vm → s.heap.size ≤ U.heap.size → (∀ q : Nat, q < s.heap.size → ¬ am_A ad n s.heap.size q → U.heap[q]? = s.heap[q]?) → Ex U
section EXV
variable {p : Program} {l : Launch} {e : Env} {s : State} {m : MethodId} {args : Array Value} {below : List Frame} {meth : Method} {c : Code} {Q : State → Prop} {cc : ByteArray} {nL : Nat} {D : va_G} {cl : List vw_C} {cy : Nat → ClassId} {A : Nat → Prop} {ad : Nat → Nat} {sh : am_Sh} {own : String} {UW : List Cond} {Ex : State → Prop} {Nm : Nat → Option am_N}
theorem am_Ph_blind (hE : am_Exh ad sh.length Ex) {sz : Nat} {as : List Value} {mem : am_M} : FrameBlind (am_Pc D cl cy ad sh Ex sz as mem) := by
  intro a U g mk h
  obtain ⟨q0, q1, qP, qK, qD, qE⟩ := h
  exact ⟨q0, q1, qP, va_K.moved (u := U) (U := U.calling g mk a) (Vm.Alike.refl U.vm) qK, qD, hE U (U.calling g mk a) qE (State.WarmedH.refl U) (Nat.le_refl _) (fun _ _ _ => rfl)⟩
set_option maxHeartbeats 4000000 in
set_option maxRecDepth 100000 in
/-- a call of the small machine is one of the machine -/
theorem am_invH (hx : p.tables.exec = Jvm.exec) (hb : c.code = cc) (hml : c.maxLocals = nL) (hown : s.vm.findClass own = some m.cls) (hts : ∀ w ∈ UW, w.before args s = true) (hu : am_uw UW) (hK : va_K D cl (am_tys cy) s) (hE : am_Exh ad sh.length Ex) (hEs : Ex s) (hA : A = am_A ad sh.length s.heap.size)
    (hnk : ∀ j nm, Nm j = some nm → am_nk UW nm)
    {call : Nat → List Value → am_M → Option am_R} {d : Nat} (hcall : ∀ j as mem r nm, call j as mem = some r → Nm j = some nm → am_Mt l D cl cy ad sh Ex UW nm d as mem r)
    {pc : Nat} {q : am_Q} {ls : List (Option Value)} {st : List Value} {mem : am_M} {x : am_C} (hd : decode cc pc = .ok (q.1, q.2.1)) (hck : am_ck own cl UW Nm q) (hq : (∃ i, q.1 = .invokevirtual i) ∨ ∃ i, q.1 = .invokestatic i) (h : am_inv sh call q (pc, ls, st, mem) = some x)
    (kk : am_Ws p l e (am_rm (d + 1)) s m args below meth c 0 0 Q nL D cl cy A s.heap ad sh x) : am_Ws p l e (am_rm (d + 1)) s m args below meth c 0 0 Q nL D cl cy A s.heap ad sh (pc, ls, st, mem) := by
  obtain ⟨j, n, vi, ci, rs, r, hinfo, hn, hW8, hrecv, hc, rfl⟩ := am_inv_inv h
  simp only at hn hW8 hrecv hc
  obtain ⟨ins, len, info⟩ := q
  simp only at hinfo hd
  subst hinfo
  intro H locs L hP hD hS hl hnl
  have hAs : ∀ q, s.heap.size ≤ q → A q := fun q h => by rw [hA]; exact Or.inr h
  have hst : st.map (am_cv ad) = ((st.take n).reverse.map (am_cv ad)).reverse ++ (st.drop n).map (am_cv ad) := by
    rw [← List.map_reverse, List.reverse_reverse, ← List.map_append, List.take_append_drop]
  have hW9 : (((st.drop n).map (am_cv ad)).map fun v => v.category).sum ≤ 8 := by
    have : (((st.drop n).map (am_cv ad)).map fun v => v.category) = ((st.drop n).map fun v => v.category) := by
      rw [List.map_map]
      apply List.map_congr_left
      intro v _
      exact am_cv_cat ad v
    rw [this]
    exact hW8
  have hPre : ∀ U : State, U.heap = H → s.WarmedH U.vm → am_Pc D cl cy ad sh Ex H.size (st.take n).reverse mem (((st.take n).reverse.map (am_cv ad)).toArray) U := by
    intro U hU hWm
    refine ⟨rfl, by rw [hU], by rw [hU]; exact hP, va_K.moved hWm.alike hK, am_W_own hD _, hE s U hEs hWm (by rw [hU]; exact hS.1) (fun q h1 h2 => by rw [hU]; exact hS.2.1 q h1 (by rw [hA]; exact h2))⟩
  have k3 : ∀ (H1 : Heap) (locs1 : List Loc), va_P D cl (am_W cy ad sh r.2) H1 → va_D A (am_W cy ad sh r.2) → va_S A s.heap H1 locs1 → W p l e (am_rm (d + 1)) s m args below meth c H1 locs1 0 0 Q (F0 m (pc + 3) L ((r.1.map (am_cv ad)).toList ++ (st.drop n).map (am_cv ad))) := by
    intro H1 locs1 hP1 hD1 hS1
    have k2 := kk H1 locs1 L hP1 hD1 hS1 hl hnl
    have e1 : (r.1.toList ++ st.drop n).map (am_cv ad) = (r.1.map (am_cv ad)).toList ++ (st.drop n).map (am_cv ad) := by
      rw [List.map_append]
      cases r.1 <;> rfl
    rw [← e1]
    exact k2
  rcases hq with ⟨i, hi⟩ | ⟨i, hi⟩
  · simp only at hi
    subst hi
    simp only [am_ck] at hck
    cases rs with
    | nil => exact absurd hck (by simp)
    | cons nest rs =>
      obtain ⟨h3, hvi, nm, hnm, hlk, hin, hsel, ⟨r0, hr0, hr0c⟩, hpar⟩ := hck
      have hlen : len = 3 := h3
      subst hlen
      obtain ⟨a, As, ks, has, hsa⟩ := hrecv (by omega)
      obtain ⟨hpl, hmx, hcd, hini, hn1, hn2⟩ := hnk j nm hnm
      have hM := hcall j _ mem r nm hc hnm H.size
      have hlenA : (st.take n).reverse.length = n := by simp; omega
      have hAl : As.length + 1 = n := by rw [has] at hlenA; simpa using hlenA
      have hstk : st.map (am_cv ad) = (As.map (am_cv ad)).reverse ++ .ref (ad a) :: (st.drop n).map (am_cv ad) := by
        rw [hst, has]
        simp [am_cv]
      have hrc := va_recv hK hP hr0 (am_W_at (cy := cy) (ad := ad) (m := mem) hsa)
      rw [hr0c] at hrc
      have hparm : ∀ sig, parseMethodDescriptor nm.1.desc = some sig → As.length = sig.parameters.length := by
        intro sig hsig
        rw [hsig] at hpar
        simp only [Option.map_some, Option.some.injEq] at hpar
        omega
      rw [has] at hPre hM
      have hp : PreV s H nm.1.cls (ad a) (am_Pc D cl cy ad sh Ex H.size (.ref a :: As) mem) (As.map (am_cv ad)) := ⟨am_Ph_blind hE, hrc, fun U hU hWm => hPre U hU hWm⟩
      have hwsall : ∀ w ∈ am_ws UW nm, ∀ (a' : Array Value) (U : State), s.WarmedH U.vm → w.before a' U = true := by
        intro w hw a' U hWm
        rcases List.mem_cons.mp hw with rfl | hw
        · exact am_uw_at hu hts hWm _ hcd
        · exact am_uw_at hu hts hWm _ hw
      refine am_call (mem := mem) (r := r) (st0 := st.map (am_cv ad)) (rest := (st.drop n).map (am_cv ad)) (a := (Value.ref (ad a) :: As.map (am_cv ad)).toArray) ?_ hS hD hAs k3
      cases nest with
      | zero =>
        exact va_runV (n := As.length) (nL := nL) (C := nm.1.cls) (bytes := nm.2.1) (maxL := nm.2.2.1) (ret := nm.2.2.2) ⟨hx, hb, hml, hown, hts⟩ hM ⟨⟨rfl, rfl, Nat.le_refl _, by show 8 + (nm.2.2.1 + 11) + 64 * d ≤ 64 * (d + 1); omega, hwsall, List.mem_cons_self, hts _ hcd, hts _ hini, ⟨hn1, hn2⟩, hparm, hts _ hlk⟩, hts _ hin, hts _ hsel⟩ hp rfl (by simp) hl.1 hstk (lv_room hW9) hd ⟨Nat.le_refl _, Nat.le_refl _⟩
      | succ _ =>
        exact va_runVN (n := As.length) (nL := nL) (C := nm.1.cls) (bytes := nm.2.1) (maxL := nm.2.2.1) (ret := nm.2.2.2) ⟨hx, hb, hml, hown, hts⟩ hM ⟨⟨⟨rfl, rfl, Nat.le_refl _, by show 8 + (nm.2.2.1 + 11) + 64 * d ≤ 64 * (d + 1); omega, hwsall, List.mem_cons_self⟩, hts _ hcd, hts _ hini, ⟨hn1, hn2⟩, hparm, hts _ hlk⟩, hts _ hin, hts _ hsel⟩ hp rfl (by simp) hl.1 hstk (lv_room hW9) hd ⟨Nat.le_refl _, Nat.le_refl _⟩
  · simp only at hi
    subst hi
    simp only [am_ck] at hck
    cases rs with
    | nil => exact absurd hck (by simp)
    | cons nest rs =>
      obtain ⟨h3, hvi, nm, hnm, hlk, hin, hpar⟩ := hck
      have hlen : len = 3 := h3
      subst hlen
      obtain ⟨hpl, hmx, hcd, hini, hn1, hn2⟩ := hnk j nm hnm
      have hM := hcall j _ mem r nm hc hnm H.size
      have hlenA : (st.take n).reverse.length = n := by simp; omega
      have hparm : ∀ sig, parseMethodDescriptor nm.1.desc = some sig → n = sig.parameters.length := by
        intro sig hsig
        rw [hsig] at hpar
        simp only [Option.map_some, Option.some.injEq] at hpar
        omega
      have hp : PreS s H (am_Pc D cl cy ad sh Ex H.size (st.take n).reverse mem) ((st.take n).reverse.map (am_cv ad)) := ⟨am_Ph_blind hE, fun U hU hWm => hPre U hU hWm⟩
      have hwsall : ∀ w ∈ am_ws UW nm, ∀ (a' : Array Value) (U : State), s.WarmedH U.vm → w.before a' U = true := by
        intro w hw a' U hWm
        rcases List.mem_cons.mp hw with rfl | hw
        · exact am_uw_at hu hts hWm _ hcd
        · exact am_uw_at hu hts hWm _ hw
      refine am_call (mem := mem) (r := r) (st0 := st.map (am_cv ad)) (rest := (st.drop n).map (am_cv ad)) (a := ((st.take n).reverse.map (am_cv ad)).toArray) ?_ hS hD hAs k3
      cases nest with
      | zero =>
        exact va_runS (n := n) (nL := nL) (bytes := nm.2.1) (maxL := nm.2.2.1) (ret := nm.2.2.2) ⟨hx, hb, hml, hown, hts⟩ hM ⟨⟨rfl, rfl, Nat.le_refl _, by show 8 + (nm.2.2.1 + 11) + 64 * d ≤ 64 * (d + 1); omega, hwsall, List.mem_cons_self, hts _ hcd, hts _ hini, ⟨hn1, hn2⟩, hparm, hts _ hlk⟩, hts _ hin⟩ hp rfl (by rw [List.length_map]; exact hlenA) hl.1 hst (lv_room hW9) hd ⟨Nat.le_refl _, Nat.le_refl _⟩
      | succ _ =>
        exact va_runSN (n := n) (nL := nL) (bytes := nm.2.1) (maxL := nm.2.2.1) (ret := nm.2.2.2) ⟨hx, hb, hml, hown, hts⟩ hM ⟨⟨⟨rfl, rfl, Nat.le_refl _, by show 8 + (nm.2.2.1 + 11) + 64 * d ≤ 64 * (d + 1); omega, hwsall, List.mem_cons_self⟩, hts _ hcd, hts _ hini, ⟨hn1, hn2⟩, hparm, hts _ hlk⟩, hts _ hin, trivial⟩ hp rfl (by rw [List.length_map]; exact hlenA) hl.1 hst (lv_room hW9) hd ⟨Nat.le_refl _, Nat.le_refl _⟩
end EXV
section EXW
variable {p : Program} {l : Launch} {e : Env} {s : State} {m : MethodId} {args : Array Value} {below : List Frame} {meth : Method} {c : Code} {cc : ByteArray} {nL : Nat} {D : va_G} {cl : List vw_C} {cy : Nat → ClassId} {A : Nat → Prop} {ad : Nat → Nat} {sh : am_Sh} {own : String} {UW : List Cond} {Ex : State → Prop} {Nm : Nat → Option am_N}
set_option maxHeartbeats 4000000 in
set_option maxRecDepth 100000 in
theorem am_goH (hx : p.tables.exec = Jvm.exec) (hb : c.code = cc) (hml : c.maxLocals = nL) (hown : s.vm.findClass own = some m.cls) (hts : ∀ w ∈ UW, w.before args s = true) (hu : am_uw UW) (hK : va_K D cl (am_tys cy) s) (hE : am_Exh ad sh.length Ex) (hEs : Ex s) (hA : A = am_A ad sh.length s.heap.size) (hcl : am_cls cl UW) (hsk : am_shk cl sh) (hlocks : meth.locks = false)
    (hnk : ∀ j nm, Nm j = some nm → am_nk UW nm) {ft : Option FieldType} {ret : Nat} (hr : meth.sig.returnType = ft) (hrk : am_rk ft ret = true)
    {call : Nat → List Value → am_M → Option am_R} {d : Nat} (hcall : ∀ j as mem r nm, call j as mem = some r → Nm j = some nm → am_Mt l D cl cy ad sh Ex UW nm d as mem r)
    {Cd : Nat → Option am_Q} (hCd : ∀ pc q, Cd pc = some q → decode cc pc = .ok (q.1, q.2.1) ∧ am_lk own cl UW pc q ∧ am_ck own cl UW Nm q) {r : am_R} :
    ∀ (n : Nat) (x : am_C), am_go Cd sh ret call n x = some r → am_Ws p l e (am_rm (d + 1)) s m args below meth c 0 0 (MQ below (am_Qc D cl cy ad sh s.heap.size r) args s 0 0 (am_A ad sh.length s.heap.size)) nL D cl cy A s.heap ad sh x := by
  intro n
  induction n with
  | zero => intro x h; cases h
  | succ n ih =>
    intro x h
    obtain ⟨pc, ls, st, mem⟩ := x
    have hstep : ∀ q, Cd pc = some q → (match am_step sh q (pc, ls, st, mem) with | some c' => am_go Cd sh ret call n c' | none => none) = some r → am_Ws p l e (am_rm (d + 1)) s m args below meth c 0 0 (MQ below (am_Qc D cl cy ad sh s.heap.size r) args s 0 0 (am_A ad sh.length s.heap.size)) nL D cl cy A s.heap ad sh (pc, ls, st, mem) := by
      intro q hq h2
      split at h2
      · next c' hc' => exact am_stepW hx hb hown hts hK hcl hsk (hCd pc q hq).1 (hCd pc q hq).2.1 hc' (ih c' h2)
      · cases h2
    have hinv : ∀ q, Cd pc = some q → ((∃ i, q.1 = .invokevirtual i) ∨ ∃ i, q.1 = .invokestatic i) → (match am_inv sh call q (pc, ls, st, mem) with | some c' => am_go Cd sh ret call n c' | none => none) = some r → am_Ws p l e (am_rm (d + 1)) s m args below meth c 0 0 (MQ below (am_Qc D cl cy ad sh s.heap.size r) args s 0 0 (am_A ad sh.length s.heap.size)) nL D cl cy A s.heap ad sh (pc, ls, st, mem) := by
      intro q hq hi h2
      split at h2
      · next c' hc' => exact am_invH hx hb hml hown hts hu hK hE hEs hA hnk hcall (hCd pc q hq).1 (hCd pc q hq).2.2 hi hc' (ih c' h2)
      · cases h2
    have hpost : ∀ (H : Heap) (locs : List Loc) (v : Option Value), r = (v, mem) → va_P D cl (am_W cy ad sh mem) H → va_S A s.heap H locs → ∀ t : State, t.heap = H → s.WarmedH t.vm → am_Qc D cl cy ad sh s.heap.size r args s (.returned (v.map (am_cv ad))) t := by
      intro H locs v hv hP hS t ht hW
      subst hv
      exact ⟨rfl, by rw [ht]; exact hP, by rw [← hA]; exact hS.F ht⟩
    have hfree : ∀ (H : Heap) (locs : List Loc), va_S A s.heap H locs → ∀ q ∈ locs, am_A ad sh.length s.heap.size q.base := by
      intro H locs hS q hq
      rw [← hA]
      exact hS.2.2 q hq
    simp only [am_go] at h
    cases hq : Cd pc with
    | none => rw [hq] at h; cases h
    | some q =>
      rw [hq] at h
      simp only at h
      have hdec := (hCd pc q hq).1
      have hln := (hCd pc q hq).2.1.1
      obtain ⟨ins, len, info⟩ := q
      cases ins
      case ireturn =>
        have hlen : len = 1 := by
          rcases hln with z | z
          · cases z
          · exact z
        subst hlen
        simp only at h
        split at h
        · next v =>
          cases hok : am_rok ret v with
          | false => rw [hok] at h; cases h
          | true =>
            rw [hok] at h
            cases h
            intro H locs L hP hD hS hl hn
            unfold am_rok at hok
            split at hok
            · have e1 : ft = some .int := by
                cases ft with
                | none => simp [am_rk] at hrk
                | some t => cases t <;> simp [am_rk] at hrk ⊢
              exact W.iret hx hb (hr.trans e1) (hpost H locs (some (.int v)) rfl hP hS) (hfree H locs hS) hdec
            · have e1 : ft = some .boolean := by
                cases ft with
                | none => simp [am_rk] at hrk
                | some t => cases t <;> simp [am_rk] at hrk ⊢
              exact W.zret hx hb (hr.trans e1) (am_rokz hok) (hpost H locs (some (.int v)) rfl hP hS) (hfree H locs hS) hdec
            · cases hok
        · cases h
      case lreturn =>
        have hlen : len = 1 := by
          rcases hln with z | z
          · cases z
          · exact z
        subst hlen
        simp only at h
        split at h
        · next v =>
          cases h
          intro H locs L hP hD hS hl hn
          have e1 : ft = some .long := by
            cases ft with
            | none => simp [am_rk] at hrk
            | some t => cases t <;> simp [am_rk] at hrk ⊢
          exact W.lret hx hb (hr.trans e1) (hpost H locs (some (.long v)) rfl hP hS) (hfree H locs hS) hdec
        · cases h
      case dreturn =>
        have hlen : len = 1 := by
          rcases hln with z | z
          · cases z
          · exact z
        subst hlen
        simp only at h
        split at h
        · next v =>
          cases h
          intro H locs L hP hD hS hl hn
          have e1 : ft = some .double := by
            cases ft with
            | none => simp [am_rk] at hrk
            | some t => cases t <;> simp [am_rk] at hrk ⊢
          exact W.dret hx hb (hr.trans e1) (hpost H locs (some (.double v)) rfl hP hS) (hfree H locs hS) hdec
        · cases h
      case return_ =>
        have hlen : len = 1 := by
          rcases hln with z | z
          · cases z
          · exact z
        subst hlen
        simp only at h
        split at h
        · cases h
          intro H locs L hP hD hS hl hn
          have e1 : ft = none := by
            cases ft with
            | none => rfl
            | some t => cases t <;> simp [am_rk] at hrk
          exact W.vret hx hb (hr.trans e1) (hpost H locs none rfl hP hS) (hfree H locs hS) hdec
        · cases h
      case invokevirtual i => exact hinv _ hq (Or.inl ⟨i, rfl⟩) h
      case invokestatic i => exact hinv _ hq (Or.inr ⟨i, rfl⟩) h
      all_goals exact hstep _ hq h
set_option maxHeartbeats 4000000 in
set_option maxRecDepth 100000 in
theorem am_exH (hu : am_uw UW) (hE : am_Exh ad sh.length Ex) (hcl : am_cls cl UW) (hsk : am_shk cl sh) (hnk : ∀ j nm, Nm j = some nm → am_nk UW nm) {Ys : Nat → Option am_Y} (hyk : am_yk cl UW Nm Ys)
    {ext : Nat → List Value → am_M → Option am_R} (hext : ∀ d j as mem r nm, Ys j = none → ext j as mem = some r → Nm j = some nm → am_Mt l D cl cy ad sh Ex UW nm (d + 1) as mem r) (n : Nat) :
    ∀ (d j : Nat) (as : List Value) (mem : am_M) (r : am_R) (nm : am_N), am_ex Ys ext sh n d j as mem = some r → Nm j = some nm → am_Mt l D cl cy ad sh Ex UW nm d as mem r := by
  intro d
  induction d with
  | zero => intro j as mem r nm h; cases h
  | succ d ih =>
    intro j as mem r nm h hnm
    simp only [am_ex] at h
    cases hy : Ys j with
    | none =>
      rw [hy] at h
      exact hext d j as mem r nm hy h hnm
    | some y =>
      rw [hy] at h
      simp only at h
      cases hb : Nat.ble (am_ent as).length y.2.1 with
      | false => rw [hb] at h; cases h
      | true =>
        rw [hb] at h
        simp only [cond_true] at h
        obtain ⟨nm2, hnm2, hmx, hrk, hCd⟩ := hyk j y hy
        cases hnm.symm.trans hnm2
        obtain ⟨hpl, -, -, -, -, -⟩ := hnk j nm hnm
        intro sz
        refine am_ofW (cc := nm.2.1) (maxL := nm.2.2.1) (ret := nm.2.2.2) hpl rfl ?_
        intro p e s m args below meth c s₁ B hml hv
        obtain ⟨rfl, hsz, hP, hK, hD, hEs⟩ := hv
        subst hsz
        have hts := atoms_spec (ws := am_ws UW nm) B.pre
        have hle : (am_ent as).length ≤ nm.2.2.1 := by rw [hmx]; exact Nat.le_of_ble_eq_true hb
        have hle2 : (lg_sl (as.map (am_cv ad))).length ≤ nm.2.2.1 := by rw [am_ent_len]; exact hle
        have hl := lv_entry (as.map (am_cv ad)) (n := nm.2.2.1) hle2
        rw [lg_entry_eq]
        have hW := am_goH (e := e) (below := below) (args := (as.map (am_cv ad)).toArray) (A := am_A ad sh.length s.heap.size) B.exec B.bytes hml (findClass_of_methodNamed B.named) (fun w hw => hts w (List.mem_cons_of_mem _ hw)) hu hK hE hEs rfl hcl hsk B.notSynchronized hnk B.returns hrk (fun j as mem r nm => ih j as mem r nm) hCd n (0, am_loc y.2.1 as, [], mem) h
        have hll : (am_loc y.2.1 as).length = nm.2.2.1 := by
          unfold am_loc
          rw [List.length_append, List.length_replicate]
          omega
        exact hW s.heap [] _ hP hD va_S.rf (by rw [← hmx]; exact am_loc_has hl) hll
set_option maxHeartbeats 4000000 in
set_option maxRecDepth 100000 in
theorem am_exV (kk : Nat) (hu : am_uw UW) (hE : am_Exh ad sh.length Ex) (hcl : am_cls cl UW) (hsk : am_shk cl sh) (hnk : ∀ j nm, Nm j = some nm → am_nk UW nm) {Ys : Nat → Option am_Y} (hyk : am_yk cl UW Nm Ys)
    {ext : Nat → List Value → am_M → Option am_R} (hext : ∀ d j as mem r nm, Ys j = none → ext j as mem = some r → Nm j = some nm → am_Mt l D cl cy ad sh Ex UW nm (kk + d + 1) as mem r) (n : Nat) :
    ∀ (d j : Nat) (as : List Value) (mem : am_M) (r : am_R) (nm : am_N), am_ex Ys ext sh n d j as mem = some r → Nm j = some nm → am_Mt l D cl cy ad sh Ex UW nm (kk + d) as mem r := by
  intro d
  induction d with
  | zero => intro j as mem r nm h; cases h
  | succ d ih =>
    intro j as mem r nm h hnm
    simp only [am_ex] at h
    cases hy : Ys j with
    | none =>
      rw [hy] at h
      exact hext d j as mem r nm hy h hnm
    | some y =>
      rw [hy] at h
      simp only at h
      cases hb : Nat.ble (am_ent as).length y.2.1 with
      | false => rw [hb] at h; cases h
      | true =>
        rw [hb] at h
        simp only [cond_true] at h
        obtain ⟨nm2, hnm2, hmx, hrk, hCd⟩ := hyk j y hy
        cases hnm.symm.trans hnm2
        obtain ⟨hpl, -, -, -, -, -⟩ := hnk j nm hnm
        intro sz
        refine am_ofW (cc := nm.2.1) (maxL := nm.2.2.1) (ret := nm.2.2.2) hpl rfl ?_
        intro p e s m args below meth c s₁ B hml hv
        obtain ⟨rfl, hsz, hP, hK, hD, hEs⟩ := hv
        subst hsz
        have hts := atoms_spec (ws := am_ws UW nm) B.pre
        have hle : (am_ent as).length ≤ nm.2.2.1 := by rw [hmx]; exact Nat.le_of_ble_eq_true hb
        have hle2 : (lg_sl (as.map (am_cv ad))).length ≤ nm.2.2.1 := by rw [am_ent_len]; exact hle
        have hl := lv_entry (as.map (am_cv ad)) (n := nm.2.2.1) hle2
        rw [lg_entry_eq]
        have hW := am_goH (e := e) (below := below) (args := (as.map (am_cv ad)).toArray) (A := am_A ad sh.length s.heap.size) B.exec B.bytes hml (findClass_of_methodNamed B.named) (fun w hw => hts w (List.mem_cons_of_mem _ hw)) hu hK hE hEs rfl hcl hsk B.notSynchronized hnk B.returns hrk (fun j as mem r nm => ih j as mem r nm) hCd n (0, am_loc y.2.1 as, [], mem) h
        have hll : (am_loc y.2.1 as).length = nm.2.2.1 := by
          unfold am_loc
          rw [List.length_append, List.length_replicate]
          omega
        exact hW s.heap [] _ hP hD va_S.rf (by rw [← hmx]; exact am_loc_has hl) hll
end EXW
section EXN
variable {p : Program} {l : Launch} {e : Env} {s : State} {m : MethodId} {args : Array Value} {below : List Frame} {meth : Method} {c : Code} {Q : State → Prop} {cc : ByteArray} {nL : Nat} {D : va_G} {cl : List vw_C} {cy : Nat → ClassId} {A : Nat → Prop} {ad : Nat → Nat} {sh : am_Sh} {own : String} {UW : List Cond} {Ex : State → Prop} {Nm : Nat → Option am_N}
set_option maxHeartbeats 4000000 in
set_option maxRecDepth 100000 in
theorem an_invH (hx : p.tables.exec = Jvm.exec) (hb : c.code = cc) (hml : c.maxLocals = nL) (hown : s.vm.findClass own = some m.cls) (hts : ∀ w ∈ UW, w.before args s = true) (hu : am_uw UW) (hK : va_K D cl (am_tys cy) s) (hE : am_Exh ad sh.length Ex) (hEs : Ex s) {R : Room} {cells slots d0 : Nat} (hRf : d0 + 1 ≤ R.frames) (hRl : 64 * (d0 + 1) ≤ R.locals) (hRc : cells ≤ R.cells) (hRs : slots ≤ R.slots) (hA : ∀ q : Nat, q < s.heap.size → ¬ am_A ad sh.length s.heap.size q → ¬ A q) (hAs : ∀ q : Nat, s.heap.size ≤ q → A q)
    (hnk : ∀ j nm, Nm j = some nm → am_nk UW nm)
    {call : Nat → List Value → am_M → Option am_R} (hcall : ∀ j as mem r nm, call j as mem = some r → Nm j = some nm → am_Mt l D cl cy ad sh Ex UW nm d0 as mem r)
    {pc : Nat} {q : am_Q} {ls : List (Option Value)} {st : List Value} {mem : am_M} {x : am_C} (hd : decode cc pc = .ok (q.1, q.2.1)) (hck : am_ck own cl UW Nm q) (hq : (∃ i, q.1 = .invokevirtual i) ∨ ∃ i, q.1 = .invokestatic i) (h : am_inv sh call q (pc, ls, st, mem) = some x)
    (kk : am_Ws p l e R s m args below meth c cells slots Q nL D cl cy A s.heap ad sh x) : am_Ws p l e R s m args below meth c cells slots Q nL D cl cy A s.heap ad sh (pc, ls, st, mem) := by
  obtain ⟨j, n, vi, ci, rs, r, hinfo, hn, hW8, hrecv, hc, rfl⟩ := am_inv_inv h
  simp only at hn hW8 hrecv hc
  obtain ⟨ins, len, info⟩ := q
  simp only at hinfo hd
  subst hinfo
  intro H locs L hP hD hS hl hnl
  have hst : st.map (am_cv ad) = ((st.take n).reverse.map (am_cv ad)).reverse ++ (st.drop n).map (am_cv ad) := by
    rw [← List.map_reverse, List.reverse_reverse, ← List.map_append, List.take_append_drop]
  have hW9 : (((st.drop n).map (am_cv ad)).map fun v => v.category).sum ≤ 8 := by
    have : (((st.drop n).map (am_cv ad)).map fun v => v.category) = ((st.drop n).map fun v => v.category) := by
      rw [List.map_map]
      apply List.map_congr_left
      intro v _
      exact am_cv_cat ad v
    rw [this]
    exact hW8
  have hPre : ∀ U : State, U.heap = H → s.WarmedH U.vm → am_Pc D cl cy ad sh Ex H.size (st.take n).reverse mem (((st.take n).reverse.map (am_cv ad)).toArray) U := by
    intro U hU hWm
    refine ⟨rfl, by rw [hU], by rw [hU]; exact hP, va_K.moved hWm.alike hK, am_W_own hD _, hE s U hEs hWm (by rw [hU]; exact hS.1) (fun q h1 h2 => by rw [hU]; exact hS.2.1 q h1 (hA q h1 h2))⟩
  have k3 : ∀ (H1 : Heap) (locs1 : List Loc), va_P D cl (am_W cy ad sh r.2) H1 → va_D A (am_W cy ad sh r.2) → va_S A s.heap H1 locs1 → W p l e R s m args below meth c H1 locs1 cells slots Q (F0 m (pc + 3) L ((r.1.map (am_cv ad)).toList ++ (st.drop n).map (am_cv ad))) := by
    intro H1 locs1 hP1 hD1 hS1
    have k2 := kk H1 locs1 L hP1 hD1 hS1 hl hnl
    have e1 : (r.1.toList ++ st.drop n).map (am_cv ad) = (r.1.map (am_cv ad)).toList ++ (st.drop n).map (am_cv ad) := by
      rw [List.map_append]
      cases r.1 <;> rfl
    rw [← e1]
    exact k2
  rcases hq with ⟨i, hi⟩ | ⟨i, hi⟩
  · simp only at hi
    subst hi
    simp only [am_ck] at hck
    cases rs with
    | nil => exact absurd hck (by simp)
    | cons nest rs =>
      obtain ⟨h3, hvi, nm, hnm, hlk, hin, hsel, ⟨r0, hr0, hr0c⟩, hpar⟩ := hck
      have hlen : len = 3 := h3
      subst hlen
      obtain ⟨a, As, ks, has, hsa⟩ := hrecv (by omega)
      obtain ⟨hpl, hmx, hcd, hini, hn1, hn2⟩ := hnk j nm hnm
      have hM := hcall j _ mem r nm hc hnm H.size
      have hlenA : (st.take n).reverse.length = n := by simp; omega
      have hAl : As.length + 1 = n := by rw [has] at hlenA; simpa using hlenA
      have hstk : st.map (am_cv ad) = (As.map (am_cv ad)).reverse ++ .ref (ad a) :: (st.drop n).map (am_cv ad) := by
        rw [hst, has]
        simp [am_cv]
      have hrc := va_recv hK hP hr0 (am_W_at (cy := cy) (ad := ad) (m := mem) hsa)
      rw [hr0c] at hrc
      have hparm : ∀ sig, parseMethodDescriptor nm.1.desc = some sig → As.length = sig.parameters.length := by
        intro sig hsig
        rw [hsig] at hpar
        simp only [Option.map_some, Option.some.injEq] at hpar
        omega
      rw [has] at hPre hM
      have hp : PreV s H nm.1.cls (ad a) (am_Pc D cl cy ad sh Ex H.size (.ref a :: As) mem) (As.map (am_cv ad)) := ⟨am_Ph_blind hE, hrc, fun U hU hWm => hPre U hU hWm⟩
      have hwsall : ∀ w ∈ am_ws UW nm, ∀ (a' : Array Value) (U : State), s.WarmedH U.vm → w.before a' U = true := by
        intro w hw a' U hWm
        rcases List.mem_cons.mp hw with rfl | hw
        · exact am_uw_at hu hts hWm _ hcd
        · exact am_uw_at hu hts hWm _ hw
      refine am_call (mem := mem) (r := r) (st0 := st.map (am_cv ad)) (rest := (st.drop n).map (am_cv ad)) (a := (Value.ref (ad a) :: As.map (am_cv ad)).toArray) ?_ hS hD hAs k3
      cases nest with
      | zero =>
        exact va_runV (n := As.length) (nL := nL) (C := nm.1.cls) (bytes := nm.2.1) (maxL := nm.2.2.1) (ret := nm.2.2.2) ⟨hx, hb, hml, hown, hts⟩ hM ⟨⟨rfl, rfl, hRf, by show 8 + (nm.2.2.1 + 11) + 64 * d0 ≤ R.locals; omega, hwsall, List.mem_cons_self, hts _ hcd, hts _ hini, ⟨hn1, hn2⟩, hparm, hts _ hlk⟩, hts _ hin, hts _ hsel⟩ hp rfl (by simp) hl.1 hstk (lv_room hW9) hd ⟨hRc, hRs⟩
      | succ _ =>
        exact va_runVN (n := As.length) (nL := nL) (C := nm.1.cls) (bytes := nm.2.1) (maxL := nm.2.2.1) (ret := nm.2.2.2) ⟨hx, hb, hml, hown, hts⟩ hM ⟨⟨⟨rfl, rfl, hRf, by show 8 + (nm.2.2.1 + 11) + 64 * d0 ≤ R.locals; omega, hwsall, List.mem_cons_self⟩, hts _ hcd, hts _ hini, ⟨hn1, hn2⟩, hparm, hts _ hlk⟩, hts _ hin, hts _ hsel⟩ hp rfl (by simp) hl.1 hstk (lv_room hW9) hd ⟨hRc, hRs⟩
  · simp only at hi
    subst hi
    simp only [am_ck] at hck
    cases rs with
    | nil => exact absurd hck (by simp)
    | cons nest rs =>
      obtain ⟨h3, hvi, nm, hnm, hlk, hin, hpar⟩ := hck
      have hlen : len = 3 := h3
      subst hlen
      obtain ⟨hpl, hmx, hcd, hini, hn1, hn2⟩ := hnk j nm hnm
      have hM := hcall j _ mem r nm hc hnm H.size
      have hlenA : (st.take n).reverse.length = n := by simp; omega
      have hparm : ∀ sig, parseMethodDescriptor nm.1.desc = some sig → n = sig.parameters.length := by
        intro sig hsig
        rw [hsig] at hpar
        simp only [Option.map_some, Option.some.injEq] at hpar
        omega
      have hp : PreS s H (am_Pc D cl cy ad sh Ex H.size (st.take n).reverse mem) ((st.take n).reverse.map (am_cv ad)) := ⟨am_Ph_blind hE, fun U hU hWm => hPre U hU hWm⟩
      have hwsall : ∀ w ∈ am_ws UW nm, ∀ (a' : Array Value) (U : State), s.WarmedH U.vm → w.before a' U = true := by
        intro w hw a' U hWm
        rcases List.mem_cons.mp hw with rfl | hw
        · exact am_uw_at hu hts hWm _ hcd
        · exact am_uw_at hu hts hWm _ hw
      refine am_call (mem := mem) (r := r) (st0 := st.map (am_cv ad)) (rest := (st.drop n).map (am_cv ad)) (a := ((st.take n).reverse.map (am_cv ad)).toArray) ?_ hS hD hAs k3
      cases nest with
      | zero =>
        exact va_runS (n := n) (nL := nL) (bytes := nm.2.1) (maxL := nm.2.2.1) (ret := nm.2.2.2) ⟨hx, hb, hml, hown, hts⟩ hM ⟨⟨rfl, rfl, hRf, by show 8 + (nm.2.2.1 + 11) + 64 * d0 ≤ R.locals; omega, hwsall, List.mem_cons_self, hts _ hcd, hts _ hini, ⟨hn1, hn2⟩, hparm, hts _ hlk⟩, hts _ hin⟩ hp rfl (by rw [List.length_map]; exact hlenA) hl.1 hst (lv_room hW9) hd ⟨hRc, hRs⟩
      | succ _ =>
        exact va_runSN (n := n) (nL := nL) (bytes := nm.2.1) (maxL := nm.2.2.1) (ret := nm.2.2.2) ⟨hx, hb, hml, hown, hts⟩ hM ⟨⟨⟨rfl, rfl, hRf, by show 8 + (nm.2.2.1 + 11) + 64 * d0 ≤ R.locals; omega, hwsall, List.mem_cons_self⟩, hts _ hcd, hts _ hini, ⟨hn1, hn2⟩, hparm, hts _ hlk⟩, hts _ hin, trivial⟩ hp rfl (by rw [List.length_map]; exact hlenA) hl.1 hst (lv_room hW9) hd ⟨hRc, hRs⟩
end EXN
