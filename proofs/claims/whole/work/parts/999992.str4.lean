/-! ===== a method of the class by the small machine, with strings: string i is .ref k with ad k its place ===== -/
section AG
variable {p : Program} {l : Launch} {e : Env} {R : Room} {s : State} {m : MethodId} {args : Array Value} {below : List Frame} {meth : Method} {c : Code} {Q : State → Prop} {cc : ByteArray} {nL : Nat} {own : String} {D : va_G} {cy : Nat → ClassId} {ad : Nat → Nat} {Ex : State → Prop}
def ag_W (p : Program) (l : Launch) (e : Env) (R : Room) (s : State) (m : MethodId) (args : Array Value) (below : List Frame) (meth : Method) (c : Code) (Q : State → Prop) (nL : Nat) (D : va_G) (cy : Nat → ClassId) (ad : Nat → Nat) (x : am_C) : Prop := am_Ws p l e R s m args below meth c 0 0 Q nL D am_cl cy (am_A ad am_SH.length s.heap.size) s.heap ad am_SH x
def ag_C (p : Program) (s : State) (m : MethodId) (args : Array Value) (c : Code) (cc : ByteArray) (nL : Nat) (own : String) (D : va_G) (cy : Nat → ClassId) (ad : Nat → Nat) (Ex : State → Prop) : Prop := p.tables.exec = Jvm.exec ∧ c.code = cc ∧ c.maxLocals = nL ∧ s.vm.findClass own = some m.cls ∧ (∀ w ∈ am_U, w.before args s = true) ∧ va_K D am_cl (am_tys cy) s ∧ am_Exh ad am_SH.length Ex ∧ Ex s
theorem ag_b (C : ag_C p s m args c cc nL own D cy ad Ex) {Cd : Nat → Option am_Q} (hCd : ∀ pc q, Cd pc = some q → decode cc pc = .ok (q.1, q.2.1) ∧ am_lk own am_cl am_U pc q) {x' : am_C} :
    ∀ (k : Nat) {x : am_C}, am_run Cd k x = some x' → ag_W p l e R s m args below meth c Q nL D cy ad x' → ag_W p l e R s m args below meth c Q nL D cy ad x := by
  intro k
  induction k with
  | zero =>
    intro x h g
    cases h
    exact g
  | succ k ih =>
    intro x h g
    simp only [am_run] at h
    split at h
    · cases h
    · next q hq =>
      cases hp : am_pl q.1 with
      | false => rw [hp] at h; cases h
      | true =>
        rw [hp] at h
        simp only [cond_true] at h
        split at h
        · next c1 hc1 =>
          obtain ⟨h1, h2⟩ := hCd _ _ hq
          exact am_stepW C.1 C.2.1 C.2.2.2.1 C.2.2.2.2.1 C.2.2.2.2.2.1 am_cl_ok (am_shk_of am_SH_ok) h1 h2 hc1 (ih h g)
        · cases h
theorem ag_ieq (C : ag_C p s m args c cc nL own D cy ad Ex) {Cd : Nat → Option am_Q} (hCd : ∀ pc q, Cd pc = some q → decode cc pc = .ok (q.1, q.2.1) ∧ am_lk own am_cl am_U pc q) {pc t : Nat} {off : Int} {x z : Int32} {ls : List (Option Value)} {st : List Value} {mem : am_M} (hd : Cd pc = some (.if_icmp .eq off, 3, [t])) (kt : x = z → ag_W p l e R s m args below meth c Q nL D cy ad (t, ls, st, mem)) (kf : ¬ x = z → ag_W p l e R s m args below meth c Q nL D cy ad (pc + 3, ls, st, mem)) : ag_W p l e R s m args below meth c Q nL D cy ad (pc, ls, .int z :: .int x :: st, mem) := by
  by_cases h : x = z
  · refine ag_b C hCd (x' := (t, ls, st, mem)) 1 ?_ (kt h)
    simp only [am_run, hd]
    simp [am_pl, am_step, am_b2, am_cond, am_hd, h]
  · refine ag_b C hCd (x' := (pc + 3, ls, st, mem)) 1 ?_ (kf h)
    simp only [am_run, hd]
    simp [am_pl, am_step, am_b2, am_cond, am_hd, h]
theorem ag_ige (C : ag_C p s m args c cc nL own D cy ad Ex) {Cd : Nat → Option am_Q} (hCd : ∀ pc q, Cd pc = some q → decode cc pc = .ok (q.1, q.2.1) ∧ am_lk own am_cl am_U pc q) {pc t : Nat} {off : Int} {x z : Int32} {ls : List (Option Value)} {st : List Value} {mem : am_M} (hd : Cd pc = some (.if_icmp .ge off, 3, [t])) (kt : z ≤ x → ag_W p l e R s m args below meth c Q nL D cy ad (t, ls, st, mem)) (kf : ¬ z ≤ x → ag_W p l e R s m args below meth c Q nL D cy ad (pc + 3, ls, st, mem)) : ag_W p l e R s m args below meth c Q nL D cy ad (pc, ls, .int z :: .int x :: st, mem) := by
  by_cases h : z ≤ x
  · refine ag_b C hCd (x' := (t, ls, st, mem)) 1 ?_ (kt h)
    simp only [am_run, hd]
    simp [am_pl, am_step, am_b2, am_cond, am_hd, h]
  · refine ag_b C hCd (x' := (pc + 3, ls, st, mem)) 1 ?_ (kf h)
    simp only [am_run, hd]
    simp [am_pl, am_step, am_b2, am_cond, am_hd, h]
theorem ag_z (C : ag_C p s m args c cc nL own D cy ad Ex) {Cd : Nat → Option am_Q} (hCd : ∀ pc q, Cd pc = some q → decode cc pc = .ok (q.1, q.2.1) ∧ am_lk own am_cl am_U pc q) {pc t : Nat} {off : Int} {x : Int32} {ls : List (Option Value)} {st : List Value} {mem : am_M} (hd : Cd pc = some (.ifCond .eq off, 3, [t])) (kt : x = 0 → ag_W p l e R s m args below meth c Q nL D cy ad (t, ls, st, mem)) (kf : ¬ x = 0 → ag_W p l e R s m args below meth c Q nL D cy ad (pc + 3, ls, st, mem)) : ag_W p l e R s m args below meth c Q nL D cy ad (pc, ls, .int x :: st, mem) := by
  by_cases h : x = 0
  · refine ag_b C hCd (x' := (t, ls, st, mem)) 1 ?_ (kt h)
    simp only [am_run, hd]
    simp [am_pl, am_step, am_b1, am_cond, am_hd, h]
  · refine ag_b C hCd (x' := (pc + 3, ls, st, mem)) 1 ?_ (kf h)
    simp only [am_run, hd]
    simp [am_pl, am_step, am_b1, am_cond, am_hd, h]
/-- a static call of a method that the small machine runs by itself -/
theorem ag_c (C : ag_C p s m args c cc nL own D cy ad Ex) {Cd : Nat → Option am_Q} (hCk : ∀ pc q, Cd pc = some q → decode cc pc = .ok (q.1, q.2.1) ∧ am_ck own am_cl am_U am_Nm q) {pc i d0 : Nat} {ls : List (Option Value)} {st : List Value} {mem : am_M} {r : am_R} {j n vi ci : Nat} {rs : List Nat} {as : List Value} (hd : Cd pc = some (.invokestatic i, 3, j :: n :: vi :: ci :: rs)) (has : (st.take n).reverse = as) (hc : (Nat.ble n st.length && Nat.ble (((st.drop n).map fun v => v.category).sum) 8 && am_rc am_SH vi ci as) = true)
    (hR : am_Rn (fun _ _ _ => none) d0 j as mem r) (hRf : d0 + 1 ≤ R.frames) (hRl : 64 * (d0 + 1) ≤ R.locals)
    (k : ag_W p l e R s m args below meth c Q nL D cy ad (pc + 3, ls, r.1.toList ++ st.drop n, r.2)) : ag_W p l e R s m args below meth c Q nL D cy ad (pc, ls, st, mem) := by
  obtain ⟨n0, h0⟩ := hR
  obtain ⟨hdec, hck⟩ := hCk _ _ hd
  have hinv : am_inv am_SH (am_ex am_Ys (fun _ _ _ => none) am_SH n0 d0) (.invokestatic i, 3, j :: n :: vi :: ci :: rs) (pc, ls, st, mem) = some (pc + 3, ls, r.1.toList ++ st.drop n, r.2) := by
    subst has
    simp only [am_inv, hc, cond_true, h0 n0 (Nat.le_refl _)]
  exact an_invH (Ex := Ex) (d0 := d0) (R := R) C.1 C.2.1 C.2.2.1 C.2.2.2.1 C.2.2.2.2.1 am_U_uw C.2.2.2.2.2.1 C.2.2.2.2.2.2.1 C.2.2.2.2.2.2.2 hRf hRl (Nat.zero_le _) (Nat.zero_le _) (fun q h1 h2 => h2) (fun q h => Or.inr h) am_nk_ok (fun j as mem r nm hh hn => am_exH am_U_uw C.2.2.2.2.2.2.1 am_cl_ok (am_shk_of am_SH_ok) am_nk_ok am_yk_ok (fun d j as mem r nm _ h2 => by cases h2) n0 d0 j as mem r nm hh hn) hdec hck (Or.inr ⟨i, rfl⟩) hinv k
theorem ag_E (C : ag_C p s m args c cc nL own D cy ad Ex) {H : Heap} {locs : List Loc} (hS : va_S (am_A ad am_SH.length s.heap.size) s.heap H locs) : ∀ U : State, U.heap = H → s.WarmedH U.vm → Ex U := fun U hU hW => C.2.2.2.2.2.2.1 s U C.2.2.2.2.2.2.2 hW (by rw [hU]; exact hS.1) (fun q h1 h2 => by rw [hU]; exact hS.2.1 q h1 h2)
/-- a static call of a method by its contract -/
theorem ag_cS (C : ag_C p s m args c cc nL own D cy ad Ex) {nm : am_N} {d i pc : Nat} {as : List Value} {ls : List (Option Value)} {st : List Value} {mem : am_M} {r : am_R} (hk : sj_k nm) (M : am_Mt l D am_cl cy ad am_SH Ex am_U nm d as mem r) (hlk : Cond.methodLink own i nm.1 ∈ am_U) (hst : Cond.static nm.1 ∈ am_U) (hpar : (parseMethodDescriptor nm.1.desc).map (fun d => d.parameters.length) = some as.length) (hRf : d + 1 ≤ R.frames) (hRl : 64 * (d + 1) ≤ R.locals) (hd : decode cc pc = .ok (.invokestatic i, 3)) (hW8 : (st.map fun v => v.category).sum ≤ 8)
    (kk : ag_W p l e R s m args below meth c Q nL D cy ad (pc + 3, ls, r.1.toList ++ st, r.2)) : ag_W p l e R s m args below meth c Q nL D cy ad (pc, ls, as.reverse ++ st, mem) := by
  intro H locs L hP hD hS hl hnl
  have hE := ag_E C hS
  obtain ⟨hx, hb, hml, hown, hts, hK, hEk, hEs⟩ := C
  obtain ⟨hmx, hcd, hini, hn1, hn2⟩ := hk
  have hstk : (as.reverse ++ st).map (am_cv ad) = (as.map (am_cv ad)).reverse ++ st.map (am_cv ad) := by rw [List.map_append, List.map_reverse]
  have hW9 : ((st.map (am_cv ad)).map fun v => v.category).sum ≤ 8 := by
    have : ((st.map (am_cv ad)).map fun v => v.category) = (st.map fun v => v.category) := by
      rw [List.map_map]
      apply List.map_congr_left
      intro v _
      exact am_cv_cat ad v
    rw [this]
    exact hW8
  have hparm : ∀ sig, parseMethodDescriptor nm.1.desc = some sig → as.length = sig.parameters.length := by
    intro sig hsig
    rw [hsig] at hpar
    simp only [Option.map_some, Option.some.injEq] at hpar
    omega
  have hp : PreS s H (am_Pc D am_cl cy ad am_SH Ex H.size as mem) (as.map (am_cv ad)) := ⟨am_Ph_blind hEk, fun U hU hWm => ⟨rfl, by rw [hU], by rw [hU]; exact hP, va_K.moved hWm.alike hK, am_W_own hD _, hE U hU hWm⟩⟩
  have k3 : ∀ (H1 : Heap) (locs1 : List Loc), va_P D am_cl (am_W cy ad am_SH r.2) H1 → va_D (am_A ad am_SH.length s.heap.size) (am_W cy ad am_SH r.2) → va_S (am_A ad am_SH.length s.heap.size) s.heap H1 locs1 → W p l e R s m args below meth c H1 locs1 0 0 Q (F0 m (pc + 3) L ((r.1.map (am_cv ad)).toList ++ st.map (am_cv ad))) := by
    intro H1 locs1 hP1 hD1 hS1
    have k2 := kk H1 locs1 L hP1 hD1 hS1 hl hnl
    have e1 : (r.1.toList ++ st).map (am_cv ad) = (r.1.map (am_cv ad)).toList ++ st.map (am_cv ad) := by
      rw [List.map_append]
      cases r.1 <;> rfl
    rw [← e1]
    exact k2
  refine am_call (mem := mem) (r := r) (st0 := (as.reverse ++ st).map (am_cv ad)) (rest := st.map (am_cv ad)) (a := (as.map (am_cv ad)).toArray) ?_ hS hD (fun q h => Or.inr h) k3
  exact va_runS (n := as.length) (nL := nL) (bytes := nm.2.1) (maxL := nm.2.2.1) (ret := nm.2.2.2) ⟨hx, hb, hml, hown, hts⟩ (M H.size) ⟨⟨rfl, rfl, hRf, by show 8 + (nm.2.2.1 + 11) + 64 * d ≤ R.locals; omega, sj_ws ⟨hmx, hcd, hini, hn1, hn2⟩ hts, List.mem_cons_self, hts _ hcd, hts _ hini, ⟨hn1, hn2⟩, hparm, hts _ hlk⟩, hts _ hst⟩ hp rfl (by rw [List.length_map]) hl.1 hstk (lv_room hW9) hd ⟨Nat.zero_le _, Nat.zero_le _⟩
/-- a string constant -/
theorem ag_ldc (C : ag_C p s m args c cc nL own D cy ad Ex) {idx k pc : Nat} {tx : String} {ls : List (Option Value)} {st : List Value} {mem : am_M} (hR : vk_R own idx tx (ad k) s) (hd : decode cc pc = .ok (.ldc idx, 2)) (kk : ag_W p l e R s m args below meth c Q nL D cy ad (pc + 2, ls, .ref k :: st, mem)) : ag_W p l e R s m args below meth c Q nL D cy ad (pc, ls, st, mem) := by
  intro H locs L hP hD hS hl hnl
  exact va_ldcS C.1 C.2.1 C.2.2.2.1 hR hd (kk H locs L hP hD hS hl hnl)
/-- a method of a string -/
theorem ag_sV (C : ag_C p s m args c cc nL own D cy ad Ex) {nm : am_N} {d i pc k : Nat} {as : List Value} {ls : List (Option Value)} {st : List Value} {mem : am_M} {r : Value} (hk : sj_k nm) (hrc : ∀ H locs, va_S (am_A ad am_SH.length s.heap.size) s.heap H locs → ∃ cell : Cell, H[ad k]? = some cell ∧ cell.vm.isStatics = false ∧ s.vm.findClass nm.1.cls = some cell.cls) (has : as.map (am_cv ad) = as) (hr : am_cv ad r = r) (M : sj_M l Ex nm d (.ref (ad k) :: as) (some r)) (hlk : Cond.methodLink own i nm.1 ∈ am_U) (hin : Cond.instanceMethod nm.1 ∈ am_U) (hsel : Cond.selects nm.1.cls nm.1 nm.1 ∈ am_U) (hpar : (parseMethodDescriptor nm.1.desc).map (fun d => d.parameters.length) = some as.length) (hRf : d + 1 ≤ R.frames) (hRl : 64 * (d + 1) ≤ R.locals) (hd : decode cc pc = .ok (.invokevirtual i, 3)) (hW8 : (st.map fun v => v.category).sum ≤ 8)
    (kk : ag_W p l e R s m args below meth c Q nL D cy ad (pc + 3, ls, r :: st, mem)) : ag_W p l e R s m args below meth c Q nL D cy ad (pc, ls, as.reverse ++ .ref k :: st, mem) := by
  intro H locs L hP hD hS hl hnl
  have hE := ag_E C hS
  have hEk := C.2.2.2.2.2.2.1
  have hW9 : ((st.map (am_cv ad)).map fun v => v.category).sum ≤ 8 := by
    have : ((st.map (am_cv ad)).map fun v => v.category) = (st.map fun v => v.category) := by
      rw [List.map_map]
      apply List.map_congr_left
      intro v _
      exact am_cv_cat ad v
    rw [this]
    exact hW8
  have k2 := kk H locs L hP hD hS hl hnl
  have e1 : (as.reverse ++ .ref k :: st).map (am_cv ad) = as.reverse ++ .ref (ad k) :: st.map (am_cv ad) := by
    rw [List.map_append, List.map_reverse, has]
    rfl
  have e2 : (r :: st).map (am_cv ad) = (some r).toList ++ st.map (am_cv ad) := by
    show am_cv ad r :: st.map (am_cv ad) = _
    rw [hr]
    rfl
  show W p l e R s m args below meth c H locs 0 0 Q (F0 m pc L ((as.reverse ++ .ref k :: st).map (am_cv ad)))
  rw [e1]
  refine sj_cV (nL := nL) (d := d) C.1 C.2.1 C.2.2.1 C.2.2.2.1 C.2.2.2.2.1 (fun U V h1 h2 h3 => hEk U V h1 (by rw [← h2]; exact State.WarmedH.refl U) (by rw [h3]; exact Nat.le_refl _) (fun q _ _ => by rw [h3])) hE hk (hrc H locs hS) M hlk hin hsel hpar hRf hRl (Nat.zero_le _) (Nat.zero_le _) hd hl.1 hW9 ?_
  rw [← e2]
  exact k2
end AG
