theorem am_inv_inv {sh : am_Sh} {call : Nat → List Value → am_M → Option am_R} {q : am_Q} {c x : am_C} (h : am_inv sh call q c = some x) :
    ∃ j n vi ci rs r, q.2.2 = j :: n :: vi :: ci :: rs ∧ n ≤ c.2.2.1.length ∧ ((c.2.2.1.drop n).map fun v => v.category).sum ≤ 8 ∧ (vi ≠ 0 → ∃ a As ks, (c.2.2.1.take n).reverse = .ref a :: As ∧ sh[a]? = some (.inl (ci, ks))) ∧ call j (c.2.2.1.take n).reverse c.2.2.2 = some r ∧ x = (c.1 + 3, c.2.1, r.1.toList ++ c.2.2.1.drop n, r.2) := by
  unfold am_inv at h
  split at h
  · next j n vi ci rs hq =>
    cases hb : (Nat.ble n c.2.2.1.length && Nat.ble (((c.2.2.1.drop n).map fun v => v.category).sum) 8 && am_rc sh vi ci (c.2.2.1.take n).reverse) with
    | false => rw [hb] at h; cases h
    | true =>
      rw [hb] at h
      simp only [cond_true] at h
      simp only [Bool.and_eq_true] at hb
      split at h
      · next r hc =>
        refine ⟨j, n, vi, ci, rs, r, hq, Nat.le_of_ble_eq_true hb.1.1, Nat.le_of_ble_eq_true hb.1.2, ?_, hc, (Option.some.inj h).symm⟩
        intro hvi
        have hr := hb.2
        cases vi with
        | zero => exact absurd rfl hvi
        | succ vi =>
          simp only [am_rc] at hr
          split at hr
          · next a As hs =>
            split at hr
            · next o ho =>
              obtain ⟨c1, ks⟩ := o
              simp only [beq_iff_eq] at hr
              subst hr
              exact ⟨a, As, ks, hs, ho⟩
            · cases hr
          · cases hr
      · cases h
  · cases h
section AMC
variable {p : Program} {l : Launch} {e : Env} {s : State} {m : MethodId} {args : Array Value} {below : List Frame} {meth : Method} {c : Code} {Q : State → Prop} {cc : ByteArray} {nL : Nat} {D : va_G} {cl : List vw_C} {cy : Nat → ClassId} {A : Nat → Prop} {ad : Nat → Nat} {sh : am_Sh} {own : String} {UW : List Cond} {Ex : State → Prop} {Nm : Nat → Option am_N}
theorem am_Pc_blind (hE : am_Exk ad sh.length Ex) {sz : Nat} {as : List Value} {mem : am_M} : FrameBlind (am_Pc D cl cy ad sh Ex sz as mem) := by
  intro a U g mk h
  obtain ⟨q0, q1, qP, qK, qD, qE⟩ := h
  exact ⟨q0, q1, qP, va_K.moved (u := U) (U := U.calling g mk a) (Vm.Alike.refl U.vm) qK, qD, hE U (U.calling g mk a) qE (Vm.Alike.refl U.vm) (Nat.le_refl _) (fun _ _ _ => rfl)⟩
set_option maxHeartbeats 4000000 in
set_option maxRecDepth 100000 in
/-- a call of the small machine is one of the machine -/
theorem am_invW (hx : p.tables.exec = Jvm.exec) (hb : c.code = cc) (hml : c.maxLocals = nL) (hown : s.vm.findClass own = some m.cls) (hts : ∀ w ∈ UW, w.before args s = true) (hu : am_uw UW) (hK : va_K D cl (am_tys cy) s) (hE : am_Exk ad sh.length Ex) (hEs : Ex s) (hA : A = am_A ad sh.length s.heap.size)
    (hnk : ∀ j nm, Nm j = some nm → am_nk UW nm)
    {call : Nat → List Value → am_M → Option am_R} {d : Nat} (hcall : ∀ j as mem r nm, call j as mem = some r → Nm j = some nm → am_Mt l D cl cy ad sh Ex UW nm d as mem r)
    {pc : Nat} {q : am_Q} {ls : List (Option Value)} {st : List Value} {mem : am_M} {x : am_C} (hd : decode cc pc = .ok (q.1, q.2.1)) (hck : am_ck own cl UW Nm q) (hq : (∃ i, q.1 = .invokevirtual i) ∨ ∃ i, q.1 = .invokestatic i) (h : am_inv sh call q (pc, ls, st, mem) = some x)
    (kk : am_Ws p l e (am_rm (d + 1)) s m args below meth c 0 0 Q nL D cl cy A s.heap ad sh x) : am_Ws p l e (am_rm (d + 1)) s m args below meth c 0 0 Q nL D cl cy A s.heap ad sh (pc, ls, st, mem) := by
  obtain ⟨j, n, vi, ci, rs, r, hinfo, hn, hW8, hrecv, hc, rfl⟩ := am_inv_inv h
  simp only at hn hW8 hrecv hc
  obtain ⟨ins, len, info⟩ := q
  simp only at hinfo hd
  subst hinfo
  intro H locs L hP hD hS hl hnl
  have hAs : ∀ q, s.heap.size ≤ q → A q := fun q h => by rw [hA]; exact Or.inr h
  have hst : st.map (am_cv ad) = ((st.take n).reverse.map (am_cv ad)).reverse ++ (st.drop n).map (am_cv ad) := by
    rw [← List.map_reverse, List.reverse_reverse, ← List.map_append, List.take_append_drop]
  have hW9 : (((st.drop n).map (am_cv ad)).map fun v => v.category).sum ≤ 8 := by
    have : (((st.drop n).map (am_cv ad)).map fun v => v.category) = ((st.drop n).map fun v => v.category) := by
      rw [List.map_map]
      apply List.map_congr_left
      intro v _
      exact am_cv_cat ad v
    rw [this]
    exact hW8
  have hPre : ∀ U : State, U.heap = H → s.WarmedH U.vm → am_Pc D cl cy ad sh Ex H.size (st.take n).reverse mem (((st.take n).reverse.map (am_cv ad)).toArray) U := by
    intro U hU hWm
    refine ⟨rfl, by rw [hU], by rw [hU]; exact hP, va_K.moved hWm.alike hK, am_W_own hD _, hE s U hEs hWm.alike (by rw [hU]; exact hS.1) (fun q h1 h2 => by rw [hU]; exact hS.2.1 q h1 (by rw [hA]; exact h2))⟩
  have k3 : ∀ (H1 : Heap) (locs1 : List Loc), va_P D cl (am_W cy ad sh r.2) H1 → va_D A (am_W cy ad sh r.2) → va_S A s.heap H1 locs1 → W p l e (am_rm (d + 1)) s m args below meth c H1 locs1 0 0 Q (F0 m (pc + 3) L ((r.1.map (am_cv ad)).toList ++ (st.drop n).map (am_cv ad))) := by
    intro H1 locs1 hP1 hD1 hS1
    have k2 := kk H1 locs1 L hP1 hD1 hS1 hl hnl
    have e1 : (r.1.toList ++ st.drop n).map (am_cv ad) = (r.1.map (am_cv ad)).toList ++ (st.drop n).map (am_cv ad) := by
      rw [List.map_append]
      cases r.1 <;> rfl
    rw [← e1]
    exact k2
  rcases hq with ⟨i, hi⟩ | ⟨i, hi⟩
  · simp only at hi
    subst hi
    simp only [am_ck] at hck
    cases rs with
    | nil => exact absurd hck (by simp)
    | cons nest rs =>
      obtain ⟨h3, hvi, nm, hnm, hlk, hin, hsel, ⟨r0, hr0, hr0c⟩, hpar⟩ := hck
      have hlen : len = 3 := h3
      subst hlen
      obtain ⟨a, As, ks, has, hsa⟩ := hrecv (by omega)
      obtain ⟨hpl, hmx, hcd, hini, hn1, hn2⟩ := hnk j nm hnm
      have hM := hcall j _ mem r nm hc hnm H.size
      have hlenA : (st.take n).reverse.length = n := by simp; omega
      have hAl : As.length + 1 = n := by rw [has] at hlenA; simpa using hlenA
      have hstk : st.map (am_cv ad) = (As.map (am_cv ad)).reverse ++ .ref (ad a) :: (st.drop n).map (am_cv ad) := by
        rw [hst, has]
        simp [am_cv]
      have hrc := va_recv hK hP hr0 (am_W_at (cy := cy) (ad := ad) (m := mem) hsa)
      rw [hr0c] at hrc
      have hparm : ∀ sig, parseMethodDescriptor nm.1.desc = some sig → As.length = sig.parameters.length := by
        intro sig hsig
        rw [hsig] at hpar
        simp only [Option.map_some, Option.some.injEq] at hpar
        omega
      rw [has] at hPre hM
      have hp : PreV s H nm.1.cls (ad a) (am_Pc D cl cy ad sh Ex H.size (.ref a :: As) mem) (As.map (am_cv ad)) := ⟨am_Pc_blind hE, hrc, fun U hU hWm => hPre U hU hWm⟩
      have hwsall : ∀ w ∈ am_ws UW nm, ∀ (a' : Array Value) (U : State), s.WarmedH U.vm → w.before a' U = true := by
        intro w hw a' U hWm
        rcases List.mem_cons.mp hw with rfl | hw
        · exact am_uw_at hu hts hWm _ hcd
        · exact am_uw_at hu hts hWm _ hw
      refine am_call (mem := mem) (r := r) (st0 := st.map (am_cv ad)) (rest := (st.drop n).map (am_cv ad)) (a := (Value.ref (ad a) :: As.map (am_cv ad)).toArray) ?_ hS hD hAs k3
      cases nest with
      | zero =>
        exact va_runV (n := As.length) (nL := nL) (C := nm.1.cls) (bytes := nm.2.1) (maxL := nm.2.2.1) (ret := nm.2.2.2) ⟨hx, hb, hml, hown, hts⟩ hM ⟨⟨rfl, rfl, Nat.le_refl _, by show 8 + (nm.2.2.1 + 11) + 64 * d ≤ 64 * (d + 1); omega, hwsall, List.mem_cons_self, hts _ hcd, hts _ hini, ⟨hn1, hn2⟩, hparm, hts _ hlk⟩, hts _ hin, hts _ hsel⟩ hp rfl (by simp) hl.1 hstk (lv_room hW9) hd ⟨Nat.le_refl _, Nat.le_refl _⟩
      | succ _ =>
        exact va_runVN (n := As.length) (nL := nL) (C := nm.1.cls) (bytes := nm.2.1) (maxL := nm.2.2.1) (ret := nm.2.2.2) ⟨hx, hb, hml, hown, hts⟩ hM ⟨⟨⟨rfl, rfl, Nat.le_refl _, by show 8 + (nm.2.2.1 + 11) + 64 * d ≤ 64 * (d + 1); omega, hwsall, List.mem_cons_self⟩, hts _ hcd, hts _ hini, ⟨hn1, hn2⟩, hparm, hts _ hlk⟩, hts _ hin, hts _ hsel⟩ hp rfl (by simp) hl.1 hstk (lv_room hW9) hd ⟨Nat.le_refl _, Nat.le_refl _⟩
  · simp only at hi
    subst hi
    simp only [am_ck] at hck
    cases rs with
    | nil => exact absurd hck (by simp)
    | cons nest rs =>
      obtain ⟨h3, hvi, nm, hnm, hlk, hin, hpar⟩ := hck
      have hlen : len = 3 := h3
      subst hlen
      obtain ⟨hpl, hmx, hcd, hini, hn1, hn2⟩ := hnk j nm hnm
      have hM := hcall j _ mem r nm hc hnm H.size
      have hlenA : (st.take n).reverse.length = n := by simp; omega
      have hparm : ∀ sig, parseMethodDescriptor nm.1.desc = some sig → n = sig.parameters.length := by
        intro sig hsig
        rw [hsig] at hpar
        simp only [Option.map_some, Option.some.injEq] at hpar
        omega
      have hp : PreS s H (am_Pc D cl cy ad sh Ex H.size (st.take n).reverse mem) ((st.take n).reverse.map (am_cv ad)) := ⟨am_Pc_blind hE, fun U hU hWm => hPre U hU hWm⟩
      have hwsall : ∀ w ∈ am_ws UW nm, ∀ (a' : Array Value) (U : State), s.WarmedH U.vm → w.before a' U = true := by
        intro w hw a' U hWm
        rcases List.mem_cons.mp hw with rfl | hw
        · exact am_uw_at hu hts hWm _ hcd
        · exact am_uw_at hu hts hWm _ hw
      refine am_call (mem := mem) (r := r) (st0 := st.map (am_cv ad)) (rest := (st.drop n).map (am_cv ad)) (a := ((st.take n).reverse.map (am_cv ad)).toArray) ?_ hS hD hAs k3
      cases nest with
      | zero =>
        exact va_runS (n := n) (nL := nL) (bytes := nm.2.1) (maxL := nm.2.2.1) (ret := nm.2.2.2) ⟨hx, hb, hml, hown, hts⟩ hM ⟨⟨rfl, rfl, Nat.le_refl _, by show 8 + (nm.2.2.1 + 11) + 64 * d ≤ 64 * (d + 1); omega, hwsall, List.mem_cons_self, hts _ hcd, hts _ hini, ⟨hn1, hn2⟩, hparm, hts _ hlk⟩, hts _ hin⟩ hp rfl (by rw [List.length_map]; exact hlenA) hl.1 hst (lv_room hW9) hd ⟨Nat.le_refl _, Nat.le_refl _⟩
      | succ _ =>
        exact va_runSN (n := n) (nL := nL) (bytes := nm.2.1) (maxL := nm.2.2.1) (ret := nm.2.2.2) ⟨hx, hb, hml, hown, hts⟩ hM ⟨⟨⟨rfl, rfl, Nat.le_refl _, by show 8 + (nm.2.2.1 + 11) + 64 * d ≤ 64 * (d + 1); omega, hwsall, List.mem_cons_self⟩, hts _ hcd, hts _ hini, ⟨hn1, hn2⟩, hparm, hts _ hlk⟩, hts _ hin, trivial⟩ hp rfl (by rw [List.length_map]; exact hlenA) hl.1 hst (lv_room hW9) hd ⟨Nat.le_refl _, Nat.le_refl _⟩
end AMC
