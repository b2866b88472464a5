section ST
variable {p : Program} {l : Launch} {e : Env} {R : Room} {s : State} {m : MethodId} {args : Array Value} {below : List Frame} {meth : Method} {c : Code} {Q : State → Prop} {cc : ByteArray} {nL : Nat} {D : va_G} {cy : Nat → ClassId} {A : Nat → Prop} {own : String} {H : Heap} {locs : List Loc} {cells slots : Nat} {pc : Nat} {L : Array Slot} {rest : List Value}
set_option maxHeartbeats 4000000 in
set_option maxRecDepth 100000 in
theorem an_new1 (hx : p.tables.exec = Jvm.exec) (hb : c.code = cc) (hown : s.vm.findClass own = some m.cls) (hts : ∀ w ∈ am_U, w.before args s = true) (hK : va_K D am_cl (am_tys cy) s) (hA : ∀ q, s.heap.size ≤ q → A q)
    {i ci : Nat} {ad : Nat → Nat} {sh : am_Sh} {mem : am_M} (hd : decode cc pc = .ok (.new i, 3)) {r : vw_C} (hr : am_cl[ci]? = some r) (hci9 : ci < 9) (hlk : Cond.classLink own i r.1 ∈ am_U) (hins : Cond.instantiable r.1 r.2.2 ∈ am_U) (hini : Cond.initialized r.1 ∈ am_U) (w1 : (List.range sh.length).all (fun k => an_cb sh.length mem k (sh.getD k (.inr (0, 0)))) = true) (hRc : cells + 1 ≤ R.cells) (hRs : slots + r.2.2 ≤ R.slots)
    (hP : va_P D am_cl (am_W cy ad sh mem) H) (hD : va_D A (am_W cy ad sh mem)) (hS : va_S A s.heap H locs)
    (kk : ∀ (q : Nat) (H1 : Heap), va_P D am_cl (am_W cy (an_up ad sh.length q) (sh ++ [.inl (ci, am_ks ci)]) (am_new mem sh.length)) H1 → va_D A (am_W cy (an_up ad sh.length q) (sh ++ [.inl (ci, am_ks ci)]) (am_new mem sh.length)) → va_S A s.heap H1 locs → W p l e R s m args below meth c H1 locs (cells + 1) (slots + r.2.2) Q (F0 m (pc + 3) L (.ref q :: rest))) : W p l e R s m args below meth c H locs cells slots Q (F0 m pc L rest) := by
  obtain ⟨r2, hr2, hlen, ty0, hty0, htk⟩ := an_ks_ok ci hci9
  cases hr.symm.trans hr2
  obtain ⟨C, T, N⟩ := r
  obtain ⟨hin, -, -⟩ := am_cl_ok ci _ hr
  refine va_new (fs := (List.range (am_ks ci).length).map (fun j => am_fv ad (am_new mem sh.length) sh.length j ((am_ks ci).getD j 0))) hx hb hts hin ty0 hty0 hown (hts _ hlk) (hts _ hins) (hts _ hini) hK hP hD hS hA hr (fun j hj => ?_) hRc hRs hd (fun q H1 hP1 hD1 hS1 => ?_)
  · have hj2 : j < (am_ks ci).length := by rw [hlen]; exact hj
    unfold vp_V
    rw [List.getD, List.getElem?_map, List.getElem?_range hj2]
    simp only [Option.map_some, Option.getD_some]
    exact (an_dflt (htk j hj)).symm
  · have hcell : am_cell cy (an_up ad sh.length q) (am_new mem sh.length) sh.length (.inl (ci, am_ks ci)) = .inr (ci, (List.range (am_ks ci).length).map (fun j => am_fv ad (am_new mem sh.length) sh.length j ((am_ks ci).getD j 0))) := by
      unfold am_cell
      simp only
      congr 2
      apply List.map_congr_left
      intro j hj
      have hj2 : j < N := by rw [List.mem_range] at hj; rw [hlen] at hj; exact hj
      rw [an_dflt (htk j hj2), an_dflt (htk j hj2)]
    have hWx := an_W_ext (cy := cy) (ad := ad) (q := q) (x := .inl (ci, am_ks ci)) w1
    rw [hcell] at hWx
    rw [← hWx] at hP1 hD1
    exact kk q H1 hP1 hD1 hS1
set_option maxHeartbeats 4000000 in
set_option maxRecDepth 100000 in
theorem an_na1 (hx : p.tables.exec = Jvm.exec) (hb : c.code = cc) (hts : ∀ w ∈ am_U, w.before args s = true) (hK : va_K D am_cl (am_tys cy) s) (hA : ∀ q, s.heap.size ≤ q → A q)
    {v : Int32} {ad : Nat → Nat} {sh : am_Sh} {mem : am_M} (hd : decode cc pc = .ok (.newarray .double, 2)) (hac : Cond.arrayClass .double ∈ am_U) (w1 : (List.range sh.length).all (fun k => an_cb sh.length mem k (sh.getD k (.inr (0, 0)))) = true) (hv0 : ¬ v < 0) (hv1 : v.toNatClampNeg ≤ 1000) (hRc : cells + 1 ≤ R.cells) (hRs : slots + v.toNatClampNeg ≤ R.slots)
    (hP : va_P D am_cl (am_W cy ad sh mem) H) (hD : va_D A (am_W cy ad sh mem)) (hS : va_S A s.heap H locs)
    (kk : ∀ (q : Nat) (H1 : Heap), va_P D am_cl (am_W cy (an_up ad sh.length q) (sh ++ [.inr (2, v.toNatClampNeg)]) (am_new mem sh.length)) H1 → va_D A (am_W cy (an_up ad sh.length q) (sh ++ [.inr (2, v.toNatClampNeg)]) (am_new mem sh.length)) → va_S A s.heap H1 locs → W p l e R s m args below meth c H1 locs (cells + 1) (slots + v.toNatClampNeg) Q (F0 m (pc + 2) L (.ref q :: rest))) : W p l e R s m args below meth c H locs cells slots Q (F0 m pc L (.int v :: rest)) := by
  refine va_newa (atype := .double) (ty := .double) (a0 := (v.toNatClampNeg, .inr (.inr (.inr (.inl (fun _ => 0)))))) hx hb (hts _ hac) rfl hK hP hD hS hA (fun _ => rfl) hv0 rfl (Nat.le_trans (Nat.mul_le_mul hv1 (by decide : componentBytes FieldType.double ≤ 8)) (by decide)) hRc hRs hd (fun q cA H1 hK1 hP1 hD1 hS1 => ?_)
  have hcA : cA = cy 2 := (Option.some.inj ((hK.2 2 _ rfl).2.symm.trans (hK1.2 4 _ rfl).2)).symm
  subst hcA
  have hWx := an_W_ext (cy := cy) (ad := ad) (q := q) (x := .inr (2, v.toNatClampNeg)) w1
  rw [show am_cell cy (an_up ad sh.length q) (am_new mem sh.length) sh.length (.inr (2, v.toNatClampNeg)) = .inl (cy 2, v.toNatClampNeg, .inr (.inr (.inr (.inl (fun _ => 0))))) from an_arr0 rfl] at hWx
  rw [← hWx] at hP1 hD1
  exact kk q H1 hP1 hD1 hS1
set_option maxHeartbeats 4000000 in
set_option maxRecDepth 100000 in
/-- a constructor without arguments, called by the law -/
theorem an_con1 (hx : p.tables.exec = Jvm.exec) (hb : c.code = cc) (hml : c.maxLocals = nL) (hown : s.vm.findClass own = some m.cls) (hts : ∀ w ∈ am_U, w.before args s = true) (hK : va_K D am_cl (am_tys cy) s) (hAs : ∀ q, s.heap.size ≤ q → A q)
    {i j b0 d : Nat} {nm : am_N} {ad : Nat → Nat} {sh : am_Sh} {mem : am_M} {r2 : an_R} (hdec : decode cc pc = .ok (.invokespecial i, 3)) (hnm : an_Nc j = some nm) (hret : nm.2.2.2 = none) (hlink : Cond.methodLink own i nm.1 ∈ am_U) (hinst : Cond.instanceMethod nm.1 ∈ am_U) (hnam : nm.1.name = "<init>") (hpar : (parseMethodDescriptor nm.1.desc).map (fun d => d.parameters.length) = some 0)
    (hM : an_Mt l D cy am_U nm d [.ref b0] sh mem r2) (hRf : d + 1 ≤ R.frames) (hRl : 64 * (d + 1) ≤ R.locals) (hRc : cells + (r2.1.length - sh.length) ≤ R.cells) (hRs : slots + (am_sz r2.1 - am_sz sh) ≤ R.slots) (hLs : L.size = nL) (hW9 : (rest.map fun v => v.category).sum ≤ 8)
    (hP : va_P D am_cl (am_W cy ad sh mem) H) (hD : va_D A (am_W cy ad sh mem)) (hS : va_S A s.heap H locs)
    (kk : ∀ (ad2 : Nat → Nat) (H1 : Heap) (locs1 : List Loc), (∀ k, k < sh.length → ad2 k = ad k) → va_P D am_cl (am_W cy ad2 r2.1 r2.2) H1 → va_D A (am_W cy ad2 r2.1 r2.2) → va_S A s.heap H1 locs1 → W p l e R s m args below meth c H1 locs1 (cells + (r2.1.length - sh.length)) (slots + (am_sz r2.1 - am_sz sh)) Q (F0 m (pc + 3) L rest)) : W p l e R s m args below meth c H locs cells slots Q (F0 m pc L (.ref (ad b0) :: rest)) := by
  obtain ⟨hpl, hmx, hcd, hini, hn1, hn2⟩ := an_nk_ok j nm hnm
  have hM := hM ad H.size
  have hp : PreS s H (an_Pc D cy ad H.size [.ref b0] sh mem) [.ref (ad b0)] := by
    refine ⟨fun a U g mk q => ?_, fun U hU hWm => ⟨rfl, by rw [hU], by rw [hU]; exact hP, va_K.moved hWm.alike hK, am_W_own hD _⟩⟩
    obtain ⟨q0, q1, qP, qK, qD⟩ := q
    exact ⟨q0, q1, qP, va_K.moved (u := U) (U := U.calling g mk a) (Vm.Alike.refl U.vm) qK, qD⟩
  have hwsall : ∀ w ∈ am_ws am_U nm, ∀ (a' : Array Value) (U : State), s.WarmedH U.vm → w.before a' U = true := by
    intro w hw a' U hWm
    rcases List.mem_cons.mp hw with rfl | hw
    · exact am_uw_at am_U_uw hts hWm _ hcd
    · exact am_uw_at am_U_uw hts hWm _ hw
  have hsub : ∀ q, am_A ad sh.length H.size q → A q := by
    rintro q (⟨k, hk, rfl⟩ | h)
    · exact am_W_in hD hk
    · exact hAs q (Nat.le_trans hS.1 h)
  have hcd2 : Cond.code nm.1 nm.2.1 nm.2.2.1 none ∈ am_U := by rw [← hret]; exact hcd
  have hcd3 : Cond.code nm.1 nm.2.1 nm.2.2.1 none ∈ am_ws am_U nm := by unfold am_ws; rw [hret]; exact List.mem_cons_self
  have hparm : ∀ sig, parseMethodDescriptor nm.1.desc = some sig → 0 = sig.parameters.length := by
    intro sig hsig
    rw [hsig] at hpar
    simp only [Option.map_some, Option.some.injEq] at hpar
    omega
  have hrun : va_Run p l e R s m args below meth c H locs cells slots (r2.1.length - sh.length) (am_sz r2.1 - am_sz sh) (F0 m pc L (.ref (ad b0) :: rest)) rest (an_Qc D cy ad H.size sh r2 ([Value.ref (ad b0)]).toArray) (am_A ad sh.length H.size) :=
    va_runI (n := 0) (As := []) (nL := nL) (bytes := nm.2.1) (maxL := nm.2.2.1) ⟨hx, hb, hml, hown, hts⟩ hM ⟨⟨rfl, rfl, hRf, by show 8 + (nm.2.2.1 + 11) + 64 * d ≤ R.locals; omega, hwsall, hcd3, hts _ hcd2, hts _ hini, ⟨hn1, hn2⟩, hparm, hts _ hlink⟩, hnam, hts _ hinst⟩ hp rfl rfl hLs rfl (lv_room hW9) hdec ⟨hRc, hRs⟩
  intro T hT X
  obtain ⟨v, st₀, t, T', L2, h0, X', hL2, e1, e2, ⟨⟨hv, ad2, hag2, hP2, hD2⟩, hz, hk2⟩, stp⟩ := hrun T hT X
  cases hv
  rw [h0] at hz hk2
  have k3 := kk ad2 T'.heap (locs ++ L2) hag2 (by rw [e1]; exact hP2) ⟨hD2.1, fun k q hq => hsub _ (hD2.2 k q hq)⟩
    ⟨Nat.le_trans hS.1 (by rw [e1]; exact hz), fun q h1 h2 => by rw [e1, hk2 q (Nat.lt_of_lt_of_le h1 hS.1) (fun z => h2 (hsub q z))]; exact hS.2.1 q h1 h2, fun q hq => by
      rcases List.mem_append.mp hq with h | h
      · exact hS.2.2 q h
      · exact hsub _ (hL2 q h)⟩
  obtain ⟨t2, a1, b5⟩ := k3 T' rfl X'
  exact ⟨t2, stp t2 a1, b5⟩
end ST
