/-! ===== the law's case 13: machine ===== -/
section CALL1
variable {p : Program} {l : Launch} {e : Env} {R : Room} {s : State} {m : MethodId} {args : Array Value} {below : List Frame} {meth : Method} {c : Code} {cells slots : Nat} {Q : State → Prop} {D : va_G} {cl : List vw_C} {cy : Nat → ClassId} {A : Nat → Prop} {H0 : Heap} {ad : Nat → Nat} {sh : am_Sh}
/-- behind a call that makes something -/
theorem am_call1 {pc mc ms : Nat} {ls : Array Slot} {st0 rest : List Value} {a : Array Value} {H : Heap} {locs : List Loc} {r : am_R} {mem : am_M} (hr : va_Run p l e R s m args below meth c H locs cells slots mc ms (F0 m pc ls st0) rest (am_Qc D cl cy ad sh H.size r a) (am_A ad sh.length H.size)) (hS : va_S A H0 H locs) (hD : va_D A (am_W cy ad sh mem)) (hA : ∀ q, H0.size ≤ q → A q)
    (kk : ∀ (H1 : Heap) (locs1 : List Loc), va_P D cl (am_W cy ad sh r.2) H1 → va_D A (am_W cy ad sh r.2) → va_S A H0 H1 locs1 → W p l e R s m args below meth c H1 locs1 (cells + mc) (slots + ms) Q (F0 m (pc + 3) ls ((r.1.map (am_cv ad)).toList ++ rest))) : W p l e R s m args below meth c H locs cells slots Q (F0 m pc ls st0) := by
  have hsub : ∀ q, am_A ad sh.length H.size q → A q := by
    rintro q (⟨k, hk, rfl⟩ | h)
    · exact am_W_in hD hk
    · exact hA q (Nat.le_trans hS.1 h)
  intro T hT X
  obtain ⟨v, st₀, t, T', L, h0, X', hL, e1, e2, ⟨hv, hP1, hz, hk⟩, st⟩ := hr T hT X
  cases hv
  rw [h0] at hz hk
  obtain ⟨t2, a1, b1⟩ := kk T'.heap (locs ++ L) (by rw [e1]; exact hP1) (am_W_ad hD)
    ⟨Nat.le_trans hS.1 (by rw [e1]; exact hz), fun q h1 h2 => by rw [e1, hk q (Nat.lt_of_lt_of_le h1 hS.1) (fun z => h2 (hsub q z))]; exact hS.2.1 q h1 h2, fun q hq => by
      rcases List.mem_append.mp hq with h | h
      · exact hS.2.2 q h
      · exact hsub _ (hL q h)⟩ T' rfl X'
  exact ⟨t2, st t2 a1, b1⟩
end CALL1
section REFM
variable {ext : Nat → List Value → am_M → Option am_R} {ls : pt_L} {I : Nat → Nat → Int32} (L : Nat → Nat → Int64) (D : Nat → Nat → UInt64)
theorem c115 (X : am_Rf) {k : Int32} (hk : I 42 2 = k) : am_Rn ext 400 115 [.ref 42] (I, L, D, am_rf X) (some (.int k), (I, L, D, am_rf X)) := by
  subst hk
  exact am_up (am_rn_of (ext := ext) (d := 0) (as := [.ref 42]) mh_115 rfl (w115_0 I L D X rfl)) (show 1 ≤ 400 by omega)
theorem c197 (X : am_Rf) (k : Int32) : am_Rn ext 399 197 [.ref 42, .int k] (I, L, D, am_rf X) (some (.double FP.dconst0), (am_uI I 42 2 k, L, D, am_rf X)) :=
  am_up (am_rn_of (ext := ext) (d := 0) (as := [.ref 42, .int k]) mh_197 rfl (w197_0 I L D X k rfl)) (show 1 ≤ 399 by omega)
theorem c198_1 (X : am_Rf) {v : Int32} (h : v < 0 ∨ 26 ≤ v) : am_Rn ext 400 198 [.ref 42, .int v] (I, L, D, am_rf X) (some (.double FP.dconst0), (am_uI (am_uI I 42 2 0) 42 2 1, L, D, am_rf X)) := by
  have r1 := am_up (c146 (ext := ext) (d := 0) (I := am_uI I 42 2 0) L D X v) (show 0 + 1 ≤ 399 by omega)
  have e : (if v < 0 then (0 : Int32) else if 26 ≤ v then 0 else 1) = 0 := by
    by_cases h0 : v < 0
    · rw [if_pos h0]
    · rw [if_neg h0, if_pos (h.resolve_left h0)]
  rw [e] at r1
  have r2 := c197 (ext := ext) (I := am_uI I 42 2 0) L D X 1
  exact am_rn_of (d := 399) mh_198 rfl (w198_0 I L D X v ⟨_, _, L, D, r1, fun z => absurd rfl z, fun _ => ⟨_, _, L, D, r2, rfl⟩⟩)
theorem c146_1 (X : am_Rf) {v : Int32} (h0 : ¬ v < 0) (h26 : ¬ 26 ≤ v) : am_Rn ext 399 146 [.int v] (I, L, D, am_rf X) (some (.int 1), (I, L, D, am_rf X)) := by
  have r1 := am_up (c146 (ext := ext) (d := 0) (I := I) L D X v) (show 0 + 1 ≤ 399 by omega)
  rw [if_neg h0, if_neg h26] at r1
  exact r1
theorem c198_2 (X : am_Rf) (hK : rm_K ls (am_uI I 42 2 0)) {v : Int32} (h0 : ¬ v < 0) (h26 : ¬ 26 ≤ v) (g1 : ¬ lt_k ls v = 1) : am_Rn ext 400 198 [.ref 42, .int v] (I, L, D, am_rf X) (some (.double FP.dconst0), (am_uI (am_uI I 42 2 0) 42 2 2, L, D, am_rf X)) := by
  have r1 := c146_1 (ext := ext) (I := am_uI I 42 2 0) L D X h0 h26
  have r2 := am_up (c148 (ext := ext) (d := 0) (I := am_uI I 42 2 0) L D X hK v) (show 0 + 2 ≤ 399 by omega)
  rw [if_neg g1] at r2
  have r3 := c197 (ext := ext) (I := am_uI I 42 2 0) L D X 2
  exact am_rn_of (d := 399) mh_198 rfl (w198_0 I L D X v ⟨_, _, L, D, r1, fun _ => ⟨_, _, L, D, r2, fun z => absurd rfl z, fun _ => ⟨_, _, L, D, r3, rfl⟩⟩, fun z => absurd z (by decide)⟩)
theorem c198_3 (X : am_Rf) (hP : iv_P ls I) (hC : Cm ls I D) {v : Int32} (g1 : lt_k ls v = 1) : ∃ I' D', am_Rn ext 400 198 [.ref 42, .int v] (I, L, D, am_rf X) (some (.double (dbl (de_S ls (lt_i ls v) (some d_0)))), (I', L, D', am_rf X)) ∧ fm ls I L I' L D' ∧ I' 42 2 = 0 ∧ D' 81 0 = D 81 0 := by
  have s2 : iv_s I L D (am_uI I 42 2 0) L D := iv_s_I (iv_2 I 0) (fun _ _ _ => rfl)
  have hP2 := iv_P_s hP s2.1
  have F0 := fm_s hP hC s2
  obtain ⟨p1, p2, p3, p4, _⟩ := lt_x (ls := ls) (v := v) (by omega)
  have hb := ni_inb (n := 26) p1 (by omega)
  rw [← p2] at hb
  have r1 := c146_1 (ext := ext) (I := am_uI I 42 2 0) L D X p3 p4
  have r2 := am_up (c148 (ext := ext) (d := 0) (I := am_uI I 42 2 0) L D X hP2.2.1 v) (show 0 + 2 ≤ 399 by omega)
  rw [if_pos g1] at r2
  obtain ⟨I1, D1, r, f1, f2, f3⟩ := c191 (ext := ext) L X hP2 F0.2.2
  have F1 : fm ls (am_uI I 42 2 0) L I1 L D1 := ⟨fun a b k q1 q2 q3 => f1 a b (by unfold iv_k at k; omega) (by unfold iv_k at k; omega), fun _ _ _ => rfl, dm_M_of F0.2.2.1 (fun b => f1 36 b (by omega) (by omega)) (fun b => f2 35 b (by omega) (by omega)), Or.inr f3⟩
  obtain ⟨y0, y1⟩ := mw_at hP.2.2.1 f3 g1
  refine ⟨I1, D1, am_rn_of (d := 399) mh_198 rfl (w198_0 I L D X v ⟨_, _, L, D, r1, fun _ => ⟨_, _, L, D, r2, fun _ => ⟨I1, L, D1, am_up r (show 7 ≤ 399 by omega), hb, fun z => ⟨hb, ?_⟩, fun z => ?_⟩, fun z => absurd z (by decide)⟩, fun z => absurd z (by decide)⟩), fm_t F0 F1, ?_, f2 81 0 (by omega) (by omega)⟩
  · rw [y1]
  · cases ho : de_S ls (lt_i ls v) (some d_0) with
    | none => rfl
    | some a => rw [y0, ho] at z; exact absurd rfl z
  · rw [f1 42 2 (by omega) (by omega), am_uI_at, if_pos ⟨rfl, rfl⟩]
end REFM
section LNM
variable {p : Program} {l : Launch} {e : Env} {s : State} {m : MethodId} {below : List Frame} {meth : Method} {c : Code} {Q : State → Prop} {D : va_G} {cy : Nat → ClassId} {ad aS adV : Nat → Nat} {b Ln : Nat} {xs : Nat → Int32} {N M : Nat}
theorem ln_d721 : decode code 721 = .ok (.invokestatic 80, 3) := by decide +kernel
theorem yml_p : (parseMethodDescriptor yml.desc).map (fun d => d.parameters.length) = some 3 := by decide +kernel
set_option maxHeartbeats 4000000 in
set_option maxRecDepth 100000 in
/-- the law calls its own machine -/
theorem ln_mk (C : ln_Cx p l s m c D cy ad b Ln xs am_ext (ym s.heap.size aS adV)) (hN : N + 1 ≤ 601024) (hM : M + 6 ≤ 7293034) {a : Int32} {mem mem' : am_M} {o : mx_O} {k : Int32} (hMt : mx_Mt l D cy ad (ym s.heap.size aS adV) a mem o) (hk : ml_R mem o k mem') {ls : List (Option Value)}
    (kk : ln_W (N + 1) (M + 6) p l e s m b below meth c Q D cy ad (724, ls, [.int k], mem')) : ln_W N M p l e s m b below meth c Q D cy ad (721, ls, [.ref 81, .int a, .ref 0], mem) := by
  intro H locs L hP hD hS hll hnl
  obtain ⟨hx, hb, hml, hown, hts, hK, hE, hEs, -, -, -, -, hnA⟩ := C
  have hcw : Cond.codeWith yml method_3_code 4 (some .int) ml_hh ∈ am_U := an_mem_ok (by decide +kernel)
  have hwsall : ∀ w ∈ ml_ws, ∀ (a' : Array Value) (U : State), s.WarmedH U.vm → w.before a' U = true := by
    intro w hw a' U hWm
    rcases List.mem_cons.mp hw with rfl | hw
    · exact am_uw_at am_U_uw hts hWm _ hcw
    · exact am_uw_at am_U_uw hts hWm _ hw
  have hparm : ∀ sig, parseMethodDescriptor yml.desc = some sig → 3 = sig.parameters.length := by
    intro sig hsig
    have h := yml_p
    rw [hsig] at h
    simp only [Option.map_some, Option.some.injEq] at h
    omega
  have hp : PreS s H (am_Pc D am_cl cy ad am_SH (ym s.heap.size aS adV) H.size [.ref 0, .int a, .ref 81] mem) [.ref (ad 0), .int a, .ref (ad 81)] := ⟨am_Ph_blind hE, fun U hU hWm => ⟨rfl, by rw [hU], by rw [hU]; exact hP, va_K.moved hWm.alike hK, am_W_own hD _, hE s U hEs hWm (by rw [hU]; exact hS.1) (fun q h1 h2 => by rw [hU]; exact hS.2.1 q h1 (fun h3 => h2 (Or.inr h3)))⟩⟩
  have hrun := vx_runSW (p := p) (l := l) (e := e) (R := room_1) (below := below) (meth := meth) (locs := locs) (cells := N) (slots := M) (n := 3) (nL := 8) (bytes := method_3_code) (maxL := 4) (ret := some .int) (hh := ml_hh) (index := 80) (own := "SureSumsLaw") (As := [.ref (ad 0), .int a, .ref (ad 81)]) (rest := []) (g := F0 m 721 L [.ref (ad 81), .int a, .ref (ad 0)]) ⟨hx, hb, hml, hown, hts⟩ (ml_Mt hnA hMt hk H.size) ⟨⟨rfl, rfl, by decide, by decide, hwsall, List.mem_cons_self⟩, hts _ hcw, hts _ (an_mem_ok (by decide +kernel)), ⟨by decide, by decide⟩, hparm, hts _ (an_mem_ok (by decide +kernel)), hts _ (an_mem_ok (by decide +kernel))⟩ hp rfl rfl hll.1 rfl (lv_room (Nat.le_of_ble_eq_true rfl)) ln_d721 ⟨hN, hM⟩
  exact am_call1 (mem := mem) (r := (some (.int k), mem')) (st0 := [.ref (ad 81), .int a, .ref (ad 0)]) hrun hS hD (fun q h => h) (fun H1 locs1 hP1 hD1 hS1 => kk H1 locs1 L hP1 hD1 hS1 hll hnl)
set_option maxHeartbeats 4000000 in
set_option maxRecDepth 100000 in
/-- the reference's side, and the comparing -/
theorem ln_mz {Ex : State → Prop} (hNM : N ≤ 601024 ∧ M ≤ 7293034) (C : ln_Cx p l s m c D cy ad b Ln xs am_ext Ex) (i : Int32) (h1 : vp_in (i + 1) Ln) {k : Int32} {bv : UInt64} {m1 m2 : am_M} (hk : (k = 1 ∨ k = 2) ∨ (k = 0 ∧ nn bv ∧ m2.2.2.1 81 0 = bv))
    (hR1 : am_Rn am_ext 400 198 [.ref 42, .int (xs (i + 1).toNatClampNeg)] m1 (some (.double bv), m2)) (hR2 : am_Rn am_ext 400 115 [.ref 42] m2 (some (.int k), m2))
    (g : ln_W N M p l e s m b below meth c Q D cy ad (836, lw_ls i, [], m2)) : ln_W N M p l e s m b below meth c Q D cy ad (724, lw_ls i, [.int k], m1) := by
  refine ln_b C (x' := (732, [some (.ref 82), some (.ref 0), some (.ref 42), some (.ref 81), some (.int i), some (.int k), none, none], [.int (i + 1), .ref 82, .ref 42], m1)) 6 rfl ?_
  refine ln_s C rfl h1 ?_
  refine ln_c hNM C (as := [.ref 42, .int (xs (i + 1).toNatClampNeg)]) rfl rfl rfl hR1 ?_
  show ln_W N M p l e s m b below meth c Q D cy ad (736, [some (.ref 82), some (.ref 0), some (.ref 42), some (.ref 81), some (.int i), some (.int k), none, none], [.double bv], m2)
  refine ln_b C (x' := (739, [some (.ref 82), some (.ref 0), some (.ref 42), some (.ref 81), some (.int i), some (.int k), some (.double bv), none], [.ref 42], m2)) 2 rfl ?_
  refine ln_c hNM C (as := [.ref 42]) rfl rfl rfl hR2 ?_
  show ln_W N M p l e s m b below meth c Q D cy ad (742, [some (.ref 82), some (.ref 0), some (.ref 42), some (.ref 81), some (.int i), some (.int k), some (.double bv), none], [.int k], m2)
  refine ln_b C (x' := (744, [some (.ref 82), some (.ref 0), some (.ref 42), some (.ref 81), some (.int i), some (.int k), some (.double bv), none], [.int k, .int k], m2)) 1 rfl ?_
  refine ln_eqi C rfl ?_
  have fg : ln_W N M p l e s m b below meth c Q D cy ad (836, [some (.ref 82), some (.ref 0), some (.ref 42), some (.ref 81), some (.int i), some (.int k), some (.double bv), none], [], m2) := ln_fg (l1 := lw_ls i) (am_le_of (a := lw_ls i) (show am_leL (lw_ls i) _ from ⟨rfl, rfl, rfl, rfl, rfl, trivial⟩)) g
  have br : ∀ x : Int32, am_run lw_cd 2 (749, [some (.ref 82), some (.ref 0), some (.ref 42), some (.ref 81), some (.int i), some (.int x), some (.double bv), none], [], m2) = some (bif decide (x ≠ 0) then 783 else 754, [some (.ref 82), some (.ref 0), some (.ref 42), some (.ref 81), some (.int i), some (.int x), some (.double bv), none], [], m2) := fun _ => rfl
  have gt : ln_W N M p l e s m b below meth c Q D cy ad (783, [some (.ref 82), some (.ref 0), some (.ref 42), some (.ref 81), some (.int i), some (.int k), some (.double bv), none], [], m2) := ln_b C (x' := (836, [some (.ref 82), some (.ref 0), some (.ref 42), some (.ref 81), some (.int i), some (.int k), some (.double bv), none], [], m2)) 1 rfl fg
  rcases hk with hk | ⟨hk, hb, hm⟩
  · have h3 : k ≠ 0 := by
      rcases hk with rfl | rfl
      · decide
      · decide
    refine ln_b C (x' := (783, [some (.ref 82), some (.ref 0), some (.ref 42), some (.ref 81), some (.int i), some (.int k), some (.double bv), none], [], m2)) 2 ?_ gt
    have h4 := br k
    rw [decide_eq_true h3] at h4
    exact h4
  · refine ln_b C (x' := (754, [some (.ref 82), some (.ref 0), some (.ref 42), some (.ref 81), some (.int i), some (.int k), some (.double bv), none], [], m2)) 2 ?_ ?_
    · have h4 := br k
      rw [decide_eq_false (fun h => h hk)] at h4
      exact h4
    refine ln_b C (x' := (756, [some (.ref 82), some (.ref 0), some (.ref 42), some (.ref 81), some (.int i), some (.int k), some (.double bv), none], [.int 0, .ref 81], m2)) 2 rfl ?_
    refine ln_b C (x' := (757, [some (.ref 82), some (.ref 0), some (.ref 42), some (.ref 81), some (.int i), some (.int k), some (.double bv), none], [.double (m2.2.2.1 81 0)], m2)) 1 ?_ ?_
    · have h1 := am_s_dald (a := 81) (n := 1) (i := 0) (q := []) (len := 1) (pc := 756) (ls := [some (.ref 82), some (.ref 0), some (.ref 42), some (.ref 81), some (.int i), some (.int k), some (.double bv), none]) (st := []) (m := m2) rfl (by decide)
      show (match am_step am_SH (.daload, 1, []) (756, [some (.ref 82), some (.ref 0), some (.ref 42), some (.ref 81), some (.int i), some (.int k), some (.double bv), none], [.int 0, .ref 81], m2) with | some c' => am_run lw_cd 0 c' | none => none) = _
      rw [h1]
      rfl
    refine ln_b C (x' := (760, [some (.ref 82), some (.ref 0), some (.ref 42), some (.ref 81), some (.int i), some (.int k), some (.double bv), none], [.int (Op.cmpValue (FP.dcmp (m2.2.2.1 81 0) bv) .l)], m2)) 2 rfl ?_
    rw [hm, (dcv_eq hb hb .l).mpr rfl]
    refine ln_b C (x' := (783, [some (.ref 82), some (.ref 0), some (.ref 42), some (.ref 81), some (.int i), some (.int k), some (.double bv), none], [], m2)) 1 ?_ gt
    have h5 : ∀ x : Int32, am_run lw_cd 1 (760, [some (.ref 82), some (.ref 0), some (.ref 42), some (.ref 81), some (.int i), some (.int k), some (.double bv), none], [.int x], m2) = some (bif decide (x = 0) then 783 else 763, [some (.ref 82), some (.ref 0), some (.ref 42), some (.ref 81), some (.int i), some (.int k), some (.double bv), none], [], m2) := fun _ => rfl
    have h6 := h5 0
    rw [decide_eq_true rfl] at h6
    exact h6
set_option maxHeartbeats 4000000 in
set_option maxRecDepth 100000 in
theorem ln_mach (hl : l.stackTraces = false) (hPa : ∀ i, i < 11 → ad (100 + i) = aS i) (C : ln_Cx p l s m c D cy ad b Ln xs am_ext (ym s.heap.size aS adV)) (hN : N + 1 ≤ 601024) (hM : M + 6 ≤ 7293034) (i : Int32) (h1 : vp_in (i + 1) Ln) {mem : am_M} (hI : iv (Cc2 Cm) mem)
    (kk : ∀ mem', iv (Cc2 Cm) mem' → ln_W (N + 1) (M + 6) p l e s m b below meth c Q D cy ad (836, lw_ls i, [], mem')) : ln_W N M p l e s m b below meth c Q D cy ad (713, lw_ls i, [], mem) := by
  obtain ⟨I, L, D0, xi, xp, xc, ls, rfl, hT, hP, hc⟩ := hI
  have hz : ∀ j, j < am_SH.length → s.heap.size ≤ ad j := C.2.2.2.2.2.2.2.2.2.2.2.2
  have hNM : N + 1 ≤ 601024 ∧ M + 6 ≤ 7293034 := ⟨hN, hM⟩
  refine ln_b C (x' := (719, lw_ls i, [.int (i + 1), .ref 82, .ref 0], (I, L, D0, am_rf (2, 11, xi, xp, 2, xc)))) 5 rfl ?_
  refine ln_s C rfl h1 ?_
  refine ln_b C (x' := (721, lw_ls i, [.ref 81, .int (xs (i + 1).toNatClampNeg), .ref 0], (I, L, D0, am_rf (2, 11, xi, xp, 2, xc)))) 1 rfl ?_
  by_cases h0 : xs (i + 1).toNatClampNeg < 0 ∨ 26 ≤ xs (i + 1).toNatClampNeg
  · refine ln_mk C hN hM (mx_io hl hz h0 _) (k := 1) (mem' := (I, L, D0, am_rf (2, 11, xi, xp, 2, xc))) (Or.inl ⟨rfl, rfl, rfl⟩) ?_
    refine ln_mz hNM C i h1 (m2 := (am_uI (am_uI I 42 2 0) 42 2 1, L, D0, am_rf (2, 11, xi, xp, 2, xc))) (Or.inl (Or.inl rfl)) (c198_1 L D0 (2, 11, xi, xp, 2, xc) h0) (c115 L D0 (2, 11, xi, xp, 2, xc) (by rw [am_uI_at, if_pos ⟨rfl, rfl⟩])) ?_
    exact kk _ (fm_go hT hP hc.1 (fm_s hP hc.2 (iv_s_t (iv_s_I (L := L) (L' := L) (iv_2 I 0) (fun _ _ _ => rfl)) (iv_s_I (iv_2 (am_uI I 42 2 0) 1) (fun _ _ _ => rfl)))))
  · have h00 : ¬ xs (i + 1).toNatClampNeg < 0 := fun z => h0 (Or.inl z)
    have h26 : ¬ 26 ≤ xs (i + 1).toNatClampNeg := fun z => h0 (Or.inr z)
    have r1 := am_up (c111 (ext := am_ext) (d := 0) L D0 xi xp 2 xc hP.1 hP.2.2.2.1 (xs (i + 1).toNatClampNeg)) (show 0 + 2 ≤ 95 by omega)
    have s2 : iv_s I L D0 (am_uI I 42 2 0) L D0 := iv_s_I (iv_2 I 0) (fun _ _ _ => rfl)
    have hP2 := iv_P_s hP s2.1
    by_cases g1 : lt_k ls (xs (i + 1).toNatClampNeg) = 1
    · rw [if_pos g1] at r1
      obtain ⟨_, _, _, _, b0, T, q1, q2, q3⟩ := lt_x (ls := ls) (v := xs (i + 1).toNatClampNeg) (by omega)
      have hv : ¬ nI (lt_i ls (xs (i + 1).toNatClampNeg)) < 0 := Int32.not_lt.mpr ((ni_le (a := 0) (by omega) (by have := hP.2.2.2.1; omega)).mpr (Nat.zero_le _))
      obtain ⟨I1, D1, r4, e6, F1⟩ := c4_at (ext := am_ext) (L := L) xi xp xc hP hc.2 g1
      have hP1 := fm_P hP F1
      have F1' : fm ls I L I1 L (am_uD D1 81 0 (dbl (de_S ls (lt_i ls (xs (i + 1).toNatClampNeg)) (some d_0)))) := fm_t F1 (fm_s hP1 F1.2.2 ⟨fun _ _ _ => rfl, fun _ _ _ => rfl, fun a b k => by rcases k with rfl | rfl <;> rfl⟩)
      obtain ⟨I2, D2, r5, F2, e2, e81⟩ := c198_3 (ext := am_ext) L (am_uD D1 81 0 (dbl (de_S ls (lt_i ls (xs (i + 1).toNatClampNeg)) (some d_0)))) (2, 11, xi, xp, 2, xc) hP1 F1'.2.2 g1
      have hnn : nn (dbl (de_S ls (lt_i ls (xs (i + 1).toNatClampNeg)) (some d_0))) := by
        have og1 := de_S_og hP.2.2.1 (lt_i ls (xs (i + 1).toNatClampNeg)) (some d_0) og_0
        cases ho : de_S ls (lt_i ls (xs (i + 1).toNatClampNeg)) (some d_0) with
        | none => exact nn_0
        | some w => exact og1 w ho
      refine ln_mk C hN hM (mx_nr hz hPa h00 h26 hv r1 (am_up r4 (show 94 ≤ 95 by omega)) e6) (k := 0) (mem' := (I1, L, am_uD D1 81 0 (dbl (de_S ls (lt_i ls (xs (i + 1).toNatClampNeg)) (some d_0))), am_rf (2, 11, xi, xp, 2, xc))) ⟨rfl, rfl⟩ ?_
      refine ln_mz hNM C i h1 (m2 := (I2, L, D2, am_rf (2, 11, xi, xp, 2, xc))) (Or.inr ⟨rfl, hnn, e81.trans rfl⟩) r5 (c115 L D2 (2, 11, xi, xp, 2, xc) e2) ?_
      exact kk _ (fm_go hT hP hc.1 (fm_t F1' F2))
    · rw [if_neg g1] at r1
      refine ln_mk C hN hM (mx_ns1 hl hz hPa h00 h26 _ r1) (k := 2) (mem' := (I, L, D0, am_rf (2, 11, xi, xp, 2, xc))) (Or.inr ⟨rfl, rfl, rfl⟩) ?_
      refine ln_mz hNM C i h1 (m2 := (am_uI (am_uI I 42 2 0) 42 2 2, L, D0, am_rf (2, 11, xi, xp, 2, xc))) (Or.inl (Or.inr rfl)) (c198_2 L D0 (2, 11, xi, xp, 2, xc) hP2.2.1 h00 h26 g1) (c115 L D0 (2, 11, xi, xp, 2, xc) (by rw [am_uI_at, if_pos ⟨rfl, rfl⟩])) ?_
      exact kk _ (fm_go hT hP hc.1 (fm_s hP hc.2 (iv_s_t (iv_s_I (L := L) (L' := L) (iv_2 I 0) (fun _ _ _ => rfl)) (iv_s_I (iv_2 (am_uI I 42 2 0) 2) (fun _ _ _ => rfl)))))
end LNM
