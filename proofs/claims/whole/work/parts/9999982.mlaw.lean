/-! ===== SureSumsLaw.machine: it catches what SureSums.machine throws ===== -/
def ml_q : List (Nat × am_Q) := [(0, .aload_n 2, 1, []), (1, .iconst 0, 1, []), (2, .aload_n 0, 1, []), (3, .iload_n 1, 1, []), (4, .invokevirtual 7, 3, [108, 2, 1, 7, 0, 1036, 1037, 1038]), (7, .dastore, 1, []), (8, .goto 9, 3, [17]), (11, .astore_n 3, 1, []), (12, .iconst 1, 1, []), (13, .ireturn, 1, []), (14, .astore_n 3, 1, []), (15, .iconst 2, 1, []), (16, .ireturn, 1, []), (17, .iconst 0, 1, []), (18, .ireturn, 1, [])]
set_option maxRecDepth 100000 in
theorem ml_k : am_chk am_Nm "SureSumsLaw" method_3_code ml_q = true := by decide +kernel
def ml_cd : Nat → Option am_Q := fun pc => ml_q.lookup pc
theorem ml_ok : ∀ pc q, ml_cd pc = some q → decode method_3_code pc = .ok (q.1, q.2.1) ∧ am_lk "SureSumsLaw" am_cl am_U pc q ∧ am_ck "SureSumsLaw" am_cl am_U am_Nm q := fun _ _ h => am_chk_at ml_k h
theorem ml_d4 : decode method_3_code 4 = .ok (.invokevirtual 7, 3) := by decide +kernel
theorem ml_d11 : decode method_3_code 11 = .ok (.astore_n 3, 1) := by decide +kernel
theorem ml_d12 : decode method_3_code 12 = .ok (.iconst 1, 1) := by decide +kernel
theorem ml_d13 : decode method_3_code 13 = .ok (.ireturn, 1) := by decide +kernel
theorem ml_d14 : decode method_3_code 14 = .ok (.astore_n 3, 1) := by decide +kernel
theorem ml_d15 : decode method_3_code 15 = .ok (.iconst 2, 1) := by decide +kernel
theorem ml_d16 : decode method_3_code 16 = .ok (.ireturn, 1) := by decide +kernel
theorem ml_d18 : decode method_3_code 18 = .ok (.ireturn, 1) := by decide +kernel
def yml : MethodName := ⟨"SureSumsLaw", "machine", "(LSureSums;I[D)I"⟩
def ml_hh : List (Nat × Nat × Nat × Nat) := [(0, 8, 11, 13), (0, 8, 14, 15)]
def ml_ws : List Cond := .codeWith yml method_3_code 4 (some .int) ml_hh :: am_U
def ml_rm : Room := { frames := 300, cells := 1, slots := 6, locals := 19200 }
/-- what the law's own method answers, the memory behind it -/
def ml_R (mem : am_M) (o : mx_O) (k : Int32) (mem' : am_M) : Prop := match o with
  | .inl q => k = 0 ∧ mem' = am_wD q.2 81 0 q.1
  | .inr E => (E = mx_1 ∧ k = 1 ∧ mem' = mem) ∨ (E = mx_2 ∧ k = 2 ∧ mem' = mem)
section ML
variable {l : Launch} {D : va_G} {cy : Nat → ClassId} {ad aS adV : Nat → Nat} {z : Nat}
set_option maxHeartbeats 4000000 in
set_option maxRecDepth 100000 in
theorem ml_Mt (hz : ∀ j, j < am_SH.length → z ≤ ad j) {a : Int32} {mem mem' : am_M} {o : mx_O} {k : Int32} (hM : mx_Mt l D cy ad (ym z aS adV) a mem o) (hk : ml_R mem o k mem') (sz : Nat) :
    Met l yml ml_ws ml_rm (am_Pc D am_cl cy ad am_SH (ym z aS adV) sz [.ref 0, .int a, .ref 81] mem) (am_Qc D am_cl cy ad am_SH sz (some (.int k), mem')) 1 6 (am_A ad am_SH.length sz) := by
  refine va_MetW (cc := method_3_code) (maxL := 4) (ret := some .int) (hh := ml_hh) (by decide +kernel) rfl ?_
  intro p e s m args below meth c s₁ B hml hv
  obtain ⟨rfl, hsz, hP, hK, hD, hEs⟩ := hv
  have hts0 := atoms_spec (ws := ml_ws) B.pre
  have hts : ∀ w ∈ am_U, w.before _ s = true := fun w h => hts0 w (List.mem_cons_of_mem _ h)
  have hown : s.vm.findClass "SureSumsLaw" = some m.cls := findClass_of_methodNamed B.named
  have htab : c.exceptionTable.toList = tableOf ml_hh := vx_table (x := yml) B (hts0 _ List.mem_cons_self)
  have hlocks := B.notSynchronized
  have hr := B.returns
  have hE : am_Exh ad am_SH.length (ym z aS adV) := ym_k hz
  subst hsz
  have C : ag_C p s m _ c method_3_code 4 "SureSumsLaw" D cy ad (ym z aS adV) := ⟨B.exec, B.bytes, hml, hown, hts, hK, hE, hEs⟩
  have hl := lv_entry ([Value.ref 0, .int a, .ref 81].map (am_cv ad)) (n := 4) (Nat.le_of_ble_eq_true rfl)
  rw [lg_entry_eq]
  generalize (lg_sl ([Value.ref 0, .int a, .ref 81].map (am_cv ad)) ++ List.replicate (4 - (lg_sl ([Value.ref 0, .int a, .ref 81].map (am_cv ad))).length) Slot.unset).toArray = ls at hl ⊢
  have go : am_Ws p l e ml_rm s m ([Value.ref 0, .int a, .ref 81].map (am_cv ad)).toArray below meth c 0 0 (MQ below (am_Qc D am_cl cy ad am_SH s.heap.size (some (.int k), mem')) ([Value.ref 0, .int a, .ref 81].map (am_cv ad)).toArray s 1 6 (am_A ad am_SH.length s.heap.size)) 4 D am_cl cy (am_A ad am_SH.length s.heap.size) s.heap ad am_SH (0, [some (.ref 0), some (.int a), some (.ref 81), none], [], mem) := by
    refine mq_b C ml_ok (x' := (4, [some (.ref 0), some (.int a), some (.ref 81), none], [.int a, .ref 0, .int 0, .ref 81], mem)) 4 rfl ?_
    intro H locs L hP hD hS hll hnl
    obtain ⟨hx, hb, hml, hown, hts, hK, hE, hEs⟩ := id C
    obtain ⟨hpl, hmx, hcd, hini, hn1, hn2⟩ := am_nk_ok 108 nmx nmx_at
    obtain ⟨-, -, nm, hnm, hlk, hin, hsel, ⟨r0, hr0, hr0c⟩, hpar⟩ := (ml_ok 4 _ rfl).2.2
    cases nmx_at.symm.trans hnm
    have hrc := va_recv (q0 := 0) hK hP hr0 (am_W_at (cy := cy) (ad := ad) (m := mem) (k := 0) (x := .inl (7, am_k7)) rfl)
    rw [hr0c] at hrc
    have hparm : ∀ sig, parseMethodDescriptor nmx.1.desc = some sig → 1 = sig.parameters.length := by
      intro sig hsig
      rw [hsig] at hpar
      simp only [Option.map_some, Option.some.injEq] at hpar
      omega
    have hPre : ∀ U : State, U.heap = H → s.WarmedH U.vm → am_Pc D am_cl cy ad am_SH (ym z aS adV) H.size [.ref 0, .int a] mem (([Value.ref 0, .int a].map (am_cv ad)).toArray) U := by
      intro U hU hWm
      exact ⟨rfl, by rw [hU], by rw [hU]; exact hP, va_K.moved hWm.alike hK, am_W_own hD _, hE s U hEs hWm (by rw [hU]; exact hS.1) (fun q h1 h2 => by rw [hU]; exact hS.2.1 q h1 h2)⟩
    have hp : PreV s H nmx.1.cls (ad 0) (am_Pc D am_cl cy ad am_SH (ym z aS adV) H.size [.ref 0, .int a] mem) [.int a] := ⟨am_Ph_blind hE, hrc, fun U hU hWm => hPre U hU hWm⟩
    have hwsall : ∀ w ∈ am_ws am_U nmx, ∀ (a' : Array Value) (U : State), s.WarmedH U.vm → w.before a' U = true := by
      intro w hw a' U hWm
      rcases List.mem_cons.mp hw with rfl | hw
      · exact am_uw_at am_U_uw hts hWm _ hcd
      · exact am_uw_at am_U_uw hts hWm _ hw
    have hrun := vx_runV (p := p) (l := l) (e := e) (R := ml_rm) (below := below) (meth := meth) (locs := locs) (cells := 0) (slots := 0) (n := 1) (nL := 4) (C := nmx.1.cls) (bytes := nmx.2.1) (maxL := nmx.2.2.1) (ret := nmx.2.2.2) (index := 7) (own := "SureSumsLaw") (As := [.int a]) (b := ad 0) (rest := [.int 0, .ref (ad 81)]) (g := F0 m 4 L [.int a, .ref (ad 0), .int 0, .ref (ad 81)]) ⟨hx, hb, hml, hown, hts⟩ (hM H.size) ⟨⟨rfl, rfl, by decide, by decide, hwsall, List.mem_cons_self, hts _ hcd, hts _ hini, ⟨hn1, hn2⟩, hparm, hts _ hlk⟩, hts _ hin, hts _ hsel⟩ hp rfl rfl hll.1 rfl (lv_room (Nat.le_of_ble_eq_true rfl)) ml_d4 ⟨by decide, by decide⟩
    have hsub : ∀ q, am_A ad am_SH.length H.size q → am_A ad am_SH.length s.heap.size q := by
      rintro q (h | h)
      · exact Or.inl h
      · exact Or.inr (Nat.le_trans hS.1 h)
    show W p l e ml_rm s m _ below meth c H locs 0 0 _ (F0 m 4 L [.int a, .ref (ad 0), .int 0, .ref (ad 81)])
    refine vx_calld (st0 := [.int a, .ref (ad 0), .int 0, .ref (ad 81)]) hrun hS (fun q _ h => hsub q h) hsub (fun q _ h => hsub q h) ?_ ?_
    · intro E ce q9 _ t H1 locs1 ht hal _ hB hsz hkeep hS1 hce hcv hcl
      have hB : o = .inr E ∧ va_P D am_cl (am_W cy ad am_SH mem) t.heap := hB
      obtain ⟨ho, hP1⟩ := hB
      rw [ht] at hP1
      subst ho
      rcases hk with ⟨rfl, rfl, rfl⟩ | ⟨rfl, rfl, rfl⟩
      · refine vx_catch (own := "SureSumsLaw") (name := mx_1) (E := mx_1) (ce := ce) (args := ([Value.ref 0, .int a, .ref 81].map (am_cv ad)).toArray) hown [] ⟨0, 8, 11, 13⟩ [⟨0, 8, 14, 15⟩] htab (fun x hx => nomatch hx) (by decide) (by decide) (hts _ (an_mem_ok (by decide +kernel))) (va_Nw.use rfl (hEs.2.2 (.castable mx_1 mx_1) (by decide +kernel))) hce hcv hcl ?_
        refine lv_astore_n (nL := 4) (lv' := _) hx hb ml_d11 rfl hll (by decide) rfl (fun L2 hl2 => ?_)
        refine lv_iconst (v := 1) hx hb ml_d12 (by decide) ?_
        exact W.iret hx hb hr (fun u hu hW => ⟨rfl, by rw [hu]; exact hP1, hS1.F hu⟩) hS1.2.2 ml_d13 hlocks
      · refine vx_catch (own := "SureSumsLaw") (name := mx_2) (E := mx_2) (ce := ce) (args := ([Value.ref 0, .int a, .ref 81].map (am_cv ad)).toArray) hown [⟨0, 8, 11, 13⟩] ⟨0, 8, 14, 15⟩ [] htab (fun x hx => ?_) (by decide) (by decide) (hts _ (an_mem_ok (by decide +kernel))) (va_Nw.use rfl (hEs.2.2 (.castable mx_2 mx_2) (by decide +kernel))) hce hcv hcl ?_
        · cases List.mem_singleton.mp hx
          exact Or.inr ⟨by decide, mx_1, hts _ (an_mem_ok (by decide +kernel)), hEs.2.1⟩
        refine lv_astore_n (nL := 4) (lv' := _) hx hb ml_d14 rfl hll (by decide) rfl (fun L2 hl2 => ?_)
        refine lv_iconst (v := 2) hx hb ml_d15 (by decide) ?_
        exact W.iret hx hb hr (fun u hu hW => ⟨rfl, by rw [hu]; exact hP1, hS1.F hu⟩) hS1.2.2 ml_d16 hlocks
    · intro r u t H1 locs1 ht hal hpost hB hsz hkeep hS1
      have hpost : o = .inl (r, u) := hpost
      have hB : va_P D am_cl (am_W cy ad am_SH u) t.heap := hB
      subst hpost
      obtain ⟨rfl, rfl⟩ := hk
      rw [ht] at hB
      have fin : am_Ws p l e ml_rm s m ([Value.ref 0, .int a, .ref 81].map (am_cv ad)).toArray below meth c 1 6 (MQ below (am_Qc D am_cl cy ad am_SH s.heap.size (some (.int 0), am_wD u 81 0 r)) ([Value.ref 0, .int a, .ref 81].map (am_cv ad)).toArray s 1 6 (am_A ad am_SH.length s.heap.size)) 4 D am_cl cy (am_A ad am_SH.length s.heap.size) s.heap ad am_SH (7, [some (.ref 0), some (.int a), some (.ref 81), none], [.double r, .int 0, .ref 81], u) := by
        refine mq_b C ml_ok (x' := (8, [some (.ref 0), some (.int a), some (.ref 81), none], [], am_wD u 81 0 r)) 1 ?_ ?_
        · have h1 := am_s_dast (a := 81) (n := 1) (i := 0) (x := r) (q := []) (len := 1) (pc := 7) (ls := [some (.ref 0), some (.int a), some (.ref 81), none]) (st := []) (m := u) rfl (by decide)
          show (match am_step am_SH (.dastore, 1, []) (7, [some (.ref 0), some (.int a), some (.ref 81), none], [.double r, .int 0, .ref 81], u) with | some c' => am_run ml_cd 0 c' | none => none) = _
          rw [h1]
          rfl
        refine mq_b C ml_ok (x' := (18, [some (.ref 0), some (.int a), some (.ref 81), none], [.int 0], am_wD u 81 0 r)) 2 rfl ?_
        intro H2 locs2 L2 hP2 hD2 hS2 hl2 hn2
        exact W.iret hx hb hr (fun w hu hW => ⟨rfl, by rw [hu]; exact hP2, hS2.F hu⟩) hS2.2.2 ml_d18 hlocks
      exact fin H1 locs1 L hB (am_W_ad hD) hS1 hll hnl
  exact go s.heap [] ls hP hD va_S.rf hl rfl
end ML
