section ANX
variable {p : Program} {l : Launch} {e : Env} {R : Room} {s : State} {m : MethodId} {args : Array Value} {below : List Frame} {meth : Method} {c : Code} {Q : State → Prop} {cc : ByteArray} {nL : Nat} {D : va_G} {cy : Nat → ClassId} {A : Nat → Prop} {ad0 : Nat → Nat} {own : String} {UW : List Cond} {Nc Nm : Nat → Option am_N}
theorem an_ks_ok : ∀ ci : Nat, ci < 9 → ∃ r, am_cl[ci]? = some r ∧ (am_ks ci).length = r.2.2 ∧ ∃ ty0 : Nat → FieldType, (∀ k, k < r.2.2 → parseFieldDescriptor (r.2.1 k).2.2.1 = some (ty0 k)) ∧ ∀ k, k < r.2.2 → am_tk (ty0 k) ((am_ks ci).getD k 0) = true := by
  intro ci h
  match ci, h with
  | 0, _ => exact ⟨_, rfl, am_s0.1, tyX0, am_t0, am_s0.2⟩
  | 1, _ => exact ⟨_, rfl, am_s1.1, tyX1, am_t1, am_s1.2⟩
  | 2, _ => exact ⟨_, rfl, am_s2.1, tyX2, am_t2, am_s2.2⟩
  | 3, _ => exact ⟨_, rfl, am_s3.1, tyX3, am_t3, am_s3.2⟩
  | 4, _ => exact ⟨_, rfl, am_s4.1, tyX4, am_t4, am_s4.2⟩
  | 5, _ => exact ⟨_, rfl, am_s5.1, tyX5, am_t5, am_s5.2⟩
  | 6, _ => exact ⟨_, rfl, am_s6.1, tyX6, am_t6, am_s6.2⟩
  | 7, _ => exact ⟨_, rfl, am_s7.1, tyX7, am_t7, am_s7.2⟩
  | 8, _ => exact ⟨_, rfl, am_s8.1, tyX8, am_t8, am_s8.2⟩
  | (n + 9), h => exact absurd h (by omega)
theorem am_shB_app {sh : am_Sh} (h : am_shB sh = true) {ci : Nat} (hc : ci < 9) : am_shB (sh ++ [.inl (ci, am_ks ci)]) = true := by
  unfold am_shB at h ⊢
  rw [List.all_append, h]
  simp [hc]
theorem am_shB_apr {sh : am_Sh} (h : am_shB sh = true) (kn : Nat × Nat) : am_shB (sh ++ [.inr kn]) = true := by
  unfold am_shB at h ⊢
  rw [List.all_append, h]
  simp
set_option maxHeartbeats 4000000 in
set_option maxRecDepth 100000 in
/-- a constructor's walk -/
theorem an_goW {sh0 : am_Sh} (hx : p.tables.exec = Jvm.exec) (hb : c.code = cc) (hml : c.maxLocals = nL) (hown : s.vm.findClass own = some m.cls) (hts : ∀ w ∈ UW, w.before args s = true) (hu : am_uw UW) (hK : va_K D am_cl (am_tys cy) s) (hcl : am_cls am_cl UW) (hname : meth.name = "<init>") (hlocks : meth.locks = false) (hr : meth.sig.returnType = none) (hA : A = am_A ad0 sh0.length s.heap.size)
    (hnk : ∀ j nm, Nm j = some nm → am_nk UW nm) (hnc : ∀ j nm, Nc j = some nm → am_nk UW nm)
    {call : am_Sh → Nat → List Value → am_M → Option am_R} {con : Nat → List Value → am_Sh → am_M → Option an_R} {d : Nat}
    (hcall : ∀ sh j as mem r nm ad, am_shB sh = true → call sh j as mem = some r → Nm j = some nm → am_Mt l D am_cl cy ad sh (fun _ => True) UW nm d as mem r)
    (hcon : ∀ j as sh mem r nm, am_shB sh = true → con j as sh mem = some r → Nc j = some nm → an_Mt l D cy UW nm d as sh mem r)
    (hconm : ∀ j as sh mem r, con j as sh mem = some r → sh.length ≤ r.1.length ∧ am_sz sh ≤ am_sz r.1) (hconb : ∀ j as sh mem r, con j as sh mem = some r → am_shB sh = true → am_shB r.1 = true)
    {Cd : Nat → Option am_Q} (hCd : ∀ pc q, Cd pc = some q → decode cc pc = .ok (q.1, q.2.1) ∧ an_lk own UW pc q ∧ am_ck own am_cl UW Nm q ∧ an_ck own UW Nc q) {r : an_R} (hRf : d + 1 ≤ R.frames) (hRl : 64 * (d + 1) ≤ R.locals) (hRc : R.cells = r.1.length - sh0.length) (hRs : R.slots = am_sz r.1 - am_sz sh0) :
    ∀ (n : Nat) (x : an_C), an_go Cd call con n x = some r → am_shB x.2.2.2.1 = true → sh0.length ≤ x.2.2.2.1.length → am_sz sh0 ≤ am_sz x.2.2.2.1 → an_Ws p l e R s m args below meth c (MQ below (an_Qc D cy ad0 s.heap.size sh0 r) args s (r.1.length - sh0.length) (am_sz r.1 - am_sz sh0) (am_A ad0 sh0.length s.heap.size)) nL D cy A ad0 sh0.length (am_sz sh0) x := by
  intro n
  induction n with
  | zero => intro x h; cases h
  | succ n ih =>
    intro x h hsb hn0 hz0
    have hmono := an_go_mono hconm (n + 1) x h
    obtain ⟨pc, ls, st, sh, mem⟩ := x
    simp only at hsb hn0 hz0 hmono
    have hAs : ∀ q, s.heap.size ≤ q → A q := fun q h => by rw [hA]; exact Or.inr h
    have hsk := am_shk_of hsb
    simp only [an_go] at h
    cases hq : Cd pc with
    | none => rw [hq] at h; cases h
    | some q =>
      rw [hq] at h
      simp only at h
      obtain ⟨hdec, hlk, hck, hnk2⟩ := hCd pc q hq
      obtain ⟨ins, len, info⟩ := q
      have hplain : am_lk own am_cl UW pc (ins, len, info) → (match am_step sh (ins, len, info) (pc, ls, st, mem) with | some x => an_go Cd call con n (x.1, x.2.1, x.2.2.1, sh, x.2.2.2) | none => none) = some r → an_Ws p l e R s m args below meth c (MQ below (an_Qc D cy ad0 s.heap.size sh0 r) args s (r.1.length - sh0.length) (am_sz r.1 - am_sz sh0) (am_A ad0 sh0.length s.heap.size)) nL D cy A ad0 sh0.length (am_sz sh0) (pc, ls, st, sh, mem) := by
        intro hl2 h2
        split at h2
        · next x hx2 =>
          have k := ih _ h2 hsb hn0 hz0
          exact an_plain (fun ad hag k2 => am_stepW hx hb hown hts hK hcl hsk hdec hl2 hx2 k2) k
        · cases h2
      cases ins
      case return_ =>
        simp only at h
        have hl1 : len = 1 := by
          rcases hlk.1 with z | z
          · cases z
          · exact z
        subst hl1
        split at h
        · cases h
          intro ad H locs L hag hP hD hS hl hn
          exact W.vret hx hb hr (fun t ht hW => ⟨⟨rfl, ad, hag, by rw [ht]; exact hP, by rw [← hA]; exact hD⟩, by rw [← hA]; exact hS.F ht⟩) (fun q hq => by rw [← hA]; exact hS.2.2 q hq) hdec
        · cases h
      case new i =>
        simp only at h
        obtain ⟨hl3, hck3⟩ := hnk2
        have hl3 : len = 3 := hl3
        subst hl3
        split at h
        · next ci rs =>
          cases hbb : (an_wf sh mem ls st && Nat.ble (ci + 1) 9) with
          | false => rw [hbb] at h; cases h
          | true =>
            rw [hbb] at h
            simp only [cond_true] at h
            rw [Bool.and_eq_true] at hbb
            have hci : ci < 9 := Nat.le_of_ble_eq_true hbb.2
            obtain ⟨r0, hr0, g1, g2, g3⟩ := hck3
            obtain ⟨r1, hr1, hks⟩ := an_ks_ok ci hci
            cases hr0.symm.trans hr1
            have hm2 := an_go_mono hconm n _ h
            simp only [List.length_append, List.length_singleton, am_sz_app, an_s1] at hm2
            have k := ih _ h (am_shB_app hsb hci) (by simp only [List.length_append]; omega) (by simp only [am_sz_app]; omega)
            have hks1 := hks.1
            exact an_newW hx hb hown hts hK hcl hAs hdec hr0 g1 g2 g3 hbb.1 hn0 hz0 (by omega) (by omega) hks k
        · cases h
      case newarray a =>
        simp only at h
        obtain ⟨hl3, hck3⟩ := hnk2
        have hl3 : len = 2 := hl3
        subst hl3
        split at h
        · next k rs v r2 =>
          cases hbb : (an_wf sh mem ls (Value.int v :: r2) && !(decide (v < 0)) && Nat.ble v.toNatClampNeg 1000 && an_nak k) with
          | false => rw [hbb] at h; cases h
          | true =>
            rw [hbb] at h
            simp only [cond_true] at h
            rw [Bool.and_eq_true, Bool.and_eq_true, Bool.and_eq_true] at hbb
            obtain ⟨⟨⟨b1, b2⟩, b3⟩, b4⟩ := hbb
            simp only [Bool.not_eq_true', decide_eq_false_iff_not] at b2
            have hm2 := an_go_mono hconm n _ h
            simp only [List.length_append, List.length_singleton, am_sz_app, an_s1] at hm2
            have k2 := ih _ h (am_shB_apr hsb _) (by simp only [List.length_append]; omega) (by simp only [am_sz_app]; omega)
            exact an_naW hx hb hts hK hAs hdec hck3.1 hck3.2 b1 b2 (Nat.le_of_ble_eq_true b3) hn0 hz0 (by omega) (by omega) k2
        · cases h
      case invokespecial i =>
        simp only at h
        obtain ⟨hl3, hck3⟩ := hnk2
        have hl3 : len = 3 := hl3
        subst hl3
        split at h
        · next j nn rs =>
          cases hbb : (an_wf sh mem ls st && Nat.ble nn st.length && Nat.ble (((st.drop nn).map fun v => v.category).sum) 8 && an_hd (st.take nn).reverse) with
          | false => rw [hbb] at h; cases h
          | true =>
            rw [hbb] at h
            simp only [cond_true] at h
            rw [Bool.and_eq_true, Bool.and_eq_true, Bool.and_eq_true] at hbb
            obtain ⟨⟨⟨b1, b2⟩, b3⟩, b4⟩ := hbb
            split at h
            · next r2 hr2 =>
              have hm1 := hconm _ _ _ _ _ hr2
              have hm2 := an_go_mono hconm n _ h
              simp only at hm2
              have k := ih _ h (hconb _ _ _ _ _ hr2 hsb) (by simp only; omega) (by simp only; omega)
              cases rs with
              | nil => exact absurd hck3 (by simp)
              | cons nest rs =>
                obtain ⟨nm, hnm, hlink, hinst, hnam, hret, hpar⟩ := hck3
                obtain ⟨hpl, hmx, hcd, hini, hn1, hn2⟩ := hnc j nm hnm
                obtain ⟨w1, w2, w3⟩ := an_wf3 b1
                intro ad H locs L hag hP hD hS hl hn
                have hM := hcon j _ sh mem r2 nm hsb hr2 hnm ad H.size
                obtain ⟨b0, As, has⟩ : ∃ b0 As, (st.take nn).reverse = .ref b0 :: As := by
                  cases hz : (st.take nn).reverse with
                  | nil => rw [hz] at b4; cases b4
                  | cons z zs => cases z <;> rw [hz] at b4 <;> first | (cases b4; done) | exact ⟨_, _, rfl⟩
                have hle : nn ≤ st.length := Nat.le_of_ble_eq_true b2
                have hlenA : (st.take nn).reverse.length = nn := by simp; omega
                have hAl : As.length + 1 = nn := by rw [has] at hlenA; simpa using hlenA
                have hstk : st.map (am_cv ad) = (As.map (am_cv ad)).reverse ++ .ref (ad b0) :: (st.drop nn).map (am_cv ad) := by
                  have e1 : st = (st.take nn).reverse.reverse ++ st.drop nn := by rw [List.reverse_reverse, List.take_append_drop]
                  have e2 : st.map (am_cv ad) = ((st.take nn).reverse.reverse ++ st.drop nn).map (am_cv ad) := congrArg (List.map (am_cv ad)) e1
                  rw [e2, has]
                  simp [am_cv]
                have hW9 : (((st.drop nn).map (am_cv ad)).map fun v => v.category).sum ≤ 8 := by
                  have : (((st.drop nn).map (am_cv ad)).map fun v => v.category) = ((st.drop nn).map fun v => v.category) := by
                    rw [List.map_map]
                    exact List.map_congr_left (fun v _ => am_cv_cat ad v)
                  rw [this]
                  exact Nat.le_of_ble_eq_true b3
                have hparm : ∀ sig, parseMethodDescriptor nm.1.desc = some sig → As.length = sig.parameters.length := by
                  intro sig hsig
                  rw [hsig] at hpar
                  simp only [Option.map_some, Option.some.injEq] at hpar
                  omega
                rw [has] at hM
                have hp : PreS s H (an_Pc D cy ad H.size (.ref b0 :: As) sh mem) (.ref (ad b0) :: As.map (am_cv ad)) := by
                  refine ⟨fun a U g mk q => ?_, fun U hU hWm => ⟨rfl, by rw [hU], by rw [hU]; exact hP, va_K.moved hWm.alike hK, am_W_own hD _⟩⟩
                  obtain ⟨q0, q1, qP, qK, qD⟩ := q
                  exact ⟨q0, q1, qP, va_K.moved (u := U) (U := U.calling g mk a) (Vm.Alike.refl U.vm) qK, qD⟩
                have hwsall : ∀ w ∈ am_ws UW nm, ∀ (a' : Array Value) (U : State), s.WarmedH U.vm → w.before a' U = true := by
                  intro w hw a' U hWm
                  rcases List.mem_cons.mp hw with rfl | hw
                  · exact am_uw_at hu hts hWm _ hcd
                  · exact am_uw_at hu hts hWm _ hw
                have hsub : ∀ q, am_A ad sh.length H.size q → A q := by
                  rintro q (⟨k, hk, rfl⟩ | h)
                  · exact am_W_in hD hk
                  · exact hAs q (Nat.le_trans hS.1 h)
                have hrun : va_Run p l e R s m args below meth c H locs (sh.length - sh0.length) (am_sz sh - am_sz sh0) (r2.1.length - sh.length) (am_sz r2.1 - am_sz sh) (F0 m pc L (st.map (am_cv ad))) ((st.drop nn).map (am_cv ad)) (an_Qc D cy ad H.size sh r2 (Value.ref (ad b0) :: As.map (am_cv ad)).toArray) (am_A ad sh.length H.size) := by
                  have hcd2 : Cond.code nm.1 nm.2.1 nm.2.2.1 none ∈ UW := by rw [← hret]; exact hcd
                  have hcd3 : Cond.code nm.1 nm.2.1 nm.2.2.1 none ∈ am_ws UW nm := by unfold am_ws; rw [hret]; exact List.mem_cons_self
                  cases nest with
                  | zero => exact va_runI (n := As.length) (nL := nL) (bytes := nm.2.1) (maxL := nm.2.2.1) ⟨hx, hb, hml, hown, hts⟩ hM ⟨⟨rfl, rfl, hRf, by show 8 + (nm.2.2.1 + 11) + 64 * d ≤ R.locals; omega, hwsall, hcd3, hts _ hcd2, hts _ hini, ⟨hn1, hn2⟩, hparm, hts _ hlink⟩, hnam, hts _ hinst⟩ hp rfl (by simp) hl.1 hstk (lv_room hW9) hdec ⟨by omega, by omega⟩
                  | succ _ => exact va_runIN (n := As.length) (nL := nL) (bytes := nm.2.1) (maxL := nm.2.2.1) ⟨hx, hb, hml, hown, hts⟩ hM ⟨⟨⟨rfl, rfl, hRf, by show 8 + (nm.2.2.1 + 11) + 64 * d ≤ R.locals; omega, hwsall, hcd3⟩, hts _ hcd2, hts _ hini, ⟨hn1, hn2⟩, hparm, hts _ hlink⟩, hnam, hts _ hinst⟩ hp rfl (by simp) hl.1 hstk (lv_room hW9) hdec ⟨by omega, by omega⟩
                intro T hT X
                obtain ⟨v, st₀, t, T', L2, h0, X', hL2, e1, e2, ⟨⟨hv, ad2, hag2, hP2, hD2⟩, hz, hk2⟩, stp⟩ := hrun T hT X
                cases hv
                rw [h0] at hz hk2
                have k3 := k ad2 T'.heap (locs ++ L2) L (fun k h => by rw [hag2 k (Nat.lt_of_lt_of_le h hn0)]; exact hag k h) (by rw [e1]; exact hP2) ⟨hD2.1, fun k q hq => hsub _ (hD2.2 k q hq)⟩
                  ⟨Nat.le_trans hS.1 (by rw [e1]; exact hz), fun q h1 h2 => by rw [e1, hk2 q (Nat.lt_of_lt_of_le h1 hS.1) (fun z => h2 (hsub q z))]; exact hS.2.1 q h1 h2, fun q hq => by
                    rcases List.mem_append.mp hq with h | h
                    · exact hS.2.2 q h
                    · exact hsub _ (hL2 q h)⟩ (by rw [an_ls_same hag2 w2]; exact hl) hn
                have w4 : (st.drop nn).all (an_rb sh.length) = true := by
                  rw [List.all_eq_true] at w3 ⊢
                  exact fun v hv => w3 v (List.mem_of_mem_drop hv)
                simp only at k3
                rw [an_st_same hag2 w4] at k3
                have c1 : sh.length - sh0.length + (r2.1.length - sh.length) = r2.1.length - sh0.length := by omega
                have c2 : am_sz sh - am_sz sh0 + (am_sz r2.1 - am_sz sh) = am_sz r2.1 - am_sz sh0 := by omega
                rw [c1, c2] at X'
                obtain ⟨t2, a1, b5⟩ := k3 T' rfl X'
                exact ⟨t2, stp t2 a1, b5⟩
            · cases h
        · next hno =>
          split at h
          · next a r2 =>
            cases hbb : Nat.ble ((r2.map fun v => v.category).sum) 8 with
            | false => rw [hbb] at h; cases h
            | true =>
              rw [hbb] at h
              simp only [cond_true] at h
              have k := ih _ h hsb hn0 hz0
              have hinfo : info = [] := by
                match info, hck3, hno with
                | [], _, _ => rfl
                | [_], hh, _ => exact absurd hh (by simp)
                | a1 :: a2 :: as, _, hh => exact absurd rfl (hh a1 a2 as)
              subst hinfo
              intro ad H locs L hag hP hD hS hl hn
              have hW9 : ((r2.map (am_cv ad)).map fun v => v.category).sum ≤ 8 := by
                have : ((r2.map (am_cv ad)).map fun v => v.category) = (r2.map fun v => v.category) := by
                  rw [List.map_map]
                  exact List.map_congr_left (fun v _ => am_cv_cat ad v)
                rw [this]
                exact Nat.le_of_ble_eq_true hbb
              exact W.objInit hx hb hown (hts _ hck3.1) (hts _ hck3.2.1) (hts _ hck3.2.2) rfl (hl.1.trans hml.symm) rfl hdec (by omega) (by show 2 * 0 + _ + 12 ≤ _; omega) (k ad H locs L hag hP hD hS hl hn)
          · cases h
      case invokevirtual i =>
        simp only at h
        split at h
        · next x hx2 =>
          have k := ih _ h hsb hn0 hz0
          refine an_plain (fun ad hag k2 => ?_) k
          refine an_invW (Ex := fun _ => True) (d0 := d) hx hb hml hown hts hu hK (fun _ _ _ _ _ _ => trivial) trivial hRf hRl (by omega) (by omega) ?_ hAs hnk (fun j as mem r nm => hcall sh j as mem r nm ad hsb) hdec hck (Or.inl ⟨i, rfl⟩) hx2 k2
          intro q h1 h2 h3
          rw [hA] at h3
          rcases h3 with ⟨k, hk, rfl⟩ | h3
          · exact h2 (Or.inl ⟨k, Nat.lt_of_lt_of_le hk hn0, (hag k hk).symm⟩)
          · omega
        · cases h
      case putfield i =>
        simp only at h
        split at h
        · next x hx2 =>
          have k := ih _ h hsb hn0 hz0
          obtain ⟨hl3, hpf⟩ := hlk
          have hl3 : len = 3 := hl3
          subst hl3
          simp only [am_step] at hx2
          match info, hx2, hpf with
          | ci :: kk :: nest :: rs, hx2, ⟨r0, hr0, hfin, hf⟩ =>
            rcases hfin with hfin | ⟨hnest, hdecl, hfin⟩
            · exact an_plain (fun ad hag k2 => am_pfW hx hb hown hts hK hcl hsk hx2 hdec hr0 hfin hf k2) k
            · have hnest : nest = 0 := hnest
              subst hnest
              exact an_plain (fun ad hag k2 => an_pfW hx hb hown hts hK hcl hsk hname hx2 hdec hr0 hfin hdecl hf k2) k
        · cases h
      all_goals exact hplain hlk h
end ANX
