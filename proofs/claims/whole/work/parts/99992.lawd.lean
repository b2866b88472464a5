/-- what holds through the law's run -/
def ln_Cx (p : Program) (l : Launch) (s : State) (m : MethodId) (c : Code) (D : va_G) (cy : Nat → ClassId) (ad : Nat → Nat) (b Ln : Nat) (xs : Nat → Int32) (ext : Nat → List Value → am_M → Option am_R) (Ex : State → Prop) : Prop :=
  p.tables.exec = Jvm.exec ∧ c.code = code ∧ c.maxLocals = 8 ∧ s.vm.findClass "SureSumsLaw" = some m.cls ∧ (∀ w ∈ am_U, w.before #[Value.ref b] s = true) ∧ va_K D am_cl (am_tys cy) s ∧ am_Exh ad am_SH.length Ex ∧ Ex s ∧ (∀ d j as mem r nm, am_Ys j = none → ext j as mem = some r → am_Nm j = some nm → am_Mt l D am_cl cy ad am_SH Ex am_U nm (5 + d + 1) as mem r) ∧ va_X b Ln xs s s.heap ∧ b < s.heap.size ∧ ad 82 = b ∧ (∀ k, k < am_SH.length → s.heap.size ≤ ad k)
section LAWC
variable {p : Program} {l : Launch} {e : Env} {s : State} {m : MethodId} {below : List Frame} {meth : Method} {c : Code} {Q : State → Prop} {D : va_G} {cy : Nat → ClassId} {ad : Nat → Nat} {b Ln : Nat} {xs : Nat → Int32} {ext : Nat → List Value → am_M → Option am_R} {Ex : State → Prop} {N M : Nat}
theorem ln_b (C : ln_Cx p l s m c D cy ad b Ln xs ext Ex) {x x' : am_C} (k : Nat) (h : am_run lw_cd k x = some x') (g : ln_W N M p l e s m b below meth c Q D cy ad x') : ln_W N M p l e s m b below meth c Q D cy ad x :=
  ln_blk C.1 C.2.1 C.2.2.2.1 C.2.2.2.2.1 C.2.2.2.2.2.1 lw_cd_ok k h g
theorem ln_s (C : ln_Cx p l s m c D cy ad b Ln xs ext Ex) {pc : Nat} {i : Int32} {ls : List (Option Value)} {st : List Value} {mem : am_M} {q : List Nat} (hd : lw_cd pc = some (.iaload, 1, q)) (hi : vp_in i Ln)
    (k : ln_W N M p l e s m b below meth c Q D cy ad (pc + 1, ls, .int (xs i.toNatClampNeg) :: st, mem)) : ln_W N M p l e s m b below meth c Q D cy ad (pc, ls, .int i :: .ref 82 :: st, mem) :=
  ln_sld C.1 C.2.1 C.2.2.2.2.2.2.2.2.2.1 C.2.2.2.2.2.2.2.2.2.2.1 C.2.2.2.2.2.2.2.2.2.2.2.1 (lw_cd_ok _ _ hd).1 hi k
theorem ln_l (C : ln_Cx p l s m c D cy ad b Ln xs ext Ex) {pc : Nat} {ls : List (Option Value)} {st : List Value} {mem : am_M} {q : List Nat} (hd : lw_cd pc = some (.arraylength, 1, q))
    (k : ln_W N M p l e s m b below meth c Q D cy ad (pc + 1, ls, .int (Int32.ofNat Ln) :: st, mem)) : ln_W N M p l e s m b below meth c Q D cy ad (pc, ls, .ref 82 :: st, mem) :=
  ln_slen C.1 C.2.1 C.2.2.2.2.2.2.2.2.2.1 C.2.2.2.2.2.2.2.2.2.2.1 C.2.2.2.2.2.2.2.2.2.2.2.1 (lw_cd_ok _ _ hd).1 k
theorem ln_c (hNM : N ≤ 601024 ∧ M ≤ 7293034) (C : ln_Cx p l s m c D cy ad b Ln xs ext Ex) {pc i : Nat} {ls : List (Option Value)} {st : List Value} {mem : am_M} {r : am_R} {j n vi ci : Nat} {rs : List Nat} {as : List Value} (hd : lw_cd pc = some (.invokevirtual i, 3, j :: n :: vi :: ci :: rs)) (has : (st.take n).reverse = as) (hc : (Nat.ble n st.length && Nat.ble (((st.drop n).map fun v => v.category).sum) 8 && am_rc am_SH vi ci as) = true)
    (hR : am_Rn ext 400 j as mem r) (k : ln_W N M p l e s m b below meth c Q D cy ad (pc + 3, ls, r.1.toList ++ st.drop n, r.2)) : ln_W N M p l e s m b below meth c Q D cy ad (pc, ls, st, mem) :=
  ln_call hNM C.1 C.2.1 C.2.2.1 C.2.2.2.1 C.2.2.2.2.1 C.2.2.2.2.2.1 C.2.2.2.2.2.2.1 C.2.2.2.2.2.2.2.1 C.2.2.2.2.2.2.2.2.1 (lw_cd_ck _ _ hd).1 (lw_cd_ck _ _ hd).2 rfl rfl has hc hR C.2.2.2.2.2.2.2.2.2.2.2.2 k
theorem ln_eqi (C : ln_Cx p l s m c D cy ad b Ln xs ext Ex) {pc t : Nat} {off : Int} {r : Int32} {ls : List (Option Value)} {st : List Value} {mem : am_M} (hd : lw_cd pc = some (.if_icmp .eq off, 3, [t]))
    (k : ln_W N M p l e s m b below meth c Q D cy ad (t, ls, st, mem)) : ln_W N M p l e s m b below meth c Q D cy ad (pc, ls, .int r :: .int r :: st, mem) := by
  refine ln_b C (x' := (t, ls, st, mem)) 1 ?_ k
  simp only [am_run, hd]
  simp [am_pl, am_step, am_b2, am_cond, am_hd]
theorem ln_eql (C : ln_Cx p l s m c D cy ad b Ln xs ext Ex) {pc t : Nat} {off : Int} {r : Int64} {ls : List (Option Value)} {st : List Value} {mem : am_M} {q1 : List Nat} (hd : lw_cd pc = some (.lcmp, 1, q1)) (hd2 : lw_cd (pc + 1) = some (.ifCond .eq off, 3, [t]))
    (k : ln_W N M p l e s m b below meth c Q D cy ad (t, ls, st, mem)) : ln_W N M p l e s m b below meth c Q D cy ad (pc, ls, .long r :: .long r :: st, mem) := by
  refine ln_b C (x' := (t, ls, st, mem)) 2 ?_ k
  have h0 : lg_cmp r r = 0 := (am_lcmp_eq r r).mpr rfl
  simp only [am_run, hd]
  simp [am_pl, am_step, am_lc, hd2, am_b1, am_cond, am_hd, h0]
theorem ln_fg {pc : Nat} {l1 l2 : List (Option Value)} {st : List Value} {mem : am_M} (h : am_le l1 l2) (k : ln_W N M p l e s m b below meth c Q D cy ad (pc, l1, st, mem)) : ln_W N M p l e s m b below meth c Q D cy ad (pc, l2, st, mem) := by
  intro H locs L hP hD hS hl hn
  refine k H locs L hP hD hS (am_has_sub hl fun q hq => ?_) (h.1.trans hn)
  obtain ⟨i, u⟩ := q
  obtain ⟨v, hv, rfl⟩ := am_lv_mem.mp hq
  exact am_lv_mem.mpr ⟨v, h.2 i v hv, rfl⟩
set_option maxRecDepth 100000 in
theorem lnc_0 (hNM : N ≤ 601024 ∧ M ≤ 7293034) (C : ln_Cx p l s m c D cy ad b Ln xs ext Ex) (i : Int32) (h1 : vp_in (i + 1) Ln) (h2 : vp_in (i + 2) Ln) (h3 : vp_in (i + 3) Ln) (h4 : vp_in (i + 4) Ln) (h5 : vp_in (i + 5) Ln) {r : Int32} {m0 m1 m2 : am_M} (hR1 : am_Rn ext 400 92 [.ref 0, .int (xs (i + 1).toNatClampNeg), .int (xs (i + 2).toNatClampNeg), .int (xs (i + 3).toNatClampNeg), .int (xs (i + 4).toNatClampNeg), .int (xs (i + 5).toNatClampNeg)] m0 (some (.int r), m1)) (hR2 : am_Rn ext 400 116 [.ref 42, .int (xs (i + 1).toNatClampNeg), .int (xs (i + 2).toNatClampNeg), .int (xs (i + 3).toNatClampNeg), .int (xs (i + 4).toNatClampNeg), .int (xs (i + 5).toNatClampNeg)] m1 (some (.int r), m2)) (k : ln_W N M p l e s m b below meth c Q D cy ad (836, [some (.ref 82), some (.ref 0), some (.ref 42), some (.ref 81), some (.int i), none, none, none], [], m2)) : ln_W N M p l e s m b below meth c Q D cy ad (120, [some (.ref 82), some (.ref 0), some (.ref 42), some (.ref 81), some (.int i), none, none, none], [], m0) := by
  refine ln_b C (x' := (126, [some (.ref 82), some (.ref 0), some (.ref 42), some (.ref 81), some (.int i), none, none, none], [.int (i + 1), .ref 82, .ref 0], m0)) 5 rfl ?_
  refine ln_s C rfl h1 ?_
  refine ln_b C (x' := (132, [some (.ref 82), some (.ref 0), some (.ref 42), some (.ref 81), some (.int i), none, none, none], [.int (i + 2), .ref 82, .int (xs (i + 1).toNatClampNeg), .ref 0], m0)) 4 rfl ?_
  refine ln_s C rfl h2 ?_
  refine ln_b C (x' := (138, [some (.ref 82), some (.ref 0), some (.ref 42), some (.ref 81), some (.int i), none, none, none], [.int (i + 3), .ref 82, .int (xs (i + 2).toNatClampNeg), .int (xs (i + 1).toNatClampNeg), .ref 0], m0)) 4 rfl ?_
  refine ln_s C rfl h3 ?_
  refine ln_b C (x' := (144, [some (.ref 82), some (.ref 0), some (.ref 42), some (.ref 81), some (.int i), none, none, none], [.int (i + 4), .ref 82, .int (xs (i + 3).toNatClampNeg), .int (xs (i + 2).toNatClampNeg), .int (xs (i + 1).toNatClampNeg), .ref 0], m0)) 4 rfl ?_
  refine ln_s C rfl h4 ?_
  refine ln_b C (x' := (150, [some (.ref 82), some (.ref 0), some (.ref 42), some (.ref 81), some (.int i), none, none, none], [.int (i + 5), .ref 82, .int (xs (i + 4).toNatClampNeg), .int (xs (i + 3).toNatClampNeg), .int (xs (i + 2).toNatClampNeg), .int (xs (i + 1).toNatClampNeg), .ref 0], m0)) 4 rfl ?_
  refine ln_s C rfl h5 ?_
  refine ln_c hNM C (as := [.ref 0, .int (xs (i + 1).toNatClampNeg), .int (xs (i + 2).toNatClampNeg), .int (xs (i + 3).toNatClampNeg), .int (xs (i + 4).toNatClampNeg), .int (xs (i + 5).toNatClampNeg)]) rfl rfl rfl hR1 ?_
  show ln_W N M p l e s m b below meth c Q D cy ad (154, [some (.ref 82), some (.ref 0), some (.ref 42), some (.ref 81), some (.int i), none, none, none], [.int r], m1)
  refine ln_b C (x' := (160, [some (.ref 82), some (.ref 0), some (.ref 42), some (.ref 81), some (.int i), none, none, none], [.int (i + 1), .ref 82, .ref 42, .int r], m1)) 5 rfl ?_
  refine ln_s C rfl h1 ?_
  refine ln_b C (x' := (166, [some (.ref 82), some (.ref 0), some (.ref 42), some (.ref 81), some (.int i), none, none, none], [.int (i + 2), .ref 82, .int (xs (i + 1).toNatClampNeg), .ref 42, .int r], m1)) 4 rfl ?_
  refine ln_s C rfl h2 ?_
  refine ln_b C (x' := (172, [some (.ref 82), some (.ref 0), some (.ref 42), some (.ref 81), some (.int i), none, none, none], [.int (i + 3), .ref 82, .int (xs (i + 2).toNatClampNeg), .int (xs (i + 1).toNatClampNeg), .ref 42, .int r], m1)) 4 rfl ?_
  refine ln_s C rfl h3 ?_
  refine ln_b C (x' := (178, [some (.ref 82), some (.ref 0), some (.ref 42), some (.ref 81), some (.int i), none, none, none], [.int (i + 4), .ref 82, .int (xs (i + 3).toNatClampNeg), .int (xs (i + 2).toNatClampNeg), .int (xs (i + 1).toNatClampNeg), .ref 42, .int r], m1)) 4 rfl ?_
  refine ln_s C rfl h4 ?_
  refine ln_b C (x' := (184, [some (.ref 82), some (.ref 0), some (.ref 42), some (.ref 81), some (.int i), none, none, none], [.int (i + 5), .ref 82, .int (xs (i + 4).toNatClampNeg), .int (xs (i + 3).toNatClampNeg), .int (xs (i + 2).toNatClampNeg), .int (xs (i + 1).toNatClampNeg), .ref 42, .int r], m1)) 4 rfl ?_
  refine ln_s C rfl h5 ?_
  refine ln_c hNM C (as := [.ref 42, .int (xs (i + 1).toNatClampNeg), .int (xs (i + 2).toNatClampNeg), .int (xs (i + 3).toNatClampNeg), .int (xs (i + 4).toNatClampNeg), .int (xs (i + 5).toNatClampNeg)]) rfl rfl rfl hR2 ?_
  show ln_W N M p l e s m b below meth c Q D cy ad (188, [some (.ref 82), some (.ref 0), some (.ref 42), some (.ref 81), some (.int i), none, none, none], [.int r, .int r], m2)
  refine ln_eqi C rfl ?_
  exact k
set_option maxRecDepth 100000 in
theorem lnc_1 (hNM : N ≤ 601024 ∧ M ≤ 7293034) (C : ln_Cx p l s m c D cy ad b Ln xs ext Ex) (i : Int32) (h1 : vp_in (i + 1) Ln) {r : Int32} {m0 m1 m2 : am_M} (hR1 : am_Rn ext 400 94 [.ref 0, .int (xs (i + 1).toNatClampNeg)] m0 (some (.int r), m1)) (hR2 : am_Rn ext 400 144 [.ref 42, .int (xs (i + 1).toNatClampNeg)] m1 (some (.int r), m2)) (k : ln_W N M p l e s m b below meth c Q D cy ad (836, [some (.ref 82), some (.ref 0), some (.ref 42), some (.ref 81), some (.int i), none, none, none], [], m2)) : ln_W N M p l e s m b below meth c Q D cy ad (193, [some (.ref 82), some (.ref 0), some (.ref 42), some (.ref 81), some (.int i), none, none, none], [], m0) := by
  refine ln_b C (x' := (199, [some (.ref 82), some (.ref 0), some (.ref 42), some (.ref 81), some (.int i), none, none, none], [.int (i + 1), .ref 82, .ref 0], m0)) 5 rfl ?_
  refine ln_s C rfl h1 ?_
  refine ln_c hNM C (as := [.ref 0, .int (xs (i + 1).toNatClampNeg)]) rfl rfl rfl hR1 ?_
  show ln_W N M p l e s m b below meth c Q D cy ad (203, [some (.ref 82), some (.ref 0), some (.ref 42), some (.ref 81), some (.int i), none, none, none], [.int r], m1)
  refine ln_b C (x' := (209, [some (.ref 82), some (.ref 0), some (.ref 42), some (.ref 81), some (.int i), none, none, none], [.int (i + 1), .ref 82, .ref 42, .int r], m1)) 5 rfl ?_
  refine ln_s C rfl h1 ?_
  refine ln_c hNM C (as := [.ref 42, .int (xs (i + 1).toNatClampNeg)]) rfl rfl rfl hR2 ?_
  show ln_W N M p l e s m b below meth c Q D cy ad (213, [some (.ref 82), some (.ref 0), some (.ref 42), some (.ref 81), some (.int i), none, none, none], [.int r, .int r], m2)
  refine ln_eqi C rfl ?_
  exact k
set_option maxRecDepth 100000 in
theorem lnc_2 (hNM : N ≤ 601024 ∧ M ≤ 7293034) (C : ln_Cx p l s m c D cy ad b Ln xs ext Ex) (i : Int32) (h1 : vp_in (i + 1) Ln) {r : Int32} {m0 m1 m2 : am_M} (hR1 : am_Rn ext 400 95 [.ref 0, .int (xs (i + 1).toNatClampNeg)] m0 (some (.int r), m1)) (hR2 : am_Rn ext 400 145 [.ref 42, .int (xs (i + 1).toNatClampNeg)] m1 (some (.int r), m2)) (k : ln_W N M p l e s m b below meth c Q D cy ad (836, [some (.ref 82), some (.ref 0), some (.ref 42), some (.ref 81), some (.int i), none, none, none], [], m2)) : ln_W N M p l e s m b below meth c Q D cy ad (218, [some (.ref 82), some (.ref 0), some (.ref 42), some (.ref 81), some (.int i), none, none, none], [], m0) := by
  refine ln_b C (x' := (224, [some (.ref 82), some (.ref 0), some (.ref 42), some (.ref 81), some (.int i), none, none, none], [.int (i + 1), .ref 82, .ref 0], m0)) 5 rfl ?_
  refine ln_s C rfl h1 ?_
  refine ln_c hNM C (as := [.ref 0, .int (xs (i + 1).toNatClampNeg)]) rfl rfl rfl hR1 ?_
  show ln_W N M p l e s m b below meth c Q D cy ad (228, [some (.ref 82), some (.ref 0), some (.ref 42), some (.ref 81), some (.int i), none, none, none], [.int r], m1)
  refine ln_b C (x' := (234, [some (.ref 82), some (.ref 0), some (.ref 42), some (.ref 81), some (.int i), none, none, none], [.int (i + 1), .ref 82, .ref 42, .int r], m1)) 5 rfl ?_
  refine ln_s C rfl h1 ?_
  refine ln_c hNM C (as := [.ref 42, .int (xs (i + 1).toNatClampNeg)]) rfl rfl rfl hR2 ?_
  show ln_W N M p l e s m b below meth c Q D cy ad (238, [some (.ref 82), some (.ref 0), some (.ref 42), some (.ref 81), some (.int i), none, none, none], [.int r, .int r], m2)
  refine ln_eqi C rfl ?_
  exact k
set_option maxRecDepth 100000 in
theorem lnc_3 (hNM : N ≤ 601024 ∧ M ≤ 7293034) (C : ln_Cx p l s m c D cy ad b Ln xs ext Ex) (i : Int32) (h1 : vp_in (i + 1) Ln) {r : Int32} {m0 m1 m2 : am_M} (hR1 : am_Rn ext 400 96 [.ref 0, .int (xs (i + 1).toNatClampNeg)] m0 (some (.int r), m1)) (hR2 : am_Rn ext 400 147 [.ref 42, .int (xs (i + 1).toNatClampNeg)] m1 (some (.int r), m2)) (k : ln_W N M p l e s m b below meth c Q D cy ad (836, [some (.ref 82), some (.ref 0), some (.ref 42), some (.ref 81), some (.int i), none, none, none], [], m2)) : ln_W N M p l e s m b below meth c Q D cy ad (243, [some (.ref 82), some (.ref 0), some (.ref 42), some (.ref 81), some (.int i), none, none, none], [], m0) := by
  refine ln_b C (x' := (249, [some (.ref 82), some (.ref 0), some (.ref 42), some (.ref 81), some (.int i), none, none, none], [.int (i + 1), .ref 82, .ref 0], m0)) 5 rfl ?_
  refine ln_s C rfl h1 ?_
  refine ln_c hNM C (as := [.ref 0, .int (xs (i + 1).toNatClampNeg)]) rfl rfl rfl hR1 ?_
  show ln_W N M p l e s m b below meth c Q D cy ad (253, [some (.ref 82), some (.ref 0), some (.ref 42), some (.ref 81), some (.int i), none, none, none], [.int r], m1)
  refine ln_b C (x' := (259, [some (.ref 82), some (.ref 0), some (.ref 42), some (.ref 81), some (.int i), none, none, none], [.int (i + 1), .ref 82, .ref 42, .int r], m1)) 5 rfl ?_
  refine ln_s C rfl h1 ?_
  refine ln_c hNM C (as := [.ref 42, .int (xs (i + 1).toNatClampNeg)]) rfl rfl rfl hR2 ?_
  show ln_W N M p l e s m b below meth c Q D cy ad (263, [some (.ref 82), some (.ref 0), some (.ref 42), some (.ref 81), some (.int i), none, none, none], [.int r, .int r], m2)
  refine ln_eqi C rfl ?_
  exact k
set_option maxRecDepth 100000 in
theorem lnc_4 (hNM : N ≤ 601024 ∧ M ≤ 7293034) (C : ln_Cx p l s m c D cy ad b Ln xs ext Ex) (i : Int32) (h1 : vp_in (i + 1) Ln) (h2 : vp_in (i + 2) Ln) (h3 : vp_in (i + 3) Ln) {r : Int64} {m0 m1 m2 : am_M} (hR1 : am_Rn ext 400 97 [.ref 0, .int (xs (i + 1).toNatClampNeg), .int (xs (i + 2).toNatClampNeg), .int (xs (i + 3).toNatClampNeg)] m0 (some (.long r), m1)) (hR2 : am_Rn ext 400 172 [.ref 42, .int (xs (i + 1).toNatClampNeg), .int (xs (i + 2).toNatClampNeg), .int (xs (i + 3).toNatClampNeg)] m1 (some (.long r), m2)) (k : ln_W N M p l e s m b below meth c Q D cy ad (836, [some (.ref 82), some (.ref 0), some (.ref 42), some (.ref 81), some (.int i), none, none, none], [], m2)) : ln_W N M p l e s m b below meth c Q D cy ad (268, [some (.ref 82), some (.ref 0), some (.ref 42), some (.ref 81), some (.int i), none, none, none], [], m0) := by
  refine ln_b C (x' := (274, [some (.ref 82), some (.ref 0), some (.ref 42), some (.ref 81), some (.int i), none, none, none], [.int (i + 1), .ref 82, .ref 0], m0)) 5 rfl ?_
  refine ln_s C rfl h1 ?_
  refine ln_b C (x' := (280, [some (.ref 82), some (.ref 0), some (.ref 42), some (.ref 81), some (.int i), none, none, none], [.int (i + 2), .ref 82, .int (xs (i + 1).toNatClampNeg), .ref 0], m0)) 4 rfl ?_
  refine ln_s C rfl h2 ?_
  refine ln_b C (x' := (286, [some (.ref 82), some (.ref 0), some (.ref 42), some (.ref 81), some (.int i), none, none, none], [.int (i + 3), .ref 82, .int (xs (i + 2).toNatClampNeg), .int (xs (i + 1).toNatClampNeg), .ref 0], m0)) 4 rfl ?_
  refine ln_s C rfl h3 ?_
  refine ln_c hNM C (as := [.ref 0, .int (xs (i + 1).toNatClampNeg), .int (xs (i + 2).toNatClampNeg), .int (xs (i + 3).toNatClampNeg)]) rfl rfl rfl hR1 ?_
  show ln_W N M p l e s m b below meth c Q D cy ad (290, [some (.ref 82), some (.ref 0), some (.ref 42), some (.ref 81), some (.int i), none, none, none], [.long r], m1)
  refine ln_b C (x' := (296, [some (.ref 82), some (.ref 0), some (.ref 42), some (.ref 81), some (.int i), none, none, none], [.int (i + 1), .ref 82, .ref 42, .long r], m1)) 5 rfl ?_
  refine ln_s C rfl h1 ?_
  refine ln_b C (x' := (302, [some (.ref 82), some (.ref 0), some (.ref 42), some (.ref 81), some (.int i), none, none, none], [.int (i + 2), .ref 82, .int (xs (i + 1).toNatClampNeg), .ref 42, .long r], m1)) 4 rfl ?_
  refine ln_s C rfl h2 ?_
  refine ln_b C (x' := (308, [some (.ref 82), some (.ref 0), some (.ref 42), some (.ref 81), some (.int i), none, none, none], [.int (i + 3), .ref 82, .int (xs (i + 2).toNatClampNeg), .int (xs (i + 1).toNatClampNeg), .ref 42, .long r], m1)) 4 rfl ?_
  refine ln_s C rfl h3 ?_
  refine ln_c hNM C (as := [.ref 42, .int (xs (i + 1).toNatClampNeg), .int (xs (i + 2).toNatClampNeg), .int (xs (i + 3).toNatClampNeg)]) rfl rfl rfl hR2 ?_
  show ln_W N M p l e s m b below meth c Q D cy ad (312, [some (.ref 82), some (.ref 0), some (.ref 42), some (.ref 81), some (.int i), none, none, none], [.long r, .long r], m2)
  refine ln_eql C rfl rfl ?_
  exact k
set_option maxRecDepth 100000 in
theorem lnc_5 (hNM : N ≤ 601024 ∧ M ≤ 7293034) (C : ln_Cx p l s m c D cy ad b Ln xs ext Ex) (i : Int32) (h1 : vp_in (i + 1) Ln) (h2 : vp_in (i + 2) Ln) (h3 : vp_in (i + 3) Ln) (h4 : vp_in (i + 4) Ln) (h5 : vp_in (i + 5) Ln) {r : Int64} {m0 m1 m2 : am_M} (hR1 : am_Rn ext 400 98 [.ref 0, .int (xs (i + 1).toNatClampNeg), .int (xs (i + 2).toNatClampNeg), .int (xs (i + 3).toNatClampNeg), .int (xs (i + 4).toNatClampNeg), .int (xs (i + 5).toNatClampNeg)] m0 (some (.long r), m1)) (hR2 : am_Rn ext 400 173 [.ref 42, .int (xs (i + 1).toNatClampNeg), .int (xs (i + 2).toNatClampNeg), .int (xs (i + 3).toNatClampNeg), .int (xs (i + 4).toNatClampNeg), .int (xs (i + 5).toNatClampNeg)] m1 (some (.long r), m2)) (k : ln_W N M p l e s m b below meth c Q D cy ad (836, [some (.ref 82), some (.ref 0), some (.ref 42), some (.ref 81), some (.int i), none, none, none], [], m2)) : ln_W N M p l e s m b below meth c Q D cy ad (318, [some (.ref 82), some (.ref 0), some (.ref 42), some (.ref 81), some (.int i), none, none, none], [], m0) := by
  refine ln_b C (x' := (324, [some (.ref 82), some (.ref 0), some (.ref 42), some (.ref 81), some (.int i), none, none, none], [.int (i + 1), .ref 82, .ref 0], m0)) 5 rfl ?_
  refine ln_s C rfl h1 ?_
  refine ln_b C (x' := (330, [some (.ref 82), some (.ref 0), some (.ref 42), some (.ref 81), some (.int i), none, none, none], [.int (i + 2), .ref 82, .int (xs (i + 1).toNatClampNeg), .ref 0], m0)) 4 rfl ?_
  refine ln_s C rfl h2 ?_
  refine ln_b C (x' := (336, [some (.ref 82), some (.ref 0), some (.ref 42), some (.ref 81), some (.int i), none, none, none], [.int (i + 3), .ref 82, .int (xs (i + 2).toNatClampNeg), .int (xs (i + 1).toNatClampNeg), .ref 0], m0)) 4 rfl ?_
  refine ln_s C rfl h3 ?_
  refine ln_b C (x' := (342, [some (.ref 82), some (.ref 0), some (.ref 42), some (.ref 81), some (.int i), none, none, none], [.int (i + 4), .ref 82, .int (xs (i + 3).toNatClampNeg), .int (xs (i + 2).toNatClampNeg), .int (xs (i + 1).toNatClampNeg), .ref 0], m0)) 4 rfl ?_
  refine ln_s C rfl h4 ?_
  refine ln_b C (x' := (348, [some (.ref 82), some (.ref 0), some (.ref 42), some (.ref 81), some (.int i), none, none, none], [.int (i + 5), .ref 82, .int (xs (i + 4).toNatClampNeg), .int (xs (i + 3).toNatClampNeg), .int (xs (i + 2).toNatClampNeg), .int (xs (i + 1).toNatClampNeg), .ref 0], m0)) 4 rfl ?_
  refine ln_s C rfl h5 ?_
  refine ln_c hNM C (as := [.ref 0, .int (xs (i + 1).toNatClampNeg), .int (xs (i + 2).toNatClampNeg), .int (xs (i + 3).toNatClampNeg), .int (xs (i + 4).toNatClampNeg), .int (xs (i + 5).toNatClampNeg)]) rfl rfl rfl hR1 ?_
  show ln_W N M p l e s m b below meth c Q D cy ad (352, [some (.ref 82), some (.ref 0), some (.ref 42), some (.ref 81), some (.int i), none, none, none], [.long r], m1)
  refine ln_b C (x' := (358, [some (.ref 82), some (.ref 0), some (.ref 42), some (.ref 81), some (.int i), none, none, none], [.int (i + 1), .ref 82, .ref 42, .long r], m1)) 5 rfl ?_
  refine ln_s C rfl h1 ?_
  refine ln_b C (x' := (364, [some (.ref 82), some (.ref 0), some (.ref 42), some (.ref 81), some (.int i), none, none, none], [.int (i + 2), .ref 82, .int (xs (i + 1).toNatClampNeg), .ref 42, .long r], m1)) 4 rfl ?_
  refine ln_s C rfl h2 ?_
  refine ln_b C (x' := (370, [some (.ref 82), some (.ref 0), some (.ref 42), some (.ref 81), some (.int i), none, none, none], [.int (i + 3), .ref 82, .int (xs (i + 2).toNatClampNeg), .int (xs (i + 1).toNatClampNeg), .ref 42, .long r], m1)) 4 rfl ?_
  refine ln_s C rfl h3 ?_
  refine ln_b C (x' := (376, [some (.ref 82), some (.ref 0), some (.ref 42), some (.ref 81), some (.int i), none, none, none], [.int (i + 4), .ref 82, .int (xs (i + 3).toNatClampNeg), .int (xs (i + 2).toNatClampNeg), .int (xs (i + 1).toNatClampNeg), .ref 42, .long r], m1)) 4 rfl ?_
  refine ln_s C rfl h4 ?_
  refine ln_b C (x' := (382, [some (.ref 82), some (.ref 0), some (.ref 42), some (.ref 81), some (.int i), none, none, none], [.int (i + 5), .ref 82, .int (xs (i + 4).toNatClampNeg), .int (xs (i + 3).toNatClampNeg), .int (xs (i + 2).toNatClampNeg), .int (xs (i + 1).toNatClampNeg), .ref 42, .long r], m1)) 4 rfl ?_
  refine ln_s C rfl h5 ?_
  refine ln_c hNM C (as := [.ref 42, .int (xs (i + 1).toNatClampNeg), .int (xs (i + 2).toNatClampNeg), .int (xs (i + 3).toNatClampNeg), .int (xs (i + 4).toNatClampNeg), .int (xs (i + 5).toNatClampNeg)]) rfl rfl rfl hR2 ?_
  show ln_W N M p l e s m b below meth c Q D cy ad (386, [some (.ref 82), some (.ref 0), some (.ref 42), some (.ref 81), some (.int i), none, none, none], [.long r, .long r], m2)
  refine ln_eql C rfl rfl ?_
  exact k
set_option maxRecDepth 100000 in
theorem lnc_6 (hNM : N ≤ 601024 ∧ M ≤ 7293034) (C : ln_Cx p l s m c D cy ad b Ln xs ext Ex) (i : Int32) (h1 : vp_in (i + 1) Ln) (h2 : vp_in (i + 2) Ln) (h3 : vp_in (i + 3) Ln) {r : Int64} {m0 m1 m2 : am_M} (hR1 : am_Rn ext 400 100 [.ref 0, .int (xs (i + 1).toNatClampNeg), .int (xs (i + 2).toNatClampNeg), .int (xs (i + 3).toNatClampNeg)] m0 (some (.long r), m1)) (hR2 : am_Rn ext 400 174 [.ref 42, .int (xs (i + 1).toNatClampNeg), .int (xs (i + 2).toNatClampNeg), .int (xs (i + 3).toNatClampNeg)] m1 (some (.long r), m2)) (k : ln_W N M p l e s m b below meth c Q D cy ad (836, [some (.ref 82), some (.ref 0), some (.ref 42), some (.ref 81), some (.int i), none, none, none], [], m2)) : ln_W N M p l e s m b below meth c Q D cy ad (392, [some (.ref 82), some (.ref 0), some (.ref 42), some (.ref 81), some (.int i), none, none, none], [], m0) := by
  refine ln_b C (x' := (398, [some (.ref 82), some (.ref 0), some (.ref 42), some (.ref 81), some (.int i), none, none, none], [.int (i + 1), .ref 82, .ref 0], m0)) 5 rfl ?_
  refine ln_s C rfl h1 ?_
  refine ln_b C (x' := (404, [some (.ref 82), some (.ref 0), some (.ref 42), some (.ref 81), some (.int i), none, none, none], [.int (i + 2), .ref 82, .int (xs (i + 1).toNatClampNeg), .ref 0], m0)) 4 rfl ?_
  refine ln_s C rfl h2 ?_
  refine ln_b C (x' := (410, [some (.ref 82), some (.ref 0), some (.ref 42), some (.ref 81), some (.int i), none, none, none], [.int (i + 3), .ref 82, .int (xs (i + 2).toNatClampNeg), .int (xs (i + 1).toNatClampNeg), .ref 0], m0)) 4 rfl ?_
  refine ln_s C rfl h3 ?_
  refine ln_c hNM C (as := [.ref 0, .int (xs (i + 1).toNatClampNeg), .int (xs (i + 2).toNatClampNeg), .int (xs (i + 3).toNatClampNeg)]) rfl rfl rfl hR1 ?_
  show ln_W N M p l e s m b below meth c Q D cy ad (414, [some (.ref 82), some (.ref 0), some (.ref 42), some (.ref 81), some (.int i), none, none, none], [.long r], m1)
  refine ln_b C (x' := (420, [some (.ref 82), some (.ref 0), some (.ref 42), some (.ref 81), some (.int i), none, none, none], [.int (i + 1), .ref 82, .ref 42, .long r], m1)) 5 rfl ?_
  refine ln_s C rfl h1 ?_
  refine ln_b C (x' := (426, [some (.ref 82), some (.ref 0), some (.ref 42), some (.ref 81), some (.int i), none, none, none], [.int (i + 2), .ref 82, .int (xs (i + 1).toNatClampNeg), .ref 42, .long r], m1)) 4 rfl ?_
  refine ln_s C rfl h2 ?_
  refine ln_b C (x' := (432, [some (.ref 82), some (.ref 0), some (.ref 42), some (.ref 81), some (.int i), none, none, none], [.int (i + 3), .ref 82, .int (xs (i + 2).toNatClampNeg), .int (xs (i + 1).toNatClampNeg), .ref 42, .long r], m1)) 4 rfl ?_
  refine ln_s C rfl h3 ?_
  refine ln_c hNM C (as := [.ref 42, .int (xs (i + 1).toNatClampNeg), .int (xs (i + 2).toNatClampNeg), .int (xs (i + 3).toNatClampNeg)]) rfl rfl rfl hR2 ?_
  show ln_W N M p l e s m b below meth c Q D cy ad (436, [some (.ref 82), some (.ref 0), some (.ref 42), some (.ref 81), some (.int i), none, none, none], [.long r, .long r], m2)
  refine ln_eql C rfl rfl ?_
  exact k
set_option maxRecDepth 100000 in
theorem lnc_7 (hNM : N ≤ 601024 ∧ M ≤ 7293034) (C : ln_Cx p l s m c D cy ad b Ln xs ext Ex) (i : Int32) (h1 : vp_in (i + 1) Ln) {r : Int32} {m0 m1 m2 : am_M} (hR1 : am_Rn ext 400 101 [.ref 0, .int (xs (i + 1).toNatClampNeg)] m0 (some (.int r), m1)) (hR2 : am_Rn ext 400 175 [.ref 42, .int (xs (i + 1).toNatClampNeg)] m1 (some (.int r), m2)) (k : ln_W N M p l e s m b below meth c Q D cy ad (836, [some (.ref 82), some (.ref 0), some (.ref 42), some (.ref 81), some (.int i), none, none, none], [], m2)) : ln_W N M p l e s m b below meth c Q D cy ad (442, [some (.ref 82), some (.ref 0), some (.ref 42), some (.ref 81), some (.int i), none, none, none], [], m0) := by
  refine ln_b C (x' := (448, [some (.ref 82), some (.ref 0), some (.ref 42), some (.ref 81), some (.int i), none, none, none], [.int (i + 1), .ref 82, .ref 0], m0)) 5 rfl ?_
  refine ln_s C rfl h1 ?_
  refine ln_c hNM C (as := [.ref 0, .int (xs (i + 1).toNatClampNeg)]) rfl rfl rfl hR1 ?_
  show ln_W N M p l e s m b below meth c Q D cy ad (452, [some (.ref 82), some (.ref 0), some (.ref 42), some (.ref 81), some (.int i), none, none, none], [.int r], m1)
  refine ln_b C (x' := (458, [some (.ref 82), some (.ref 0), some (.ref 42), some (.ref 81), some (.int i), none, none, none], [.int (i + 1), .ref 82, .ref 42, .int r], m1)) 5 rfl ?_
  refine ln_s C rfl h1 ?_
  refine ln_c hNM C (as := [.ref 42, .int (xs (i + 1).toNatClampNeg)]) rfl rfl rfl hR2 ?_
  show ln_W N M p l e s m b below meth c Q D cy ad (462, [some (.ref 82), some (.ref 0), some (.ref 42), some (.ref 81), some (.int i), none, none, none], [.int r, .int r], m2)
  refine ln_eqi C rfl ?_
  exact k
set_option maxRecDepth 100000 in
theorem lnc_8 (hNM : N ≤ 601024 ∧ M ≤ 7293034) (C : ln_Cx p l s m c D cy ad b Ln xs ext Ex) (i : Int32) (h1 : vp_in (i + 1) Ln) (h2 : vp_in (i + 2) Ln) {r : Int64} {m0 m1 m2 : am_M} (hR1 : am_Rn ext 400 102 [.ref 0, .int (xs (i + 1).toNatClampNeg), .int (xs (i + 2).toNatClampNeg)] m0 (some (.long r), m1)) (hR2 : am_Rn ext 400 181 [.ref 42, .int (xs (i + 1).toNatClampNeg), .int (xs (i + 2).toNatClampNeg)] m1 (some (.long r), m2)) (k : ln_W N M p l e s m b below meth c Q D cy ad (836, [some (.ref 82), some (.ref 0), some (.ref 42), some (.ref 81), some (.int i), none, none, none], [], m2)) : ln_W N M p l e s m b below meth c Q D cy ad (467, [some (.ref 82), some (.ref 0), some (.ref 42), some (.ref 81), some (.int i), none, none, none], [], m0) := by
  refine ln_b C (x' := (473, [some (.ref 82), some (.ref 0), some (.ref 42), some (.ref 81), some (.int i), none, none, none], [.int (i + 1), .ref 82, .ref 0], m0)) 5 rfl ?_
  refine ln_s C rfl h1 ?_
  refine ln_b C (x' := (479, [some (.ref 82), some (.ref 0), some (.ref 42), some (.ref 81), some (.int i), none, none, none], [.int (i + 2), .ref 82, .int (xs (i + 1).toNatClampNeg), .ref 0], m0)) 4 rfl ?_
  refine ln_s C rfl h2 ?_
  refine ln_c hNM C (as := [.ref 0, .int (xs (i + 1).toNatClampNeg), .int (xs (i + 2).toNatClampNeg)]) rfl rfl rfl hR1 ?_
  show ln_W N M p l e s m b below meth c Q D cy ad (483, [some (.ref 82), some (.ref 0), some (.ref 42), some (.ref 81), some (.int i), none, none, none], [.long r], m1)
  refine ln_b C (x' := (489, [some (.ref 82), some (.ref 0), some (.ref 42), some (.ref 81), some (.int i), none, none, none], [.int (i + 1), .ref 82, .ref 42, .long r], m1)) 5 rfl ?_
  refine ln_s C rfl h1 ?_
  refine ln_b C (x' := (495, [some (.ref 82), some (.ref 0), some (.ref 42), some (.ref 81), some (.int i), none, none, none], [.int (i + 2), .ref 82, .int (xs (i + 1).toNatClampNeg), .ref 42, .long r], m1)) 4 rfl ?_
  refine ln_s C rfl h2 ?_
  refine ln_c hNM C (as := [.ref 42, .int (xs (i + 1).toNatClampNeg), .int (xs (i + 2).toNatClampNeg)]) rfl rfl rfl hR2 ?_
  show ln_W N M p l e s m b below meth c Q D cy ad (499, [some (.ref 82), some (.ref 0), some (.ref 42), some (.ref 81), some (.int i), none, none, none], [.long r, .long r], m2)
  refine ln_eql C rfl rfl ?_
  exact k
set_option maxRecDepth 100000 in
theorem lnc_9 (hNM : N ≤ 601024 ∧ M ≤ 7293034) (C : ln_Cx p l s m c D cy ad b Ln xs ext Ex) (i : Int32) (h1 : vp_in (i + 1) Ln) (h2 : vp_in (i + 2) Ln) {r : Int32} {m0 m1 m2 : am_M} (hR1 : am_Rn ext 400 103 [.ref 0, .int (xs (i + 1).toNatClampNeg), .int (xs (i + 2).toNatClampNeg)] m0 (some (.int r), m1)) (hR2 : am_Rn ext 400 182 [.ref 42, .int (xs (i + 1).toNatClampNeg), .int (xs (i + 2).toNatClampNeg)] m1 (some (.int r), m2)) (k : ln_W N M p l e s m b below meth c Q D cy ad (836, [some (.ref 82), some (.ref 0), some (.ref 42), some (.ref 81), some (.int i), none, none, none], [], m2)) : ln_W N M p l e s m b below meth c Q D cy ad (505, [some (.ref 82), some (.ref 0), some (.ref 42), some (.ref 81), some (.int i), none, none, none], [], m0) := by
  refine ln_b C (x' := (511, [some (.ref 82), some (.ref 0), some (.ref 42), some (.ref 81), some (.int i), none, none, none], [.int (i + 1), .ref 82, .ref 0], m0)) 5 rfl ?_
  refine ln_s C rfl h1 ?_
  refine ln_b C (x' := (517, [some (.ref 82), some (.ref 0), some (.ref 42), some (.ref 81), some (.int i), none, none, none], [.int (i + 2), .ref 82, .int (xs (i + 1).toNatClampNeg), .ref 0], m0)) 4 rfl ?_
  refine ln_s C rfl h2 ?_
  refine ln_c hNM C (as := [.ref 0, .int (xs (i + 1).toNatClampNeg), .int (xs (i + 2).toNatClampNeg)]) rfl rfl rfl hR1 ?_
  show ln_W N M p l e s m b below meth c Q D cy ad (521, [some (.ref 82), some (.ref 0), some (.ref 42), some (.ref 81), some (.int i), none, none, none], [.int r], m1)
  refine ln_b C (x' := (527, [some (.ref 82), some (.ref 0), some (.ref 42), some (.ref 81), some (.int i), none, none, none], [.int (i + 1), .ref 82, .ref 42, .int r], m1)) 5 rfl ?_
  refine ln_s C rfl h1 ?_
  refine ln_b C (x' := (533, [some (.ref 82), some (.ref 0), some (.ref 42), some (.ref 81), some (.int i), none, none, none], [.int (i + 2), .ref 82, .int (xs (i + 1).toNatClampNeg), .ref 42, .int r], m1)) 4 rfl ?_
  refine ln_s C rfl h2 ?_
  refine ln_c hNM C (as := [.ref 42, .int (xs (i + 1).toNatClampNeg), .int (xs (i + 2).toNatClampNeg)]) rfl rfl rfl hR2 ?_
  show ln_W N M p l e s m b below meth c Q D cy ad (537, [some (.ref 82), some (.ref 0), some (.ref 42), some (.ref 81), some (.int i), none, none, none], [.int r, .int r], m2)
  refine ln_eqi C rfl ?_
  exact k
set_option maxRecDepth 100000 in
theorem lnc_10 (hNM : N ≤ 601024 ∧ M ≤ 7293034) (C : ln_Cx p l s m c D cy ad b Ln xs ext Ex) (i : Int32) (h1 : vp_in (i + 1) Ln) (h2 : vp_in (i + 2) Ln) (h3 : vp_in (i + 3) Ln) {r : Int32} {m0 m1 m2 : am_M} (hR1 : am_Rn ext 400 105 [.ref 0, .int (xs (i + 1).toNatClampNeg), .int (xs (i + 2).toNatClampNeg), .int (xs (i + 3).toNatClampNeg)] m0 (some (.int r), m1)) (hR2 : am_Rn ext 400 183 [.ref 42, .int (xs (i + 1).toNatClampNeg), .int (xs (i + 2).toNatClampNeg), .int (xs (i + 3).toNatClampNeg)] m1 (some (.int r), m2)) (k : ln_W N M p l e s m b below meth c Q D cy ad (836, [some (.ref 82), some (.ref 0), some (.ref 42), some (.ref 81), some (.int i), none, none, none], [], m2)) : ln_W N M p l e s m b below meth c Q D cy ad (542, [some (.ref 82), some (.ref 0), some (.ref 42), some (.ref 81), some (.int i), none, none, none], [], m0) := by
  refine ln_b C (x' := (548, [some (.ref 82), some (.ref 0), some (.ref 42), some (.ref 81), some (.int i), none, none, none], [.int (i + 1), .ref 82, .ref 0], m0)) 5 rfl ?_
  refine ln_s C rfl h1 ?_
  refine ln_b C (x' := (554, [some (.ref 82), some (.ref 0), some (.ref 42), some (.ref 81), some (.int i), none, none, none], [.int (i + 2), .ref 82, .int (xs (i + 1).toNatClampNeg), .ref 0], m0)) 4 rfl ?_
  refine ln_s C rfl h2 ?_
  refine ln_b C (x' := (560, [some (.ref 82), some (.ref 0), some (.ref 42), some (.ref 81), some (.int i), none, none, none], [.int (i + 3), .ref 82, .int (xs (i + 2).toNatClampNeg), .int (xs (i + 1).toNatClampNeg), .ref 0], m0)) 4 rfl ?_
  refine ln_s C rfl h3 ?_
  refine ln_c hNM C (as := [.ref 0, .int (xs (i + 1).toNatClampNeg), .int (xs (i + 2).toNatClampNeg), .int (xs (i + 3).toNatClampNeg)]) rfl rfl rfl hR1 ?_
  show ln_W N M p l e s m b below meth c Q D cy ad (564, [some (.ref 82), some (.ref 0), some (.ref 42), some (.ref 81), some (.int i), none, none, none], [.int r], m1)
  refine ln_b C (x' := (570, [some (.ref 82), some (.ref 0), some (.ref 42), some (.ref 81), some (.int i), none, none, none], [.int (i + 1), .ref 82, .ref 42, .int r], m1)) 5 rfl ?_
  refine ln_s C rfl h1 ?_
  refine ln_b C (x' := (576, [some (.ref 82), some (.ref 0), some (.ref 42), some (.ref 81), some (.int i), none, none, none], [.int (i + 2), .ref 82, .int (xs (i + 1).toNatClampNeg), .ref 42, .int r], m1)) 4 rfl ?_
  refine ln_s C rfl h2 ?_
  refine ln_b C (x' := (582, [some (.ref 82), some (.ref 0), some (.ref 42), some (.ref 81), some (.int i), none, none, none], [.int (i + 3), .ref 82, .int (xs (i + 2).toNatClampNeg), .int (xs (i + 1).toNatClampNeg), .ref 42, .int r], m1)) 4 rfl ?_
  refine ln_s C rfl h3 ?_
  refine ln_c hNM C (as := [.ref 42, .int (xs (i + 1).toNatClampNeg), .int (xs (i + 2).toNatClampNeg), .int (xs (i + 3).toNatClampNeg)]) rfl rfl rfl hR2 ?_
  show ln_W N M p l e s m b below meth c Q D cy ad (586, [some (.ref 82), some (.ref 0), some (.ref 42), some (.ref 81), some (.int i), none, none, none], [.int r, .int r], m2)
  refine ln_eqi C rfl ?_
  exact k
set_option maxRecDepth 100000 in
theorem lnc_11 (hNM : N ≤ 601024 ∧ M ≤ 7293034) (C : ln_Cx p l s m c D cy ad b Ln xs ext Ex) (i : Int32) (h1 : vp_in (i + 1) Ln) (h2 : vp_in (i + 2) Ln) (h3 : vp_in (i + 3) Ln) {r : Int32} {m0 m1 m2 : am_M} (hR1 : am_Rn ext 400 106 [.ref 0, .int (xs (i + 1).toNatClampNeg), .int (xs (i + 2).toNatClampNeg), .int (xs (i + 3).toNatClampNeg)] m0 (some (.int r), m1)) (hR2 : am_Rn ext 400 186 [.ref 42, .int (xs (i + 1).toNatClampNeg), .int (xs (i + 2).toNatClampNeg), .int (xs (i + 3).toNatClampNeg)] m1 (some (.int r), m2)) (k : ln_W N M p l e s m b below meth c Q D cy ad (836, [some (.ref 82), some (.ref 0), some (.ref 42), some (.ref 81), some (.int i), none, none, none], [], m2)) : ln_W N M p l e s m b below meth c Q D cy ad (591, [some (.ref 82), some (.ref 0), some (.ref 42), some (.ref 81), some (.int i), none, none, none], [], m0) := by
  refine ln_b C (x' := (597, [some (.ref 82), some (.ref 0), some (.ref 42), some (.ref 81), some (.int i), none, none, none], [.int (i + 1), .ref 82, .ref 0], m0)) 5 rfl ?_
  refine ln_s C rfl h1 ?_
  refine ln_b C (x' := (603, [some (.ref 82), some (.ref 0), some (.ref 42), some (.ref 81), some (.int i), none, none, none], [.int (i + 2), .ref 82, .int (xs (i + 1).toNatClampNeg), .ref 0], m0)) 4 rfl ?_
  refine ln_s C rfl h2 ?_
  refine ln_b C (x' := (609, [some (.ref 82), some (.ref 0), some (.ref 42), some (.ref 81), some (.int i), none, none, none], [.int (i + 3), .ref 82, .int (xs (i + 2).toNatClampNeg), .int (xs (i + 1).toNatClampNeg), .ref 0], m0)) 4 rfl ?_
  refine ln_s C rfl h3 ?_
  refine ln_c hNM C (as := [.ref 0, .int (xs (i + 1).toNatClampNeg), .int (xs (i + 2).toNatClampNeg), .int (xs (i + 3).toNatClampNeg)]) rfl rfl rfl hR1 ?_
  show ln_W N M p l e s m b below meth c Q D cy ad (613, [some (.ref 82), some (.ref 0), some (.ref 42), some (.ref 81), some (.int i), none, none, none], [.int r], m1)
  refine ln_b C (x' := (619, [some (.ref 82), some (.ref 0), some (.ref 42), some (.ref 81), some (.int i), none, none, none], [.int (i + 1), .ref 82, .ref 42, .int r], m1)) 5 rfl ?_
  refine ln_s C rfl h1 ?_
  refine ln_b C (x' := (625, [some (.ref 82), some (.ref 0), some (.ref 42), some (.ref 81), some (.int i), none, none, none], [.int (i + 2), .ref 82, .int (xs (i + 1).toNatClampNeg), .ref 42, .int r], m1)) 4 rfl ?_
  refine ln_s C rfl h2 ?_
  refine ln_b C (x' := (631, [some (.ref 82), some (.ref 0), some (.ref 42), some (.ref 81), some (.int i), none, none, none], [.int (i + 3), .ref 82, .int (xs (i + 2).toNatClampNeg), .int (xs (i + 1).toNatClampNeg), .ref 42, .int r], m1)) 4 rfl ?_
  refine ln_s C rfl h3 ?_
  refine ln_c hNM C (as := [.ref 42, .int (xs (i + 1).toNatClampNeg), .int (xs (i + 2).toNatClampNeg), .int (xs (i + 3).toNatClampNeg)]) rfl rfl rfl hR2 ?_
  show ln_W N M p l e s m b below meth c Q D cy ad (635, [some (.ref 82), some (.ref 0), some (.ref 42), some (.ref 81), some (.int i), none, none, none], [.int r, .int r], m2)
  refine ln_eqi C rfl ?_
  exact k
set_option maxRecDepth 100000 in
theorem lnc_12 (hNM : N ≤ 601024 ∧ M ≤ 7293034) (C : ln_Cx p l s m c D cy ad b Ln xs ext Ex) (i : Int32) (h1 : vp_in (i + 1) Ln) (h2 : vp_in (i + 2) Ln) (h3 : vp_in (i + 3) Ln) (h4 : vp_in (i + 4) Ln) (h5 : vp_in (i + 5) Ln) {r : Int32} {m0 m1 m2 : am_M} (hR1 : am_Rn ext 400 107 [.ref 0, .int (xs (i + 1).toNatClampNeg), .int (xs (i + 2).toNatClampNeg), .int (xs (i + 3).toNatClampNeg), .int (xs (i + 4).toNatClampNeg), .int (xs (i + 5).toNatClampNeg)] m0 (some (.int r), m1)) (hR2 : am_Rn ext 400 187 [.ref 42, .int (xs (i + 1).toNatClampNeg), .int (xs (i + 2).toNatClampNeg), .int (xs (i + 3).toNatClampNeg), .int (xs (i + 4).toNatClampNeg), .int (xs (i + 5).toNatClampNeg)] m1 (some (.int r), m2)) (k : ln_W N M p l e s m b below meth c Q D cy ad (836, [some (.ref 82), some (.ref 0), some (.ref 42), some (.ref 81), some (.int i), none, none, none], [], m2)) : ln_W N M p l e s m b below meth c Q D cy ad (640, [some (.ref 82), some (.ref 0), some (.ref 42), some (.ref 81), some (.int i), none, none, none], [], m0) := by
  refine ln_b C (x' := (646, [some (.ref 82), some (.ref 0), some (.ref 42), some (.ref 81), some (.int i), none, none, none], [.int (i + 1), .ref 82, .ref 0], m0)) 5 rfl ?_
  refine ln_s C rfl h1 ?_
  refine ln_b C (x' := (652, [some (.ref 82), some (.ref 0), some (.ref 42), some (.ref 81), some (.int i), none, none, none], [.int (i + 2), .ref 82, .int (xs (i + 1).toNatClampNeg), .ref 0], m0)) 4 rfl ?_
  refine ln_s C rfl h2 ?_
  refine ln_b C (x' := (658, [some (.ref 82), some (.ref 0), some (.ref 42), some (.ref 81), some (.int i), none, none, none], [.int (i + 3), .ref 82, .int (xs (i + 2).toNatClampNeg), .int (xs (i + 1).toNatClampNeg), .ref 0], m0)) 4 rfl ?_
  refine ln_s C rfl h3 ?_
  refine ln_b C (x' := (664, [some (.ref 82), some (.ref 0), some (.ref 42), some (.ref 81), some (.int i), none, none, none], [.int (i + 4), .ref 82, .int (xs (i + 3).toNatClampNeg), .int (xs (i + 2).toNatClampNeg), .int (xs (i + 1).toNatClampNeg), .ref 0], m0)) 4 rfl ?_
  refine ln_s C rfl h4 ?_
  refine ln_b C (x' := (670, [some (.ref 82), some (.ref 0), some (.ref 42), some (.ref 81), some (.int i), none, none, none], [.int (i + 5), .ref 82, .int (xs (i + 4).toNatClampNeg), .int (xs (i + 3).toNatClampNeg), .int (xs (i + 2).toNatClampNeg), .int (xs (i + 1).toNatClampNeg), .ref 0], m0)) 4 rfl ?_
  refine ln_s C rfl h5 ?_
  refine ln_c hNM C (as := [.ref 0, .int (xs (i + 1).toNatClampNeg), .int (xs (i + 2).toNatClampNeg), .int (xs (i + 3).toNatClampNeg), .int (xs (i + 4).toNatClampNeg), .int (xs (i + 5).toNatClampNeg)]) rfl rfl rfl hR1 ?_
  show ln_W N M p l e s m b below meth c Q D cy ad (674, [some (.ref 82), some (.ref 0), some (.ref 42), some (.ref 81), some (.int i), none, none, none], [.int r], m1)
  refine ln_b C (x' := (680, [some (.ref 82), some (.ref 0), some (.ref 42), some (.ref 81), some (.int i), none, none, none], [.int (i + 1), .ref 82, .ref 42, .int r], m1)) 5 rfl ?_
  refine ln_s C rfl h1 ?_
  refine ln_b C (x' := (686, [some (.ref 82), some (.ref 0), some (.ref 42), some (.ref 81), some (.int i), none, none, none], [.int (i + 2), .ref 82, .int (xs (i + 1).toNatClampNeg), .ref 42, .int r], m1)) 4 rfl ?_
  refine ln_s C rfl h2 ?_
  refine ln_b C (x' := (692, [some (.ref 82), some (.ref 0), some (.ref 42), some (.ref 81), some (.int i), none, none, none], [.int (i + 3), .ref 82, .int (xs (i + 2).toNatClampNeg), .int (xs (i + 1).toNatClampNeg), .ref 42, .int r], m1)) 4 rfl ?_
  refine ln_s C rfl h3 ?_
  refine ln_b C (x' := (698, [some (.ref 82), some (.ref 0), some (.ref 42), some (.ref 81), some (.int i), none, none, none], [.int (i + 4), .ref 82, .int (xs (i + 3).toNatClampNeg), .int (xs (i + 2).toNatClampNeg), .int (xs (i + 1).toNatClampNeg), .ref 42, .int r], m1)) 4 rfl ?_
  refine ln_s C rfl h4 ?_
  refine ln_b C (x' := (704, [some (.ref 82), some (.ref 0), some (.ref 42), some (.ref 81), some (.int i), none, none, none], [.int (i + 5), .ref 82, .int (xs (i + 4).toNatClampNeg), .int (xs (i + 3).toNatClampNeg), .int (xs (i + 2).toNatClampNeg), .int (xs (i + 1).toNatClampNeg), .ref 42, .int r], m1)) 4 rfl ?_
  refine ln_s C rfl h5 ?_
  refine ln_c hNM C (as := [.ref 42, .int (xs (i + 1).toNatClampNeg), .int (xs (i + 2).toNatClampNeg), .int (xs (i + 3).toNatClampNeg), .int (xs (i + 4).toNatClampNeg), .int (xs (i + 5).toNatClampNeg)]) rfl rfl rfl hR2 ?_
  show ln_W N M p l e s m b below meth c Q D cy ad (708, [some (.ref 82), some (.ref 0), some (.ref 42), some (.ref 81), some (.int i), none, none, none], [.int r, .int r], m2)
  refine ln_eqi C rfl ?_
  exact k
set_option maxRecDepth 100000 in
theorem lnc_14 (hNM : N ≤ 601024 ∧ M ≤ 7293034) (C : ln_Cx p l s m c D cy ad b Ln xs ext Ex) (i : Int32) (h1 : vp_in (i + 1) Ln) {r : Int32} {m0 m1 m2 : am_M} (hR1 : am_Rn ext 400 109 [.ref 0, .int (xs (i + 1).toNatClampNeg)] m0 (some (.int r), m1)) (hR2 : am_Rn ext 400 199 [.ref 42, .int (xs (i + 1).toNatClampNeg)] m1 (some (.int r), m2)) (k : ln_W N M p l e s m b below meth c Q D cy ad (836, [some (.ref 82), some (.ref 0), some (.ref 42), some (.ref 81), some (.int i), none, none, none], [], m2)) : ln_W N M p l e s m b below meth c Q D cy ad (786, [some (.ref 82), some (.ref 0), some (.ref 42), some (.ref 81), some (.int i), none, none, none], [], m0) := by
  refine ln_b C (x' := (792, [some (.ref 82), some (.ref 0), some (.ref 42), some (.ref 81), some (.int i), none, none, none], [.int (i + 1), .ref 82, .ref 0], m0)) 5 rfl ?_
  refine ln_s C rfl h1 ?_
  refine ln_c hNM C (as := [.ref 0, .int (xs (i + 1).toNatClampNeg)]) rfl rfl rfl hR1 ?_
  show ln_W N M p l e s m b below meth c Q D cy ad (796, [some (.ref 82), some (.ref 0), some (.ref 42), some (.ref 81), some (.int i), none, none, none], [.int r], m1)
  refine ln_b C (x' := (802, [some (.ref 82), some (.ref 0), some (.ref 42), some (.ref 81), some (.int i), none, none, none], [.int (i + 1), .ref 82, .ref 42, .int r], m1)) 5 rfl ?_
  refine ln_s C rfl h1 ?_
  refine ln_c hNM C (as := [.ref 42, .int (xs (i + 1).toNatClampNeg)]) rfl rfl rfl hR2 ?_
  show ln_W N M p l e s m b below meth c Q D cy ad (806, [some (.ref 82), some (.ref 0), some (.ref 42), some (.ref 81), some (.int i), none, none, none], [.int r, .int r], m2)
  refine ln_eqi C rfl ?_
  exact k
set_option maxRecDepth 100000 in
theorem lnc_15 (hNM : N ≤ 601024 ∧ M ≤ 7293034) (C : ln_Cx p l s m c D cy ad b Ln xs ext Ex) (i : Int32) (h1 : vp_in (i + 1) Ln) {r : Int32} {m0 m1 m2 : am_M} (hR1 : am_Rn ext 400 110 [.ref 0, .int (xs (i + 1).toNatClampNeg)] m0 (some (.int r), m1)) (hR2 : am_Rn ext 400 200 [.ref 42, .int (xs (i + 1).toNatClampNeg)] m1 (some (.int r), m2)) (k : ln_W N M p l e s m b below meth c Q D cy ad (836, [some (.ref 82), some (.ref 0), some (.ref 42), some (.ref 81), some (.int i), none, none, none], [], m2)) : ln_W N M p l e s m b below meth c Q D cy ad (811, [some (.ref 82), some (.ref 0), some (.ref 42), some (.ref 81), some (.int i), none, none, none], [], m0) := by
  refine ln_b C (x' := (817, [some (.ref 82), some (.ref 0), some (.ref 42), some (.ref 81), some (.int i), none, none, none], [.int (i + 1), .ref 82, .ref 0], m0)) 5 rfl ?_
  refine ln_s C rfl h1 ?_
  refine ln_c hNM C (as := [.ref 0, .int (xs (i + 1).toNatClampNeg)]) rfl rfl rfl hR1 ?_
  show ln_W N M p l e s m b below meth c Q D cy ad (821, [some (.ref 82), some (.ref 0), some (.ref 42), some (.ref 81), some (.int i), none, none, none], [.int r], m1)
  refine ln_b C (x' := (827, [some (.ref 82), some (.ref 0), some (.ref 42), some (.ref 81), some (.int i), none, none, none], [.int (i + 1), .ref 82, .ref 42, .int r], m1)) 5 rfl ?_
  refine ln_s C rfl h1 ?_
  refine ln_c hNM C (as := [.ref 42, .int (xs (i + 1).toNatClampNeg)]) rfl rfl rfl hR2 ?_
  show ln_W N M p l e s m b below meth c Q D cy ad (831, [some (.ref 82), some (.ref 0), some (.ref 42), some (.ref 81), some (.int i), none, none, none], [.int r, .int r], m2)
  refine ln_eqi C rfl ?_
  exact k
end LAWC
section LOOP
variable {p : Program} {l : Launch} {e : Env} {s : State} {m : MethodId} {below : List Frame} {meth : Method} {c : Code} {Q : State → Prop} {D : va_G} {cy : Nat → ClassId} {ad : Nat → Nat} {b Ln : Nat} {xs : Nat → Int32} {ext : Nat → List Value → am_M → Option am_R} {Ex : State → Prop} {N M : Nat}
theorem ln_ren {pc : Nat} {i : Int32} {mem : am_M} (k : ln_W N M p l e s m b below meth c Q D cy (fun k => ad (am_pi k)) (pc, lw_ls i, [], am_ren mem)) : ln_W N M p l e s m b below meth c Q D cy ad (pc, lw_ls i, [], mem) := by
  intro H locs L hP hD hS hl hn
  have e1 : am_lv (fun k => ad (am_pi k)) (lw_ls i) = am_lv ad (lw_ls i) := rfl
  exact k H locs L (am_P_ren hP) (am_D_ren hD) hS (by show lv_has L 8 (am_lv (fun k => ad (am_pi k)) (lw_ls i)); rw [e1]; exact hl) hn
theorem ln_gt (C : ln_Cx p l s m c D cy ad b Ln xs ext Ex) {pc t : Nat} {off : Int} {x z : Int32} {ls : List (Option Value)} {st : List Value} {mem : am_M} (hd : lw_cd pc = some (.if_icmp .gt off, 3, [t])) (kt : z < x → ln_W N M p l e s m b below meth c Q D cy ad (t, ls, st, mem)) (kf : ¬ z < x → ln_W N M p l e s m b below meth c Q D cy ad (pc + 3, ls, st, mem)) : ln_W N M p l e s m b below meth c Q D cy ad (pc, ls, .int z :: .int x :: st, mem) := by
  by_cases h : z < x
  · refine ln_b C (x' := (t, ls, st, mem)) 1 ?_ (kt h)
    simp only [am_run, hd]
    simp [am_pl, am_step, am_b2, am_cond, am_hd, h]
  · refine ln_b C (x' := (pc + 3, ls, st, mem)) 1 ?_ (kf h)
    simp only [am_run, hd]
    simp [am_pl, am_step, am_b2, am_cond, am_hd, h]
theorem ln_ts (C : ln_Cx p l s m c D cy ad b Ln xs ext Ex) {pc t : Nat} {dd lo hi : Int} {offs : Array Int} {len t0 : Nat} {ts : List Nat} {x : Int32} {ls : List (Option Value)} {st : List Value} {mem : am_M} (k : Nat) (hd : lw_cd pc = some (.tableswitch dd lo hi offs, len, t0 :: ts)) (hx : x.toInt = lo + (k : Int)) (hk : lo + (k : Int) ≤ hi) (ht : ts[k]? = some t) (g : ln_W N M p l e s m b below meth c Q D cy ad (t, ls, st, mem)) : ln_W N M p l e s m b below meth c Q D cy ad (pc, ls, .int x :: st, mem) := by
  refine ln_b C (x' := (t, ls, st, mem)) 1 ?_ g
  have h1 : (decide (x.toInt < lo) || decide (hi < x.toInt)) = false := by
    rw [Bool.or_eq_false_iff]
    exact ⟨decide_eq_false (by omega), decide_eq_false (by omega)⟩
  have h2 : (x.toInt - lo).toNat = k := by omega
  simp only [am_run, hd]
  simp only [am_pl, cond_true, am_step, am_ts, h1, cond_false, h2, ht]
end LOOP
