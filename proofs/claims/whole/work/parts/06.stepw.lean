section AMW
variable {p : Program} {l : Launch} {e : Env} {R : Room} {s : State} {m : MethodId} {args : Array Value} {below : List Frame} {meth : Method} {c : Code} {cells slots : Nat} {Q : State → Prop} {cc : ByteArray} {nL : Nat} {D : va_G} {cl : List vw_C} {cy : Nat → ClassId} {A : Nat → Prop} {H0 : Heap} {ad : Nat → Nat} {sh : am_Sh} {own : String} {Ts : List Cond}
set_option maxHeartbeats 4000000 in
set_option maxRecDepth 100000 in
/-- every step of the small machine is one of the machine -/
theorem am_stepW (hx : p.tables.exec = Jvm.exec) (hb : c.code = cc) (hown : s.vm.findClass own = some m.cls) (hts : ∀ w ∈ Ts, w.before args s = true) (hK : va_K D cl (am_tys cy) s) (hcl : am_cls cl Ts) (hsk : am_shk cl sh)
    {pc : Nat} {q : am_Q} {ls : List (Option Value)} {st : List Value} {mem : am_M} {x : am_C} (hd : decode cc pc = .ok (q.1, q.2.1)) (hlk : am_lk own cl Ts pc q) (h : am_step sh q (pc, ls, st, mem) = some x)
    (kk : am_Ws p l e R s m args below meth c cells slots Q nL D cl cy A H0 ad sh x) : am_Ws p l e R s m args below meth c cells slots Q nL D cl cy A H0 ad sh (pc, ls, st, mem) := by
  obtain ⟨ins, len, info⟩ := q
  obtain ⟨hlen, hlk⟩ := hlk
  replace hlen : am_sw ins = true ∨ len = am_ln ins := hlen
  replace hd : decode cc pc = .ok (ins, len) := hd
  cases ins
  case iconst n =>
    rcases hlen with hlen | rfl
    · cases hlen
    cases h
    exact fun H locs L hP hD hS hl hn => lv_iconst hx hb hd rfl (kk H locs L hP hD hS hl hn)
  case bipush n =>
    rcases hlen with hlen | rfl
    · cases hlen
    cases h
    exact fun H locs L hP hD hS hl hn => lv_bipush hx hb hd rfl (kk H locs L hP hD hS hl hn)
  case sipush n =>
    rcases hlen with hlen | rfl
    · cases hlen
    cases h
    exact fun H locs L hP hD hS hl hn => lv_sipush hx hb hd rfl (kk H locs L hP hD hS hl hn)
  case lconst n =>
    rcases hlen with hlen | rfl
    · cases hlen
    cases h
    exact fun H locs L hP hD hS hl hn => lv_lconst hx hb hd rfl (kk H locs L hP hD hS hl hn)
  case dconst n =>
    rcases hlen with hlen | rfl
    · cases hlen
    rcases (by omega : n = 0 ∨ n = 1) with rfl | rfl
    · cases h
      exact fun H locs L hP hD hS hl hn => lv_dconst0 hx hb hd (kk H locs L hP hD hS hl hn)
    · cases h
      exact fun H locs L hP hD hS hl hn => lv_dconst1 hx hb hd (kk H locs L hP hD hS hl hn)
  case ldc i =>
    rcases hlen with hlen | rfl
    · cases hlen
    cases h
    exact fun H locs L hP hD hS hl hn => lv_ldc hx hb hown (hts _ hlk) hd (kk H locs L hP hD hS hl hn)
  case ldc_w i =>
    rcases hlen with hlen | rfl
    · cases hlen
    cases h
    exact fun H locs L hP hD hS hl hn => lv_ldcw hx hb hown (hts _ hlk) hd (kk H locs L hP hD hS hl hn)
  case ldc2_w i =>
    rcases hlen with hlen | rfl
    · cases hlen
    simp only [am_step] at h
    simp only at hlk
    split at h
    · cases h
      exact fun H locs L hP hD hS hl hn => lv_ldc2 hx hb hown (hts _ hlk) hd (kk H locs L hP hD hS hl hn)
    · cases h
      exact fun H locs L hP hD hS hl hn => lv_ldc2d hx hb hown (hts _ hlk) hd (kk H locs L hP hD hS hl hn)
    · cases h
  case iload i =>
    rcases hlen with hlen | rfl
    · cases hlen
    exact am_ldW hx hb h (Or.inl ⟨rfl, Or.inl ⟨rfl, hd⟩⟩) kk
  case iload_n i =>
    rcases hlen with hlen | rfl
    · cases hlen
    exact am_ldW hx hb h (Or.inl ⟨rfl, Or.inr ⟨rfl, i, rfl, hd⟩⟩) kk
  case lload i =>
    rcases hlen with hlen | rfl
    · cases hlen
    exact am_ldW hx hb h (Or.inr (Or.inl ⟨rfl, Or.inl ⟨rfl, hd⟩⟩)) kk
  case lload_n i =>
    rcases hlen with hlen | rfl
    · cases hlen
    exact am_ldW hx hb h (Or.inr (Or.inl ⟨rfl, Or.inr ⟨rfl, i, rfl, hd⟩⟩)) kk
  case dload i =>
    rcases hlen with hlen | rfl
    · cases hlen
    exact am_ldW hx hb h (Or.inr (Or.inr (Or.inl ⟨rfl, Or.inl ⟨rfl, hd⟩⟩))) kk
  case dload_n i =>
    rcases hlen with hlen | rfl
    · cases hlen
    exact am_ldW hx hb h (Or.inr (Or.inr (Or.inl ⟨rfl, Or.inr ⟨rfl, i, rfl, hd⟩⟩))) kk
  case aload i =>
    rcases hlen with hlen | rfl
    · cases hlen
    exact am_ldW hx hb h (Or.inr (Or.inr (Or.inr ⟨rfl, Or.inl ⟨rfl, hd⟩⟩))) kk
  case aload_n i =>
    rcases hlen with hlen | rfl
    · cases hlen
    exact am_ldW hx hb h (Or.inr (Or.inr (Or.inr ⟨rfl, Or.inr ⟨rfl, i, rfl, hd⟩⟩))) kk
  case istore i =>
    rcases hlen with hlen | rfl
    · cases hlen
    exact am_so1W hx hb h (Or.inl ⟨rfl, Or.inl ⟨rfl, hd⟩⟩) kk
  case istore_n i =>
    rcases hlen with hlen | rfl
    · cases hlen
    exact am_so1W hx hb h (Or.inl ⟨rfl, Or.inr ⟨rfl, i, rfl, hd⟩⟩) kk
  case astore i =>
    rcases hlen with hlen | rfl
    · cases hlen
    exact am_so1W hx hb h (Or.inr ⟨rfl, Or.inl ⟨rfl, hd⟩⟩) kk
  case astore_n i =>
    rcases hlen with hlen | rfl
    · cases hlen
    exact am_so1W hx hb h (Or.inr ⟨rfl, Or.inr ⟨rfl, i, rfl, hd⟩⟩) kk
  case lstore i =>
    rcases hlen with hlen | rfl
    · cases hlen
    exact am_so2W hx hb h (Or.inl ⟨rfl, Or.inl ⟨rfl, hd⟩⟩) kk
  case lstore_n i =>
    rcases hlen with hlen | rfl
    · cases hlen
    exact am_so2W hx hb h (Or.inl ⟨rfl, Or.inr ⟨rfl, i, rfl, hd⟩⟩) kk
  case dstore i =>
    rcases hlen with hlen | rfl
    · cases hlen
    exact am_so2W hx hb h (Or.inr ⟨rfl, Or.inl ⟨rfl, hd⟩⟩) kk
  case dstore_n i =>
    rcases hlen with hlen | rfl
    · cases hlen
    exact am_so2W hx hb h (Or.inr ⟨rfl, Or.inr ⟨rfl, i, rfl, hd⟩⟩) kk
  case iinc i n =>
    rcases hlen with hlen | rfl
    · cases hlen
    obtain ⟨v, ls', hv, hst, rfl⟩ := am_inc_inv h
    simp only at hv hst
    intro H locs L hP hD hS hl hn
    obtain ⟨g1, g2⟩ := am_st1_len hst
    simp only at hn
    have hmem : (i, Value.int v) ∈ am_lv ad ls := am_lv_mem.mpr ⟨.int v, hv, rfl⟩
    obtain ⟨j, hj⟩ := List.mem_iff_getElem?.mp hmem
    exact lv_iinc hx hb hd hl hj rfl (by omega) rfl fun L' hl' => kk H locs L' hP hD hS (am_st1_has hst hl') (by simp only; omega)
  case iadd =>
    rcases hlen with hlen | rfl
    · cases hlen
    obtain ⟨a, b, r, hs, rfl⟩ := am_ii_inv h
    simp only at hs
    subst hs
    exact fun H locs L hP hD hS hl hn => lv_iadd hx hb hd (kk H locs L hP hD hS hl hn)
  case isub =>
    rcases hlen with hlen | rfl
    · cases hlen
    obtain ⟨a, b, r, hs, rfl⟩ := am_ii_inv h
    simp only at hs
    subst hs
    exact fun H locs L hP hD hS hl hn => lv_isub hx hb hd (kk H locs L hP hD hS hl hn)
  case imul =>
    rcases hlen with hlen | rfl
    · cases hlen
    obtain ⟨a, b, r, hs, rfl⟩ := am_ii_inv h
    simp only at hs
    subst hs
    exact fun H locs L hP hD hS hl hn => lv_imul hx hb hd (kk H locs L hP hD hS hl hn)
  case iand =>
    rcases hlen with hlen | rfl
    · cases hlen
    obtain ⟨a, b, r, hs, rfl⟩ := am_ii_inv h
    simp only at hs
    subst hs
    exact fun H locs L hP hD hS hl hn => lv_iand hx hb hd (kk H locs L hP hD hS hl hn)
  case ior =>
    rcases hlen with hlen | rfl
    · cases hlen
    obtain ⟨a, b, r, hs, rfl⟩ := am_ii_inv h
    simp only at hs
    subst hs
    exact fun H locs L hP hD hS hl hn => lv_ior hx hb hd (kk H locs L hP hD hS hl hn)
  case ishl =>
    rcases hlen with hlen | rfl
    · cases hlen
    obtain ⟨a, b, r, hs, rfl⟩ := am_ii_inv h
    simp only at hs
    subst hs
    exact fun H locs L hP hD hS hl hn => lv_ishl hx hb hd (kk H locs L hP hD hS hl hn)
  case ishr =>
    rcases hlen with hlen | rfl
    · cases hlen
    obtain ⟨a, b, r, hs, rfl⟩ := am_ii_inv h
    simp only at hs
    subst hs
    exact fun H locs L hP hD hS hl hn => lv_ishr hx hb hd (kk H locs L hP hD hS hl hn)
  case idiv =>
    rcases hlen with hlen | rfl
    · cases hlen
    obtain ⟨a, b, r, hs, hne, rfl⟩ := am_iid_inv h
    simp only at hs
    subst hs
    exact fun H locs L hP hD hS hl hn => lv_idiv hx hb hd hne (kk H locs L hP hD hS hl hn)
  case irem =>
    rcases hlen with hlen | rfl
    · cases hlen
    obtain ⟨a, b, r, hs, hne, rfl⟩ := am_iid_inv h
    simp only at hs
    subst hs
    exact fun H locs L hP hD hS hl hn => lv_irem hx hb hd hne (kk H locs L hP hD hS hl hn)
  case ineg =>
    rcases hlen with hlen | rfl
    · cases hlen
    obtain ⟨a, r, hs, rfl⟩ := am_i1_inv h
    simp only at hs
    subst hs
    exact fun H locs L hP hD hS hl hn => lv_ineg hx hb hd (kk H locs L hP hD hS hl hn)
  case i2l =>
    rcases hlen with hlen | rfl
    · cases hlen
    obtain ⟨a, r, hs, rfl⟩ := am_i1_inv h
    simp only at hs
    subst hs
    exact fun H locs L hP hD hS hl hn => lv_i2l hx hb hd rfl (kk H locs L hP hD hS hl hn)
  case i2d =>
    rcases hlen with hlen | rfl
    · cases hlen
    obtain ⟨a, r, hs, rfl⟩ := am_i1_inv h
    simp only at hs
    subst hs
    exact fun H locs L hP hD hS hl hn => lv_i2d hx hb hd (kk H locs L hP hD hS hl hn)
  case ladd =>
    rcases hlen with hlen | rfl
    · cases hlen
    obtain ⟨a, b, r, hs, rfl⟩ := am_ll_inv h
    simp only at hs
    subst hs
    exact fun H locs L hP hD hS hl hn => lv_ladd hx hb hd (kk H locs L hP hD hS hl hn)
  case lsub =>
    rcases hlen with hlen | rfl
    · cases hlen
    obtain ⟨a, b, r, hs, rfl⟩ := am_ll_inv h
    simp only at hs
    subst hs
    exact fun H locs L hP hD hS hl hn => lv_lsub hx hb hd (kk H locs L hP hD hS hl hn)
  case lmul =>
    rcases hlen with hlen | rfl
    · cases hlen
    obtain ⟨a, b, r, hs, rfl⟩ := am_ll_inv h
    simp only at hs
    subst hs
    exact fun H locs L hP hD hS hl hn => lv_lmul hx hb hd (kk H locs L hP hD hS hl hn)
  case land =>
    rcases hlen with hlen | rfl
    · cases hlen
    obtain ⟨a, b, r, hs, rfl⟩ := am_ll_inv h
    simp only at hs
    subst hs
    exact fun H locs L hP hD hS hl hn => lv_land hx hb hd (kk H locs L hP hD hS hl hn)
  case lor =>
    rcases hlen with hlen | rfl
    · cases hlen
    obtain ⟨a, b, r, hs, rfl⟩ := am_ll_inv h
    simp only at hs
    subst hs
    exact fun H locs L hP hD hS hl hn => lv_lor hx hb hd (kk H locs L hP hD hS hl hn)
  case lxor =>
    rcases hlen with hlen | rfl
    · cases hlen
    obtain ⟨a, b, r, hs, rfl⟩ := am_ll_inv h
    simp only at hs
    subst hs
    exact fun H locs L hP hD hS hl hn => lv_lxor hx hb hd (kk H locs L hP hD hS hl hn)
  case ldiv =>
    rcases hlen with hlen | rfl
    · cases hlen
    obtain ⟨a, b, r, hs, hne, rfl⟩ := am_lld_inv h
    simp only at hs
    subst hs
    exact fun H locs L hP hD hS hl hn => lv_ldiv hx hb hd hne (kk H locs L hP hD hS hl hn)
  case lrem =>
    rcases hlen with hlen | rfl
    · cases hlen
    obtain ⟨a, b, r, hs, hne, rfl⟩ := am_lld_inv h
    simp only at hs
    subst hs
    exact fun H locs L hP hD hS hl hn => lv_lrem hx hb hd hne (kk H locs L hP hD hS hl hn)
  case lneg =>
    rcases hlen with hlen | rfl
    · cases hlen
    obtain ⟨a, r, hs, rfl⟩ := am_l1_inv h
    simp only at hs
    subst hs
    exact fun H locs L hP hD hS hl hn => lv_lneg hx hb hd (kk H locs L hP hD hS hl hn)
  case l2d =>
    rcases hlen with hlen | rfl
    · cases hlen
    obtain ⟨a, r, hs, rfl⟩ := am_l1_inv h
    simp only at hs
    subst hs
    exact fun H locs L hP hD hS hl hn => lv_l2d hx hb hd (kk H locs L hP hD hS hl hn)
  case l2i =>
    rcases hlen with hlen | rfl
    · cases hlen
    obtain ⟨a, r, hs, rfl⟩ := am_l1_inv h
    simp only at hs
    subst hs
    exact fun H locs L hP hD hS hl hn => lv_l2i hx hb hd rfl (kk H locs L hP hD hS hl hn)
  case lshl =>
    rcases hlen with hlen | rfl
    · cases hlen
    obtain ⟨a, b, r, hs, rfl⟩ := am_li_inv h
    simp only at hs
    subst hs
    exact fun H locs L hP hD hS hl hn => lv_lshl hx hb hd rfl (kk H locs L hP hD hS hl hn)
  case lshr =>
    rcases hlen with hlen | rfl
    · cases hlen
    obtain ⟨a, b, r, hs, rfl⟩ := am_li_inv h
    simp only at hs
    subst hs
    exact fun H locs L hP hD hS hl hn => lv_lshr hx hb hd rfl (kk H locs L hP hD hS hl hn)
  case lcmp =>
    rcases hlen with hlen | rfl
    · cases hlen
    obtain ⟨a, b, r, hs, rfl⟩ := am_lc_inv h
    simp only at hs
    subst hs
    exact fun H locs L hP hD hS hl hn => W.lcmp hx hb hd (kk H locs L hP hD hS hl hn)
  case dadd =>
    rcases hlen with hlen | rfl
    · cases hlen
    obtain ⟨a, b, r, hs, hne, rfl⟩ := am_dd_inv h
    simp only at hs
    subst hs
    exact fun H locs L hP hD hS hl hn => lv_dadd hx hb hd hne (kk H locs L hP hD hS hl hn)
  case dsub =>
    rcases hlen with hlen | rfl
    · cases hlen
    obtain ⟨a, b, r, hs, hne, rfl⟩ := am_dd_inv h
    simp only at hs
    subst hs
    exact fun H locs L hP hD hS hl hn => lv_dsub hx hb hd hne (kk H locs L hP hD hS hl hn)
  case dmul =>
    rcases hlen with hlen | rfl
    · cases hlen
    obtain ⟨a, b, r, hs, hne, rfl⟩ := am_dd_inv h
    simp only at hs
    subst hs
    exact fun H locs L hP hD hS hl hn => lv_dmul hx hb hd hne (kk H locs L hP hD hS hl hn)
  case ddiv =>
    rcases hlen with hlen | rfl
    · cases hlen
    obtain ⟨a, b, r, hs, hne, rfl⟩ := am_dd_inv h
    simp only at hs
    subst hs
    exact fun H locs L hP hD hS hl hn => lv_ddiv hx hb hd hne (kk H locs L hP hD hS hl hn)
  case dneg =>
    rcases hlen with hlen | rfl
    · cases hlen
    obtain ⟨a, r, hs, rfl⟩ := am_d1_inv h
    simp only at hs
    subst hs
    exact fun H locs L hP hD hS hl hn => lv_dneg hx hb hd (kk H locs L hP hD hS hl hn)
  case d2l =>
    rcases hlen with hlen | rfl
    · cases hlen
    obtain ⟨a, r, hs, rfl⟩ := am_d1_inv h
    simp only at hs
    subst hs
    exact fun H locs L hP hD hS hl hn => lv_d2l hx hb hd (kk H locs L hP hD hS hl hn)
  case dcmp op =>
    rcases hlen with hlen | rfl
    · cases hlen
    obtain ⟨a, b, r, hs, rfl⟩ := am_dc_inv h
    simp only at hs
    subst hs
    exact fun H locs L hP hD hS hl hn => lv_dcmp hx hb hd (kk H locs L hP hD hS hl hn)
  case dup =>
    rcases hlen with hlen | rfl
    · cases hlen
    obtain ⟨v, r, hs, hc, rfl⟩ := am_dup_inv h
    simp only at hs
    subst hs
    exact fun H locs L hP hD hS hl hn => lv_dup hx hb hd (by rw [am_cv_cat]; exact hc) (kk H locs L hP hD hS hl hn)
  case pop =>
    rcases hlen with hlen | rfl
    · cases hlen
    obtain ⟨v, r, hs, hc, rfl⟩ := am_pop_inv h
    simp only at hs
    subst hs
    exact fun H locs L hP hD hS hl hn => lv_pop hx hb hd (by rw [am_cv_cat]; exact hc) (kk H locs L hP hD hS hl hn)
  case dup2 =>
    rcases hlen with hlen | rfl
    · cases hlen
    obtain ⟨v, w, r, hs, hc, hc2, rfl⟩ := am_du2_inv h
    simp only at hs
    subst hs
    exact fun H locs L hP hD hS hl hn => lv_dup2_11 hx hb hd (by rw [am_cv_cat]; exact hc) (by rw [am_cv_cat]; exact hc2) (kk H locs L hP hD hS hl hn)
  case ifCond cd off =>
    rcases hlen with hlen | rfl
    · cases hlen
    obtain ⟨a, r, hs, rfl⟩ := am_b1_inv h
    simp only at hs
    subst hs
    obtain ⟨k1, k2⟩ := am_b1W kk
    simp only at hlk
    cases cd
    · exact fun H locs L hP hD hS hl hn => lv_if_eq hx hb hd hlk (fun z => (fun z => k1 (decide_eq_true z)) z H locs L hP hD hS hl hn) (fun z => (fun z => k2 (decide_eq_false z)) z H locs L hP hD hS hl hn)
    · exact fun H locs L hP hD hS hl hn => lv_if_ne hx hb hd hlk (fun z => (fun z => k1 (decide_eq_true z)) z H locs L hP hD hS hl hn) (fun z => (fun z => k2 (decide_eq_false (fun y => y z))) z H locs L hP hD hS hl hn)
    · exact fun H locs L hP hD hS hl hn => lv_if_lt hx hb hd hlk (fun z => (fun z => k1 (decide_eq_true z)) z H locs L hP hD hS hl hn) (fun z => (fun z => k2 (decide_eq_false z)) z H locs L hP hD hS hl hn)
    · exact fun H locs L hP hD hS hl hn => lv_if_ge hx hb hd hlk (fun z => (fun z => k1 (decide_eq_true z)) z H locs L hP hD hS hl hn) (fun z => (fun z => k2 (decide_eq_false z)) z H locs L hP hD hS hl hn)
    · exact fun H locs L hP hD hS hl hn => lv_if_gt hx hb hd hlk (fun z => (fun z => k1 (decide_eq_true z)) z H locs L hP hD hS hl hn) (fun z => (fun z => k2 (decide_eq_false z)) z H locs L hP hD hS hl hn)
    · exact fun H locs L hP hD hS hl hn => lv_if_le hx hb hd hlk (fun z => (fun z => k1 (decide_eq_true z)) z H locs L hP hD hS hl hn) (fun z => (fun z => k2 (decide_eq_false z)) z H locs L hP hD hS hl hn)
  case if_icmp cd off =>
    rcases hlen with hlen | rfl
    · cases hlen
    obtain ⟨a, b, r, hs, rfl⟩ := am_b2_inv h
    simp only at hs
    subst hs
    obtain ⟨k1, k2⟩ := am_b1W kk
    simp only at hlk
    cases cd
    · exact fun H locs L hP hD hS hl hn => lv_icmp_eq hx hb hd hlk (fun z => (fun z => k1 (decide_eq_true z)) z H locs L hP hD hS hl hn) (fun z => (fun z => k2 (decide_eq_false z)) z H locs L hP hD hS hl hn)
    · exact fun H locs L hP hD hS hl hn => lv_icmp_ne hx hb hd hlk (fun z => (fun z => k1 (decide_eq_true z)) z H locs L hP hD hS hl hn) (fun z => (fun z => k2 (decide_eq_false (fun y => y z))) z H locs L hP hD hS hl hn)
    · exact fun H locs L hP hD hS hl hn => lv_icmp_lt hx hb hd hlk (fun z => (fun z => k1 (decide_eq_true z)) z H locs L hP hD hS hl hn) (fun z => (fun z => k2 (decide_eq_false z)) z H locs L hP hD hS hl hn)
    · exact fun H locs L hP hD hS hl hn => lv_icmp_ge hx hb hd hlk (fun z => (fun z => k1 (decide_eq_true z)) z H locs L hP hD hS hl hn) (fun z => (fun z => k2 (decide_eq_false z)) z H locs L hP hD hS hl hn)
    · exact fun H locs L hP hD hS hl hn => lv_icmp_gt hx hb hd hlk (fun z => (fun z => k1 (decide_eq_true z)) z H locs L hP hD hS hl hn) (fun z => (fun z => k2 (decide_eq_false z)) z H locs L hP hD hS hl hn)
    · exact fun H locs L hP hD hS hl hn => lv_icmp_le hx hb hd hlk (fun z => (fun z => k1 (decide_eq_true z)) z H locs L hP hD hS hl hn) (fun z => (fun z => k2 (decide_eq_false z)) z H locs L hP hD hS hl hn)
  case goto off =>
    rcases hlen with hlen | rfl
    · cases hlen
    cases h
    exact fun H locs L hP hD hS hl hn => lv_goto hx hb hd hlk (kk H locs L hP hD hS hl hn)
  case tableswitch d lo hi offs =>
    obtain ⟨a, r, t, ts, hs, hi2, hcase⟩ := am_ts_inv h
    simp only at hs hi2
    subst hs
    subst hi2
    simp only at hlk
    rcases hcase with ⟨hout, rfl⟩ | ⟨h1, h2, g, hg, rfl⟩
    · exact fun H locs L hP hD hS hl hn => lv_tableOut hx hb hd hout hlk.1 (kk H locs L hP hD hS hl hn)
    · have h3 : (offs.toList.map (fun o => (pc : Int) + o))[(a.toInt - lo).toNat]? = some (Int.ofNat g) := by
        rw [hlk.2, List.getElem?_map, hg]; rfl
      rw [List.getElem?_map] at h3
      cases ho : offs.toList[(a.toInt - lo).toNat]? with
      | none => rw [ho] at h3; cases h3
      | some o =>
        rw [ho] at h3
        have h4 : (pc : Int) + o = (g : Int) := Option.some.inj h3
        exact fun H locs L hP hD hS hl hn => lv_tableIn hx hb hd h1 h2 (by rw [← Array.getElem?_toList]; exact ho) h4 (kk H locs L hP hD hS hl hn)
  case lookupswitch d ps =>
    obtain ⟨a, r, t, ts, hs, hi2, rfl⟩ := am_ls_inv h
    simp only at hs hi2
    subst hs
    subst hi2
    simp only at hlk
    exact fun H locs L hP hD hS hl hn => lv_lookup hx hb hd hlk.2.2 rfl (am_look_off hlk.1 hlk.2.1) (kk H locs L hP hD hS hl hn)
  case iaload =>
    rcases hlen with hlen | rfl
    · cases hlen
    exact am_alW (k := 0) (rd := fun m a j => .int (m.1 a j)) hx hb hK h (Or.inl ⟨rfl, rfl, hd⟩) kk
  case laload =>
    rcases hlen with hlen | rfl
    · cases hlen
    exact am_alW (k := 1) (rd := fun m a j => .long (m.2.1 a j)) hx hb hK h (Or.inr (Or.inl ⟨rfl, rfl, hd⟩)) kk
  case daload =>
    rcases hlen with hlen | rfl
    · cases hlen
    exact am_alW (k := 2) (rd := fun m a j => .double (m.2.2.1 a j)) hx hb hK h (Or.inr (Or.inr (Or.inl ⟨rfl, rfl, hd⟩))) kk
  case baload =>
    rcases hlen with hlen | rfl
    · cases hlen
    exact am_alW (k := 4) (rd := fun m a j => .int (m.1 a j)) hx hb hK h (Or.inr (Or.inr (Or.inr ⟨rfl, rfl, hd⟩))) kk
  case iastore =>
    rcases hlen with hlen | rfl
    · cases hlen
    exact am_asW hx hb hK h (Or.inl ⟨rfl, hd⟩) kk
  case lastore =>
    rcases hlen with hlen | rfl
    · cases hlen
    exact am_asW hx hb hK h (Or.inr (Or.inl ⟨rfl, hd⟩)) kk
  case dastore =>
    rcases hlen with hlen | rfl
    · cases hlen
    exact am_asW hx hb hK h (Or.inr (Or.inr (Or.inl ⟨rfl, hd⟩))) kk
  case bastore =>
    rcases hlen with hlen | rfl
    · cases hlen
    exact am_asW hx hb hK h (Or.inr (Or.inr (Or.inr ⟨rfl, hd⟩))) kk
  case arraylength =>
    rcases hlen with hlen | rfl
    · cases hlen
    obtain ⟨a, r, k, n, hs, ha, rfl⟩ := am_len_inv h
    simp only at hs
    subst hs
    intro H locs L hP hD hS hl hn
    have k2 := kk H locs L hP hD hS hl hn
    have hw := am_W_at (cy := cy) (ad := ad) (m := mem) ha
    match k, ha, hw with
    | 0, ha, hw => exact va_alen hx hb hK hP a 0 hw rfl rfl hd k2
    | 1, ha, hw => exact va_alen hx hb hK hP a 1 hw rfl rfl hd k2
    | 2, ha, hw => exact va_alen hx hb hK hP a 2 hw rfl rfl hd k2
    | 3, ha, hw => exact va_alen hx hb hK hP a 3 hw rfl rfl hd k2
    | (_ + 4), ha, hw => exact va_alen hx hb hK hP a 3 hw rfl rfl hd k2
  case getfield i =>
    rcases hlen with hlen | rfl
    · cases hlen
    simp only [am_step] at h
    simp only at hlk
    match info, h, hlk with
    | ci :: k :: nest :: _, h, ⟨r, hr, hf⟩ => exact am_gfW hx hb hown hts hK hcl hsk h hd hr hf kk
  case putfield i =>
    rcases hlen with hlen | rfl
    · cases hlen
    simp only [am_step] at h
    simp only at hlk
    match info, h, hlk with
    | ci :: k :: nest :: _, h, ⟨r, hr, hfin, hf⟩ => exact am_pfW hx hb hown hts hK hcl hsk h hd hr hfin hf kk
  all_goals cases h
end AMW
