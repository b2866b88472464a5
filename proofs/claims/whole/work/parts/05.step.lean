theorem am_fitn {t : FieldType} {ty : Nat} {mem m' : am_M} {a k : Nat} {v : Value} {ad : Nat → Nat} (ht : am_tk t ty = true) (h : am_wv mem a k ty v = some m') : narrow t (am_cv ad v) = am_cv ad v ∧ fits t (am_cv ad v) = true := by
  unfold am_wv at h
  split at h
  · cases t <;> simp [am_tk] at ht ⊢ <;> simp [am_cv, narrow, fits]
  · cases t <;> simp [am_tk] at ht ⊢ <;> simp [am_cv, narrow, fits]
  · cases t <;> simp [am_tk] at ht ⊢ <;> simp [am_cv, narrow, fits]
  · cases t <;> simp [am_tk] at ht ⊢ <;> simp [am_cv, narrow, fits]
  · cases t <;> simp [am_tk] at ht ⊢ <;> simp [am_cv, narrow, fits]
  · next x =>
    cases hc : (x == 0 || x == 1) with
    | false => rw [hc] at h; cases h
    | true =>
      simp only [Bool.or_eq_true, beq_iff_eq] at hc
      cases t <;> simp [am_tk] at ht ⊢
      rcases hc with rfl | rfl
      · exact ⟨(by decide +kernel : narrow .boolean (.int 0) = .int 0), (by decide +kernel : fits .boolean (.int 0) = true)⟩
      · exact ⟨(by decide +kernel : narrow .boolean (.int 1) = .int 1), (by decide +kernel : fits .boolean (.int 1) = true)⟩
  · cases h
section AMW
variable {p : Program} {l : Launch} {e : Env} {R : Room} {s : State} {m : MethodId} {args : Array Value} {below : List Frame} {meth : Method} {c : Code} {cells slots : Nat} {Q : State → Prop} {cc : ByteArray} {nL : Nat} {D : va_G} {cl : List vw_C} {cy : Nat → ClassId} {A : Nat → Prop} {H0 : Heap} {ad : Nat → Nat} {sh : am_Sh} {own : String} {Ts : List Cond}
set_option maxHeartbeats 4000000 in
set_option maxRecDepth 100000 in
theorem am_gfW (hx : p.tables.exec = Jvm.exec) (hb : c.code = cc) (hown : s.vm.findClass own = some m.cls) (hts : ∀ w ∈ Ts, w.before args s = true) (hK : va_K D cl (am_tys cy) s) (hcl : am_cls cl Ts) (hsk : am_shk cl sh)
    {pc i ci k nest : Nat} {ls : List (Option Value)} {st : List Value} {mem : am_M} {x : am_C} (h : am_gf sh (pc, ls, st, mem) ci k = some x) (hd : decode cc pc = .ok (.getfield i, 3)) {r : vw_C} (hr : cl[ci]? = some r) (hf : am_fl own i r k nest ∈ Ts)
    (kk : am_Ws p l e R s m args below meth c cells slots Q nL D cl cy A H0 ad sh x) : am_Ws p l e R s m args below meth c cells slots Q nL D cl cy A H0 ad sh (pc, ls, st, mem) := by
  obtain ⟨a, rs, ks, ty, hs, ha, hk, rfl⟩ := am_gf_inv h
  simp only at hs
  subst hs
  intro H locs L hP hD hS hl hn
  obtain ⟨r2, hr2, hlen, hty⟩ := hsk a ci ks ha
  cases hr.symm.trans hr2
  have hkl : k < ks.length := (List.getElem?_eq_some_iff.mp hk).1
  have hw := am_W_at (cy := cy) (ad := ad) (m := mem) ha
  have hv : ((List.range ks.length).map (fun j => am_fv ad mem a j (ks.getD j 0)))[k]? = some (am_cv ad (am_rv mem a k ty)) := by
    rw [List.getElem?_map, List.getElem?_range hkl]
    simp [am_fv, List.getD, hk]
  obtain ⟨C, T, N⟩ := r
  have k2 := kk H locs L hP hD hS hl hn
  cases nest with
  | zero => exact va_get hx hb hts (hcl ci _ hr).1 hown hK hP a hw hr k (by rw [← hlen]; exact hkl) (hts _ hf) (fun _ z => z) hv hd k2
  | succ _ => exact va_getN hx hb hts (hcl ci _ hr).1 hown hK hP a hw hr k (by rw [← hlen]; exact hkl) (hts _ hf) (fun _ z => z) hv hd k2
set_option maxHeartbeats 4000000 in
set_option maxRecDepth 100000 in
theorem am_pfW (hx : p.tables.exec = Jvm.exec) (hb : c.code = cc) (hown : s.vm.findClass own = some m.cls) (hts : ∀ w ∈ Ts, w.before args s = true) (hK : va_K D cl (am_tys cy) s) (hcl : am_cls cl Ts) (hsk : am_shk cl sh)
    {pc i ci k nest : Nat} {ls : List (Option Value)} {st : List Value} {mem : am_M} {x : am_C} (h : am_pf sh (pc, ls, st, mem) ci k = some x) (hd : decode cc pc = .ok (.putfield i, 3)) {r : vw_C} (hr : cl[ci]? = some r) (hfin : (r.2.1 k).2.2.2 = false) (hf : am_fl own i r k nest ∈ Ts)
    (kk : am_Ws p l e R s m args below meth c cells slots Q nL D cl cy A H0 ad sh x) : am_Ws p l e R s m args below meth c cells slots Q nL D cl cy A H0 ad sh (pc, ls, st, mem) := by
  obtain ⟨v, a, rs, ks, ty, m', hs, ha, hk, hwv, rfl⟩ := am_pf_inv h
  simp only at hs hwv
  subst hs
  intro H locs L hP hD hS hl hn
  obtain ⟨r2, hr2, hlen, hty⟩ := hsk a ci ks ha
  cases hr.symm.trans hr2
  have hkl : k < ks.length := (List.getElem?_eq_some_iff.mp hk).1
  have hw := am_W_at (cy := cy) (ad := ad) (m := mem) ha
  obtain ⟨t, hpt, htk⟩ := hty k ty hk
  obtain ⟨C, T, N⟩ := r
  obtain ⟨hin, ⟨ty0, hty0⟩, hnm⟩ := hcl ci _ hr
  obtain ⟨f1, f2⟩ := am_fitn (ad := ad) htk hwv
  have hset : (am_W cy ad sh mem).set a (ad a, .inr (ci, ((List.range ks.length).map (fun j => am_fv ad mem a j (ks.getD j 0))).set k (am_cv ad v))) = am_W cy ad sh m' := by
    rw [am_fs_set hk hwv]
    exact am_W_set ha (fun j y hj => am_wv_off hwv j y hj)
  have kk2 : ∀ (H1 : Heap) (locs1 : List Loc), va_P D cl ((am_W cy ad sh mem).set a (ad a, .inr (ci, ((List.range ks.length).map (fun j => am_fv ad mem a j (ks.getD j 0))).set k (am_cv ad v)))) H1 → va_D A ((am_W cy ad sh mem).set a (ad a, .inr (ci, ((List.range ks.length).map (fun j => am_fv ad mem a j (ks.getD j 0))).set k (am_cv ad v)))) → va_S A H0 H1 locs1 → W p l e R s m args below meth c H1 locs1 cells slots Q (F0 m (pc + 3) L (rs.map (am_cv ad))) := by
    intro H1 locs1 hP1 hD1 hS1
    rw [hset] at hP1 hD1
    exact kk H1 locs1 L hP1 hD1 hS1 hl hn
  cases nest with
  | zero => exact va_put hx hb hts hin ty0 hty0 hnm hown hK hP hD hS a hw hr k (by rw [← hlen]; exact hkl) (hts _ hf) (fun _ z => z) hfin hpt f1 f2 (by simpa using hkl) hd kk2
  | succ _ => exact va_putN hx hb hts hin ty0 hty0 hnm hown hK hP hD hS a hw hr k (by rw [← hlen]; exact hkl) (hts _ hf) (fun _ z => z) hfin hpt f1 f2 (by simpa using hkl) hd kk2
theorem am_wv_i {mem m' : am_M} {a k : Nat} {v : Value} (h : am_wv mem a k 0 v = some m') : ∃ x, v = .int x ∧ m' = am_wI mem a k x := by
  cases v <;> simp [am_wv] at h ⊢
  exact h.symm
theorem am_wv_l {mem m' : am_M} {a k : Nat} {v : Value} (h : am_wv mem a k 1 v = some m') : ∃ x, v = .long x ∧ m' = am_wL mem a k x := by
  cases v <;> simp [am_wv] at h ⊢
  exact h.symm
theorem am_wv_d {mem m' : am_M} {a k : Nat} {v : Value} (h : am_wv mem a k 2 v = some m') : ∃ x, v = .double x ∧ m' = am_wD mem a k x := by
  cases v <;> simp [am_wv] at h ⊢
  exact h.symm
theorem am_wv_z {mem m' : am_M} {a k : Nat} {v : Value} (h : am_wv mem a k 4 v = some m') : ∃ x, v = .int x ∧ (x = 0 ∨ x = 1) ∧ m' = am_wI mem a k x := by
  cases v <;> simp [am_wv] at h ⊢
  next x =>
    cases hc : (x == 0 || x == 1) with
    | false => rw [hc] at h; cases h
    | true =>
      rw [hc] at h
      cases h
      simp only [Bool.or_eq_true, beq_iff_eq] at hc
      exact ⟨hc, rfl⟩
theorem am_nar01 {x : Int32} (h : x = 0 ∨ x = 1) : vp_nar .boolean x = x := by
  rcases h with rfl | rfl <;> decide +kernel
set_option maxHeartbeats 4000000 in
set_option maxRecDepth 100000 in
theorem am_asW (hx : p.tables.exec = Jvm.exec) (hb : c.code = cc) (hK : va_K D cl (am_tys cy) s)
    {pc k : Nat} {ls : List (Option Value)} {st : List Value} {mem : am_M} {x : am_C} (h : am_as sh (pc, ls, st, mem) k = some x)
    (hd : (k = 0 ∧ decode cc pc = .ok (.iastore, 1)) ∨ (k = 1 ∧ decode cc pc = .ok (.lastore, 1)) ∨ (k = 2 ∧ decode cc pc = .ok (.dastore, 1)) ∨ (k = 4 ∧ decode cc pc = .ok (.bastore, 1)))
    (kk : am_Ws p l e R s m args below meth c cells slots Q nL D cl cy A H0 ad sh x) : am_Ws p l e R s m args below meth c cells slots Q nL D cl cy A H0 ad sh (pc, ls, st, mem) := by
  obtain ⟨v, i, a, rs, n, m', hs, ha, hi, hwv, rfl⟩ := am_as_inv h
  simp only at hs hwv
  subst hs
  intro H locs L hP hD hS hl hn
  have hset := am_W_set (cy := cy) (ad := ad) (m := mem) (m' := m') ha (fun j y hj => am_wv_off hwv j y hj)
  have hw := am_W_at (cy := cy) (ad := ad) (m := mem) ha
  have hin := am_inb_in hi
  rcases hd with ⟨rfl, hd⟩ | ⟨rfl, hd⟩ | ⟨rfl, hd⟩ | ⟨rfl, hd⟩
  · obtain ⟨y, rfl, rfl⟩ := am_wv_i hwv
    refine va_iast hx hb hK hP hD hS a 0 hw rfl hin hd fun H1 locs1 hP1 hD1 hS1 => ?_
    rw [← am_wI_on] at hP1 hD1
    have e : (am_W cy ad sh mem).set a (ad a, .inl (cy 0, n, .inl ((am_wI mem a i.toNatClampNeg y).1 a))) = am_W cy ad sh (am_wI mem a i.toNatClampNeg y) := hset
    rw [e] at hP1 hD1
    exact kk H1 locs1 L hP1 hD1 hS1 hl hn
  · obtain ⟨y, rfl, rfl⟩ := am_wv_l hwv
    refine va_last hx hb hK hP hD hS a 1 hw rfl hin hd fun H1 locs1 hP1 hD1 hS1 => ?_
    rw [← am_wL_on] at hP1 hD1
    have e : (am_W cy ad sh mem).set a (ad a, .inl (cy 1, n, .inr (.inl ((am_wL mem a i.toNatClampNeg y).2.1 a)))) = am_W cy ad sh (am_wL mem a i.toNatClampNeg y) := hset
    rw [e] at hP1 hD1
    exact kk H1 locs1 L hP1 hD1 hS1 hl hn
  · obtain ⟨y, rfl, rfl⟩ := am_wv_d hwv
    refine va_dast hx hb hK hP hD hS a 2 hw rfl hin hd fun H1 locs1 hP1 hD1 hS1 => ?_
    rw [← am_wD_on] at hP1 hD1
    have e : (am_W cy ad sh mem).set a (ad a, .inl (cy 2, n, .inr (.inr (.inr (.inl ((am_wD mem a i.toNatClampNeg y).2.2.1 a)))))) = am_W cy ad sh (am_wD mem a i.toNatClampNeg y) := hset
    rw [e] at hP1 hD1
    exact kk H1 locs1 L hP1 hD1 hS1 hl hn
  · obtain ⟨y, rfl, h01, rfl⟩ := am_wv_z hwv
    refine va_zast hx hb hK hP hD hS a 3 hw rfl hin hd fun H1 locs1 hP1 hD1 hS1 => ?_
    rw [am_nar01 h01, ← am_wI_on] at hP1 hD1
    have e : (am_W cy ad sh mem).set a (ad a, .inl (cy 4, n, .inl ((am_wI mem a i.toNatClampNeg y).1 a))) = am_W cy ad sh (am_wI mem a i.toNatClampNeg y) := hset
    rw [e] at hP1 hD1
    exact kk H1 locs1 L hP1 hD1 hS1 hl hn
set_option maxHeartbeats 4000000 in
set_option maxRecDepth 100000 in
theorem am_alW (hx : p.tables.exec = Jvm.exec) (hb : c.code = cc) (hK : va_K D cl (am_tys cy) s)
    {pc k : Nat} {rd : am_M → Nat → Nat → Value} {ls : List (Option Value)} {st : List Value} {mem : am_M} {x : am_C} (h : am_al sh (pc, ls, st, mem) k rd = some x)
    (hd : (k = 0 ∧ (rd = fun m a j => .int (m.1 a j)) ∧ decode cc pc = .ok (.iaload, 1)) ∨ (k = 1 ∧ (rd = fun m a j => .long (m.2.1 a j)) ∧ decode cc pc = .ok (.laload, 1)) ∨ (k = 2 ∧ (rd = fun m a j => .double (m.2.2.1 a j)) ∧ decode cc pc = .ok (.daload, 1)) ∨ (k = 4 ∧ (rd = fun m a j => .int (m.1 a j)) ∧ decode cc pc = .ok (.baload, 1)))
    (kk : am_Ws p l e R s m args below meth c cells slots Q nL D cl cy A H0 ad sh x) : am_Ws p l e R s m args below meth c cells slots Q nL D cl cy A H0 ad sh (pc, ls, st, mem) := by
  obtain ⟨i, a, rs, n, hs, ha, hi, rfl⟩ := am_al_inv h
  simp only at hs
  subst hs
  intro H locs L hP hD hS hl hn
  have hw := am_W_at (cy := cy) (ad := ad) (m := mem) ha
  have hin := am_inb_in hi
  have k2 := kk H locs L hP hD hS hl hn
  rcases hd with ⟨rfl, rfl, hd⟩ | ⟨rfl, rfl, hd⟩ | ⟨rfl, rfl, hd⟩ | ⟨rfl, rfl, hd⟩
  · exact va_iald hx hb hK hP a 0 hw rfl hin hd k2
  · exact va_lald hx hb hK hP a 1 hw rfl hin hd k2
  · exact va_dald hx hb hK hP a 2 hw rfl hin hd k2
  · exact va_zald hx hb hK hP a 3 hw rfl hin hd k2
theorem am_b1W {pc t : Nat} {ls : List (Option Value)} {r : List Value} {mem : am_M} {b : Bool}
    (kk : am_Ws p l e R s m args below meth c cells slots Q nL D cl cy A H0 ad sh (bif b then t else pc + 3, ls, r, mem)) :
    (b = true → am_Ws p l e R s m args below meth c cells slots Q nL D cl cy A H0 ad sh (t, ls, r, mem)) ∧ (b = false → am_Ws p l e R s m args below meth c cells slots Q nL D cl cy A H0 ad sh (pc + 3, ls, r, mem)) :=
  ⟨fun h => by rw [h] at kk; exact kk, fun h => by rw [h] at kk; exact kk⟩
end AMW
