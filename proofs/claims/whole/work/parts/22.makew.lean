theorem am_tk_inv {t : FieldType} {k : Nat} (h : am_tk t k = true) : (t = .int ∧ k = 0) ∨ (t = .long ∧ k = 1) ∨ (t = .double ∧ k = 2) ∨ (∃ c, t = .object c ∧ k = 3) ∨ (∃ c, t = .array c ∧ k = 3) ∨ (t = .boolean ∧ k = 4) := by
  unfold am_tk at h
  split at h
  · exact Or.inl ⟨rfl, rfl⟩
  · exact Or.inr (Or.inl ⟨rfl, rfl⟩)
  · exact Or.inr (Or.inr (Or.inl ⟨rfl, rfl⟩))
  · exact Or.inr (Or.inr (Or.inr (Or.inl ⟨_, rfl, rfl⟩)))
  · exact Or.inr (Or.inr (Or.inr (Or.inr (Or.inl ⟨_, rfl, rfl⟩))))
  · exact Or.inr (Or.inr (Or.inr (Or.inr (Or.inr ⟨rfl, rfl⟩))))
  · cases h
theorem an_atk_inv {a : ArrayType} {k : Nat} (h : an_atk a k = true) : (a = .int ∧ k = 0) ∨ (a = .long ∧ k = 1) ∨ (a = .double ∧ k = 2) ∨ (a = .boolean ∧ k = 4) := by
  unfold an_atk at h
  split at h
  · exact Or.inl ⟨rfl, rfl⟩
  · exact Or.inr (Or.inl ⟨rfl, rfl⟩)
  · exact Or.inr (Or.inr (Or.inl ⟨rfl, rfl⟩))
  · exact Or.inr (Or.inr (Or.inr ⟨rfl, rfl⟩))
  · cases h
theorem an_dflt {ad : Nat → Nat} {m : am_M} {n j : Nat} {ty : Nat} {t : FieldType} (ht : am_tk t ty = true) : am_fv ad (am_new m n) n j ty = defaultValue t := by
  rcases am_tk_inv ht with ⟨rfl, rfl⟩ | ⟨rfl, rfl⟩ | ⟨rfl, rfl⟩ | ⟨c, rfl, rfl⟩ | ⟨c, rfl, rfl⟩ | ⟨rfl, rfl⟩ <;> simp [am_fv, am_rv, am_new, am_cv, va_rf, defaultValue]
theorem an_arr0 {cy : Nat → ClassId} {ad : Nat → Nat} {m : am_M} {n k N : Nat} (hk : an_nak k = true) : am_cell cy ad (am_new m n) n (.inr (k, N)) = .inl (cy k, N, match k with | 1 => .inr (.inl (fun _ => 0)) | 2 => .inr (.inr (.inr (.inl (fun _ => 0)))) | _ => .inl (fun _ => 0)) := by
  simp only [an_nak, Bool.or_eq_true, beq_iff_eq] at hk
  rcases hk with ((rfl | rfl) | rfl) | rfl <;> simp [am_cell, am_new]
section ANW
variable {p : Program} {l : Launch} {e : Env} {R : Room} {s : State} {m : MethodId} {args : Array Value} {below : List Frame} {meth : Method} {c : Code} {Q : State → Prop} {cc : ByteArray} {nL : Nat} {D : va_G} {cy : Nat → ClassId} {A : Nat → Prop} {ad0 : Nat → Nat} {n0 z0 : Nat} {own : String} {UW : List Cond} {Nc Nm : Nat → Option am_N}
def an_Ws (p : Program) (l : Launch) (e : Env) (R : Room) (s : State) (m : MethodId) (args : Array Value) (below : List Frame) (meth : Method) (c : Code) (Q : State → Prop) (nL : Nat) (D : va_G) (cy : Nat → ClassId) (A : Nat → Prop) (ad0 : Nat → Nat) (n0 z0 : Nat) (x : an_C) : Prop :=
  ∀ (ad : Nat → Nat) (H : Heap) (locs : List Loc) (ls : Array Slot), (∀ k, k < n0 → ad k = ad0 k) → va_P D am_cl (am_W cy ad x.2.2.2.1 x.2.2.2.2) H → va_D A (am_W cy ad x.2.2.2.1 x.2.2.2.2) → va_S A s.heap H locs → lv_has ls nL (am_lv ad x.2.1) → x.2.1.length = nL →
    W p l e R s m args below meth c H locs (x.2.2.2.1.length - n0) (am_sz x.2.2.2.1 - z0) Q (F0 m x.1 ls (x.2.2.1.map (am_cv ad)))
theorem an_plain {pc pc' : Nat} {ls ls' : List (Option Value)} {st st' : List Value} {sh : am_Sh} {mem mem' : am_M}
    (h : ∀ ad : Nat → Nat, (∀ k, k < n0 → ad k = ad0 k) → am_Ws p l e R s m args below meth c (sh.length - n0) (am_sz sh - z0) Q nL D am_cl cy A s.heap ad sh (pc', ls', st', mem') → am_Ws p l e R s m args below meth c (sh.length - n0) (am_sz sh - z0) Q nL D am_cl cy A s.heap ad sh (pc, ls, st, mem))
    (kk : an_Ws p l e R s m args below meth c Q nL D cy A ad0 n0 z0 (pc', ls', st', sh, mem')) : an_Ws p l e R s m args below meth c Q nL D cy A ad0 n0 z0 (pc, ls, st, sh, mem) :=
  fun ad H locs L hag hP hD hS hl hn => h ad hag (fun H1 locs1 L1 hP1 hD1 hS1 hl1 hn1 => kk ad H1 locs1 L1 hag hP1 hD1 hS1 hl1 hn1) H locs L hP hD hS hl hn
set_option maxHeartbeats 4000000 in
set_option maxRecDepth 100000 in
theorem an_pfW {cl : List vw_C} {cells slots : Nat} {H0 : Heap} {ad : Nat → Nat} {sh : am_Sh} {Ts : List Cond} (hx : p.tables.exec = Jvm.exec) (hb : c.code = cc) (hown : s.vm.findClass own = some m.cls) (hts : ∀ w ∈ Ts, w.before args s = true) (hK : va_K D cl (am_tys cy) s) (hcl : am_cls cl Ts) (hsk : am_shk cl sh) (hname : meth.name = "<init>")
    {pc i ci k : Nat} {ls : List (Option Value)} {st : List Value} {mem : am_M} {x : am_C} (h : am_pf sh (pc, ls, st, mem) ci k = some x) (hd : decode cc pc = .ok (.putfield i, 3)) {r : vw_C} (hr : cl[ci]? = some r) (hfin : (r.2.1 k).2.2.2 = true) (hdecl : (r.2.1 k).1 = own) (hf : am_fl own i r k 0 ∈ Ts)
    (kk : am_Ws p l e R s m args below meth c cells slots Q nL D cl cy A H0 ad sh x) : am_Ws p l e R s m args below meth c cells slots Q nL D cl cy A H0 ad sh (pc, ls, st, mem) := by
  obtain ⟨v, a, rs, ks, ty, m', hs, ha, hk, hwv, rfl⟩ := am_pf_inv h
  simp only at hs hwv
  subst hs
  intro H locs L hP hD hS hl hn
  obtain ⟨r2, hr2, hlen, hty⟩ := hsk a ci ks ha
  cases hr.symm.trans hr2
  have hkl : k < ks.length := (List.getElem?_eq_some_iff.mp hk).1
  have hw := am_W_at (cy := cy) (ad := ad) (m := mem) ha
  obtain ⟨t, hpt, htk⟩ := hty k ty hk
  obtain ⟨C, T, N⟩ := r
  obtain ⟨hin, ⟨ty0, hty0⟩, hnm⟩ := hcl ci _ hr
  obtain ⟨f1, f2⟩ := am_fitn (ad := ad) htk hwv
  have hset : (am_W cy ad sh mem).set a (ad a, .inr (ci, ((List.range ks.length).map (fun j => am_fv ad mem a j (ks.getD j 0))).set k (am_cv ad v))) = am_W cy ad sh m' := by
    rw [am_fs_set hk hwv]
    exact am_W_set ha (fun j y hj => am_wv_off hwv j y hj)
  refine va_putF hx hb hts hin ty0 hty0 hnm hown hK hP hD hS a hw hr k (by rw [← hlen]; exact hkl) (hts _ hf) (fun _ z => z) hfin hname hdecl hpt f1 f2 (by simpa using hkl) hd fun H1 locs1 hP1 hD1 hS1 => ?_
  rw [hset] at hP1 hD1
  exact kk H1 locs1 L hP1 hD1 hS1 hl hn
set_option maxHeartbeats 4000000 in
set_option maxRecDepth 100000 in
theorem an_newW (hx : p.tables.exec = Jvm.exec) (hb : c.code = cc) (hown : s.vm.findClass own = some m.cls) (hts : ∀ w ∈ UW, w.before args s = true) (hK : va_K D am_cl (am_tys cy) s) (hcl : am_cls am_cl UW) (hA : ∀ q, s.heap.size ≤ q → A q)
    {pc i ci : Nat} {ls : List (Option Value)} {st : List Value} {sh : am_Sh} {mem : am_M} (hd : decode cc pc = .ok (.new i, 3)) {r : vw_C} (hr : am_cl[ci]? = some r) (hlk : Cond.classLink own i r.1 ∈ UW) (hins : Cond.instantiable r.1 r.2.2 ∈ UW) (hini : Cond.initialized r.1 ∈ UW) (hw : an_wf sh mem ls st = true) (hn0 : n0 ≤ sh.length) (hz0 : z0 ≤ am_sz sh) (hRc : sh.length + 1 - n0 ≤ R.cells) (hRs : am_sz sh + r.2.2 - z0 ≤ R.slots) (hci : (am_ks ci).length = r.2.2 ∧ ∃ ty0 : Nat → FieldType, (∀ k, k < r.2.2 → parseFieldDescriptor (r.2.1 k).2.2.1 = some (ty0 k)) ∧ ∀ k, k < r.2.2 → am_tk (ty0 k) ((am_ks ci).getD k 0) = true)
    (kk : an_Ws p l e R s m args below meth c Q nL D cy A ad0 n0 z0 (pc + 3, ls, .ref sh.length :: st, sh ++ [.inl (ci, am_ks ci)], am_new mem sh.length)) : an_Ws p l e R s m args below meth c Q nL D cy A ad0 n0 z0 (pc, ls, st, sh, mem) := by
  obtain ⟨w1, w2, w3⟩ := an_wf3 hw
  intro ad H locs L hag hP hD hS hl hn
  obtain ⟨C, T, N⟩ := r
  obtain ⟨hlen, ty0, hty0, htk⟩ := hci
  obtain ⟨hin, -, -⟩ := hcl ci _ hr
  refine va_new (fs := (List.range (am_ks ci).length).map (fun j => am_fv ad (am_new mem sh.length) sh.length j ((am_ks ci).getD j 0))) hx hb hts hin ty0 hty0 hown (hts _ hlk) (hts _ hins) (hts _ hini) hK hP hD hS hA hr (fun j hj => ?_) (by show sh.length - n0 + 1 ≤ R.cells; omega) (by show am_sz sh - z0 + N ≤ R.slots; have h9 : am_sz sh + N - z0 ≤ R.slots := hRs; omega) hd (fun q H1 hP1 hD1 hS1 => ?_)
  · have hj2 : j < (am_ks ci).length := by rw [hlen]; exact hj
    unfold vp_V
    rw [List.getD, List.getElem?_map, List.getElem?_range hj2]
    simp only [Option.map_some, Option.getD_some]
    exact (an_dflt (htk j hj)).symm
  · have hcell : am_cell cy (an_up ad sh.length q) (am_new mem sh.length) sh.length (.inl (ci, am_ks ci)) = .inr (ci, (List.range (am_ks ci).length).map (fun j => am_fv ad (am_new mem sh.length) sh.length j ((am_ks ci).getD j 0))) := by
      unfold am_cell
      simp only
      congr 2
      apply List.map_congr_left
      intro j hj
      have hj2 : j < N := by rw [List.mem_range] at hj; rw [hlen] at hj; exact hj
      rw [an_dflt (htk j hj2), an_dflt (htk j hj2)]
    have hWx := an_W_ext (cy := cy) (ad := ad) (q := q) (x := .inl (ci, am_ks ci)) w1
    rw [hcell] at hWx
    rw [← hWx] at hP1 hD1
    have hup : ∀ k, k < sh.length → an_up ad sh.length q k = ad k := fun k h => an_up_off h
    have k2 := kk (an_up ad sh.length q) H1 locs L (fun k h => by rw [an_up_off (Nat.lt_of_lt_of_le h hn0)]; exact hag k h) hP1 hD1 hS1 (by rw [an_ls_same hup w2]; exact hl) hn
    simp only [List.map_cons, am_cv, an_up_on] at k2
    rw [an_st_same hup w3] at k2
    have e1 : (sh ++ [Sum.inl (ci, am_ks ci)] : am_Sh).length - n0 = sh.length - n0 + 1 := by simp; omega
    have e2 : am_sz (sh ++ [Sum.inl (ci, am_ks ci)]) - z0 = am_sz sh - z0 + N := by
      rw [am_sz_app]
      simp only [an_s1, hlen]
      omega
    rw [e1, e2] at k2
    exact k2
set_option maxHeartbeats 4000000 in
set_option maxRecDepth 100000 in
theorem an_naW (hx : p.tables.exec = Jvm.exec) (hb : c.code = cc) (hts : ∀ w ∈ UW, w.before args s = true) (hK : va_K D am_cl (am_tys cy) s) (hA : ∀ q, s.heap.size ≤ q → A q)
    {pc k : Nat} {a : ArrayType} {v : Int32} {ls : List (Option Value)} {st : List Value} {sh : am_Sh} {mem : am_M} (hd : decode cc pc = .ok (.newarray a, 2)) (hak : an_atk a k = true) (hac : Cond.arrayClass (newarray.typeOf a) ∈ UW) (hw : an_wf sh mem ls (.int v :: st) = true) (hv0 : ¬ v < 0) (hv1 : v.toNatClampNeg ≤ 1000) (hn0 : n0 ≤ sh.length) (hz0 : z0 ≤ am_sz sh) (hRc : sh.length + 1 - n0 ≤ R.cells) (hRs : am_sz sh + v.toNatClampNeg - z0 ≤ R.slots)
    (kk : an_Ws p l e R s m args below meth c Q nL D cy A ad0 n0 z0 (pc + 2, ls, .ref sh.length :: st, sh ++ [.inr (k, v.toNatClampNeg)], am_new mem sh.length)) : an_Ws p l e R s m args below meth c Q nL D cy A ad0 n0 z0 (pc, ls, .int v :: st, sh, mem) := by
  obtain ⟨w1, w2, w3⟩ := an_wf3 hw
  have w4 : st.all (an_rb sh.length) = true := by
    rw [List.all_cons, Bool.and_eq_true] at w3
    exact w3.2
  intro ad H locs L hag hP hD hS hl hn
  have fin : ∀ (q : Nat) (H1 : Heap) (e0 : va_E), am_cell cy (an_up ad sh.length q) (am_new mem sh.length) sh.length (.inr (k, v.toNatClampNeg)) = e0 → va_P D am_cl (am_W cy ad sh mem ++ [(q, e0)]) H1 → va_D A (am_W cy ad sh mem ++ [(q, e0)]) → va_S A s.heap H1 locs → W p l e R s m args below meth c H1 locs (sh.length - n0 + 1) (am_sz sh - z0 + v.toNatClampNeg) Q (F0 m (pc + 2) L (.ref q :: st.map (am_cv ad))) := by
    intro q H1 e0 hcell hP1 hD1 hS1
    have hWx := an_W_ext (cy := cy) (ad := ad) (q := q) (x := .inr (k, v.toNatClampNeg)) w1
    rw [hcell] at hWx
    rw [← hWx] at hP1 hD1
    have hup : ∀ k, k < sh.length → an_up ad sh.length q k = ad k := fun k h => an_up_off h
    have k2 := kk (an_up ad sh.length q) H1 locs L (fun k h => by rw [an_up_off (Nat.lt_of_lt_of_le h hn0)]; exact hag k h) hP1 hD1 hS1 (by rw [an_ls_same hup w2]; exact hl) hn
    simp only [List.map_cons, am_cv, an_up_on] at k2
    rw [an_st_same hup w4] at k2
    have e1 : (sh ++ [Sum.inr (k, v.toNatClampNeg)] : am_Sh).length - n0 = sh.length - n0 + 1 := by simp; omega
    have e2 : am_sz (sh ++ [Sum.inr (k, v.toNatClampNeg)]) - z0 = am_sz sh - z0 + v.toNatClampNeg := by
      rw [am_sz_app]
      simp only [an_s1]
      omega
    rw [e1, e2] at k2
    exact k2
  rcases an_atk_inv hak with ⟨rfl, rfl⟩ | ⟨rfl, rfl⟩ | ⟨rfl, rfl⟩ | ⟨rfl, rfl⟩
  · refine va_newa (ty := .int) (a0 := (v.toNatClampNeg, .inl (fun _ => 0))) hx hb (hts _ hac) rfl hK hP hD hS hA (fun _ => rfl) hv0 rfl (Nat.le_trans (Nat.mul_le_mul hv1 (by decide : componentBytes FieldType.int ≤ 8)) (by decide)) (by show sh.length - n0 + 1 ≤ R.cells; omega) (by show am_sz sh - z0 + v.toNatClampNeg ≤ R.slots; omega) hd (fun q cA H1 hK1 hP1 hD1 hS1 => ?_)
    have hcA : cA = cy 0 := (Option.some.inj ((hK.2 0 _ rfl).2.symm.trans (hK1.2 4 _ rfl).2)).symm
    subst hcA
    exact fin q H1 _ (an_arr0 rfl) hP1 hD1 hS1
  · refine va_newa (ty := .long) (a0 := (v.toNatClampNeg, .inr (.inl (fun _ => 0)))) hx hb (hts _ hac) rfl hK hP hD hS hA (fun _ => rfl) hv0 rfl (Nat.le_trans (Nat.mul_le_mul hv1 (by decide : componentBytes FieldType.long ≤ 8)) (by decide)) (by show sh.length - n0 + 1 ≤ R.cells; omega) (by show am_sz sh - z0 + v.toNatClampNeg ≤ R.slots; omega) hd (fun q cA H1 hK1 hP1 hD1 hS1 => ?_)
    have hcA : cA = cy 1 := (Option.some.inj ((hK.2 1 _ rfl).2.symm.trans (hK1.2 4 _ rfl).2)).symm
    subst hcA
    exact fin q H1 _ (an_arr0 rfl) hP1 hD1 hS1
  · refine va_newa (ty := .double) (a0 := (v.toNatClampNeg, .inr (.inr (.inr (.inl (fun _ => 0)))))) hx hb (hts _ hac) rfl hK hP hD hS hA (fun _ => rfl) hv0 rfl (Nat.le_trans (Nat.mul_le_mul hv1 (by decide : componentBytes FieldType.double ≤ 8)) (by decide)) (by show sh.length - n0 + 1 ≤ R.cells; omega) (by show am_sz sh - z0 + v.toNatClampNeg ≤ R.slots; omega) hd (fun q cA H1 hK1 hP1 hD1 hS1 => ?_)
    have hcA : cA = cy 2 := (Option.some.inj ((hK.2 2 _ rfl).2.symm.trans (hK1.2 4 _ rfl).2)).symm
    subst hcA
    exact fin q H1 _ (an_arr0 rfl) hP1 hD1 hS1
  · refine va_newa (ty := .boolean) (a0 := (v.toNatClampNeg, .inl (fun _ => 0))) hx hb (hts _ hac) rfl hK hP hD hS hA (fun _ => rfl) hv0 rfl (Nat.le_trans (Nat.mul_le_mul hv1 (by decide : componentBytes FieldType.boolean ≤ 8)) (by decide)) (by show sh.length - n0 + 1 ≤ R.cells; omega) (by show am_sz sh - z0 + v.toNatClampNeg ≤ R.slots; omega) hd (fun q cA H1 hK1 hP1 hD1 hS1 => ?_)
    have hcA : cA = cy 4 := (Option.some.inj ((hK.2 3 _ rfl).2.symm.trans (hK1.2 4 _ rfl).2)).symm
    subst hcA
    exact fin q H1 _ (an_arr0 rfl) hP1 hD1 hS1
end ANW
