/-! ===== SureSums.machine, which may throw ===== -/
section MQ
variable {p : Program} {l : Launch} {e : Env} {R : Room} {s : State} {m : MethodId} {args : Array Value} {below : List Frame} {meth : Method} {c : Code} {cells slots : Nat} {Q : State → Prop} {cc : ByteArray} {nL : Nat} {D : va_G} {cy : Nat → ClassId} {A : Nat → Prop} {ad : Nat → Nat} {own : String} {Ex : State → Prop}
/-- a block of the small machine, whatever was counted -/
theorem mq_b (C : ag_C p s m args c cc nL own D cy ad Ex) {Cd : Nat → Option am_Q} (hCd : ∀ pc q, Cd pc = some q → decode cc pc = .ok (q.1, q.2.1) ∧ am_lk own am_cl am_U pc q ∧ am_ck own am_cl am_U am_Nm q) {x' : am_C} :
    ∀ (k : Nat) {x : am_C}, am_run Cd k x = some x' → am_Ws p l e R s m args below meth c cells slots Q nL D am_cl cy A s.heap ad am_SH x' → am_Ws p l e R s m args below meth c cells slots Q nL D am_cl cy A s.heap ad am_SH x := by
  intro k
  induction k with
  | zero =>
    intro x h g
    cases h
    exact g
  | succ k ih =>
    intro x h g
    simp only [am_run] at h
    split at h
    · cases h
    · next q hq =>
      cases hp : am_pl q.1 with
      | false => rw [hp] at h; cases h
      | true =>
        rw [hp] at h
        simp only [cond_true] at h
        split at h
        · next c1 hc1 =>
          obtain ⟨h1, h2, -⟩ := hCd _ _ hq
          exact am_stepW C.1 C.2.1 C.2.2.2.1 C.2.2.2.2.1 C.2.2.2.2.2.1 am_cl_ok (am_shk_of am_SH_ok) h1 h2 hc1 (ih h g)
        · cases h
/-- a call of the small machine -/
theorem mq_c (C : ag_C p s m args c cc nL own D cy ad Ex) {Cd : Nat → Option am_Q} (hCd : ∀ pc q, Cd pc = some q → decode cc pc = .ok (q.1, q.2.1) ∧ am_lk own am_cl am_U pc q ∧ am_ck own am_cl am_U am_Nm q)
    {ext : Nat → List Value → am_M → Option am_R} (hext : ∀ d j as mem r nm, am_Ys j = none → ext j as mem = some r → am_Nm j = some nm → am_Mt l D am_cl cy ad am_SH Ex am_U nm (5 + d + 1) as mem r)
    (hRf : 101 ≤ R.frames) (hRl : 64 * 101 ≤ R.locals) (hRc : cells ≤ R.cells) (hRs : slots ≤ R.slots)
    {pc i : Nat} {ls : List (Option Value)} {st : List Value} {mem : am_M} {r : am_R} {j n vi ci : Nat} {rs : List Nat} {as : List Value} (hd : Cd pc = some (.invokevirtual i, 3, j :: n :: vi :: ci :: rs)) (has : (st.take n).reverse = as) (hc : (Nat.ble n st.length && Nat.ble (((st.drop n).map fun v => v.category).sum) 8 && am_rc am_SH vi ci as) = true)
    (hR : am_Rn ext 95 j as mem r) (k : am_Ws p l e R s m args below meth c cells slots Q nL D am_cl cy (am_A ad am_SH.length s.heap.size) s.heap ad am_SH (pc + 3, ls, r.1.toList ++ st.drop n, r.2)) : am_Ws p l e R s m args below meth c cells slots Q nL D am_cl cy (am_A ad am_SH.length s.heap.size) s.heap ad am_SH (pc, ls, st, mem) := by
  obtain ⟨n0, h0⟩ := hR
  have hinv : am_inv am_SH (am_ex am_Ys ext am_SH n0 95) (.invokevirtual i, 3, j :: n :: vi :: ci :: rs) (pc, ls, st, mem) = some (pc + 3, ls, r.1.toList ++ st.drop n, r.2) := by
    subst has
    simp only [am_inv, hc, cond_true, h0 n0 (Nat.le_refl _)]
  obtain ⟨h1, -, h2⟩ := hCd _ _ hd
  exact an_invH (Ex := Ex) (d0 := 100) C.1 C.2.1 C.2.2.1 C.2.2.2.1 C.2.2.2.2.1 am_U_uw C.2.2.2.2.2.1 C.2.2.2.2.2.2.1 C.2.2.2.2.2.2.2 hRf hRl hRc hRs (fun q _ h => h) (fun q h => Or.inr h) am_nk_ok (fun j as mem r nm hh hn => am_exV 5 am_U_uw C.2.2.2.2.2.2.1 am_cl_ok (am_shk_of am_SH_ok) am_nk_ok am_yk_ok hext n0 95 j as mem r nm hh hn) h1 h2 (Or.inl ⟨i, rfl⟩) hinv k
end MQ
/-! the two that it throws -/
def mx_1 : String := "java/lang/IndexOutOfBoundsException"
def mx_2 : String := "java/util/NoSuchElementException"
def mx_ns : List String := ["java/lang/RuntimeException", "java/lang/Exception"]
/-- their words that warmer tables don't keep by themselves -/
def mx_B : List Cond := [.declares (Bundle.initS "java/lang/RuntimeException"), .declares (Bundle.initS "java/lang/Exception"), .declares (Bundle.initS "java/lang/Throwable"), .castable mx_1 mx_1, .castable mx_2 mx_2]
theorem mx_B_on : ∀ w ∈ mx_B, w.onTables = true := by decide
theorem mx_B_in : ∀ w ∈ mx_B, w ∈ tables_1 := by decide +kernel
theorem mx_B_warm {s U : State} (hW : s.WarmedH U.vm) (h : ∀ w ∈ mx_B, va_Nw w s) : ∀ w ∈ mx_B, va_Nw w U := by
  intro w hw
  have hz := h w hw
  simp only [mx_B, List.mem_cons, List.not_mem_nil, or_false] at hw
  rcases hw with rfl | rfl | rfl | rfl | rfl
  · exact va_Nw.warmD hW hz
  · exact va_Nw.warmD hW hz
  · exact va_Nw.warmD hW hz
  · exact va_Nw.warmC hW hz
  · exact va_Nw.warmC hW hz
set_option maxRecDepth 100000 in
theorem mx_g1 : ∀ w ∈ (vx_atS "SureSums" 171 mx_1 mx_ns).filter goodWord, w ∈ lw_tbl := by decide +kernel
set_option maxRecDepth 100000 in
theorem mx_g2 : ∀ w ∈ (vx_atX "SureSums" 178 mx_2 13 prog_25_method_4_code mx_ns).filter goodWord, w ∈ lw_tbl := by decide +kernel
set_option maxRecDepth 100000 in
theorem mx_n1 : ∀ w ∈ (vx_atS "SureSums" 171 mx_1 mx_ns).filter (fun w => !goodWord w), w ∈ mx_B := by decide +kernel
set_option maxRecDepth 100000 in
theorem mx_n2 : ∀ w ∈ (vx_atX "SureSums" 178 mx_2 13 prog_25_method_4_code mx_ns).filter (fun w => !goodWord w), w ∈ mx_B := by decide +kernel
set_option maxRecDepth 100000 in
theorem mx_o1 : ∀ w ∈ Cond.classLink "SureSums" 167 mx_1 :: Cond.initialized mx_1 :: vx_atS "SureSums" 171 mx_1 mx_ns, vx_ot w = true := by decide +kernel
set_option maxRecDepth 100000 in
theorem mx_o2 : ∀ w ∈ Cond.classLink "SureSums" 174 mx_2 :: Cond.initialized mx_2 :: vx_atX "SureSums" 178 mx_2 13 prog_25_method_4_code mx_ns, vx_ot w = true := by decide +kernel
theorem mx_U {L : List Cond} (h : ∀ w ∈ L.filter goodWord, w ∈ lw_tbl) : ∀ w ∈ L.filter goodWord, w ∈ am_U := fun w hw => List.mem_filter.mpr ⟨h w hw, by rw [(List.mem_filter.mp hw).2]; rfl⟩
/-- what stands of the start through the run, the throws' words with it -/
def ym (z : Nat) (aS adV : Nat → Nat) (U : State) : Prop := xf z aS adV U ∧ va_Nc mx_2 mx_1 U ∧ ∀ w ∈ mx_B, va_Nw w U
section YM
variable {l : Launch} {D : va_G} {cy : Nat → ClassId} {ad aS adV : Nat → Nat} {z : Nat}
theorem ym_k (hz : ∀ j, j < am_SH.length → z ≤ ad j) : am_Exh ad am_SH.length (ym z aS adV) := fun s U h hW hsz hq => ⟨xf_k hz s U h.1 hW hsz hq, va_Nc.moved hW.alike h.2.1, mx_B_warm hW h.2.2⟩
theorem ym_ext (hz : ∀ j, j < am_SH.length → z ≤ ad j) (hPa : ∀ i, i < 11 → ad (100 + i) = aS i) : ∀ d j as mem r nm, am_Ys j = none → am_ext j as mem = some r → am_Nm j = some nm → am_Mt l D am_cl cy ad am_SH (ym z aS adV) am_U nm (5 + d + 1) as mem r := by
  intro d j as mem r nm _ h hn
  unfold am_ext at h
  split at h
  · next s0 e0 =>
    cases hb : (j == 87 && am_inb s0 501 && am_inb e0 501 && decide (s0.toNatClampNeg ≤ e0.toNatClampNeg)) with
    | false => rw [hb] at h; cases h
    | true =>
      rw [hb] at h
      simp only [cond_true, Option.some.injEq] at h
      subst h
      simp only [Bool.and_eq_true, beq_iff_eq, decide_eq_true_eq] at hb
      obtain ⟨⟨⟨hj, h2⟩, h3⟩, h4⟩ := hb
      subst hj
      have en : nm = nX_wdk := (Option.some.inj (hn.symm.trans (show am_Nm 87 = some nX_wdk from rfl)))
      subst en
      obtain ⟨es, -⟩ := ni_back h2
      obtain ⟨ee, he⟩ := ni_back h3
      obtain ⟨I, L, D0, X⟩ := mem
      have M := m_wdk (l := l) (D := D) (cy := cy) (adV := adV) (ym_k (aS := aS) (adV := adV) hz) hz (fun U h => ⟨h.1.1, fun i hi => by rw [hPa i hi]; exact h.1.2.1 i hi⟩) d h4 he I L D0 X
      rw [← es, ← ee] at M
      rw [show 5 + d + 1 = d + 6 from by omega]
      exact M
  · cases h
theorem ym_in {p : Program} {s : State} {m : MethodId} {meth : Method} {c : Code} {b L : Nat} {xs : Nat → Int32} (hAt : lw_At p s m meth c b L xs) : ∃ aS adV : Nat → Nat, ym s.heap.size aS adV s := by
  obtain ⟨aS, adV, h⟩ := xf_in hAt
  obtain ⟨hx, hb, hr, hml, hown, hts, hX, hbl, hlocks, hgv⟩ := hAt
  have hF : ∀ w ∈ en_F, w.before #[Value.ref b] s = true := flat_of_before _ hgv
  exact ⟨aS, adV, h, va_Nc.of (hF (Cond.not (.castable mx_2 mx_1)) (by decide +kernel)), fun w hw => va_Nw.of (mx_B_on w hw) (hts w (List.mem_append_right _ (mx_B_in w hw)))⟩
end YM
/-! its code, but what makes and throws -/
def mx_q : List (Nat × am_Q) := [(0, .iload_n 1, 1, []), (1, .ifCond .lt 9, 3, [10]), (4, .iload_n 1, 1, []), (5, .bipush 26, 2, []), (7, .if_icmp .lt 13, 3, [20]), (13, .dup, 1, []), (20, .aload_n 0, 1, []), (21, .iload_n 1, 1, []), (22, .invokevirtual 95, 3, [111, 2, 1, 7, 0, 756, 758, 41]), (25, .istore_n 2, 1, []), (26, .iload_n 2, 1, []), (27, .ifCond .ge 13, 3, [40]), (33, .dup, 1, []), (40, .aload_n 0, 1, []), (41, .getfield 49, 3, [7, 6, 0, 444]), (44, .iload_n 2, 1, []), (45, .invokevirtual 179, 3, [4, 2, 1, 1, 1, 948, 950, 67]), (48, .ifCond .eq 13, 3, [61]), (51, .aload_n 0, 1, []), (52, .getfield 49, 3, [7, 6, 0, 444]), (55, .getfield 181, 3, [1, 6, 1, 384]), (58, .goto 4, 3, [62]), (61, .dconst 0, 1, []), (62, .dreturn, 1, [])]
set_option maxRecDepth 100000 in
theorem mx_k : am_chk am_Nm "SureSums" prog_1_method_18_code mx_q = true := by decide +kernel
def mx_cd : Nat → Option am_Q := fun pc => mx_q.lookup pc
theorem mx_ok : ∀ pc q, mx_cd pc = some q → decode prog_1_method_18_code pc = .ok (q.1, q.2.1) ∧ am_lk "SureSums" am_cl am_U pc q ∧ am_ck "SureSums" am_cl am_U am_Nm q := fun _ _ h => am_chk_at mx_k h
theorem mx_d10 : decode prog_1_method_18_code 10 = .ok (.new 167, 3) := by decide +kernel
theorem mx_d13 : decode prog_1_method_18_code 13 = .ok (.dup, 1) := by decide +kernel
theorem mx_d14 : decode prog_1_method_18_code 14 = .ok (.ldc 169, 2) := by decide +kernel
theorem mx_d16 : decode prog_1_method_18_code 16 = .ok (.invokespecial 171, 3) := by decide +kernel
theorem mx_d19 : decode prog_1_method_18_code 19 = .ok (.athrow, 1) := by decide +kernel
theorem mx_d30 : decode prog_1_method_18_code 30 = .ok (.new 174, 3) := by decide +kernel
theorem mx_d33 : decode prog_1_method_18_code 33 = .ok (.dup, 1) := by decide +kernel
theorem mx_d34 : decode prog_1_method_18_code 34 = .ok (.ldc 176, 2) := by decide +kernel
theorem mx_d36 : decode prog_1_method_18_code 36 = .ok (.invokespecial 178, 3) := by decide +kernel
theorem mx_d39 : decode prog_1_method_18_code 39 = .ok (.athrow, 1) := by decide +kernel
theorem mx_d62 : decode prog_1_method_18_code 62 = .ok (.dreturn, 1) := by decide +kernel
theorem mx_x0 : decode prog_25_method_4_code 0 = .ok (.aload_n 0, 1) := by decide +kernel
theorem mx_x1 : decode prog_25_method_4_code 1 = .ok (.aload_n 1, 1) := by decide +kernel
theorem mx_x2 : decode prog_25_method_4_code 2 = .ok (.invokespecial 13, 3) := by decide +kernel
theorem mx_x5 : decode prog_25_method_4_code 5 = .ok (.return_, 1) := by decide +kernel
def nmx : am_N := (⟨"SureSums", "machine", "(I)D"⟩, prog_1_method_18_code, 3, some .double)
theorem nmx_at : am_Nm 108 = some nmx := rfl
def mx_rm : Room := { frames := 200, cells := 1, slots := 6, locals := 12800 }
/-- what comes: a number with the memory then, or what is thrown -/
abbrev mx_O : Type := (UInt64 × am_M) ⊕ String
def mx_Qr (D : va_G) (cy : Nat → ClassId) (ad : Nat → Nat) (sz : Nat) (o : mx_O) : Array Value → State → Outcome → State → Prop := va_Qd (S := am_M) (fun r u => o = .inl (r, u)) (fun u t => va_P D am_cl (am_W cy ad am_SH u) t.heap) (am_A ad am_SH.length sz)
def mx_Xr (D : va_G) (cy : Nat → ClassId) (ad : Nat → Nat) (sz : Nat) (mem : am_M) (o : mx_O) : String → State → State → Prop := vx_X (S := Unit) (fun _ => True) (fun E _ t => o = .inr E ∧ va_P D am_cl (am_W cy ad am_SH mem) t.heap) (am_A ad am_SH.length sz)
def mx_Mt (l : Launch) (D : va_G) (cy : Nat → ClassId) (ad : Nat → Nat) (Ex : State → Prop) (a : Int32) (mem : am_M) (o : mx_O) : Prop :=
  ∀ sz, vx_Met l nmx.1 (am_ws am_U nmx) mx_rm (am_Pc D am_cl cy ad am_SH Ex sz [.ref 0, .int a] mem) (mx_Qr D cy ad sz o) (mx_Xr D cy ad sz mem o) 1 6 (am_A ad am_SH.length sz)
section MX
variable {l : Launch} {D : va_G} {cy : Nat → ClassId} {ad aS adV : Nat → Nat} {z : Nat}
/-- a body of it, walked from its beginning -/
def mx_go (l : Launch) (D : va_G) (cy : Nat → ClassId) (ad : Nat → Nat) (Ex : State → Prop) (a : Int32) (mem : am_M) (o : mx_O) : Prop :=
  ∀ (p : Program) (e : Env) (s : State) (m : MethodId) (args : Array Value) (below : List Frame) (meth : Method) (c : Code), ag_C p s m args c prog_1_method_18_code 3 "SureSums" D cy ad Ex → meth.locks = false → meth.sig.returnType = some .double → (∀ x ∈ c.exceptionTable.toList, False) →
    am_Ws p l e mx_rm s m args below meth c 0 0 (vx_MQ below (mx_Qr D cy ad s.heap.size o) (mx_Xr D cy ad s.heap.size mem o) args s 1 6 (am_A ad am_SH.length s.heap.size)) 3 D am_cl cy (am_A ad am_SH.length s.heap.size) s.heap ad am_SH (0, [some (.ref 0), some (.int a), none], [], mem)
set_option maxHeartbeats 4000000 in
set_option maxRecDepth 100000 in
theorem mx_of {Ex : State → Prop} {a : Int32} {mem : am_M} {o : mx_O} (hE : am_Exh ad am_SH.length Ex) (h : mx_go l D cy ad Ex a mem o) : mx_Mt l D cy ad Ex a mem o := by
  intro sz
  refine vx_ofW (cc := prog_1_method_18_code) (maxL := 3) (ret := some .double) (by decide +kernel) rfl ?_
  intro p e s m args below meth c s₁ B hml hnt hv
  obtain ⟨rfl, hsz, hP, hK, hD, hEs⟩ := hv
  have hts0 := atoms_spec (ws := am_ws am_U nmx) B.pre
  have hts : ∀ w ∈ am_U, w.before _ s = true := fun w h => hts0 w (List.mem_cons_of_mem _ h)
  have hown : s.vm.findClass "SureSums" = some m.cls := findClass_of_methodNamed B.named
  subst hsz
  have C : ag_C p s m _ c prog_1_method_18_code 3 "SureSums" D cy ad Ex := ⟨B.exec, B.bytes, hml, hown, hts, hK, hE, hEs⟩
  have hl := lv_entry ([Value.ref 0, .int a].map (am_cv ad)) (n := 3) (Nat.le_of_ble_eq_true rfl)
  rw [lg_entry_eq]
  generalize (lg_sl ([Value.ref 0, .int a].map (am_cv ad)) ++ List.replicate (3 - (lg_sl ([Value.ref 0, .int a].map (am_cv ad))).length) Slot.unset).toArray = ls at hl ⊢
  exact h p e s m _ below meth c C B.notSynchronized B.returns hnt s.heap [] ls hP hD va_S.rf hl rfl
theorem mx_keep {s t : State} {H : Heap} {locs : List Loc} {mem : am_M} (hP : va_P D am_cl (am_W cy ad am_SH mem) H) (hS : va_S (am_A ad am_SH.length s.heap.size) s.heap H locs) (hsz : H.size ≤ t.heap.size) (hq : ∀ q : Nat, q < H.size → t.heap[q]? = H[q]?) {E : String} {o : mx_O} (ho : o = .inr E) : mx_Xr D cy ad s.heap.size mem o E s t :=
  ⟨(), trivial, ⟨ho, hP.kept (fun k q hk => hq _ (vx_lt hP hk))⟩, Nat.le_trans hS.1 hsz, fun q h1 h2 => by rw [hq q (Nat.lt_of_lt_of_le h1 hS.1)]; exact hS.2.1 q h1 h2⟩
theorem mx_A (hz : ∀ j, j < am_SH.length → z ≤ ad j) {sz : Nat} (h : z ≤ sz) : ∀ q, am_A ad am_SH.length sz q → (fun q : Nat => z ≤ q) q := by
  rintro q (⟨k, hk, rfl⟩ | h2)
  · exact hz k hk
  · exact Nat.le_trans h h2
set_option maxHeartbeats 4000000 in
set_option maxRecDepth 100000 in
/-- no letter -/
theorem mx_io (hl : l.stackTraces = false) (hz : ∀ j, j < am_SH.length → z ≤ ad j) {a : Int32} (ha : a < 0 ∨ 26 ≤ a) (mem : am_M) : mx_Mt l D cy ad (ym z aS adV) a mem (.inr mx_1) := by
  refine mx_of (ym_k hz) ?_
  intro p e s m args below meth c C hlocks hr hnt
  have fin : am_Ws p l e mx_rm s m args below meth c 0 0 (vx_MQ below (mx_Qr D cy ad s.heap.size (.inr mx_1)) (mx_Xr D cy ad s.heap.size mem (.inr mx_1)) args s 1 6 (am_A ad am_SH.length s.heap.size)) 3 D am_cl cy (am_A ad am_SH.length s.heap.size) s.heap ad am_SH (10, [some (.ref 0), some (.int a), none], [], mem) := by
    intro H locs L hP hD hS hll hnl
    obtain ⟨hx, hb, hml, hown, hts, hK, hE, hEs⟩ := C
    obtain ⟨⟨hzs, -, ⟨sa, hR⟩, -, hU, hN⟩, -, hB⟩ := hEs
    show W p l e mx_rm s m args below meth c H locs 0 0 _ (F0 m 10 L [])
    refine vx_throwS (A := am_A ad am_SH.length s.heap.size) (own := "SureSums") (cls := mx_1) (text := "no such letter") (names := mx_ns) (ik := 167) (is := 169) (ic := 171) (mc := 1) (ms := 6) (sa := sa) hx hb hl hown (by decide +kernel) (by decide +kernel) (hts _ (an_mem_ok (by decide +kernel))) (hts _ (an_mem_ok (by decide +kernel))) hR
      (vx_hat (fun w hw => hts w (mx_U mx_g1 w hw)) mx_n1 (fun w hw => va_Nw.use (mx_B_on w hw) (hB w hw))) mx_o1 (hU.narrow (mx_A hz hzs)) (hN.narrow (mx_A hz hzs)) hS (hll.1.trans hml.symm) mx_d10 mx_d13 mx_d14 mx_d16 mx_d19 (fun x hx => (hnt x hx).elim) (by decide) (by decide) (by decide) (by decide) hlocks (fun t _ h1 h2 => mx_keep hP hS h1 h2 rfl) hS.2.2 (by decide) (by decide)
  by_cases h0 : a < 0
  · refine mq_b C mx_ok (x' := (10, [some (.ref 0), some (.int a), none], [], mem)) 2 ?_ fin
    have h1 : am_run mx_cd 2 (0, [some (.ref 0), some (.int a), none], [], mem) = some (bif decide (a < 0) then 10 else 4, [some (.ref 0), some (.int a), none], [], mem) := rfl
    rw [decide_eq_true h0] at h1
    exact h1
  · have h26 : ¬ a < 26 := by
      rcases ha with h | h
      · exact absurd h h0
      · exact Int32.not_lt.mpr h
    refine mq_b C mx_ok (x' := (4, [some (.ref 0), some (.int a), none], [], mem)) 2 ?_ ?_
    · have h1 : am_run mx_cd 2 (0, [some (.ref 0), some (.int a), none], [], mem) = some (bif decide (a < 0) then 10 else 4, [some (.ref 0), some (.int a), none], [], mem) := rfl
      rw [decide_eq_false h0] at h1
      exact h1
    · refine mq_b C mx_ok (x' := (10, [some (.ref 0), some (.int a), none], [], mem)) 3 ?_ fin
      have h1 : am_run mx_cd 3 (4, [some (.ref 0), some (.int a), none], [], mem) = some (bif decide (a < 26) then 20 else 10, [some (.ref 0), some (.int a), none], [], mem) := rfl
      rw [decide_eq_false h26] at h1
      exact h1
set_option maxHeartbeats 4000000 in
set_option maxRecDepth 100000 in
/-- a letter: up to where its line is asked -/
theorem mx_let {p : Program} {e : Env} {s : State} {m : MethodId} {args : Array Value} {below : List Frame} {meth : Method} {c : Code} {Ex : State → Prop} {Q : State → Prop} {A : Nat → Prop} (C : ag_C p s m args c prog_1_method_18_code 3 "SureSums" D cy ad Ex) {a : Int32} (h0 : ¬ a < 0) (h26 : ¬ 26 ≤ a) {mem : am_M}
    (k : am_Ws p l e mx_rm s m args below meth c 0 0 Q 3 D am_cl cy A s.heap ad am_SH (22, [some (.ref 0), some (.int a), none], [.int a, .ref 0], mem)) : am_Ws p l e mx_rm s m args below meth c 0 0 Q 3 D am_cl cy A s.heap ad am_SH (0, [some (.ref 0), some (.int a), none], [], mem) := by
  refine mq_b C mx_ok (x' := (4, [some (.ref 0), some (.int a), none], [], mem)) 2 ?_ ?_
  · have h1 : am_run mx_cd 2 (0, [some (.ref 0), some (.int a), none], [], mem) = some (bif decide (a < 0) then 10 else 4, [some (.ref 0), some (.int a), none], [], mem) := rfl
    rw [decide_eq_false h0] at h1
    exact h1
  · refine mq_b C mx_ok (x' := (20, [some (.ref 0), some (.int a), none], [], mem)) 3 ?_ ?_
    · have h1 : am_run mx_cd 3 (4, [some (.ref 0), some (.int a), none], [], mem) = some (bif decide (a < 26) then 20 else 10, [some (.ref 0), some (.int a), none], [], mem) := rfl
      rw [decide_eq_true (Int32.not_le.mp h26)] at h1
      exact h1
    · exact mq_b C mx_ok (x' := (22, [some (.ref 0), some (.int a), none], [.int a, .ref 0], mem)) 2 rfl k
set_option maxHeartbeats 4000000 in
set_option maxRecDepth 100000 in
/-- no number of that letter -/
theorem mx_ns1 (hl : l.stackTraces = false) (hz : ∀ j, j < am_SH.length → z ≤ ad j) (hPa : ∀ i, i < 11 → ad (100 + i) = aS i) {a : Int32} (h0 : ¬ a < 0) (h26 : ¬ 26 ≤ a) (mem : am_M) (hR : am_Rn am_ext 95 111 [.ref 0, .int a] mem (some (.int (-1)), mem)) : mx_Mt l D cy ad (ym z aS adV) a mem (.inr mx_2) := by
  refine mx_of (ym_k hz) ?_
  intro p e s m args below meth c C hlocks hr hnt
  refine mx_let C h0 h26 ?_
  refine mq_c C mx_ok (ym_ext hz hPa) (by decide) (by decide) (by decide) (by decide) (as := [.ref 0, .int a]) (r := (some (.int (-1)), mem)) rfl rfl rfl hR ?_
  refine mq_b C mx_ok (x' := (30, [some (.ref 0), some (.int a), some (.int (-1))], [], mem)) 3 ?_ ?_
  · have h1 : ∀ v : Int32, am_run mx_cd 3 (25, [some (.ref 0), some (.int a), none], [.int v], mem) = some (bif decide (0 ≤ v) then 40 else 30, [some (.ref 0), some (.int a), some (.int v)], [], mem) := fun _ => rfl
    have h2 := h1 (-1)
    rw [show decide ((0 : Int32) ≤ -1) = false from by decide] at h2
    exact h2
  intro H locs L hP hD hS hll hnl
  obtain ⟨hx, hb, hml, hown, hts, hK, hE, hEs⟩ := C
  obtain ⟨⟨hzs, -, -, ⟨sa, hR9⟩, hU, hN⟩, -, hB⟩ := hEs
  show W p l e mx_rm s m args below meth c H locs 0 0 _ (F0 m 30 L [])
  exact vx_throwSX (A := am_A ad am_SH.length s.heap.size) (own := "SureSums") (cls := mx_2) (text := "no number of that letter") (names := mx_ns) (ik := 174) (is := 176) (ic := 178) (mc := 1) (ms := 6) (sa := sa) hx hb hl mx_x0 mx_x1 mx_x2 mx_x5 hown (by decide +kernel) (by decide +kernel) (hts _ (an_mem_ok (by decide +kernel))) (hts _ (an_mem_ok (by decide +kernel))) hR9
    (vx_hat (fun w hw => hts w (mx_U mx_g2 w hw)) mx_n2 (fun w hw => va_Nw.use (mx_B_on w hw) (hB w hw))) mx_o2 (hU.narrow (mx_A hz hzs)) (hN.narrow (mx_A hz hzs)) hS (hll.1.trans hml.symm) mx_d30 mx_d33 mx_d34 mx_d36 mx_d39 (fun x hx => (hnt x hx).elim) (by decide) (by decide) (by decide) (by decide) hlocks (fun t _ h1 h2 => mx_keep hP hS h1 h2 rfl) hS.2.2 (by decide) (by decide)
set_option maxHeartbeats 4000000 in
set_option maxRecDepth 100000 in
/-- a number -/
theorem mx_nr (hz : ∀ j, j < am_SH.length → z ≤ ad j) (hPa : ∀ i, i < 11 → ad (100 + i) = aS i) {a : Int32} (h0 : ¬ a < 0) (h26 : ¬ 26 ≤ a) {I I' : Nat → Nat → Int32} {L0 : Nat → Nat → Int64} {D0 D' : Nat → Nat → UInt64} {xi xp xc : Nat} {v : Int32} (hv : ¬ v < 0) {o : Option UInt64}
    (hR : am_Rn am_ext 95 111 [.ref 0, .int a] (I, L0, D0, am_rf (2, 11, xi, xp, 2, xc)) (some (.int v), (I, L0, D0, am_rf (2, 11, xi, xp, 2, xc))))
    (hR2 : am_Rn am_ext 95 4 [.ref 34, .int v] (I, L0, D0, am_rf (2, 11, xi, xp, 2, xc)) (some (.int (fl1 o)), (I', L0, D', am_rf (2, 11, xi, xp, 2, xc)))) (hf : D' 34 6 = dbl o) :
    mx_Mt l D cy ad (ym z aS adV) a (I, L0, D0, am_rf (2, 11, xi, xp, 2, xc)) (.inl (dbl o, (I', L0, D', am_rf (2, 11, xi, xp, 2, xc)))) := by
  refine mx_of (ym_k hz) ?_
  intro p e s m args below meth c C hlocks hr hnt
  refine mx_let C h0 h26 ?_
  refine mq_c C mx_ok (ym_ext hz hPa) (by decide) (by decide) (by decide) (by decide) (as := [.ref 0, .int a]) (r := (some (.int v), (I, L0, D0, am_rf (2, 11, xi, xp, 2, xc)))) rfl rfl rfl hR ?_
  refine mq_b C mx_ok (x' := (40, [some (.ref 0), some (.int a), some (.int v)], [], (I, L0, D0, am_rf (2, 11, xi, xp, 2, xc)))) 3 ?_ ?_
  · have h1 : am_run mx_cd 3 (25, [some (.ref 0), some (.int a), none], [.int v], (I, L0, D0, am_rf (2, 11, xi, xp, 2, xc))) = some (bif decide (0 ≤ v) then 40 else 30, [some (.ref 0), some (.int a), some (.int v)], [], (I, L0, D0, am_rf (2, 11, xi, xp, 2, xc))) := rfl
    rw [decide_eq_true (Int32.not_lt.mp hv)] at h1
    exact h1
  refine mq_b C mx_ok (x' := (45, [some (.ref 0), some (.int a), some (.int v)], [.int v, .ref 34], (I, L0, D0, am_rf (2, 11, xi, xp, 2, xc)))) 3 rfl ?_
  refine mq_c C mx_ok (ym_ext hz hPa) (by decide) (by decide) (by decide) (by decide) (as := [.ref 34, .int v]) (r := (some (.int (fl1 o)), (I', L0, D', am_rf (2, 11, xi, xp, 2, xc)))) rfl rfl rfl hR2 ?_
  have fin : am_Ws p l e mx_rm s m args below meth c 0 0 (vx_MQ below (mx_Qr D cy ad s.heap.size (.inl (dbl o, (I', L0, D', am_rf (2, 11, xi, xp, 2, xc))))) (mx_Xr D cy ad s.heap.size (I, L0, D0, am_rf (2, 11, xi, xp, 2, xc)) (.inl (dbl o, (I', L0, D', am_rf (2, 11, xi, xp, 2, xc))))) args s 1 6 (am_A ad am_SH.length s.heap.size)) 3 D am_cl cy (am_A ad am_SH.length s.heap.size) s.heap ad am_SH (62, [some (.ref 0), some (.int a), some (.int v)], [.double (dbl o)], (I', L0, D', am_rf (2, 11, xi, xp, 2, xc))) := by
    intro H locs L hP hD hS hll hnl
    show W p l e mx_rm s m args below meth c H locs 0 0 _ (F0 m 62 L [.double (dbl o)])
    refine vx_ret (W.widen (k := 1) (n := 6) (by decide) (by decide) ?_)
    exact W.dret C.1 C.2.1 hr (fun t ht hW => ⟨⟨dbl o, (I', L0, D', am_rf (2, 11, xi, xp, 2, xc)), rfl, rfl, by show va_P D am_cl (am_W cy ad am_SH (I', L0, D', am_rf (2, 11, xi, xp, 2, xc))) t.heap; rw [ht]; exact hP⟩, hS.F ht⟩) hS.2.2 mx_d62 hlocks
  cases o with
  | none => exact mq_b C mx_ok (x' := (62, [some (.ref 0), some (.int a), some (.int v)], [.double (dbl none)], (I', L0, D', am_rf (2, 11, xi, xp, 2, xc)))) 2 rfl fin
  | some w =>
    refine mq_b C mx_ok (x' := (62, [some (.ref 0), some (.int a), some (.int v)], [.double (dbl (some w))], (I', L0, D', am_rf (2, 11, xi, xp, 2, xc)))) 5 ?_ fin
    rw [← hf]
    rfl
end MX
