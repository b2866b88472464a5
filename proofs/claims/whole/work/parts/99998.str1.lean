/-! ===== the JDK's strings: five methods, and their calls ===== -/
/-- a string of n bytes f at a, its row at b, in a state -/
def st1 (z a b n : Nat) (f : Nat → Int32) (U : State) : Prop := va_O "java/lang/String" a (fun q => z ≤ q) U U.heap ∧ va_OF "java/lang/String" "coder" "B" (.int 0) a (fun q => z ≤ q) U U.heap ∧ va_OF "java/lang/String" "value" "[B" (.ref b) a (fun q => z ≤ q) U U.heap ∧ va_T .byte b n (fun j => .int (f j)) (fun q => z ≤ q) U U.heap ∧ va_Z "java/lang/String" "COMPACT_STRINGS" "Z" (.int 1) (fun q => z ≤ q) U U.heap ∧ va_Zq "jdk/internal/util/Preconditions" "SIOOBE_FORMATTER" "Ljava/util/function/BiFunction;" (fun q => z ≤ q) U U.heap
def sj_Q (r : Option Value) : Array Value → State → Outcome → State → Prop := fun _ st oc t => oc = .returned r ∧ t.heap = st.heap
/-- a method that answers r and writes nothing -/
def sj_M (l : Launch) (Ex : State → Prop) (nm : am_N) (d : Nat) (vs : List Value) (r : Option Value) : Prop := Met l nm.1 (am_ws am_U nm) (am_rm d) (va_Pc vs Ex) (sj_Q r) 0 0 (fun _ => False)
/-- the tables' words of a method that is called -/
def sj_k (nm : am_N) : Prop := nm.2.2.1 ≤ 45 ∧ Cond.code nm.1 nm.2.1 nm.2.2.1 nm.2.2.2 ∈ am_U ∧ Cond.initialized nm.1.cls ∈ am_U ∧ nm.1.cls ≠ "java/lang/invoke/MethodHandle" ∧ nm.1.cls ≠ "java/lang/invoke/VarHandle"
def nJ_len : am_N := (yJ0_length_8abf5, cJ0_length_8abf5, 1, some .int)
def nJ_cod : am_N := (yJ0_coder_7d493, cJ0_coder_7d493, 1, some .byte)
def nJ_lat : am_N := (yJ0_isLatin1_aae02, cJ0_isLatin1_aae02, 1, some .boolean)
def nJ_cha : am_N := (yJ0_charAt_5068e, cJ0_charAt_5068e, 2, some .char)
def nJ_ch1 : am_N := (yJ1_charAt_3b067, cJ1_charAt_3b067, 2, some .char)
def nJ_chk : am_N := (yJ0_checkIndex_df160, cJ0_checkIndex_df160, 2, none)
def nJ_pre : am_N := (yJ3_checkIndex_8e157, cJ3_checkIndex_8e157, 3, some .int)
theorem kJ_len : sj_k nJ_len := ⟨by decide, an_mem_ok (by decide +kernel), an_mem_ok (by decide +kernel), by decide, by decide⟩
theorem kJ_cod : sj_k nJ_cod := ⟨by decide, an_mem_ok (by decide +kernel), an_mem_ok (by decide +kernel), by decide, by decide⟩
theorem kJ_lat : sj_k nJ_lat := ⟨by decide, an_mem_ok (by decide +kernel), an_mem_ok (by decide +kernel), by decide, by decide⟩
theorem kJ_cha : sj_k nJ_cha := ⟨by decide, an_mem_ok (by decide +kernel), an_mem_ok (by decide +kernel), by decide, by decide⟩
theorem kJ_ch1 : sj_k nJ_ch1 := ⟨by decide, an_mem_ok (by decide +kernel), an_mem_ok (by decide +kernel), by decide, by decide⟩
theorem kJ_chk : sj_k nJ_chk := ⟨by decide, an_mem_ok (by decide +kernel), an_mem_ok (by decide +kernel), by decide, by decide⟩
theorem kJ_pre : sj_k nJ_pre := ⟨by decide, an_mem_ok (by decide +kernel), an_mem_ok (by decide +kernel), by decide, by decide⟩
section SJ
variable {p : Program} {l : Launch} {e : Env} {R : Room} {s : State} {m : MethodId} {args : Array Value} {below : List Frame} {meth : Method} {c : Code} {Q : State → Prop} {cc : ByteArray} {nL : Nat} {H : Heap} {locs : List Loc} {cells slots : Nat} {Ex : State → Prop}
theorem sj_call {pc : Nat} {ls : Array Slot} {st0 rest : List Value} {a : Array Value} {r : Option Value} (hr : va_Run p l e R s m args below meth c H locs cells slots 0 0 (F0 m pc ls st0) rest (sj_Q r a) (fun _ => False)) (kk : W p l e R s m args below meth c H locs cells slots Q (F0 m (pc + 3) ls (r.toList ++ rest))) : W p l e R s m args below meth c H locs cells slots Q (F0 m pc ls st0) := by
  intro T hT X
  obtain ⟨v, st₀, t, T', L2, h0, X', hL2, e1, e2, ⟨hv, hh⟩, stp⟩ := hr T hT X
  cases hv
  have hn : L2 = [] := by
    cases L2 with
    | nil => rfl
    | cons q L2 => exact (hL2 q List.mem_cons_self).elim
  subst hn
  rw [List.append_nil] at X'
  obtain ⟨t2, a1, b1⟩ := kk T' (by rw [e1, hh, h0]) X'
  exact ⟨t2, stp t2 a1, b1⟩
theorem sj_ws {nm : am_N} (hk : sj_k nm) (hts : ∀ w ∈ am_U, w.before args s = true) : ∀ w ∈ am_ws am_U nm, ∀ (a' : Array Value) (U : State), s.WarmedH U.vm → w.before a' U = true := by
  intro w hw a' U hWm
  rcases List.mem_cons.mp hw with rfl | hw
  · exact am_uw_at am_U_uw hts hWm _ hk.2.1
  · exact am_uw_at am_U_uw hts hWm _ hw
theorem sj_cS (hx : p.tables.exec = Jvm.exec) (hb : c.code = cc) (hml : c.maxLocals = nL) {own : String} (hown : s.vm.findClass own = some m.cls) (hts : ∀ w ∈ am_U, w.before args s = true) (hbl : ∀ U V : State, Ex U → U.vm = V.vm → U.heap = V.heap → Ex V) (hE : ∀ U : State, U.heap = H → s.WarmedH U.vm → Ex U)
    {nm : am_N} {d i pc : Nat} {As rest : List Value} {r : Option Value} {ls : Array Slot} (hk : sj_k nm) (M : sj_M l Ex nm d As r) (hlk : Cond.methodLink own i nm.1 ∈ am_U) (hst : Cond.static nm.1 ∈ am_U) (hpar : (parseMethodDescriptor nm.1.desc).map (fun d => d.parameters.length) = some As.length) (hRf : d + 1 ≤ R.frames) (hRl : 64 * (d + 1) ≤ R.locals) (hRc : cells ≤ R.cells) (hRs : slots ≤ R.slots) (hd : decode cc pc = .ok (.invokestatic i, 3)) (hls : ls.size = nL) (hW9 : (rest.map fun v => v.category).sum ≤ 8)
    (kk : W p l e R s m args below meth c H locs cells slots Q (F0 m (pc + 3) ls (r.toList ++ rest))) : W p l e R s m args below meth c H locs cells slots Q (F0 m pc ls (As.reverse ++ rest)) := by
  have hparm : ∀ sig, parseMethodDescriptor nm.1.desc = some sig → As.length = sig.parameters.length := by
    intro sig hsig
    rw [hsig] at hpar
    simp only [Option.map_some, Option.some.injEq] at hpar
    omega
  obtain ⟨hmx, hcd, hini, hn1, hn2⟩ := hk
  have hp : PreS s H (va_Pc As Ex) As := ⟨fun a U g mk h => ⟨h.1, hbl U _ h.2 rfl rfl⟩, fun U hU hWm => ⟨rfl, hE U hU hWm⟩⟩
  exact sj_call (a := As.toArray) (va_runS (n := As.length) (nL := nL) (bytes := nm.2.1) (maxL := nm.2.2.1) (ret := nm.2.2.2) ⟨hx, hb, hml, hown, hts⟩ M ⟨⟨rfl, rfl, hRf, by show 8 + (nm.2.2.1 + 11) + 64 * d ≤ R.locals; omega, sj_ws ⟨hmx, hcd, hini, hn1, hn2⟩ hts, List.mem_cons_self, hts _ hcd, hts _ hini, ⟨hn1, hn2⟩, hparm, hts _ hlk⟩, hts _ hst⟩ hp rfl rfl hls rfl (lv_room hW9) hd ⟨hRc, hRs⟩) kk
theorem sj_cV (hx : p.tables.exec = Jvm.exec) (hb : c.code = cc) (hml : c.maxLocals = nL) {own : String} (hown : s.vm.findClass own = some m.cls) (hts : ∀ w ∈ am_U, w.before args s = true) (hbl : ∀ U V : State, Ex U → U.vm = V.vm → U.heap = V.heap → Ex V) (hE : ∀ U : State, U.heap = H → s.WarmedH U.vm → Ex U)
    {nm : am_N} {d i pc a : Nat} {As rest : List Value} {r : Option Value} {ls : Array Slot} (hk : sj_k nm) (hrc : ∃ cell : Cell, H[a]? = some cell ∧ cell.vm.isStatics = false ∧ s.vm.findClass nm.1.cls = some cell.cls) (M : sj_M l Ex nm d (.ref a :: As) r) (hlk : Cond.methodLink own i nm.1 ∈ am_U) (hin : Cond.instanceMethod nm.1 ∈ am_U) (hsel : Cond.selects nm.1.cls nm.1 nm.1 ∈ am_U) (hpar : (parseMethodDescriptor nm.1.desc).map (fun d => d.parameters.length) = some As.length) (hRf : d + 1 ≤ R.frames) (hRl : 64 * (d + 1) ≤ R.locals) (hRc : cells ≤ R.cells) (hRs : slots ≤ R.slots) (hd : decode cc pc = .ok (.invokevirtual i, 3)) (hls : ls.size = nL) (hW9 : (rest.map fun v => v.category).sum ≤ 8)
    (kk : W p l e R s m args below meth c H locs cells slots Q (F0 m (pc + 3) ls (r.toList ++ rest))) : W p l e R s m args below meth c H locs cells slots Q (F0 m pc ls (As.reverse ++ .ref a :: rest)) := by
  have hparm : ∀ sig, parseMethodDescriptor nm.1.desc = some sig → As.length = sig.parameters.length := by
    intro sig hsig
    rw [hsig] at hpar
    simp only [Option.map_some, Option.some.injEq] at hpar
    omega
  obtain ⟨hmx, hcd, hini, hn1, hn2⟩ := hk
  have hp : PreV s H nm.1.cls a (va_Pc (.ref a :: As) Ex) As := ⟨fun a U g mk h => ⟨h.1, hbl U _ h.2 rfl rfl⟩, hrc, fun U hU hWm => ⟨rfl, hE U hU hWm⟩⟩
  exact sj_call (a := (Value.ref a :: As).toArray) (va_runV (n := As.length) (nL := nL) (C := nm.1.cls) (bytes := nm.2.1) (maxL := nm.2.2.1) (ret := nm.2.2.2) ⟨hx, hb, hml, hown, hts⟩ M ⟨⟨rfl, rfl, hRf, by show 8 + (nm.2.2.1 + 11) + 64 * d ≤ R.locals; omega, sj_ws ⟨hmx, hcd, hini, hn1, hn2⟩ hts, List.mem_cons_self, hts _ hcd, hts _ hini, ⟨hn1, hn2⟩, hparm, hts _ hlk⟩, hts _ hin, hts _ hsel⟩ hp rfl rfl hls rfl (lv_room hW9) hd ⟨hRc, hRs⟩) kk
end SJ
