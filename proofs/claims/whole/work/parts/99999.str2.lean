/-! ===== the JDK's strings: what the seven methods answer ===== -/
section SJM
variable {l : Launch} {Ex : State → Prop} {z a b n : Nat} {f : Nat → Int32}
theorem pJ_pre : (parseMethodDescriptor nJ_pre.1.desc).map (fun d => d.parameters.length) = some 3 := by decide +kernel
theorem pJ_chk : (parseMethodDescriptor nJ_chk.1.desc).map (fun d => d.parameters.length) = some 2 := by decide +kernel
theorem pJ_ch1 : (parseMethodDescriptor nJ_ch1.1.desc).map (fun d => d.parameters.length) = some 2 := by decide +kernel
def sj_x (Ex : State → Prop) : Prop := ∀ U V : State, Ex U → U.WarmedH V.vm → V.heap = U.heap → Ex V
set_option maxHeartbeats 4000000 in
set_option maxRecDepth 100000 in
theorem sj_cod (hEx : sj_x Ex) (hF : ∀ U, Ex U → st1 z a b n f U) (d : Nat) : sj_M l Ex nJ_cod d [.ref a] (some (.int 0)) := by
  refine am_ofW (cc := cJ0_coder_7d493) (maxL := 1) (ret := some .byte) (by decide) rfl ?_
  intro p e s m args below meth c s₁ B hml hv
  obtain ⟨rfl, hEs⟩ := hv
  have hx := B.exec
  have hb := B.bytes
  have hr := B.returns
  have hts0 := atoms_spec (ws := am_ws am_U nJ_cod) B.pre
  have hts : ∀ w ∈ am_U, w.before _ s = true := fun w h => hts0 w (List.mem_cons_of_mem _ h)
  have hown : s.vm.findClass RJ0 = some m.cls := findClass_of_methodNamed B.named
  have hlocks := B.notSynchronized
  have hS : va_S (fun q => z ≤ q) s.heap s.heap [] := va_S.rf
  have hEH : ∀ U : State, U.heap = s.heap → s.WarmedH U.vm → Ex U := fun U hU hW => hEx s U hEs hW hU
  have hbl : ∀ U V : State, Ex U → U.vm = V.vm → U.heap = V.heap → Ex V := fun U V h1 h2 h3 => hEx U V h1 (by rw [← h2]; exact State.WarmedH.refl U) h3.symm
  have hl := lv_entry ([.ref a]) (n := 1) (Nat.le_of_ble_eq_true rfl)
  rw [lg_entry_eq]
  generalize (lg_sl ([.ref a]) ++ List.replicate (1 - (lg_sl ([.ref a])).length) Slot.unset).toArray = ls at hl ⊢
  have hl : lv_has ls 1 [(0, .ref a)] := hl
  obtain ⟨f1, f2, f3, f4, f5, f6⟩ := hF s hEs
  refine va_gets hx hb f5 hS hown (hts (.fieldLink RJ0 38 "java/lang/String" "COMPACT_STRINGS" "Z") (an_mem_ok (by decide +kernel))) (fun _ h => h) dJ0_coder_7d493_0 ?_
  refine lv_if_eq (tgt := 13) hx hb dJ0_coder_7d493_3 rfl (fun q => absurd q (by decide)) (fun _ => ?_)
  refine lv_aload_n hx hb dJ0_coder_7d493_6 rfl (lv_at hl 0 rfl) ?_
  refine vk_getf hx hb f2 hS hown (hts (.fieldLink RJ0 15 "java/lang/String" "coder" "B") (an_mem_ok (by decide +kernel))) (fun _ h => h) dJ0_coder_7d493_7 ?_
  refine lv_goto (tgt := 14) hx hb dJ0_coder_7d493_10 rfl ?_
  exact W.zret (ty := .byte) hx hb hr rfl (fun t ht hW => ⟨rfl, ht⟩) (fun q h => nomatch h) dJ0_coder_7d493_14
set_option maxHeartbeats 4000000 in
set_option maxRecDepth 100000 in
theorem sj_lat (hEx : sj_x Ex) (hF : ∀ U, Ex U → st1 z a b n f U) (d : Nat) : sj_M l Ex nJ_lat d [.ref a] (some (.int 1)) := by
  refine am_ofW (cc := cJ0_isLatin1_aae02) (maxL := 1) (ret := some .boolean) (by decide) rfl ?_
  intro p e s m args below meth c s₁ B hml hv
  obtain ⟨rfl, hEs⟩ := hv
  have hx := B.exec
  have hb := B.bytes
  have hr := B.returns
  have hts0 := atoms_spec (ws := am_ws am_U nJ_lat) B.pre
  have hts : ∀ w ∈ am_U, w.before _ s = true := fun w h => hts0 w (List.mem_cons_of_mem _ h)
  have hown : s.vm.findClass RJ0 = some m.cls := findClass_of_methodNamed B.named
  have hlocks := B.notSynchronized
  have hS : va_S (fun q => z ≤ q) s.heap s.heap [] := va_S.rf
  have hEH : ∀ U : State, U.heap = s.heap → s.WarmedH U.vm → Ex U := fun U hU hW => hEx s U hEs hW hU
  have hbl : ∀ U V : State, Ex U → U.vm = V.vm → U.heap = V.heap → Ex V := fun U V h1 h2 h3 => hEx U V h1 (by rw [← h2]; exact State.WarmedH.refl U) h3.symm
  have hl := lv_entry ([.ref a]) (n := 1) (Nat.le_of_ble_eq_true rfl)
  rw [lg_entry_eq]
  generalize (lg_sl ([.ref a]) ++ List.replicate (1 - (lg_sl ([.ref a])).length) Slot.unset).toArray = ls at hl ⊢
  have hl : lv_has ls 1 [(0, .ref a)] := hl
  obtain ⟨f1, f2, f3, f4, f5, f6⟩ := hF s hEs
  refine va_gets hx hb f5 hS hown (hts (.fieldLink RJ0 38 "java/lang/String" "COMPACT_STRINGS" "Z") (an_mem_ok (by decide +kernel))) (fun _ h => h) dJ0_isLatin1_aae02_0 ?_
  refine lv_if_eq (tgt := 17) hx hb dJ0_isLatin1_aae02_3 rfl (fun q => absurd q (by decide)) (fun _ => ?_)
  refine lv_aload_n hx hb dJ0_isLatin1_aae02_6 rfl (lv_at hl 0 rfl) ?_
  refine vk_getf hx hb f2 hS hown (hts (.fieldLink RJ0 15 "java/lang/String" "coder" "B") (an_mem_ok (by decide +kernel))) (fun _ h => h) dJ0_isLatin1_aae02_7 ?_
  refine lv_if_ne (tgt := 17) hx hb dJ0_isLatin1_aae02_10 rfl (fun q => absurd rfl q) (fun _ => ?_)
  refine lv_iconst (v := 1) hx hb dJ0_isLatin1_aae02_13 (by decide) ?_
  refine lv_goto (tgt := 18) hx hb dJ0_isLatin1_aae02_14 rfl ?_
  exact W.zret (ty := .boolean) hx hb hr rfl (fun t ht hW => ⟨rfl, ht⟩) (fun q h => nomatch h) dJ0_isLatin1_aae02_18
theorem shr0 (x : Int32) : x >>> (0 &&& 31) = x := by
  rw [← Int32.toInt_inj]
  simp
set_option maxHeartbeats 4000000 in
set_option maxRecDepth 100000 in
theorem sj_len (hEx : sj_x Ex) (hF : ∀ U, Ex U → st1 z a b n f U) (d : Nat) : sj_M l Ex nJ_len (d + 1) [.ref a] (some (.int (nI n))) := by
  refine am_ofW (cc := cJ0_length_8abf5) (maxL := 1) (ret := some .int) (by decide) rfl ?_
  intro p e s m args below meth c s₁ B hml hv
  obtain ⟨rfl, hEs⟩ := hv
  have hx := B.exec
  have hb := B.bytes
  have hr := B.returns
  have hts0 := atoms_spec (ws := am_ws am_U nJ_len) B.pre
  have hts : ∀ w ∈ am_U, w.before _ s = true := fun w h => hts0 w (List.mem_cons_of_mem _ h)
  have hown : s.vm.findClass RJ0 = some m.cls := findClass_of_methodNamed B.named
  have hlocks := B.notSynchronized
  have hS : va_S (fun q => z ≤ q) s.heap s.heap [] := va_S.rf
  have hEH : ∀ U : State, U.heap = s.heap → s.WarmedH U.vm → Ex U := fun U hU hW => hEx s U hEs hW hU
  have hbl : ∀ U V : State, Ex U → U.vm = V.vm → U.heap = V.heap → Ex V := fun U V h1 h2 h3 => hEx U V h1 (by rw [← h2]; exact State.WarmedH.refl U) h3.symm
  have hl := lv_entry ([.ref a]) (n := 1) (Nat.le_of_ble_eq_true rfl)
  rw [lg_entry_eq]
  generalize (lg_sl ([.ref a]) ++ List.replicate (1 - (lg_sl ([.ref a])).length) Slot.unset).toArray = ls at hl ⊢
  have hl : lv_has ls 1 [(0, .ref a)] := hl
  obtain ⟨f1, f2, f3, f4, f5, f6⟩ := hF s hEs
  obtain ⟨cell, r1, r2, r3, -⟩ := id f1
  refine lv_aload_n hx hb dJ0_length_8abf5_0 rfl (lv_at hl 0 rfl) ?_
  refine vk_getf hx hb f3 hS hown (hts (.fieldLink RJ0 9 "java/lang/String" "value" "[B") (an_mem_ok (by decide +kernel))) (fun _ h => h) dJ0_length_8abf5_1 ?_
  refine va_tlen (v := nI n) hx hb f4 hS rfl dJ0_length_8abf5_4 ?_
  refine lv_aload_n hx hb dJ0_length_8abf5_5 rfl (lv_at hl 0 rfl) ?_
  refine sj_cV (nL := 1) (As := []) (rest := [.int (nI n)]) (d := d) hx hb hml hown hts hbl hEH kJ_cod ⟨cell, r1, r2, r3⟩ (sj_cod hEx hF d) (an_mem_ok (by decide +kernel)) (an_mem_ok (by decide +kernel)) (an_mem_ok (by decide +kernel)) (by decide +kernel) (Nat.le_refl _) (Nat.le_refl _) (Nat.le_refl _) (Nat.le_refl _) dJ0_length_8abf5_6 hl.1 (Nat.le_of_ble_eq_true rfl) ?_
  refine W.eq (g2 := F0 m 9 ls [.int 0, .int (nI n)]) rfl ?_
  refine lv_ishr hx hb dJ0_length_8abf5_9 ?_
  rw [shr0]
  exact W.iret hx hb hr (fun t ht hW => ⟨rfl, ht⟩) (fun q h => nomatch h) dJ0_length_8abf5_10
set_option maxHeartbeats 4000000 in
set_option maxRecDepth 100000 in
theorem sj_pre0 (hEx : sj_x Ex) (d : Nat) {i k : Int32} (h0 : ¬ i < 0) (h1 : i < k) : sj_M l Ex nJ_pre d [.int i, .int k, .null] (some (.int i)) := by
  refine am_ofW (cc := cJ3_checkIndex_8e157) (maxL := 3) (ret := some .int) (by decide) rfl ?_
  intro p e s m args below meth c s₁ B hml hv
  obtain ⟨rfl, hEs⟩ := hv
  have hx := B.exec
  have hb := B.bytes
  have hr := B.returns
  have hts0 := atoms_spec (ws := am_ws am_U nJ_pre) B.pre
  have hts : ∀ w ∈ am_U, w.before _ s = true := fun w h => hts0 w (List.mem_cons_of_mem _ h)
  have hown : s.vm.findClass RJ3 = some m.cls := findClass_of_methodNamed B.named
  have hlocks := B.notSynchronized
  have hEH : ∀ U : State, U.heap = s.heap → s.WarmedH U.vm → Ex U := fun U hU hW => hEx s U hEs hW hU
  have hbl : ∀ U V : State, Ex U → U.vm = V.vm → U.heap = V.heap → Ex V := fun U V h1 h2 h3 => hEx U V h1 (by rw [← h2]; exact State.WarmedH.refl U) h3.symm
  have hl := lv_entry ([.int i, .int k, .null]) (n := 3) (Nat.le_of_ble_eq_true rfl)
  rw [lg_entry_eq]
  generalize (lg_sl ([.int i, .int k, .null]) ++ List.replicate (3 - (lg_sl ([.int i, .int k, .null])).length) Slot.unset).toArray = ls at hl ⊢
  have hl : lv_has ls 3 [(0, .int i), (1, .int k), (2, .null)] := hl
  refine lv_iload_n hx hb dJ3_checkIndex_8e157_0 rfl (lv_at hl 0 rfl) ?_
  refine lv_if_lt (tgt := 9) hx hb dJ3_checkIndex_8e157_1 rfl (fun q => absurd q h0) (fun _ => ?_)
  refine lv_iload_n hx hb dJ3_checkIndex_8e157_4 rfl (lv_at hl 0 rfl) ?_
  refine lv_iload_n hx hb dJ3_checkIndex_8e157_5 rfl (lv_at hl 1 rfl) ?_
  refine lv_icmp_lt (tgt := 16) hx hb dJ3_checkIndex_8e157_6 rfl (fun _ => ?_) (fun q => absurd h1 q)
  refine lv_iload_n hx hb dJ3_checkIndex_8e157_16 rfl (lv_at hl 0 rfl) ?_
  exact W.iret hx hb hr (fun t ht hW => ⟨rfl, ht⟩) (fun q h => nomatch h) dJ3_checkIndex_8e157_17
set_option maxHeartbeats 4000000 in
set_option maxRecDepth 100000 in
theorem sj_preR (hEx : sj_x Ex) (d : Nat) {i k : Int32} (t : Nat) (h0 : ¬ i < 0) (h1 : i < k) : sj_M l Ex nJ_pre d [.int i, .int k, .ref t] (some (.int i)) := by
  refine am_ofW (cc := cJ3_checkIndex_8e157) (maxL := 3) (ret := some .int) (by decide) rfl ?_
  intro p e s m args below meth c s₁ B hml hv
  obtain ⟨rfl, hEs⟩ := hv
  have hx := B.exec
  have hb := B.bytes
  have hr := B.returns
  have hts0 := atoms_spec (ws := am_ws am_U nJ_pre) B.pre
  have hts : ∀ w ∈ am_U, w.before _ s = true := fun w h => hts0 w (List.mem_cons_of_mem _ h)
  have hown : s.vm.findClass RJ3 = some m.cls := findClass_of_methodNamed B.named
  have hlocks := B.notSynchronized
  have hEH : ∀ U : State, U.heap = s.heap → s.WarmedH U.vm → Ex U := fun U hU hW => hEx s U hEs hW hU
  have hbl : ∀ U V : State, Ex U → U.vm = V.vm → U.heap = V.heap → Ex V := fun U V h1 h2 h3 => hEx U V h1 (by rw [← h2]; exact State.WarmedH.refl U) h3.symm
  have hl := lv_entry ([.int i, .int k, .ref t]) (n := 3) (Nat.le_of_ble_eq_true rfl)
  rw [lg_entry_eq]
  generalize (lg_sl ([.int i, .int k, .ref t]) ++ List.replicate (3 - (lg_sl ([.int i, .int k, .ref t])).length) Slot.unset).toArray = ls at hl ⊢
  have hl : lv_has ls 3 [(0, .int i), (1, .int k), (2, .ref t)] := hl
  refine lv_iload_n hx hb dJ3_checkIndex_8e157_0 rfl (lv_at hl 0 rfl) ?_
  refine lv_if_lt (tgt := 9) hx hb dJ3_checkIndex_8e157_1 rfl (fun q => absurd q h0) (fun _ => ?_)
  refine lv_iload_n hx hb dJ3_checkIndex_8e157_4 rfl (lv_at hl 0 rfl) ?_
  refine lv_iload_n hx hb dJ3_checkIndex_8e157_5 rfl (lv_at hl 1 rfl) ?_
  refine lv_icmp_lt (tgt := 16) hx hb dJ3_checkIndex_8e157_6 rfl (fun _ => ?_) (fun q => absurd h1 q)
  refine lv_iload_n hx hb dJ3_checkIndex_8e157_16 rfl (lv_at hl 0 rfl) ?_
  exact W.iret hx hb hr (fun t ht hW => ⟨rfl, ht⟩) (fun q h => nomatch h) dJ3_checkIndex_8e157_17
set_option maxHeartbeats 4000000 in
set_option maxRecDepth 100000 in
theorem sj_chk (hEx : sj_x Ex) (hF : ∀ U, Ex U → st1 z a b n f U) (d : Nat) {i k : Int32} (h0 : ¬ i < 0) (h1 : i < k) : sj_M l Ex nJ_chk (d + 1) [.int i, .int k] none := by
  refine am_ofW (cc := cJ0_checkIndex_df160) (maxL := 2) (ret := none) (by decide) rfl ?_
  intro p e s m args below meth c s₁ B hml hv
  obtain ⟨rfl, hEs⟩ := hv
  have hx := B.exec
  have hb := B.bytes
  have hr := B.returns
  have hts0 := atoms_spec (ws := am_ws am_U nJ_chk) B.pre
  have hts : ∀ w ∈ am_U, w.before _ s = true := fun w h => hts0 w (List.mem_cons_of_mem _ h)
  have hown : s.vm.findClass RJ0 = some m.cls := findClass_of_methodNamed B.named
  have hlocks := B.notSynchronized
  have hS : va_S (fun q => z ≤ q) s.heap s.heap [] := va_S.rf
  have hEH : ∀ U : State, U.heap = s.heap → s.WarmedH U.vm → Ex U := fun U hU hW => hEx s U hEs hW hU
  have hbl : ∀ U V : State, Ex U → U.vm = V.vm → U.heap = V.heap → Ex V := fun U V h1 h2 h3 => hEx U V h1 (by rw [← h2]; exact State.WarmedH.refl U) h3.symm
  have hl := lv_entry ([.int i, .int k]) (n := 2) (Nat.le_of_ble_eq_true rfl)
  rw [lg_entry_eq]
  generalize (lg_sl ([.int i, .int k]) ++ List.replicate (2 - (lg_sl ([.int i, .int k])).length) Slot.unset).toArray = ls at hl ⊢
  have hl : lv_has ls 2 [(0, .int i), (1, .int k)] := hl
  obtain ⟨f1, f2, f3, f4, f5, f6⟩ := hF s hEs
  refine lv_iload_n hx hb dJ0_checkIndex_df160_0 rfl (lv_at hl 0 rfl) ?_
  refine lv_iload_n hx hb dJ0_checkIndex_df160_1 rfl (lv_at hl 1 rfl) ?_
  have tl : ∀ w : Value, sj_M l Ex nJ_pre d [.int i, .int k, w] (some (.int i)) → W p l e (headSpec (am_ws am_U nJ_chk) (am_rm (d + 1))).room s m ([Value.int i, Value.int k] : List Value).toArray below meth c s.heap [] 0 0 (MQ below (sj_Q none) ([Value.int i, Value.int k] : List Value).toArray s 0 0 (fun _ => False)) (F0 m 5 ls [w, .int k, .int i]) := by
    intro w M
    refine sj_cS (nL := 2) (As := [.int i, .int k, w]) (rest := []) (d := d) hx hb hml hown hts hbl hEH kJ_pre M (an_mem_ok (by decide +kernel)) (an_mem_ok (by decide +kernel)) pJ_pre (Nat.le_refl _) (Nat.le_refl _) (Nat.le_refl _) (Nat.le_refl _) dJ0_checkIndex_df160_5 hl.1 (Nat.le_of_ble_eq_true rfl) ?_
    refine W.eq (g2 := F0 m 8 ls [.int i]) rfl ?_
    refine lv_pop hx hb dJ0_checkIndex_df160_8 rfl ?_
    exact W.vret hx hb hr (fun t ht hW => ⟨rfl, ht⟩) (fun q h => nomatch h) dJ0_checkIndex_df160_9
  rcases f6 with f6 | ⟨t, f6⟩
  · exact va_gets hx hb f6 hS hown (hts (.fieldLink RJ0 1053 "jdk/internal/util/Preconditions" "SIOOBE_FORMATTER" "Ljava/util/function/BiFunction;") (an_mem_ok (by decide +kernel))) (fun _ h => h) dJ0_checkIndex_df160_2 (tl _ (sj_pre0 hEx d h0 h1))
  · exact va_gets hx hb f6 hS hown (hts (.fieldLink RJ0 1053 "jdk/internal/util/Preconditions" "SIOOBE_FORMATTER" "Ljava/util/function/BiFunction;") (an_mem_ok (by decide +kernel))) (fun _ h => h) dJ0_checkIndex_df160_2 (tl _ (sj_preR hEx d t h0 h1))
set_option maxHeartbeats 4000000 in
set_option maxRecDepth 100000 in
theorem sj_ch1 (hEx : sj_x Ex) (hF : ∀ U, Ex U → st1 z a b n f U) (d : Nat) {j : Nat} (hj : j < n) (hn : n < 1000) {g : Int32} (hg : ((f j &&& 255).toUInt32 % 65536).toInt32 = g) (hg2 : narrow .char (.int g) = .int g) : sj_M l Ex nJ_ch1 (d + 2) [.ref b, .int (nI j)] (some (.int g)) := by
  refine am_ofW (cc := cJ1_charAt_3b067) (maxL := 2) (ret := some .char) (by decide) rfl ?_
  intro p e s m args below meth c s₁ B hml hv
  obtain ⟨rfl, hEs⟩ := hv
  have hx := B.exec
  have hb := B.bytes
  have hr := B.returns
  have hts0 := atoms_spec (ws := am_ws am_U nJ_ch1) B.pre
  have hts : ∀ w ∈ am_U, w.before _ s = true := fun w h => hts0 w (List.mem_cons_of_mem _ h)
  have hown : s.vm.findClass RJ1 = some m.cls := findClass_of_methodNamed B.named
  have hlocks := B.notSynchronized
  have hS : va_S (fun q => z ≤ q) s.heap s.heap [] := va_S.rf
  have hEH : ∀ U : State, U.heap = s.heap → s.WarmedH U.vm → Ex U := fun U hU hW => hEx s U hEs hW hU
  have hbl : ∀ U V : State, Ex U → U.vm = V.vm → U.heap = V.heap → Ex V := fun U V h1 h2 h3 => hEx U V h1 (by rw [← h2]; exact State.WarmedH.refl U) h3.symm
  have hl := lv_entry ([.ref b, .int (nI j)]) (n := 2) (Nat.le_of_ble_eq_true rfl)
  rw [lg_entry_eq]
  generalize (lg_sl ([.ref b, .int (nI j)]) ++ List.replicate (2 - (lg_sl ([.ref b, .int (nI j)])).length) Slot.unset).toArray = ls at hl ⊢
  have hl : lv_has ls 2 [(0, .ref b), (1, .int (nI j))] := hl
  obtain ⟨f1, f2, f3, f4, f5, f6⟩ := hF s hEs
  have h0 : ¬ nI j < 0 := ni_nn (by omega)
  have h1 : nI j < nI n := (ni_lt (by omega) (by omega)).mpr hj
  refine lv_iload_n hx hb dJ1_charAt_3b067_0 rfl (lv_at hl 1 rfl) ?_
  refine lv_aload_n hx hb dJ1_charAt_3b067_1 rfl (lv_at hl 0 rfl) ?_
  refine va_tlen (v := nI n) hx hb f4 hS rfl dJ1_charAt_3b067_2 ?_
  refine sj_cS (nL := 2) (As := [.int (nI j), .int (nI n)]) (rest := []) (d := d + 1) hx hb hml hown hts hbl hEH kJ_chk (sj_chk hEx hF d h0 h1) (an_mem_ok (by decide +kernel)) (an_mem_ok (by decide +kernel)) pJ_chk (Nat.le_refl _) (Nat.le_refl _) (Nat.le_refl _) (Nat.le_refl _) dJ1_charAt_3b067_3 hl.1 (Nat.le_of_ble_eq_true rfl) ?_
  refine W.eq (g2 := F0 m 6 ls []) rfl ?_
  refine lv_aload_n hx hb dJ1_charAt_3b067_6 rfl (lv_at hl 0 rfl) ?_
  refine lv_iload_n hx hb dJ1_charAt_3b067_7 rfl (lv_at hl 1 rfl) ?_
  refine va_tb (v := .int (f j)) hx hb f4 hS (vp_in_nI hj (by omega)) (by rw [ni_nat (by omega)]) dJ1_charAt_3b067_8 ?_
  refine lv_sipush (v := 255) hx hb dJ1_charAt_3b067_9 (by decide) ?_
  refine lv_iand hx hb dJ1_charAt_3b067_12 ?_
  refine lv_i2c (v := g) hx hb dJ1_charAt_3b067_13 hg ?_
  exact W.zret (ty := .char) hx hb hr hg2 (fun t ht hW => ⟨rfl, ht⟩) (fun q h => nomatch h) dJ1_charAt_3b067_14
set_option maxHeartbeats 4000000 in
set_option maxRecDepth 100000 in
theorem sj_cha (hEx : sj_x Ex) (hF : ∀ U, Ex U → st1 z a b n f U) (d : Nat) {j : Nat} (hj : j < n) (hn : n < 1000) {g : Int32} (hg : ((f j &&& 255).toUInt32 % 65536).toInt32 = g) (hg2 : narrow .char (.int g) = .int g) : sj_M l Ex nJ_cha (d + 3) [.ref a, .int (nI j)] (some (.int g)) := by
  refine am_ofW (cc := cJ0_charAt_5068e) (maxL := 2) (ret := some .char) (by decide) rfl ?_
  intro p e s m args below meth c s₁ B hml hv
  obtain ⟨rfl, hEs⟩ := hv
  have hx := B.exec
  have hb := B.bytes
  have hr := B.returns
  have hts0 := atoms_spec (ws := am_ws am_U nJ_cha) B.pre
  have hts : ∀ w ∈ am_U, w.before _ s = true := fun w h => hts0 w (List.mem_cons_of_mem _ h)
  have hown : s.vm.findClass RJ0 = some m.cls := findClass_of_methodNamed B.named
  have hlocks := B.notSynchronized
  have hS : va_S (fun q => z ≤ q) s.heap s.heap [] := va_S.rf
  have hEH : ∀ U : State, U.heap = s.heap → s.WarmedH U.vm → Ex U := fun U hU hW => hEx s U hEs hW hU
  have hbl : ∀ U V : State, Ex U → U.vm = V.vm → U.heap = V.heap → Ex V := fun U V h1 h2 h3 => hEx U V h1 (by rw [← h2]; exact State.WarmedH.refl U) h3.symm
  have hl := lv_entry ([.ref a, .int (nI j)]) (n := 2) (Nat.le_of_ble_eq_true rfl)
  rw [lg_entry_eq]
  generalize (lg_sl ([.ref a, .int (nI j)]) ++ List.replicate (2 - (lg_sl ([.ref a, .int (nI j)])).length) Slot.unset).toArray = ls at hl ⊢
  have hl : lv_has ls 2 [(0, .ref a), (1, .int (nI j))] := hl
  obtain ⟨f1, f2, f3, f4, f5, f6⟩ := hF s hEs
  obtain ⟨cell, r1, r2, r3, -⟩ := id f1
  refine lv_aload_n hx hb dJ0_charAt_5068e_0 rfl (lv_at hl 0 rfl) ?_
  refine sj_cV (nL := 2) (As := []) (rest := []) (d := d + 2) hx hb hml hown hts hbl hEH kJ_lat ⟨cell, r1, r2, r3⟩ (sj_lat hEx hF (d + 2)) (an_mem_ok (by decide +kernel)) (an_mem_ok (by decide +kernel)) (an_mem_ok (by decide +kernel)) (by decide +kernel) (Nat.le_refl _) (Nat.le_refl _) (Nat.le_refl _) (Nat.le_refl _) dJ0_charAt_5068e_1 hl.1 (Nat.le_of_ble_eq_true rfl) ?_
  refine W.eq (g2 := F0 m 4 ls [.int 1]) rfl ?_
  refine lv_if_eq (tgt := 16) hx hb dJ0_charAt_5068e_4 rfl (fun q => absurd q (by decide)) (fun _ => ?_)
  refine lv_aload_n hx hb dJ0_charAt_5068e_7 rfl (lv_at hl 0 rfl) ?_
  refine vk_getf hx hb f3 hS hown (hts (.fieldLink RJ0 9 "java/lang/String" "value" "[B") (an_mem_ok (by decide +kernel))) (fun _ h => h) dJ0_charAt_5068e_8 ?_
  refine lv_iload_n hx hb dJ0_charAt_5068e_11 rfl (lv_at hl 1 rfl) ?_
  refine sj_cS (nL := 2) (As := [.ref b, .int (nI j)]) (rest := []) (d := d + 2) hx hb hml hown hts hbl hEH kJ_ch1 (sj_ch1 hEx hF d hj hn hg hg2) (an_mem_ok (by decide +kernel)) (an_mem_ok (by decide +kernel)) pJ_ch1 (Nat.le_refl _) (Nat.le_refl _) (Nat.le_refl _) (Nat.le_refl _) dJ0_charAt_5068e_12 hl.1 (Nat.le_of_ble_eq_true rfl) ?_
  refine W.eq (g2 := F0 m 15 ls [.int g]) rfl ?_
  exact W.zret (ty := .char) hx hb hr hg2 (fun t ht hW => ⟨rfl, ht⟩) (fun q h => nomatch h) dJ0_charAt_5068e_15
end SJM
