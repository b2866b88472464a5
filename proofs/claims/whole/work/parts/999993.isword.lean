/-! ===== isWord ===== -/
theorem w88g {ext : Nat → List Value → am_M → Option am_R} {d : Nat} {P : am_R → Prop} (I : Nat → Nat → Int32) (L : Nat → Nat → Int64) (D : Nat → Nat → UInt64) (X : Nat → Nat → Option Nat) (v1 : Int32)
    (h : ((v1 < 0 → (P (some (.int 0), (I, L, D, X)))) ∧ (¬ v1 < 0 → (((500 ≤ v1 → (P (some (.int 0), (I, L, D, X)))) ∧ (¬ 500 ≤ v1 → (am_inb v1 500 = true ∧ (P (some (.int (I 1 (Int32.toNatClampNeg v1))), (I, L, D, X)))))))))) : am_wp ext d mz_88 (0, [some (.ref 1), some (.int v1)], [], (I, L, D, X)) P := by
  refine am_wpb (c' := (1, [some (.ref 1), some (.int v1)], [.int v1], (I, L, D, X))) 1 rfl ?_
  refine am_b1_lt rfl (fun z => ?_) (fun z => ?_)
  · replace h := h.1 z
    refine am_wpb (c' := (17, [some (.ref 1), some (.int v1)], [.int 0], (I, L, D, X))) 1 rfl ?_
    exact am_ret_i rfl rfl h
  · replace h := h.2 z
    refine am_wpb (c' := (7, [some (.ref 1), some (.int v1)], [.int 500, .int v1], (I, L, D, X))) 3 rfl ?_
    refine am_b2_ge rfl (fun z => ?_) (fun z => ?_)
    · replace h := h.1 z
      refine am_wpb (c' := (17, [some (.ref 1), some (.int v1)], [.int 0], (I, L, D, X))) 1 rfl ?_
      exact am_ret_i rfl rfl h
    · replace h := h.2 z
      refine am_wpb (c' := (12, [some (.ref 1), some (.int v1)], [.int v1, .ref 1], (I, L, D, X))) 2 rfl ?_
      obtain ⟨o, h⟩ := h
      refine am_wps (c' := (13, [some (.ref 1), some (.int v1)], [.int (I 1 (Int32.toNatClampNeg v1))], (I, L, D, X))) rfl rfl (am_s_iald rfl o) ?_
      refine am_wpb (c' := (17, [some (.ref 1), some (.int v1)], [.int (I 1 (Int32.toNatClampNeg v1))], (I, L, D, X))) 1 rfl ?_
      exact am_ret_i rfl rfl h
theorem c88g {ext : Nat → List Value → am_M → Option am_R} {d : Nat} (L : Nat → Nat → Int64) (D : Nat → Nat → UInt64) (X : Nat → Nat → Option Nat) (I : Nat → Nat → Int32) {p : Nat} (hp : p < 500) : am_Rn ext (d + 1) 88 [.ref 1, .int (nI p)] (I, L, D, X) (some (.int (I 1 p)), (I, L, D, X)) := by
  refine am_rn_of mh_88 rfl (w88g I L D X (nI p) ⟨fun h => absurd h (ni_nn (by omega)), fun _ => ⟨fun h => ?_, fun _ => ⟨ni_inb hp (by omega), ?_⟩⟩⟩)
  · rw [show (500 : Int32) = nI 500 from rfl, ni_le (by omega) (by omega)] at h
    omega
  · rw [ni_nat (by omega)]
def nX_isw : am_N := (yX6_isWord, cX6_isWord, 5, some .boolean)
theorem kX_isw : sj_k nX_isw := ⟨by decide, an_mem_ok (by decide +kernel), an_mem_ok (by decide +kernel), by decide, by decide⟩
theorem pJ_len : (parseMethodDescriptor nJ_len.1.desc).map (fun d => d.parameters.length) = some 0 := by decide +kernel
theorem pJ_cha : (parseMethodDescriptor nJ_cha.1.desc).map (fun d => d.parameters.length) = some 1 := by decide +kernel
/-- the bytes of a word are letters -/
def wd_ok (w : List Int32) : Prop := w.length < 100 ∧ ∀ j, j < w.length → ((w.getD j 0 &&& 255).toUInt32 % 65536).toInt32 = w.getD j 0 ∧ narrow .char (.int (w.getD j 0)) = .int (w.getD j 0)
theorem isw_len {f : Nat → Int32} {s e : Nat} {w : List Int32} (h : ¬ e = s + w.length) : pu_isw f s e w = false := by
  unfold pu_isw
  rw [decide_eq_false h]
  rfl
theorem isw_no {f : Nat → Int32} {s e j : Nat} {w : List Int32} (hj : j < w.length) (h : ¬ f (s + j) = w.getD j 0) : pu_isw f s e w = false := by
  unfold pu_isw
  rw [Bool.and_eq_false_iff]
  right
  rw [List.all_eq_false]
  exact ⟨j, List.mem_range.mpr hj, by rw [decide_eq_false h]; decide⟩
theorem isw_yes {f : Nat → Int32} {s e : Nat} {w : List Int32} (h : e = s + w.length) (g : ∀ j, j < w.length → f (s + j) = w.getD j 0) : pu_isw f s e w = true := by
  unfold pu_isw
  rw [Bool.and_eq_true]
  refine ⟨decide_eq_true h, ?_⟩
  rw [List.all_eq_true]
  intro j hj
  exact decide_eq_true (g j (List.mem_range.mp hj))
section ISW
variable {l : Launch} {D : va_G} {cy : Nat → ClassId} {ad : Nat → Nat} {Ex : State → Prop} {z b k : Nat} {w : List Int32}
set_option maxHeartbeats 4000000 in
set_option maxRecDepth 100000 in
theorem m_isw (hE : am_Exh ad am_SH.length Ex) (hz : ∀ j, j < am_SH.length → z ≤ ad j) (hF : ∀ U, Ex U → z ≤ U.heap.size ∧ st1 z (ad k) b w.length (fun j => w.getD j 0) U) (hw : wd_ok w) (d : Nat) {s0 e0 : Nat} (hs : s0 ≤ e0) (he : e0 ≤ 500) (I : Nat → Nat → Int32) (L0 : Nat → Nat → Int64) (D0 : Nat → Nat → UInt64) (X : Nat → Nat → Option Nat) :
    am_Mt l D am_cl cy ad am_SH Ex am_U nX_isw (d + 4) [.ref 1, .int (nI s0), .int (nI e0), .ref k] (I, L0, D0, X) (some (.int (if pu_isw (I 1) s0 e0 w then 1 else 0)), (I, L0, D0, X)) := by
  intro sz
  refine am_ofW (cc := cX6_isWord) (maxL := 5) (ret := some .boolean) (by decide) rfl ?_
  intro p e s m args below meth c s₁ B hml hv
  obtain ⟨rfl, hsz, hP, hK, hD, hEs⟩ := hv
  have hx := B.exec
  have hb := B.bytes
  have hr := B.returns
  have hts0 := atoms_spec (ws := am_ws am_U nX_isw) B.pre
  have hts : ∀ w ∈ am_U, w.before _ s = true := fun w h => hts0 w (List.mem_cons_of_mem _ h)
  have hown : s.vm.findClass "SureSums$Tokens" = some m.cls := findClass_of_methodNamed B.named
  have hlocks := B.notSynchronized
  subst hsz
  have C : ag_C p s m _ c cX6_isWord 5 "SureSums$Tokens" D cy ad Ex := ⟨hx, hb, hml, hown, hts, hK, hE, hEs⟩
  have hEx : sj_x Ex := fun U V h1 h2 h3 => hE U V h1 h2 (by rw [h3]; exact Nat.le_refl _) (fun q _ _ => by rw [h3])
  have hF' : ∀ U, Ex U → st1 z (ad k) b w.length (fun j => w.getD j 0) U := fun U h => (hF U h).2
  obtain ⟨hzs, f1, -⟩ := hF s hEs
  have hrc : ∀ H locs, va_S (am_A ad am_SH.length s.heap.size) s.heap H locs → ∃ cell : Cell, H[ad k]? = some cell ∧ cell.vm.isStatics = false ∧ s.vm.findClass "java/lang/String" = some cell.cls := by
    intro H locs hS
    obtain ⟨cell, r1, r2, r3, r4⟩ := id f1
    refine ⟨cell, ?_, r2, r3⟩
    have hlt : ad k < s.heap.size := (Array.getElem?_eq_some_iff.mp r1).1
    rw [hS.2.1 (ad k) hlt (fun q => by
      rcases q with ⟨j, hj, q⟩ | q
      · exact r4 (by rw [q]; exact hz j hj)
      · omega)]
    exact r1
  have fin : ∀ (v : Int32) (pc : Nat) (ls : List (Option Value)), (v = 0 ∨ v = 1) → (if pu_isw (I 1) s0 e0 w then (1 : Int32) else 0) = v → decode cX6_isWord pc = .ok (.ireturn, 1) → ag_W p l e (am_rm (d + 4)) s m ([Value.ref 1, .int (nI s0), .int (nI e0), .ref k].map (am_cv ad)).toArray below meth c (MQ below (am_Qc D am_cl cy ad am_SH s.heap.size (some (.int (if pu_isw (I 1) s0 e0 w then 1 else 0)), (I, L0, D0, X))) ([Value.ref 1, .int (nI s0), .int (nI e0), .ref k].map (am_cv ad)).toArray s 0 0 (am_A ad am_SH.length s.heap.size)) 5 D cy ad (pc, ls, [.int v], (I, L0, D0, X)) := by
    intro v pc ls h01 hv hd H locs L hP hD hS hl hnl
    refine W.zret (ty := .boolean) hx hb hr ?_ (fun t ht hW => ⟨?_, by rw [ht]; exact hP, hS.F ht⟩) hS.2.2 hd
    · rcases h01 with rfl | rfl <;> rfl
    · rw [hv]; rfl
  have go : ag_W p l e (am_rm (d + 4)) s m ([Value.ref 1, .int (nI s0), .int (nI e0), .ref k].map (am_cv ad)).toArray below meth c (MQ below (am_Qc D am_cl cy ad am_SH s.heap.size (some (.int (if pu_isw (I 1) s0 e0 w then 1 else 0)), (I, L0, D0, X))) ([Value.ref 1, .int (nI s0), .int (nI e0), .ref k].map (am_cv ad)).toArray s 0 0 (am_A ad am_SH.length s.heap.size)) 5 D cy ad (0, [some (.ref 1), some (.int (nI s0)), some (.int (nI e0)), some (.ref k), none], [], (I, L0, D0, X)) := by
    have hwl := hw.1
    have esub : nI e0 - nI s0 = nI (e0 - s0) := ni_sub hs (by omega)
    refine ag_b C so_isWord (x' := (4, [some (.ref 1), some (.int (nI s0)), some (.int (nI e0)), some (.ref k), none], [.ref k, .int (nI e0 - nI s0)], (I, L0, D0, X))) 4 rfl ?_
    refine ag_sV C (nm := nJ_len) (d := d + 1) (as := []) kJ_len hrc rfl rfl (sj_len hEx hF' d) (an_mem_ok (by decide +kernel)) (an_mem_ok (by decide +kernel)) (an_mem_ok (by decide +kernel)) pJ_len (by show d + 1 + 1 ≤ d + 4; omega) (by show 64 * (d + 1 + 1) ≤ 64 * (d + 4); omega) dX6_isWord_4 (Nat.le_of_ble_eq_true rfl) ?_
    refine ag_ieq C so_isWord (pc := 7) (t := 12) rfl (fun q => ?_) (fun q => ?_)
    · rw [esub] at q
      have el : e0 - s0 = w.length := (ni_eq (by omega) (by omega)).mp q
      have ee : e0 = s0 + w.length := by omega
      refine ag_b C so_isWord (x' := (15, [some (.ref 1), some (.int (nI s0)), some (.int (nI e0)), some (.ref k), some (.int (nI 0))], [], (I, L0, D0, X))) 2 rfl ?_
      have loop : ∀ (r j : Nat), j + r = w.length → (∀ i, i < j → I 1 (s0 + i) = w.getD i 0) → ag_W p l e (am_rm (d + 4)) s m ([Value.ref 1, .int (nI s0), .int (nI e0), .ref k].map (am_cv ad)).toArray below meth c (MQ below (am_Qc D am_cl cy ad am_SH s.heap.size (some (.int (if pu_isw (I 1) s0 e0 w then 1 else 0)), (I, L0, D0, X))) ([Value.ref 1, .int (nI s0), .int (nI e0), .ref k].map (am_cv ad)).toArray s 0 0 (am_A ad am_SH.length s.heap.size)) 5 D cy ad (15, [some (.ref 1), some (.int (nI s0)), some (.int (nI e0)), some (.ref k), some (.int (nI j))], [], (I, L0, D0, X)) := by
        intro r
        induction r with
        | zero =>
          intro j hj hm
          refine ag_b C so_isWord (x' := (18, [some (.ref 1), some (.int (nI s0)), some (.int (nI e0)), some (.ref k), some (.int (nI j))], [.ref k, .int (nI j)], (I, L0, D0, X))) 2 rfl ?_
          refine ag_sV C (nm := nJ_len) (d := d + 1) (as := []) kJ_len hrc rfl rfl (sj_len hEx hF' d) (an_mem_ok (by decide +kernel)) (an_mem_ok (by decide +kernel)) (an_mem_ok (by decide +kernel)) pJ_len (by show d + 1 + 1 ≤ d + 4; omega) (by show 64 * (d + 1 + 1) ≤ 64 * (d + 4); omega) dX6_isWord_18 (Nat.le_of_ble_eq_true rfl) ?_
          refine ag_ige C so_isWord (pc := 21) (t := 49) rfl (fun _ => ?_) (fun q => absurd ((ni_le (by omega) (by omega)).mpr (by omega)) q)
          refine ag_b C so_isWord (x' := (50, [some (.ref 1), some (.int (nI s0)), some (.int (nI e0)), some (.ref k), some (.int (nI j))], [.int 1], (I, L0, D0, X))) 1 rfl ?_
          exact fin 1 50 _ (Or.inr rfl) (by rw [isw_yes ee (fun i hi => hm i (by omega))]; rfl) dX6_isWord_50
        | succ r ih =>
          intro j hj hm
          have hjl : j < w.length := by omega
          obtain ⟨g1, g2⟩ := hw.2 j hjl
          refine ag_b C so_isWord (x' := (18, [some (.ref 1), some (.int (nI s0)), some (.int (nI e0)), some (.ref k), some (.int (nI j))], [.ref k, .int (nI j)], (I, L0, D0, X))) 2 rfl ?_
          refine ag_sV C (nm := nJ_len) (d := d + 1) (as := []) kJ_len hrc rfl rfl (sj_len hEx hF' d) (an_mem_ok (by decide +kernel)) (an_mem_ok (by decide +kernel)) (an_mem_ok (by decide +kernel)) pJ_len (by show d + 1 + 1 ≤ d + 4; omega) (by show 64 * (d + 1 + 1) ≤ 64 * (d + 4); omega) dX6_isWord_18 (Nat.le_of_ble_eq_true rfl) ?_
          refine ag_ige C so_isWord (pc := 21) (t := 49) rfl (fun q => absurd ((ni_le (by omega) (by omega)).mp q) (by omega)) (fun _ => ?_)
          refine ag_b C so_isWord (x' := (29, [some (.ref 1), some (.int (nI s0)), some (.int (nI e0)), some (.ref k), some (.int (nI j))], [.int (nI s0 + nI j), .ref 1], (I, L0, D0, X))) 4 rfl ?_
          rw [ni_add (by omega)]
          refine ag_c C sn_isWord (pc := 29) (d0 := 1) (as := [.ref 1, .int (nI (s0 + j))]) rfl rfl rfl (c88g (d := 0) (ext := fun _ _ _ => none) L0 D0 X I (show s0 + j < 500 by omega)) (by show 1 + 1 ≤ d + 4; omega) (by show 64 * (1 + 1) ≤ 64 * (d + 4); omega) ?_
          show ag_W p l e (am_rm (d + 4)) s m _ below meth c _ 5 D cy ad (32, [some (.ref 1), some (.int (nI s0)), some (.int (nI e0)), some (.ref k), some (.int (nI j))], [.int (I 1 (s0 + j))], (I, L0, D0, X))
          refine ag_b C so_isWord (x' := (35, [some (.ref 1), some (.int (nI s0)), some (.int (nI e0)), some (.ref k), some (.int (nI j))], [.int (nI j), .ref k, .int (I 1 (s0 + j))], (I, L0, D0, X))) 2 rfl ?_
          refine ag_sV C (nm := nJ_cha) (d := d + 3) (as := [.int (nI j)]) kJ_cha hrc rfl rfl (sj_cha hEx hF' d hjl (by omega) g1 g2) (an_mem_ok (by decide +kernel)) (an_mem_ok (by decide +kernel)) (an_mem_ok (by decide +kernel)) pJ_cha (Nat.le_refl _) (Nat.le_refl _) dX6_isWord_35 (Nat.le_of_ble_eq_true rfl) ?_
          refine ag_ieq C so_isWord (pc := 38) (t := 43) rfl (fun q => ?_) (fun q => ?_)
          · refine ag_b C so_isWord (x' := (15, [some (.ref 1), some (.int (nI s0)), some (.int (nI e0)), some (.ref k), some (.int (nI j + 1))], [], (I, L0, D0, X))) 2 rfl ?_
            rw [show (1 : Int32) = nI 1 from rfl, ni_add (by omega)]
            exact ih (j + 1) (by omega) (fun i hi => by
              by_cases hij : i = j
              · subst hij; exact q
              · exact hm i (by omega))
          · refine ag_b C so_isWord (x' := (42, [some (.ref 1), some (.int (nI s0)), some (.int (nI e0)), some (.ref k), some (.int (nI j))], [.int 0], (I, L0, D0, X))) 1 rfl ?_
            exact fin 0 42 _ (Or.inl rfl) (by rw [isw_no hjl q]; rfl) dX6_isWord_42
      exact loop w.length 0 (by omega) (fun i hi => by omega)
    · rw [esub] at q
      refine ag_b C so_isWord (x' := (11, [some (.ref 1), some (.int (nI s0)), some (.int (nI e0)), some (.ref k), none], [.int 0], (I, L0, D0, X))) 1 rfl ?_
      exact fin 0 11 _ (Or.inl rfl) (by rw [isw_len (fun h => q (by congr 1; omega))]; rfl) dX6_isWord_11
  have hl := lv_entry ([Value.ref 1, .int (nI s0), .int (nI e0), .ref k].map (am_cv ad)) (n := 5) (Nat.le_of_ble_eq_true rfl)
  rw [lg_entry_eq]
  generalize (lg_sl ([Value.ref 1, .int (nI s0), .int (nI e0), .ref k].map (am_cv ad)) ++ List.replicate (5 - (lg_sl ([Value.ref 1, .int (nI s0), .int (nI e0), .ref k].map (am_cv ad))).length) Slot.unset).toArray = ls at hl ⊢
  exact go s.heap [] ls hP hD va_S.rf hl rfl
end ISW
