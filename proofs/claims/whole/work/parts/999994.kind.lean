/-! ===== overKind, wordKind ===== -/
def nX_ovk : am_N := (yX6_overKind, cX6_overKind, 3, some .int)
def nX_wdk : am_N := (yX6_wordKind, cX6_wordKind, 3, some .int)
theorem kX_ovk : sj_k nX_ovk := ⟨by decide, an_mem_ok (by decide +kernel), an_mem_ok (by decide +kernel), by decide, by decide⟩
theorem pX_isw : (parseMethodDescriptor nX_isw.1.desc).map (fun d => d.parameters.length) = some 4 := by decide +kernel
theorem pX_ovk : (parseMethodDescriptor nX_ovk.1.desc).map (fun d => d.parameters.length) = some 3 := by decide +kernel
def wd_at (i : Nat) : List Int32 := pu_words.getD i []
def wd_ix (i : Nat) : Nat := [59, 65, 67, 69, 71, 73, 74, 79, 81, 83, 85].getD i 0
def wd_tx (i : Nat) : String := ["let", "fun", "sqrt", "abs", "max", "min", "if", "nought", "area", "most", "least"].getD i ""
theorem wd_oks : ∀ i, i < 11 → wd_ok (wd_at i) := by
  have h : ∀ i, i < 11 → (wd_at i).length < 100 ∧ ∀ j, j < (wd_at i).length → (((wd_at i).getD j 0 &&& 255).toUInt32 % 65536).toInt32 = (wd_at i).getD j 0 ∧ narrow .char (.int ((wd_at i).getD j 0)) = .int ((wd_at i).getD j 0) := by decide +kernel
  exact h
theorem wk_y {f : Nat → Int32} {s e k : Nat} {w : List Int32} {ws : List (List Int32)} (h : pu_isw f s e w = true) : pu_wk f s e (w :: ws) k = k := by
  rw [pu_wk, if_pos h]
theorem wk_n {f : Nat → Int32} {s e k : Nat} {w : List Int32} {ws : List (List Int32)} (h : pu_isw f s e w = false) : pu_wk f s e (w :: ws) k = pu_wk f s e ws (k + 1) := by
  rw [pu_wk, if_neg (by rw [h]; decide)]
theorem isw_f {b : Bool} (h : (if b = true then (1 : Int32) else 0) = 0) : b = false := by
  cases b with
  | false => rfl
  | true => exact absurd h (by decide)
theorem isw_t {b : Bool} (h : ¬ (if b = true then (1 : Int32) else 0) = 0) : b = true := by
  cases b with
  | false => exact absurd rfl h
  | true => rfl
/-- the words' strings stand -/
def sx_w (z : Nat) (ad adV : Nat → Nat) (U : State) : Prop := z ≤ U.heap.size ∧ ∀ i, i < 11 → st1 z (ad (100 + i)) (adV i) (wd_at i).length (fun j => (wd_at i).getD j 0) U ∧ vk_R "SureSums$Tokens" (wd_ix i) (wd_tx i) (ad (100 + i)) U
section KIND
variable {l : Launch} {D : va_G} {cy : Nat → ClassId} {ad adV : Nat → Nat} {Ex : State → Prop} {z : Nat}
set_option maxHeartbeats 4000000 in
set_option maxRecDepth 100000 in
theorem m_ovk (hE : am_Exh ad am_SH.length Ex) (hz : ∀ j, j < am_SH.length → z ≤ ad j) (hX : ∀ U, Ex U → sx_w z ad adV U) (d : Nat) {s0 e0 : Nat} (hs : s0 ≤ e0) (he : e0 ≤ 500) (I : Nat → Nat → Int32) (L0 : Nat → Nat → Int64) (D0 : Nat → Nat → UInt64) (X : Nat → Nat → Option Nat) :
    am_Mt l D am_cl cy ad am_SH Ex am_U nX_ovk (d + 5) [.ref 1, .int (nI s0), .int (nI e0)] (I, L0, D0, X) (some (.int (nI (pu_wk (I 1) s0 e0 (pu_words.drop 7) 11))), (I, L0, D0, X)) := by
  intro sz
  refine am_ofW (cc := cX6_overKind) (maxL := 3) (ret := some .int) (by decide) rfl ?_
  intro p e s m args below meth c s₁ B hml hv
  obtain ⟨rfl, hsz, hP, hK, hD, hEs⟩ := hv
  have hx := B.exec
  have hb := B.bytes
  have hr := B.returns
  have hts0 := atoms_spec (ws := am_ws am_U nX_ovk) B.pre
  have hts : ∀ w ∈ am_U, w.before _ s = true := fun w h => hts0 w (List.mem_cons_of_mem _ h)
  have hown : s.vm.findClass "SureSums$Tokens" = some m.cls := findClass_of_methodNamed B.named
  have hlocks := B.notSynchronized
  subst hsz
  have C : ag_C p s m _ c cX6_overKind 3 "SureSums$Tokens" D cy ad Ex := ⟨hx, hb, hml, hown, hts, hK, hE, hEs⟩
  have hF : ∀ i, i < 11 → ∀ U, Ex U → z ≤ U.heap.size ∧ st1 z (ad (100 + i)) (adV i) (wd_at i).length (fun j => (wd_at i).getD j 0) U := fun i hi U h => ⟨(hX U h).1, ((hX U h).2 i hi).1⟩
  have hR := fun i hi => ((hX s hEs).2 i hi).2
  have fin : ∀ (v : Int32) (pc : Nat), nI (pu_wk (I 1) s0 e0 (pu_words.drop 7) 11) = v → decode cX6_overKind pc = .ok (.ireturn, 1) → ag_W p l e (am_rm (d + 5)) s m ([Value.ref 1, .int (nI s0), .int (nI e0)].map (am_cv ad)).toArray below meth c (MQ below (am_Qc D am_cl cy ad am_SH s.heap.size (some (.int (nI (pu_wk (I 1) s0 e0 (pu_words.drop 7) 11))), (I, L0, D0, X))) ([Value.ref 1, .int (nI s0), .int (nI e0)].map (am_cv ad)).toArray s 0 0 (am_A ad am_SH.length s.heap.size)) 3 D cy ad (pc, [some (.ref 1), some (.int (nI s0)), some (.int (nI e0))], [.int v], (I, L0, D0, X)) := by
    intro v pc hv hd H locs L hP hD hS hl hnl
    refine W.iret hx hb hr (fun t ht hW => ⟨?_, by rw [ht]; exact hP, hS.F ht⟩) hS.2.2 hd
    rw [hv]; rfl
  have go : ag_W p l e (am_rm (d + 5)) s m ([Value.ref 1, .int (nI s0), .int (nI e0)].map (am_cv ad)).toArray below meth c (MQ below (am_Qc D am_cl cy ad am_SH s.heap.size (some (.int (nI (pu_wk (I 1) s0 e0 (pu_words.drop 7) 11))), (I, L0, D0, X))) ([Value.ref 1, .int (nI s0), .int (nI e0)].map (am_cv ad)).toArray s 0 0 (am_A ad am_SH.length s.heap.size)) 3 D cy ad (0, [some (.ref 1), some (.int (nI s0)), some (.int (nI e0))], [], (I, L0, D0, X)) := by
    have h7 : pu_wk (I 1) s0 e0 (pu_words.drop 7) 11 = pu_wk (I 1) s0 e0 [wd_at 7, wd_at 8, wd_at 9, wd_at 10] 11 := rfl
    refine ag_b C so_overKind (x' := (3, [some (.ref 1), some (.int (nI s0)), some (.int (nI e0))], [.int (nI e0), .int (nI s0), .ref 1], (I, L0, D0, X))) 3 rfl ?_
    refine ag_ldc C (k := 100 + 7) (hR 7 (by decide)) dX6_overKind_3 ?_
    refine ag_cS C (nm := nX_isw) (d := d + 4) (as := [.ref 1, .int (nI s0), .int (nI e0), .ref (100 + 7)]) (st := []) kX_isw (m_isw hE hz (hF 7 (by decide)) (wd_oks 7 (by decide)) d hs he I L0 D0 X) (an_mem_ok (by decide +kernel)) (an_mem_ok (by decide +kernel)) pX_isw (by show d + 4 + 1 ≤ d + 5; omega) (by show 64 * (d + 4 + 1) ≤ 64 * (d + 5); omega) dX6_overKind_5 (Nat.le_of_ble_eq_true rfl) ?_
    refine ag_z C so_overKind (pc := 8) (t := 14) rfl (fun q => ?_) (fun q => ?_)
    case refine_2 =>
      have ht := isw_t q
      refine ag_b C so_overKind (x' := (13, [some (.ref 1), some (.int (nI s0)), some (.int (nI e0))], [.int 11], (I, L0, D0, X))) 1 rfl ?_
      exact fin 11 13 (by rw [h7, wk_y ht]; rfl) dX6_overKind_13
    have h8 := h7.trans (wk_n (isw_f q))
    refine ag_b C so_overKind (x' := (17, [some (.ref 1), some (.int (nI s0)), some (.int (nI e0))], [.int (nI e0), .int (nI s0), .ref 1], (I, L0, D0, X))) 3 rfl ?_
    refine ag_ldc C (k := 100 + 8) (hR 8 (by decide)) dX6_overKind_17 ?_
    refine ag_cS C (nm := nX_isw) (d := d + 4) (as := [.ref 1, .int (nI s0), .int (nI e0), .ref (100 + 8)]) (st := []) kX_isw (m_isw hE hz (hF 8 (by decide)) (wd_oks 8 (by decide)) d hs he I L0 D0 X) (an_mem_ok (by decide +kernel)) (an_mem_ok (by decide +kernel)) pX_isw (by show d + 4 + 1 ≤ d + 5; omega) (by show 64 * (d + 4 + 1) ≤ 64 * (d + 5); omega) dX6_overKind_19 (Nat.le_of_ble_eq_true rfl) ?_
    refine ag_z C so_overKind (pc := 22) (t := 28) rfl (fun q => ?_) (fun q => ?_)
    case refine_2 =>
      have ht := isw_t q
      refine ag_b C so_overKind (x' := (27, [some (.ref 1), some (.int (nI s0)), some (.int (nI e0))], [.int 12], (I, L0, D0, X))) 1 rfl ?_
      exact fin 12 27 (by rw [h8, wk_y ht]; rfl) dX6_overKind_27
    have h9 := h8.trans (wk_n (isw_f q))
    refine ag_b C so_overKind (x' := (31, [some (.ref 1), some (.int (nI s0)), some (.int (nI e0))], [.int (nI e0), .int (nI s0), .ref 1], (I, L0, D0, X))) 3 rfl ?_
    refine ag_ldc C (k := 100 + 9) (hR 9 (by decide)) dX6_overKind_31 ?_
    refine ag_cS C (nm := nX_isw) (d := d + 4) (as := [.ref 1, .int (nI s0), .int (nI e0), .ref (100 + 9)]) (st := []) kX_isw (m_isw hE hz (hF 9 (by decide)) (wd_oks 9 (by decide)) d hs he I L0 D0 X) (an_mem_ok (by decide +kernel)) (an_mem_ok (by decide +kernel)) pX_isw (by show d + 4 + 1 ≤ d + 5; omega) (by show 64 * (d + 4 + 1) ≤ 64 * (d + 5); omega) dX6_overKind_33 (Nat.le_of_ble_eq_true rfl) ?_
    refine ag_z C so_overKind (pc := 36) (t := 42) rfl (fun q => ?_) (fun q => ?_)
    case refine_2 =>
      have ht := isw_t q
      refine ag_b C so_overKind (x' := (41, [some (.ref 1), some (.int (nI s0)), some (.int (nI e0))], [.int 13], (I, L0, D0, X))) 1 rfl ?_
      exact fin 13 41 (by rw [h9, wk_y ht]; rfl) dX6_overKind_41
    have h10 := h9.trans (wk_n (isw_f q))
    refine ag_b C so_overKind (x' := (45, [some (.ref 1), some (.int (nI s0)), some (.int (nI e0))], [.int (nI e0), .int (nI s0), .ref 1], (I, L0, D0, X))) 3 rfl ?_
    refine ag_ldc C (k := 100 + 10) (hR 10 (by decide)) dX6_overKind_45 ?_
    refine ag_cS C (nm := nX_isw) (d := d + 4) (as := [.ref 1, .int (nI s0), .int (nI e0), .ref (100 + 10)]) (st := []) kX_isw (m_isw hE hz (hF 10 (by decide)) (wd_oks 10 (by decide)) d hs he I L0 D0 X) (an_mem_ok (by decide +kernel)) (an_mem_ok (by decide +kernel)) pX_isw (by show d + 4 + 1 ≤ d + 5; omega) (by show 64 * (d + 4 + 1) ≤ 64 * (d + 5); omega) dX6_overKind_47 (Nat.le_of_ble_eq_true rfl) ?_
    refine ag_z C so_overKind (pc := 50) (t := 58) rfl (fun q => ?_) (fun q => ?_)
    case refine_2 =>
      have ht := isw_t q
      refine ag_b C so_overKind (x' := (59, [some (.ref 1), some (.int (nI s0)), some (.int (nI e0))], [.int 14], (I, L0, D0, X))) 2 rfl ?_
      exact fin 14 59 (by rw [h10, wk_y ht]; rfl) dX6_overKind_59
    have h11 := h10.trans (wk_n (isw_f q))
    refine ag_b C so_overKind (x' := (59, [some (.ref 1), some (.int (nI s0)), some (.int (nI e0))], [.int 1], (I, L0, D0, X))) 1 rfl ?_
    exact fin 1 59 (by rw [h11]; rfl) dX6_overKind_59
  have hl := lv_entry ([Value.ref 1, .int (nI s0), .int (nI e0)].map (am_cv ad)) (n := 3) (Nat.le_of_ble_eq_true rfl)
  rw [lg_entry_eq]
  generalize (lg_sl ([Value.ref 1, .int (nI s0), .int (nI e0)].map (am_cv ad)) ++ List.replicate (3 - (lg_sl ([Value.ref 1, .int (nI s0), .int (nI e0)].map (am_cv ad))).length) Slot.unset).toArray = ls at hl ⊢
  exact go s.heap [] ls hP hD va_S.rf hl rfl
set_option maxHeartbeats 4000000 in
set_option maxRecDepth 100000 in
theorem m_wdk (hE : am_Exh ad am_SH.length Ex) (hz : ∀ j, j < am_SH.length → z ≤ ad j) (hX : ∀ U, Ex U → sx_w z ad adV U) (d : Nat) {s0 e0 : Nat} (hs : s0 ≤ e0) (he : e0 ≤ 500) (I : Nat → Nat → Int32) (L0 : Nat → Nat → Int64) (D0 : Nat → Nat → UInt64) (X : Nat → Nat → Option Nat) :
    am_Mt l D am_cl cy ad am_SH Ex am_U nX_wdk (d + 6) [.ref 1, .int (nI s0), .int (nI e0)] (I, L0, D0, X) (some (.int (nI (pu_wk (I 1) s0 e0 pu_words 4))), (I, L0, D0, X)) := by
  intro sz
  refine am_ofW (cc := cX6_wordKind) (maxL := 3) (ret := some .int) (by decide) rfl ?_
  intro p e s m args below meth c s₁ B hml hv
  obtain ⟨rfl, hsz, hP, hK, hD, hEs⟩ := hv
  have hx := B.exec
  have hb := B.bytes
  have hr := B.returns
  have hts0 := atoms_spec (ws := am_ws am_U nX_wdk) B.pre
  have hts : ∀ w ∈ am_U, w.before _ s = true := fun w h => hts0 w (List.mem_cons_of_mem _ h)
  have hown : s.vm.findClass "SureSums$Tokens" = some m.cls := findClass_of_methodNamed B.named
  have hlocks := B.notSynchronized
  subst hsz
  have C : ag_C p s m _ c cX6_wordKind 3 "SureSums$Tokens" D cy ad Ex := ⟨hx, hb, hml, hown, hts, hK, hE, hEs⟩
  have hF : ∀ i, i < 11 → ∀ U, Ex U → z ≤ U.heap.size ∧ st1 z (ad (100 + i)) (adV i) (wd_at i).length (fun j => (wd_at i).getD j 0) U := fun i hi U h => ⟨(hX U h).1, ((hX U h).2 i hi).1⟩
  have hR := fun i hi => ((hX s hEs).2 i hi).2
  have fin : ∀ (v : Int32) (pc : Nat), nI (pu_wk (I 1) s0 e0 pu_words 4) = v → decode cX6_wordKind pc = .ok (.ireturn, 1) → ag_W p l e (am_rm (d + 6)) s m ([Value.ref 1, .int (nI s0), .int (nI e0)].map (am_cv ad)).toArray below meth c (MQ below (am_Qc D am_cl cy ad am_SH s.heap.size (some (.int (nI (pu_wk (I 1) s0 e0 pu_words 4))), (I, L0, D0, X))) ([Value.ref 1, .int (nI s0), .int (nI e0)].map (am_cv ad)).toArray s 0 0 (am_A ad am_SH.length s.heap.size)) 3 D cy ad (pc, [some (.ref 1), some (.int (nI s0)), some (.int (nI e0))], [.int v], (I, L0, D0, X)) := by
    intro v pc hv hd H locs L hP hD hS hl hnl
    refine W.iret hx hb hr (fun t ht hW => ⟨?_, by rw [ht]; exact hP, hS.F ht⟩) hS.2.2 hd
    rw [hv]; rfl
  have go : ag_W p l e (am_rm (d + 6)) s m ([Value.ref 1, .int (nI s0), .int (nI e0)].map (am_cv ad)).toArray below meth c (MQ below (am_Qc D am_cl cy ad am_SH s.heap.size (some (.int (nI (pu_wk (I 1) s0 e0 pu_words 4))), (I, L0, D0, X))) ([Value.ref 1, .int (nI s0), .int (nI e0)].map (am_cv ad)).toArray s 0 0 (am_A ad am_SH.length s.heap.size)) 3 D cy ad (0, [some (.ref 1), some (.int (nI s0)), some (.int (nI e0))], [], (I, L0, D0, X)) := by
    have h0 : pu_wk (I 1) s0 e0 pu_words 4 = pu_wk (I 1) s0 e0 (wd_at 0 :: wd_at 1 :: wd_at 2 :: wd_at 3 :: wd_at 4 :: wd_at 5 :: wd_at 6 :: pu_words.drop 7) 4 := rfl
    refine ag_b C so_wordKind (x' := (3, [some (.ref 1), some (.int (nI s0)), some (.int (nI e0))], [.int (nI e0), .int (nI s0), .ref 1], (I, L0, D0, X))) 3 rfl ?_
    refine ag_ldc C (k := 100 + 0) (hR 0 (by decide)) dX6_wordKind_3 ?_
    refine ag_cS C (nm := nX_isw) (d := d + 4) (as := [.ref 1, .int (nI s0), .int (nI e0), .ref (100 + 0)]) (st := []) kX_isw (m_isw hE hz (hF 0 (by decide)) (wd_oks 0 (by decide)) d hs he I L0 D0 X) (an_mem_ok (by decide +kernel)) (an_mem_ok (by decide +kernel)) pX_isw (by show d + 4 + 1 ≤ d + 6; omega) (by show 64 * (d + 4 + 1) ≤ 64 * (d + 6); omega) dX6_wordKind_5 (Nat.le_of_ble_eq_true rfl) ?_
    refine ag_z C so_wordKind (pc := 8) (t := 13) rfl (fun q => ?_) (fun q => ?_)
    case refine_2 =>
      have ht := isw_t q
      refine ag_b C so_wordKind (x' := (12, [some (.ref 1), some (.int (nI s0)), some (.int (nI e0))], [.int 4], (I, L0, D0, X))) 1 rfl ?_
      exact fin 4 12 (by rw [h0, wk_y ht]; rfl) dX6_wordKind_12
    have h1 := h0.trans (wk_n (isw_f q))
    refine ag_b C so_wordKind (x' := (16, [some (.ref 1), some (.int (nI s0)), some (.int (nI e0))], [.int (nI e0), .int (nI s0), .ref 1], (I, L0, D0, X))) 3 rfl ?_
    refine ag_ldc C (k := 100 + 1) (hR 1 (by decide)) dX6_wordKind_16 ?_
    refine ag_cS C (nm := nX_isw) (d := d + 4) (as := [.ref 1, .int (nI s0), .int (nI e0), .ref (100 + 1)]) (st := []) kX_isw (m_isw hE hz (hF 1 (by decide)) (wd_oks 1 (by decide)) d hs he I L0 D0 X) (an_mem_ok (by decide +kernel)) (an_mem_ok (by decide +kernel)) pX_isw (by show d + 4 + 1 ≤ d + 6; omega) (by show 64 * (d + 4 + 1) ≤ 64 * (d + 6); omega) dX6_wordKind_18 (Nat.le_of_ble_eq_true rfl) ?_
    refine ag_z C so_wordKind (pc := 21) (t := 26) rfl (fun q => ?_) (fun q => ?_)
    case refine_2 =>
      have ht := isw_t q
      refine ag_b C so_wordKind (x' := (25, [some (.ref 1), some (.int (nI s0)), some (.int (nI e0))], [.int 5], (I, L0, D0, X))) 1 rfl ?_
      exact fin 5 25 (by rw [h1, wk_y ht]; rfl) dX6_wordKind_25
    have h2 := h1.trans (wk_n (isw_f q))
    refine ag_b C so_wordKind (x' := (29, [some (.ref 1), some (.int (nI s0)), some (.int (nI e0))], [.int (nI e0), .int (nI s0), .ref 1], (I, L0, D0, X))) 3 rfl ?_
    refine ag_ldc C (k := 100 + 2) (hR 2 (by decide)) dX6_wordKind_29 ?_
    refine ag_cS C (nm := nX_isw) (d := d + 4) (as := [.ref 1, .int (nI s0), .int (nI e0), .ref (100 + 2)]) (st := []) kX_isw (m_isw hE hz (hF 2 (by decide)) (wd_oks 2 (by decide)) d hs he I L0 D0 X) (an_mem_ok (by decide +kernel)) (an_mem_ok (by decide +kernel)) pX_isw (by show d + 4 + 1 ≤ d + 6; omega) (by show 64 * (d + 4 + 1) ≤ 64 * (d + 6); omega) dX6_wordKind_31 (Nat.le_of_ble_eq_true rfl) ?_
    refine ag_z C so_wordKind (pc := 34) (t := 40) rfl (fun q => ?_) (fun q => ?_)
    case refine_2 =>
      have ht := isw_t q
      refine ag_b C so_wordKind (x' := (39, [some (.ref 1), some (.int (nI s0)), some (.int (nI e0))], [.int 6], (I, L0, D0, X))) 1 rfl ?_
      exact fin 6 39 (by rw [h2, wk_y ht]; rfl) dX6_wordKind_39
    have h3 := h2.trans (wk_n (isw_f q))
    refine ag_b C so_wordKind (x' := (43, [some (.ref 1), some (.int (nI s0)), some (.int (nI e0))], [.int (nI e0), .int (nI s0), .ref 1], (I, L0, D0, X))) 3 rfl ?_
    refine ag_ldc C (k := 100 + 3) (hR 3 (by decide)) dX6_wordKind_43 ?_
    refine ag_cS C (nm := nX_isw) (d := d + 4) (as := [.ref 1, .int (nI s0), .int (nI e0), .ref (100 + 3)]) (st := []) kX_isw (m_isw hE hz (hF 3 (by decide)) (wd_oks 3 (by decide)) d hs he I L0 D0 X) (an_mem_ok (by decide +kernel)) (an_mem_ok (by decide +kernel)) pX_isw (by show d + 4 + 1 ≤ d + 6; omega) (by show 64 * (d + 4 + 1) ≤ 64 * (d + 6); omega) dX6_wordKind_45 (Nat.le_of_ble_eq_true rfl) ?_
    refine ag_z C so_wordKind (pc := 48) (t := 54) rfl (fun q => ?_) (fun q => ?_)
    case refine_2 =>
      have ht := isw_t q
      refine ag_b C so_wordKind (x' := (53, [some (.ref 1), some (.int (nI s0)), some (.int (nI e0))], [.int 7], (I, L0, D0, X))) 1 rfl ?_
      exact fin 7 53 (by rw [h3, wk_y ht]; rfl) dX6_wordKind_53
    have h4 := h3.trans (wk_n (isw_f q))
    refine ag_b C so_wordKind (x' := (57, [some (.ref 1), some (.int (nI s0)), some (.int (nI e0))], [.int (nI e0), .int (nI s0), .ref 1], (I, L0, D0, X))) 3 rfl ?_
    refine ag_ldc C (k := 100 + 4) (hR 4 (by decide)) dX6_wordKind_57 ?_
    refine ag_cS C (nm := nX_isw) (d := d + 4) (as := [.ref 1, .int (nI s0), .int (nI e0), .ref (100 + 4)]) (st := []) kX_isw (m_isw hE hz (hF 4 (by decide)) (wd_oks 4 (by decide)) d hs he I L0 D0 X) (an_mem_ok (by decide +kernel)) (an_mem_ok (by decide +kernel)) pX_isw (by show d + 4 + 1 ≤ d + 6; omega) (by show 64 * (d + 4 + 1) ≤ 64 * (d + 6); omega) dX6_wordKind_59 (Nat.le_of_ble_eq_true rfl) ?_
    refine ag_z C so_wordKind (pc := 62) (t := 68) rfl (fun q => ?_) (fun q => ?_)
    case refine_2 =>
      have ht := isw_t q
      refine ag_b C so_wordKind (x' := (67, [some (.ref 1), some (.int (nI s0)), some (.int (nI e0))], [.int 8], (I, L0, D0, X))) 1 rfl ?_
      exact fin 8 67 (by rw [h4, wk_y ht]; rfl) dX6_wordKind_67
    have h5 := h4.trans (wk_n (isw_f q))
    refine ag_b C so_wordKind (x' := (71, [some (.ref 1), some (.int (nI s0)), some (.int (nI e0))], [.int (nI e0), .int (nI s0), .ref 1], (I, L0, D0, X))) 3 rfl ?_
    refine ag_ldc C (k := 100 + 5) (hR 5 (by decide)) dX6_wordKind_71 ?_
    refine ag_cS C (nm := nX_isw) (d := d + 4) (as := [.ref 1, .int (nI s0), .int (nI e0), .ref (100 + 5)]) (st := []) kX_isw (m_isw hE hz (hF 5 (by decide)) (wd_oks 5 (by decide)) d hs he I L0 D0 X) (an_mem_ok (by decide +kernel)) (an_mem_ok (by decide +kernel)) pX_isw (by show d + 4 + 1 ≤ d + 6; omega) (by show 64 * (d + 4 + 1) ≤ 64 * (d + 6); omega) dX6_wordKind_73 (Nat.le_of_ble_eq_true rfl) ?_
    refine ag_z C so_wordKind (pc := 76) (t := 82) rfl (fun q => ?_) (fun q => ?_)
    case refine_2 =>
      have ht := isw_t q
      refine ag_b C so_wordKind (x' := (81, [some (.ref 1), some (.int (nI s0)), some (.int (nI e0))], [.int 9], (I, L0, D0, X))) 1 rfl ?_
      exact fin 9 81 (by rw [h5, wk_y ht]; rfl) dX6_wordKind_81
    have h6 := h5.trans (wk_n (isw_f q))
    refine ag_b C so_wordKind (x' := (85, [some (.ref 1), some (.int (nI s0)), some (.int (nI e0))], [.int (nI e0), .int (nI s0), .ref 1], (I, L0, D0, X))) 3 rfl ?_
    refine ag_ldc C (k := 100 + 6) (hR 6 (by decide)) dX6_wordKind_85 ?_
    refine ag_cS C (nm := nX_isw) (d := d + 4) (as := [.ref 1, .int (nI s0), .int (nI e0), .ref (100 + 6)]) (st := []) kX_isw (m_isw hE hz (hF 6 (by decide)) (wd_oks 6 (by decide)) d hs he I L0 D0 X) (an_mem_ok (by decide +kernel)) (an_mem_ok (by decide +kernel)) pX_isw (by show d + 4 + 1 ≤ d + 6; omega) (by show 64 * (d + 4 + 1) ≤ 64 * (d + 6); omega) dX6_wordKind_87 (Nat.le_of_ble_eq_true rfl) ?_
    refine ag_z C so_wordKind (pc := 90) (t := 98) rfl (fun q => ?_) (fun q => ?_)
    case refine_2 =>
      have ht := isw_t q
      refine ag_b C so_wordKind (x' := (104, [some (.ref 1), some (.int (nI s0)), some (.int (nI e0))], [.int 10], (I, L0, D0, X))) 2 rfl ?_
      exact fin 10 104 (by rw [h6, wk_y ht]; rfl) dX6_wordKind_104
    have h7 := h6.trans (wk_n (isw_f q))
    refine ag_b C so_wordKind (x' := (101, [some (.ref 1), some (.int (nI s0)), some (.int (nI e0))], [.int (nI e0), .int (nI s0), .ref 1], (I, L0, D0, X))) 3 rfl ?_
    refine ag_cS C (nm := nX_ovk) (d := d + 5) (as := [.ref 1, .int (nI s0), .int (nI e0)]) (st := []) kX_ovk (m_ovk hE hz hX d hs he I L0 D0 X) (an_mem_ok (by decide +kernel)) (an_mem_ok (by decide +kernel)) pX_ovk (Nat.le_refl _) (Nat.le_refl _) dX6_wordKind_101 (Nat.le_of_ble_eq_true rfl) ?_
    exact fin _ 104 (by rw [h7]) dX6_wordKind_104
  have hl := lv_entry ([Value.ref 1, .int (nI s0), .int (nI e0)].map (am_cv ad)) (n := 3) (Nat.le_of_ble_eq_true rfl)
  rw [lg_entry_eq]
  generalize (lg_sl ([Value.ref 1, .int (nI s0), .int (nI e0)].map (am_cv ad)) ++ List.replicate (3 - (lg_sl ([Value.ref 1, .int (nI s0), .int (nI e0)].map (am_cv ad))).length) Slot.unset).toArray = ls at hl ⊢
  exact go s.heap [] ls hP hD va_S.rf hl rfl
end KIND
