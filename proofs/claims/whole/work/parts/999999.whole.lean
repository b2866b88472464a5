/-! ===== the whole: from the entry to the end ===== -/
section WHOLE
variable {p : Program} {l : Launch} {e : Env} {s : State} {m : MethodId} {below : List Frame} {meth : Method} {c : Code} {D : va_G} {cy : Nat → ClassId} {ad aS adV : Nat → Nat} {b Ln : Nat} {xs : Nat → Int32}
set_option maxRecDepth 100000 in
/-- the law's end -/
theorem wh_end {Ex : State → Prop} {N M : Nat} (C : ln_Cx p l s m c D cy ad b Ln xs am_ext Ex) (hr : meth.sig.returnType = ret) (hlocks : meth.locks = false) (i : Int32) (mem : am_M) (hN : N ≤ 601024) (hM : M ≤ 7293034) : ln_W N M p l e s m b below meth c (lw_Z below #[Value.ref b] s) D cy ad (842, lw_ls i, [], mem) := by
  refine ln_b C (x' := (843, lw_ls i, [.int 1], mem)) 1 rfl ?_
  intro H locs L hP hD hS hl hn
  refine va_forget (fun q hq => hS.2.2 q hq) ?_
  refine W.widen hN hM ?_
  refine W.base ?_
  exact lw_ret (Drawn.sameBut.refl _ _) C.1 C.2.1 hr hlocks (lw_cd_ok 843 (.ireturn, 1, []) rfl).1
/-- where the strings lie -/
def wh_ad (aS ad : Nat → Nat) (k : Nat) : Nat := bif Nat.ble 100 k && Nat.ble k 110 then aS (k - 100) else ad k
theorem wh_lo {aS ad : Nat → Nat} {k : Nat} (h : k < 100) : wh_ad aS ad k = ad k := by
  have e : Nat.ble 100 k = false := by
    cases hb : Nat.ble 100 k with
    | false => rfl
    | true => exact absurd (Nat.le_of_ble_eq_true hb) (by omega)
  simp [wh_ad, e]
theorem wh_hi {aS ad : Nat → Nat} {i : Nat} (h : i < 11) : wh_ad aS ad (100 + i) = aS i := by
  have e1 : Nat.ble 100 (100 + i) = true := Nat.ble_eq.mpr (by omega)
  have e2 : Nat.ble (100 + i) 110 = true := Nat.ble_eq.mpr (by omega)
  unfold wh_ad
  rw [e1, e2, Nat.add_sub_cancel_left]
  rfl
set_option maxRecDepth 100000 in
theorem wh_wf : an_wf1 am_SH lw_m0 = true := by decide +kernel
theorem wh_F : ∀ (ls : pt_L) (I : Nat → Nat → Int32) (L : Nat → Nat → Int64) (D : Nat → Nat → UInt64) (I' : Nat → Nat → Int32), iv_P ls I → Cc2 Cm ls I L D → (∀ a b, ¬ (a = 0 ∨ a = 1 ∨ a = 43) → ¬ (a = 42 ∧ (b = 1 ∨ b = 2)) → I' a b = I a b) → Cc2 Cm ls I' L D :=
  fun ls I L D I' hP hc fr => ⟨Cx_s hc.1 (fr 42 59 (by omega) (by omega)) (fun b => fr 71 b (by omega) (by omega)) (fun _ _ _ => rfl), Cm_ok ls I D I' D hP (fun b => fr 36 b (by omega) (by omega)) (fr 42 60 (by omega) (by omega)) (fun b => fr 76 b (by omega) (by omega)) (fun _ _ _ => rfl) hc.2⟩
theorem wh_sz : am_SH.length + 513 ≤ 601024 ∧ am_sz am_SH + 6 * 513 ≤ 7293034 := by decide +kernel
end WHOLE
set_option maxHeartbeats 4000000 in
set_option maxRecDepth 100000 in
/-- from the entry, for every script of at most 3072 ints, the law comes to its end with true -/
theorem whole_start {p : Program} {e : Env} {s : State} {m : MethodId} {below : List Frame} {meth : Method} {c : Code} (l : Launch) (hl : l.stackTraces = false) {b L : Nat} {xs : Nat → Int32} (hL : L ≤ 3072) (At0 : lw_At p s m meth c b L xs) : W p l e room_1 s m #[Value.ref b] below meth c s.heap [] 0 0 (lw_Z below #[Value.ref b] s) (entryFrame m ([Value.ref b] : List Value).toArray 8) := by
  obtain ⟨aS, adV, hym⟩ := ym_in At0
  refine lw_begin l At0 (fun D cy ad0 hK hA0 h82 => ?_)
  obtain ⟨hx, hb, hr, hml, hown, hts, hX, hbl, hlocks, hgv⟩ := At0
  have htsU : ∀ w ∈ am_U, w.before #[Value.ref b] s = true := fun w h => hts w (List.mem_filter.mp h).1
  have hC : ∀ ad : Nat → Nat, (∀ k, k < am_SH.length → s.heap.size ≤ ad k) → ad 82 = b → (∀ i, i < 11 → ad (100 + i) = aS i) → ln_Cx p l s m c D cy ad b L xs am_ext (ym s.heap.size aS adV) := fun ad hA had hPa => ⟨hx, hb, hml, hown, htsU, hK, ym_k hA, hym, ym_ext hA hPa, hX, hbl, had, hA⟩
  have hag : ∀ k, k < am_SH.length → wh_ad aS ad0 k = ad0 k := fun k h => wh_lo (by have h9 : am_SH.length = 82 := rfl; omega)
  have hA : ∀ k, k < am_SH.length → s.heap.size ≤ wh_ad aS ad0 k := fun k h => by rw [hag k h]; exact hA0 k h
  have had : wh_ad aS ad0 82 = b := (wh_lo (by omega)).trans h82
  have key := ln_loop (p := p) (l := l) (e := e) (s := s) (m := m) (below := below) (meth := meth) (c := c) (Q := lw_Z below #[Value.ref b] s) (D := D) (cy := cy) (b := b) (Ln := L) (xs := xs) (ext := am_ext) (Ex := ym s.heap.size aS adV) (Iv := iv (Cc2 Cm)) (Pa := fun ad => ∀ i, i < 11 → ad (100 + i) = aS i)
    (fun ad h i hi => by show ad (am_pi (100 + i)) = aS i; rw [am_pi_hi (by omega)]; exact h i hi) hL (ow_0 (ok2 Cm_ok) wh_F) ow_1 (ow_2 (ok2 Cm_ok)) (ow_3 (ok2 Cm_ok)) (ow_4 (ok2 Cm_ok)) (ow_5 (ok2 Cm_ok)) (ow_6 (ok2 Cm_ok)) (ow_7 (ok2 Cm_ok)) (ow_8 Cm_ok) (ow_9 Cm_ok) (ow_10 (ok2 Cm_ok)) (ow_11 (ok2 Cm_ok)) (ow_12 (ok2 Cm_ok)) ow_14 (ow_15 (ok2 Cm_ok))
    hC (fun ad i mem N M hN hM hA had hPa h1 hI kk => ln_mach hl hPa (hC ad hA had hPa) hN hM i h1 hI kk)
    (fun ad i mem N M hN hM hA had hPa => wh_end (hC ad hA had hPa) hr hlocks i mem hN hM)
    513 0 (wh_ad aS ad0) (am_lo lw_m0) am_SH.length (am_sz am_SH) (by omega) (Nat.zero_le _) wh_sz.1 wh_sz.2 hA had (fun i hi => wh_hi hi) iv_m1
  intro H locs L2 hP hD hS hl2 hn
  have hW : am_W cy (wh_ad aS ad0) am_SH lw_m0 = am_W cy ad0 am_SH lw_m0 := an_W_grow hag wh_wf
  exact key H locs L2 (am_P_lo (m := lw_m0) (fun _ _ h => am_lo_l h) rfl (by rw [hW]; exact hP)) (am_D_lo (m := lw_m0) (by rw [hW]; exact hD)) hS hl2 hn
set_option maxHeartbeats 4000000 in
theorem lw_walk (l : Launch) (hl : l.stackTraces = false) (b : Addr) (xs : List Int32) : MetFree l x (headSpec (Jvm.Cond.code x code maxLocals ret :: tables_1) room_1) (lw_P b xs) (fun _ _ _ _ _ => True) lw_Q := by
  refine MetFree.of_bodyS (code := code) (maxLocals := maxLocals) (ret := ret) (by decide) ?_ ?_
  · intro args s m h hn
    obtain ⟨meth, c, h1, h2, h3, h4, h5, h6, -, -⟩ := Cond.code_spec hn (atoms_spec (ws := Jvm.Cond.code x code maxLocals ret :: tables_1) h _ List.mem_cons_self)
    exact ⟨meth, c, h1, h2, h3, h4, h5, h6⟩
  · intro p e s m args below meth c s₁ B hml0 hP _
    obtain ⟨rfl, hx, hbd, hgv⟩ := hP
    obtain ⟨scr, harrAt, hlist, hof, hsmall⟩ := hx
    obtain ⟨hcb, hkn, -, -⟩ := State.arrayAt?_spec harrAt
    have hown : s.vm.findClass R_law = some m.cls := findClass_of_methodNamed B.named
    have hts0 : ∀ c ∈ (Jvm.Cond.code x code maxLocals ret :: tables_1), c.before #[Value.ref b] s = true := atoms_spec (ws := Jvm.Cond.code x code maxLocals ret :: tables_1) B.pre
    have hts : ∀ w ∈ lw_tbl, w.before #[Value.ref b] s = true := k2_hts_sels lw_privs (fun w hw => hts0 w (List.mem_cons_of_mem _ hw)) lw_privs_ok
    have hml : c.maxLocals = 8 := B.maxLocals_eq (hts0 _ List.mem_cons_self)
    have X₀ : Stand p l e room_1 s m #[Value.ref b] below meth c s₁ [] 0 0 := Stand.of_body B
    have hh0 : s₁.heap = s.heap := by rw [B.state]; rfl
    have hsz : scr.slots.size = xs.length := by rw [← Array.length_toList, hlist, List.length_map]
    have hval : ∀ j : Nat, j < xs.length → scr.slots[j]? = some (.int (xs.getD j 0)) := fun j hj => by
      rw [← Array.getElem?_toList, hlist]
      simp [hj]
    have hbl : b < s.heap.size := (Array.getElem?_eq_some_iff.mp hcb).1
    have hX : va_X b xs.length (fun j => xs.getD j 0) s s.heap := ⟨scr, hcb, hof, hkn, hsz, hval⟩
    have K : W p l e room_1 s m #[Value.ref b] below meth c s₁.heap [] 0 0 (lw_Z below #[Value.ref b] s) (entryFrame m ([Value.ref b] : List Value).toArray 8) := by
      rw [hh0]
      exact whole_start l hl hbd ⟨B.exec, B.bytes, B.returns, hml, hown, hts, hX, hbl, B.notSynchronized, hgv⟩
    obtain ⟨t, a1, o, b1, b2, b3⟩ := K s₁ rfl X₀
    exact ⟨t, o, a1, b1, b2, b3⟩
theorem lw_pre_spec {args : Array Value} {s : State} (h : (Jvm.Cond.and given_1 narrow_1).before args s = true) (hr : rest_1_c.before args s = true) : ∃ (b : Addr) (xs : List Int32), lw_P b xs args s := by
  have hs := flat_of_before _ h
  have hq := flat_of_before _ hr
  have hc : (Cond.count 1).before args s = true := hs _ (by decide +kernel)
  have harr : (Cond.arrayOf (.arg 0) .int).before args s = true := hs _ (by decide +kernel)
  have hle : (Cond.le (.length (.arg 0)) (.int 3072)).before args s = true := hs _ (by decide +kernel)
  have hlen : (Cond.isInt (.length (.arg 0))).before args s = true := hq _ (by decide +kernel)
  have hall : (Cond.all (.arg 0) (.isInt (.elem (.arg 0) (.index 0)))).before args s = true := hq _ (by decide +kernel)
  obtain ⟨b, xs, hb, hx⟩ := State.ints_of_pre rfl harr hlen hall
  have hsm : xs.length < 2 ^ 31 := hx.choose_spec.2.2.2
  have hev : (Term.length (.arg 0)).eval args s none [] s = some (.int xs.length.toInt32) := hx.length_eval hb
  have hv := Cond.le_ints hev (show (Term.int 3072).eval args s none [] s = some (.int 3072) from rfl)
  have hd : xs.length.toInt32 ≤ 3072 := by
    simpa [Cond.before, Cond.holds, hv] using hle
  have hN : xs.length ≤ 3072 := (Int32.ofNat_le_ofNat hsm (by decide)).mp (show Int32.ofNat xs.length ≤ Int32.ofNat 3072 from hd)
  exact ⟨b, xs, Cond.one_arg hc (show args[0]? = some (.ref b) from hb), hx, hN, h⟩
theorem lw_comes (l : Launch) (hl : l.stackTraces = false) : Comes l x (Jvm.Cond.code x code maxLocals ret :: tables_1) room_1 (fun tb e args s => Calls_1 tb e args s ∧ rest_1 tb e args s ∧ Pre_1 tb e args s)
    (fun _ _ args s o t => lw_Q args s o t) := by
  intro p e ha hc hk s m args below hf hfit hheap happ hpre
  obtain ⟨b, xs, hP⟩ := lw_pre_spec hpre.2.2 hpre.2.1
  obtain ⟨k, o, h1, h2, h3, hQ⟩ := lw_walk l hl b xs p e ha hc hk s m args below hf ((Spec.applies_iff_loose hf).mp happ).1 hP trivial
  exact ⟨k, o, h1, h2, h3, hQ⟩
theorem lw_frame {s t : State} {o : Outcome} {args : Array Value} (h : State.butDraws s t lw_cs (fun t1 => Framed s o t1 [] 601024 7293034)) :
    State.butDraws s t [Jvm.Choice.named "NaN.bits"] (fun t1 => Framed s o t1 (fieldLocs frame_1_writes args s ++ arrayLocs frame_1_arrays args s ++ staticLocs frame_1_statics s) 601024 7293034) := h
theorem lw_off {l : Launch} (h : l.flags = flags0) : l.stackTraces = false := by
  unfold Launch.stackTraces
  rw [h]
  decide
theorem lw_limb (L : Cond) (hL : ∀ (args : Array Value) (s t : State), L.after args s (.returned (some (.int 1))) t = true) :
    ArmFor flags0 classFile x code maxLocals ret World_1 tables_1 room_1 Calls_1 rest_1 Pre_1
      (fun tb e a s o t => postC L tb e a s o t ∧ State.butDraws s t [Jvm.Choice.named "NaN.bits"] (fun t1 => Framed s o t1 (fieldLocs frame_1_writes a s ++ arrayLocs frame_1_arrays a s ++ staticLocs frame_1_statics s) 601024 7293034)) := by
  intro l hfl _ _ p e ha hc hk s m args below hf hfit hheap happ hpre
  obtain ⟨k, o, h1, h2, h3, rfl, hF⟩ := lw_comes l (lw_off hfl) p e ha hc hk s m args below hf hfit hheap happ hpre
  exact ⟨k, _, h1, h2, h3, hL args s _, lw_frame hF⟩
theorem i_vc : Claimed_1_1 ∧ Claimed_1_2 := ⟨lw_limb limb_1_1 (fun args s t => by simp [limb_1_1, Cond.after, Cond.holds, Cond.value]), lw_limb limb_1_2 (fun args s t => Cond.after_iff.mpr (by
  first | (rw [show limb_1_2 = Cond.eq .result (.int 1) from rfl, Cond.eq_ints (x := 1) (y := 1) rfl rfl]; simp; done) | (simp [limb_1_2, Cond.value, Term.eval]; done)))⟩
