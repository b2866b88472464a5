/-! ===== the law's loop, over what the calls owe ===== -/
section LOOPN
variable {p : Program} {l : Launch} {e : Env} {s : State} {m : MethodId} {below : List Frame} {meth : Method} {c : Code} {Q : State → Prop} {D : va_G} {cy : Nat → ClassId} {b Ln : Nat} {xs : Nat → Int32} {ext : Nat → List Value → am_M → Option am_R} {Ex : State → Prop}
theorem ln_rr {N M : Nat} {ad : Nat → Nat} {pc : Nat} {ls : List (Option Value)} {st : List Value} {m1 m2 : am_M} (h : am_W cy ad am_SH m1 = am_W cy ad am_SH m2) (k : ln_W N M p l e s m b below meth c Q D cy ad (pc, ls, st, m2)) : ln_W N M p l e s m b below meth c Q D cy ad (pc, ls, st, m1) := by
  intro H locs L hP hD hS hl hn
  exact k H locs L (by show va_P D am_cl (am_W cy ad am_SH m2) H; rw [← h]; exact hP) (by show va_D _ (am_W cy ad am_SH m2); rw [← h]; exact hD) hS hl hn
def ln_t1 (ext : Nat → List Value → am_M → Option am_R) (Iv : am_M → Prop) : Prop := ∀ (a : Int32) (mem : am_M), Iv mem → ∃ (r : Int32) (m1 m2 : am_M), am_Rn ext 400 94 [.ref 0, .int a] mem (some (.int r), m1) ∧ am_Rn ext 400 144 [.ref 42, .int a] m1 (some (.int r), m2) ∧ (Iv m2 ∨ ren_ok Iv m2)
set_option maxHeartbeats 4000000 in
set_option maxRecDepth 100000 in
theorem ln_loop {Iv : am_M → Prop} {Pa : (Nat → Nat) → Prop} (hPa : ∀ ad, Pa ad → Pa (fun k => ad (am_pi k))) (hL : Ln ≤ 3072) (t0 : lw_t0 ext Iv) (t1 : ln_t1 ext Iv) (t2 : lw_t2 ext Iv) (t3 : lw_t3 ext Iv) (t4 : lw_t4 ext Iv) (t5 : lw_t5 ext Iv) (t6 : lw_t6 ext Iv) (t7 : lw_t7 ext Iv) (t8 : lw_t8 ext Iv) (t9 : lw_t9 ext Iv) (t10 : lw_t10 ext Iv) (t11 : lw_t11 ext Iv) (t12 : lw_t12 ext Iv) (t14 : lw_t14 ext Iv) (t15 : lw_t15 ext Iv)
    (hC : ∀ ad : Nat → Nat, (∀ k, k < am_SH.length → s.heap.size ≤ ad k) → ad 82 = b → Pa ad → ln_Cx p l s m c D cy ad b Ln xs ext Ex)
    (hmach : ∀ (ad : Nat → Nat) (i : Int32) (mem : am_M) (N M : Nat), N + 1 ≤ 601024 → M + 6 ≤ 7293034 → (∀ k, k < am_SH.length → s.heap.size ≤ ad k) → ad 82 = b → Pa ad → vp_in (i + 1) Ln → Iv mem → (∀ mem', Iv mem' → ln_W (N + 1) (M + 6) p l e s m b below meth c Q D cy ad (836, lw_ls i, [], mem')) → ln_W N M p l e s m b below meth c Q D cy ad (713, lw_ls i, [], mem))
    (hend : ∀ (ad : Nat → Nat) (i : Int32) (mem : am_M) (N M : Nat), N ≤ 601024 → M ≤ 7293034 → (∀ k, k < am_SH.length → s.heap.size ≤ ad k) → ad 82 = b → Pa ad → ln_W N M p l e s m b below meth c Q D cy ad (842, lw_ls i, [], mem)) :
    ∀ (n k : Nat) (ad : Nat → Nat) (mem : am_M) (N M : Nat), Ln < 6 * n + k → k ≤ Ln → N + n ≤ 601024 → M + 6 * n ≤ 7293034 → (∀ k, k < am_SH.length → s.heap.size ≤ ad k) → ad 82 = b → Pa ad → Iv mem → ln_W N M p l e s m b below meth c Q D cy ad (23, lw_ls (nI k), [], mem) := by
  intro n
  induction n with
  | zero => intro k ad mem N M h1 h2; omega
  | succ n ih =>
    intro k ad mem N M h1 h2 hN hM hA had hPA hI
    have hNM : N ≤ 601024 ∧ M ≤ 7293034 := ⟨by omega, by omega⟩
    have C := hC ad hA had hPA
    have next : ∀ mem' N' M', N' + n ≤ 601024 → M' + 6 * n ≤ 7293034 → (Iv mem' ∨ Iv (am_ren mem') ∨ ren_ok Iv mem') → k + 6 ≤ Ln → ln_W N' M' p l e s m b below meth c Q D cy ad (836, lw_ls (nI k), [], mem') := by
      intro mem' N' M' hN' hM' hv hk
      refine ln_b C (x' := (23, lw_ls (nI k + 6), [], mem')) 2 rfl ?_
      have e6 : nI k + 6 = nI (k + 6) := by
        rw [← Int32.toInt_inj, Int32.toInt_add, nI_toInt (by omega), nI_toInt (by omega)]
        have : (6 : Int32).toInt = 6 := rfl
        rw [this, Int.bmod_eq_of_le (by omega) (by omega)]
        omega
      rw [e6]
      rcases hv with hv | hv | ⟨R, hR, hv⟩
      · exact ih (k + 6) ad mem' N' M' (by omega) hk hN' hM' hA had hPA hv
      · refine ln_ren ?_
        exact ih (k + 6) (fun k => ad (am_pi k)) (am_ren mem') N' M' (by omega) hk hN' hM' (fun k h => hA _ (am_pi_lt k h)) had (hPa ad hPA) hv
      · refine ln_ren (ln_rr (am_W_rr hR) ?_)
        exact ih (k + 6) (fun k => ad (am_pi k)) _ N' M' (by omega) hk hN' hM' (fun k h => hA _ (am_pi_lt k h)) had (hPa ad hPA) hv
    refine ln_b C (x' := (26, lw_ls (nI k), [.ref 82, .int (nI k)], mem)) 2 rfl ?_
    refine ln_l C rfl ?_
    refine ln_b C (x' := (30, lw_ls (nI k), [.int (Int32.ofNat Ln - 6), .int (nI k)], mem)) 2 rfl ?_
    refine ln_gt C rfl (fun z => hend ad (nI k) mem N M (by omega) (by omega) hA had hPA) (fun z => ?_)
    have hk6 : k + 6 ≤ Ln := by
      have hz : ¬ (Int32.ofNat Ln - 6).toInt < (nI k).toInt := fun h => z (Int32.lt_iff_toInt_lt.mpr h)
      rw [nI_toInt (by omega)] at hz
      by_cases h6 : 6 ≤ Ln
      · have e1 : (Int32.ofNat Ln - 6).toInt = (Ln : Int) - 6 := by
          rw [Int32.toInt_sub, show (Int32.ofNat Ln).toInt = (Ln : Int) from nI_toInt (by omega)]
          have : (6 : Int32).toInt = 6 := rfl
          rw [this, Int.bmod_eq_of_le (by omega) (by omega)]
        omega
      · have e1 : (Int32.ofNat Ln - 6).toInt = (Ln : Int) - 6 := by
          rw [Int32.toInt_sub, show (Int32.ofNat Ln).toInt = (Ln : Int) from nI_toInt (by omega)]
          have : (6 : Int32).toInt = 6 := rfl
          rw [this, Int.bmod_eq_of_le (by omega) (by omega)]
        omega
    have hin : ∀ j : Nat, j < 6 → ∀ v : Int32, v.toInt = (j : Int) → vp_in (nI k + v) Ln := by
      intro j hj v hv
      have e1 : nI k + v = nI (k + j) := by
        rw [← Int32.toInt_inj, Int32.toInt_add, nI_toInt (by omega), nI_toInt (by omega), hv, Int.bmod_eq_of_le (by omega) (by omega)]
        omega
      rw [e1]
      exact vp_in_nI (by omega) (by omega)
    have h0 : vp_in (nI k) Ln := vp_in_nI (by omega) (by omega)
    have g1 := hin 1 (by omega) 1 rfl
    have g2 := hin 2 (by omega) 2 rfl
    have g3 := hin 3 (by omega) 3 rfl
    have g4 := hin 4 (by omega) 4 rfl
    have g5 := hin 5 (by omega) 5 rfl
    refine ln_b C (x' := (36, lw_ls (nI k), [.int (nI k), .ref 82], mem)) 2 rfl ?_
    refine ln_s C rfl h0 ?_
    refine ln_b C (x' := (40, lw_ls (nI k), [.int (xs (nI k).toNatClampNeg &&& 15)], mem)) 2 rfl ?_
    obtain ⟨j, hj, hx⟩ := lw_and15 (xs (nI k).toNatClampNeg)
    match j, hj, hx with
    | 0, _, hx =>
      obtain ⟨r, m1, m2, r1, r2, hv⟩ := t0 (xs (nI k + 1).toNatClampNeg) (xs (nI k + 2).toNatClampNeg) (xs (nI k + 3).toNatClampNeg) (xs (nI k + 4).toNatClampNeg) (xs (nI k + 5).toNatClampNeg) mem hI
      exact ln_ts C 0 rfl (by rw [hx]; rfl) (by decide) rfl (lnc_0 hNM C (nI k) g1 g2 g3 g4 g5 r1 r2 (next m2 N M (by omega) (by omega) (hv.imp id Or.inl) hk6))
    | 1, _, hx =>
      obtain ⟨r, m1, m2, r1, r2, hv⟩ := t1 (xs (nI k + 1).toNatClampNeg) mem hI
      exact ln_ts C 1 rfl (by rw [hx]; rfl) (by decide) rfl (lnc_1 hNM C (nI k) g1 r1 r2 (next m2 N M (by omega) (by omega) (hv.imp id Or.inr) hk6))
    | 2, _, hx =>
      obtain ⟨r, m1, m2, r1, r2, hv⟩ := t2 (xs (nI k + 1).toNatClampNeg) mem hI
      exact ln_ts C 2 rfl (by rw [hx]; rfl) (by decide) rfl (lnc_2 hNM C (nI k) g1 r1 r2 (next m2 N M (by omega) (by omega) (hv.imp id Or.inl) hk6))
    | 3, _, hx =>
      obtain ⟨r, m1, m2, r1, r2, hv⟩ := t3 (xs (nI k + 1).toNatClampNeg) mem hI
      exact ln_ts C 3 rfl (by rw [hx]; rfl) (by decide) rfl (lnc_3 hNM C (nI k) g1 r1 r2 (next m2 N M (by omega) (by omega) (hv.imp id Or.inl) hk6))
    | 4, _, hx =>
      obtain ⟨r, m1, m2, r1, r2, hv⟩ := t4 (xs (nI k + 1).toNatClampNeg) (xs (nI k + 2).toNatClampNeg) (xs (nI k + 3).toNatClampNeg) mem hI
      exact ln_ts C 4 rfl (by rw [hx]; rfl) (by decide) rfl (lnc_4 hNM C (nI k) g1 g2 g3 r1 r2 (next m2 N M (by omega) (by omega) (hv.imp id Or.inl) hk6))
    | 5, _, hx =>
      obtain ⟨r, m1, m2, r1, r2, hv⟩ := t5 (xs (nI k + 1).toNatClampNeg) (xs (nI k + 2).toNatClampNeg) (xs (nI k + 3).toNatClampNeg) (xs (nI k + 4).toNatClampNeg) (xs (nI k + 5).toNatClampNeg) mem hI
      exact ln_ts C 5 rfl (by rw [hx]; rfl) (by decide) rfl (lnc_5 hNM C (nI k) g1 g2 g3 g4 g5 r1 r2 (next m2 N M (by omega) (by omega) (hv.imp id Or.inl) hk6))
    | 6, _, hx =>
      obtain ⟨r, m1, m2, r1, r2, hv⟩ := t6 (xs (nI k + 1).toNatClampNeg) (xs (nI k + 2).toNatClampNeg) (xs (nI k + 3).toNatClampNeg) mem hI
      exact ln_ts C 6 rfl (by rw [hx]; rfl) (by decide) rfl (lnc_6 hNM C (nI k) g1 g2 g3 r1 r2 (next m2 N M (by omega) (by omega) (hv.imp id Or.inl) hk6))
    | 7, _, hx =>
      obtain ⟨r, m1, m2, r1, r2, hv⟩ := t7 (xs (nI k + 1).toNatClampNeg) mem hI
      exact ln_ts C 7 rfl (by rw [hx]; rfl) (by decide) rfl (lnc_7 hNM C (nI k) g1 r1 r2 (next m2 N M (by omega) (by omega) (hv.imp id Or.inl) hk6))
    | 8, _, hx =>
      obtain ⟨r, m1, m2, r1, r2, hv⟩ := t8 (xs (nI k + 1).toNatClampNeg) (xs (nI k + 2).toNatClampNeg) mem hI
      exact ln_ts C 8 rfl (by rw [hx]; rfl) (by decide) rfl (lnc_8 hNM C (nI k) g1 g2 r1 r2 (next m2 N M (by omega) (by omega) (hv.imp id Or.inl) hk6))
    | 9, _, hx =>
      obtain ⟨r, m1, m2, r1, r2, hv⟩ := t9 (xs (nI k + 1).toNatClampNeg) (xs (nI k + 2).toNatClampNeg) mem hI
      exact ln_ts C 9 rfl (by rw [hx]; rfl) (by decide) rfl (lnc_9 hNM C (nI k) g1 g2 r1 r2 (next m2 N M (by omega) (by omega) (hv.imp id Or.inl) hk6))
    | 10, _, hx =>
      obtain ⟨r, m1, m2, r1, r2, hv⟩ := t10 (xs (nI k + 1).toNatClampNeg) (xs (nI k + 2).toNatClampNeg) (xs (nI k + 3).toNatClampNeg) mem hI
      exact ln_ts C 10 rfl (by rw [hx]; rfl) (by decide) rfl (lnc_10 hNM C (nI k) g1 g2 g3 r1 r2 (next m2 N M (by omega) (by omega) (hv.imp id Or.inl) hk6))
    | 11, _, hx =>
      obtain ⟨r, m1, m2, r1, r2, hv⟩ := t11 (xs (nI k + 1).toNatClampNeg) (xs (nI k + 2).toNatClampNeg) (xs (nI k + 3).toNatClampNeg) mem hI
      exact ln_ts C 11 rfl (by rw [hx]; rfl) (by decide) rfl (lnc_11 hNM C (nI k) g1 g2 g3 r1 r2 (next m2 N M (by omega) (by omega) (hv.imp id Or.inl) hk6))
    | 12, _, hx =>
      obtain ⟨r, m1, m2, r1, r2, hv⟩ := t12 (xs (nI k + 1).toNatClampNeg) (xs (nI k + 2).toNatClampNeg) (xs (nI k + 3).toNatClampNeg) (xs (nI k + 4).toNatClampNeg) (xs (nI k + 5).toNatClampNeg) mem hI
      exact ln_ts C 12 rfl (by rw [hx]; rfl) (by decide) rfl (lnc_12 hNM C (nI k) g1 g2 g3 g4 g5 r1 r2 (next m2 N M (by omega) (by omega) (hv.imp id Or.inl) hk6))
    | 13, _, hx => exact ln_ts C 13 rfl (by rw [hx]; rfl) (by decide) rfl (hmach ad (nI k) mem N M (by omega) (by omega) hA had hPA g1 hI (fun mem' hv => next mem' (N + 1) (M + 6) (by omega) (by omega) (Or.inl hv) hk6))
    | 14, _, hx =>
      obtain ⟨r, m1, m2, r1, r2, hv⟩ := t14 (xs (nI k + 1).toNatClampNeg) mem hI
      exact ln_ts C 14 rfl (by rw [hx]; rfl) (by decide) rfl (lnc_14 hNM C (nI k) g1 r1 r2 (next m2 N M (by omega) (by omega) (hv.imp id Or.inl) hk6))
    | 15, _, hx =>
      obtain ⟨r, m1, m2, r1, r2, hv⟩ := t15 (xs (nI k + 1).toNatClampNeg) mem hI
      exact ln_ts C 15 rfl (by rw [hx]; rfl) (by decide) rfl (lnc_15 hNM C (nI k) g1 r1 r2 (next m2 N M (by omega) (by omega) (hv.imp id Or.inl) hk6))
    | (j + 16), hj, _ => exact absurd hj (by omega)
end LOOPN
