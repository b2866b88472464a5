/-! ===== text() changes the two programs' places: the world renamed ===== -/
def am_pi (k : Nat) : Nat := bif Nat.ble 2 k && Nat.ble k 10 then k + 9 else bif Nat.ble 11 k && Nat.ble k 19 then k - 9 else k
def am_ren (m : am_M) : am_M := (fun a b => m.1 (am_pi a) b, fun a b => m.2.1 (am_pi a) b, fun a b => m.2.2.1 (am_pi a) b, fun a b => (m.2.2.2 (am_pi a) b).map am_pi)
theorem am_pi_pi (k : Nat) : am_pi (am_pi k) = k := by
  have key : ∀ k, k < 20 → am_pi (am_pi k) = k := by decide
  by_cases h : k < 20
  · exact key k h
  · have h1 : am_pi k = k := by
      have e1 : Nat.ble k 10 = false := by
        cases hb : Nat.ble k 10 with
        | false => rfl
        | true => exact absurd (Nat.le_of_ble_eq_true hb) (by omega)
      have e2 : Nat.ble k 19 = false := by
        cases hb : Nat.ble k 19 with
        | false => rfl
        | true => exact absurd (Nat.le_of_ble_eq_true hb) (by omega)
      simp [am_pi, e1, e2]
    rw [h1, h1]
theorem am_SH_pi : ∀ k, k < 82 → am_SH[am_pi k]? = am_SH[k]? := by decide +kernel
theorem am_pi_lt : ∀ k, k < 82 → am_pi k < 82 := by decide
theorem am_rv_ren (ad : Nat → Nat) (m : am_M) (a k ty : Nat) : am_fv (fun k => ad (am_pi k)) (am_ren m) a k ty = am_fv ad m (am_pi a) k ty := by
  unfold am_fv am_rv
  split
  · rfl
  · rfl
  · rfl
  · simp only [am_ren]
    cases h : m.2.2.2 (am_pi a) k with
    | none => rfl
    | some r => simp [va_rf, am_cv, am_pi_pi]
  · rfl
theorem am_cell_ren (cy : Nat → ClassId) (ad : Nat → Nat) (m : am_M) (k : Nat) (x : am_S1) : am_cell cy (fun k => ad (am_pi k)) (am_ren m) k x = am_cell cy ad m (am_pi k) x := by
  unfold am_cell
  split <;> first | rfl | skip
  next o =>
    congr 2
    apply List.map_congr_left
    intro j _
    exact am_rv_ren ad m k j _
theorem am_W_ren_at {cy : Nat → ClassId} {ad : Nat → Nat} {m : am_M} {k : Nat} {q : Nat × va_E} (h : (am_W cy (fun k => ad (am_pi k)) am_SH (am_ren m))[k]? = some q) : (am_W cy ad am_SH m)[am_pi k]? = some q := by
  have hk : k < am_SH.length := by
    have := (List.getElem?_eq_some_iff.mp h).1
    simpa [am_W] using this
  have hk2 : k < 82 := hk
  obtain ⟨x, hx⟩ : ∃ x, am_SH[k]? = some x := ⟨_, List.getElem?_eq_getElem hk⟩
  rw [am_W_at hx] at h
  rw [am_W_at ((am_SH_pi k hk2).trans hx), ← h, am_cell_ren]
theorem am_P_ren {D : va_G} {cy : Nat → ClassId} {ad : Nat → Nat} {m : am_M} {H : Heap} (h : va_P D am_cl (am_W cy ad am_SH m) H) : va_P D am_cl (am_W cy (fun k => ad (am_pi k)) am_SH (am_ren m)) H := fun k q hq => h (am_pi k) q (am_W_ren_at hq)
theorem am_D_ren {cy : Nat → ClassId} {ad : Nat → Nat} {m : am_M} {A : Nat → Prop} (h : va_D A (am_W cy ad am_SH m)) : va_D A (am_W cy (fun k => ad (am_pi k)) am_SH (am_ren m)) := by
  refine ⟨fun i j x z hx hz hxz => ?_, fun k q hq => h.2 (am_pi k) q (am_W_ren_at hq)⟩
  have := h.1 _ _ _ _ (am_W_ren_at hx) (am_W_ren_at hz) hxz
  rw [← am_pi_pi i, this, am_pi_pi]
section LOOP
variable {p : Program} {l : Launch} {e : Env} {s : State} {m : MethodId} {below : List Frame} {meth : Method} {c : Code} {Q : State → Prop} {D : va_G} {cy : Nat → ClassId} {ad : Nat → Nat} {b Ln : Nat} {xs : Nat → Int32} {ext : Nat → List Value → am_M → Option am_R} {Ex : State → Prop}
/-- the law's locals -/
def lw_ls (i : Int32) : List (Option Value) := [some (.ref 82), some (.ref 0), some (.ref 42), some (.ref 81), some (.int i), none, none, none]
theorem lw_ren {pc : Nat} {i : Int32} {mem : am_M} (k : lw_W p l e s m b below meth c Q D cy (fun k => ad (am_pi k)) (pc, lw_ls i, [], am_ren mem)) : lw_W p l e s m b below meth c Q D cy ad (pc, lw_ls i, [], mem) := by
  intro H locs L hP hD hS hl hn
  have e1 : am_lv (fun k => ad (am_pi k)) (lw_ls i) = am_lv ad (lw_ls i) := rfl
  exact k H locs L (am_P_ren hP) (am_D_ren hD) hS (by show lv_has L 8 (am_lv (fun k => ad (am_pi k)) (lw_ls i)); rw [e1]; exact hl) hn
theorem lw_gt (C : lw_Cx p l s m c D cy ad b Ln xs ext Ex) {pc t : Nat} {off : Int} {x z : Int32} {ls : List (Option Value)} {st : List Value} {mem : am_M} (hd : lw_cd pc = some (.if_icmp .gt off, 3, [t])) (kt : z < x → lw_W p l e s m b below meth c Q D cy ad (t, ls, st, mem)) (kf : ¬ z < x → lw_W p l e s m b below meth c Q D cy ad (pc + 3, ls, st, mem)) : lw_W p l e s m b below meth c Q D cy ad (pc, ls, .int z :: .int x :: st, mem) := by
  by_cases h : z < x
  · refine lw_b C (x' := (t, ls, st, mem)) 1 ?_ (kt h)
    simp only [am_run, hd]
    simp [am_pl, am_step, am_b2, am_cond, am_hd, h]
  · refine lw_b C (x' := (pc + 3, ls, st, mem)) 1 ?_ (kf h)
    simp only [am_run, hd]
    simp [am_pl, am_step, am_b2, am_cond, am_hd, h]
theorem lw_ts (C : lw_Cx p l s m c D cy ad b Ln xs ext Ex) {pc t : Nat} {dd lo hi : Int} {offs : Array Int} {len t0 : Nat} {ts : List Nat} {x : Int32} {ls : List (Option Value)} {st : List Value} {mem : am_M} (k : Nat) (hd : lw_cd pc = some (.tableswitch dd lo hi offs, len, t0 :: ts)) (hx : x.toInt = lo + (k : Int)) (hk : lo + (k : Int) ≤ hi) (ht : ts[k]? = some t) (g : lw_W p l e s m b below meth c Q D cy ad (t, ls, st, mem)) : lw_W p l e s m b below meth c Q D cy ad (pc, ls, .int x :: st, mem) := by
  refine lw_b C (x' := (t, ls, st, mem)) 1 ?_ g
  have h1 : (decide (x.toInt < lo) || decide (hi < x.toInt)) = false := by
    rw [Bool.or_eq_false_iff]
    exact ⟨decide_eq_false (by omega), decide_eq_false (by omega)⟩
  have h2 : (x.toInt - lo).toNat = k := by omega
  simp only [am_run, hd]
  simp only [am_pl, cond_true, am_step, am_ts, h1, cond_false, h2, ht]
theorem lw_and15 (y : Int32) : ∃ k : Nat, k < 16 ∧ (y &&& 15).toInt = (k : Int) := by
  have h : (y &&& 15).toUInt32.toNat < 16 := by
    have e1 : (y &&& 15).toUInt32 = y.toUInt32 &&& 15 := rfl
    rw [e1, UInt32.toNat_and]
    exact Nat.lt_of_le_of_lt Nat.and_le_right (by decide)
  refine ⟨(y &&& 15).toUInt32.toNat, h, ?_⟩
  rw [Int32.toInt, BitVec.toInt_eq_toNat_of_lt]
  · rfl
  · have : (y &&& 15).toBitVec.toNat = (y &&& 15).toUInt32.toNat := rfl
    omega
/-! what the class and the reference owe each other: from every state of theirs that Iv allows, each call is answered alike, and Iv holds again (after text perhaps by other names) -/
def lw_t0 (ext : Nat → List Value → am_M → Option am_R) (Iv : am_M → Prop) : Prop := ∀ (a b c d e : Int32) (mem : am_M), Iv mem → ∃ (r : Int32) (m1 m2 : am_M), am_Rn ext 400 92 [.ref 0, .int a, .int b, .int c, .int d, .int e] mem (some (.int r), m1) ∧ am_Rn ext 400 116 [.ref 42, .int a, .int b, .int c, .int d, .int e] m1 (some (.int r), m2) ∧ (Iv m2 ∨ Iv (am_ren m2))
def lw_t1 (ext : Nat → List Value → am_M → Option am_R) (Iv : am_M → Prop) : Prop := ∀ (a : Int32) (mem : am_M), Iv mem → ∃ (r : Int32) (m1 m2 : am_M), am_Rn ext 400 94 [.ref 0, .int a] mem (some (.int r), m1) ∧ am_Rn ext 400 144 [.ref 42, .int a] m1 (some (.int r), m2) ∧ (Iv m2 ∨ Iv (am_ren m2))
def lw_t2 (ext : Nat → List Value → am_M → Option am_R) (Iv : am_M → Prop) : Prop := ∀ (a : Int32) (mem : am_M), Iv mem → ∃ (r : Int32) (m1 m2 : am_M), am_Rn ext 400 95 [.ref 0, .int a] mem (some (.int r), m1) ∧ am_Rn ext 400 145 [.ref 42, .int a] m1 (some (.int r), m2) ∧ (Iv m2 ∨ Iv (am_ren m2))
def lw_t3 (ext : Nat → List Value → am_M → Option am_R) (Iv : am_M → Prop) : Prop := ∀ (a : Int32) (mem : am_M), Iv mem → ∃ (r : Int32) (m1 m2 : am_M), am_Rn ext 400 96 [.ref 0, .int a] mem (some (.int r), m1) ∧ am_Rn ext 400 147 [.ref 42, .int a] m1 (some (.int r), m2) ∧ (Iv m2 ∨ Iv (am_ren m2))
def lw_t4 (ext : Nat → List Value → am_M → Option am_R) (Iv : am_M → Prop) : Prop := ∀ (a b c : Int32) (mem : am_M), Iv mem → ∃ (r : Int64) (m1 m2 : am_M), am_Rn ext 400 97 [.ref 0, .int a, .int b, .int c] mem (some (.long r), m1) ∧ am_Rn ext 400 172 [.ref 42, .int a, .int b, .int c] m1 (some (.long r), m2) ∧ (Iv m2 ∨ Iv (am_ren m2))
def lw_t5 (ext : Nat → List Value → am_M → Option am_R) (Iv : am_M → Prop) : Prop := ∀ (a b c d e : Int32) (mem : am_M), Iv mem → ∃ (r : Int64) (m1 m2 : am_M), am_Rn ext 400 98 [.ref 0, .int a, .int b, .int c, .int d, .int e] mem (some (.long r), m1) ∧ am_Rn ext 400 173 [.ref 42, .int a, .int b, .int c, .int d, .int e] m1 (some (.long r), m2) ∧ (Iv m2 ∨ Iv (am_ren m2))
def lw_t6 (ext : Nat → List Value → am_M → Option am_R) (Iv : am_M → Prop) : Prop := ∀ (a b c : Int32) (mem : am_M), Iv mem → ∃ (r : Int64) (m1 m2 : am_M), am_Rn ext 400 100 [.ref 0, .int a, .int b, .int c] mem (some (.long r), m1) ∧ am_Rn ext 400 174 [.ref 42, .int a, .int b, .int c] m1 (some (.long r), m2) ∧ (Iv m2 ∨ Iv (am_ren m2))
def lw_t7 (ext : Nat → List Value → am_M → Option am_R) (Iv : am_M → Prop) : Prop := ∀ (a : Int32) (mem : am_M), Iv mem → ∃ (r : Int32) (m1 m2 : am_M), am_Rn ext 400 101 [.ref 0, .int a] mem (some (.int r), m1) ∧ am_Rn ext 400 175 [.ref 42, .int a] m1 (some (.int r), m2) ∧ (Iv m2 ∨ Iv (am_ren m2))
def lw_t8 (ext : Nat → List Value → am_M → Option am_R) (Iv : am_M → Prop) : Prop := ∀ (a b : Int32) (mem : am_M), Iv mem → ∃ (r : Int64) (m1 m2 : am_M), am_Rn ext 400 102 [.ref 0, .int a, .int b] mem (some (.long r), m1) ∧ am_Rn ext 400 181 [.ref 42, .int a, .int b] m1 (some (.long r), m2) ∧ (Iv m2 ∨ Iv (am_ren m2))
def lw_t9 (ext : Nat → List Value → am_M → Option am_R) (Iv : am_M → Prop) : Prop := ∀ (a b : Int32) (mem : am_M), Iv mem → ∃ (r : Int32) (m1 m2 : am_M), am_Rn ext 400 103 [.ref 0, .int a, .int b] mem (some (.int r), m1) ∧ am_Rn ext 400 182 [.ref 42, .int a, .int b] m1 (some (.int r), m2) ∧ (Iv m2 ∨ Iv (am_ren m2))
def lw_t10 (ext : Nat → List Value → am_M → Option am_R) (Iv : am_M → Prop) : Prop := ∀ (a b c : Int32) (mem : am_M), Iv mem → ∃ (r : Int32) (m1 m2 : am_M), am_Rn ext 400 105 [.ref 0, .int a, .int b, .int c] mem (some (.int r), m1) ∧ am_Rn ext 400 183 [.ref 42, .int a, .int b, .int c] m1 (some (.int r), m2) ∧ (Iv m2 ∨ Iv (am_ren m2))
def lw_t11 (ext : Nat → List Value → am_M → Option am_R) (Iv : am_M → Prop) : Prop := ∀ (a b c : Int32) (mem : am_M), Iv mem → ∃ (r : Int32) (m1 m2 : am_M), am_Rn ext 400 106 [.ref 0, .int a, .int b, .int c] mem (some (.int r), m1) ∧ am_Rn ext 400 186 [.ref 42, .int a, .int b, .int c] m1 (some (.int r), m2) ∧ (Iv m2 ∨ Iv (am_ren m2))
def lw_t12 (ext : Nat → List Value → am_M → Option am_R) (Iv : am_M → Prop) : Prop := ∀ (a b c d e : Int32) (mem : am_M), Iv mem → ∃ (r : Int32) (m1 m2 : am_M), am_Rn ext 400 107 [.ref 0, .int a, .int b, .int c, .int d, .int e] mem (some (.int r), m1) ∧ am_Rn ext 400 187 [.ref 42, .int a, .int b, .int c, .int d, .int e] m1 (some (.int r), m2) ∧ (Iv m2 ∨ Iv (am_ren m2))
def lw_t14 (ext : Nat → List Value → am_M → Option am_R) (Iv : am_M → Prop) : Prop := ∀ (a : Int32) (mem : am_M), Iv mem → ∃ (r : Int32) (m1 m2 : am_M), am_Rn ext 400 109 [.ref 0, .int a] mem (some (.int r), m1) ∧ am_Rn ext 400 199 [.ref 42, .int a] m1 (some (.int r), m2) ∧ (Iv m2 ∨ Iv (am_ren m2))
def lw_t15 (ext : Nat → List Value → am_M → Option am_R) (Iv : am_M → Prop) : Prop := ∀ (a : Int32) (mem : am_M), Iv mem → ∃ (r : Int32) (m1 m2 : am_M), am_Rn ext 400 110 [.ref 0, .int a] mem (some (.int r), m1) ∧ am_Rn ext 400 200 [.ref 42, .int a] m1 (some (.int r), m2) ∧ (Iv m2 ∨ Iv (am_ren m2))
def lw_all (ext : Nat → List Value → am_M → Option am_R) (Iv : am_M → Prop) : Prop := lw_t0 ext Iv ∧ lw_t1 ext Iv ∧ lw_t2 ext Iv ∧ lw_t3 ext Iv ∧ lw_t4 ext Iv ∧ lw_t5 ext Iv ∧ lw_t6 ext Iv ∧ lw_t7 ext Iv ∧ lw_t8 ext Iv ∧ lw_t9 ext Iv ∧ lw_t10 ext Iv ∧ lw_t11 ext Iv ∧ lw_t12 ext Iv ∧ lw_t14 ext Iv ∧ lw_t15 ext Iv
set_option maxHeartbeats 4000000 in
set_option maxRecDepth 100000 in
/-- THE LAW'S LOOP, over what the calls owe -/
theorem lw_loop {Iv : am_M → Prop} (hL : Ln ≤ 3072) (hall : lw_all ext Iv)
    (hC : ∀ ad : Nat → Nat, (∀ k, k < am_SH.length → s.heap.size ≤ ad k) → ad 82 = b → lw_Cx p l s m c D cy ad b Ln xs ext Ex)
    (hmach : ∀ (ad : Nat → Nat) (i : Int32) (mem : am_M), (∀ k, k < am_SH.length → s.heap.size ≤ ad k) → ad 82 = b → vp_in (i + 1) Ln → Iv mem → (∀ mem', Iv mem' → lw_W p l e s m b below meth c Q D cy ad (836, lw_ls i, [], mem')) → lw_W p l e s m b below meth c Q D cy ad (713, lw_ls i, [], mem))
    (hend : ∀ (ad : Nat → Nat) (i : Int32) (mem : am_M), (∀ k, k < am_SH.length → s.heap.size ≤ ad k) → ad 82 = b → lw_W p l e s m b below meth c Q D cy ad (842, lw_ls i, [], mem)) :
    ∀ (n k : Nat) (ad : Nat → Nat) (mem : am_M), Ln < 6 * n + k → k ≤ Ln → (∀ k, k < am_SH.length → s.heap.size ≤ ad k) → ad 82 = b → Iv mem → lw_W p l e s m b below meth c Q D cy ad (23, lw_ls (nI k), [], mem) := by
  intro n
  induction n with
  | zero => intro k ad mem h1 h2; omega
  | succ n ih =>
    intro k ad mem h1 h2 hA had hI
    have C := hC ad hA had
    have next : ∀ mem', (Iv mem' ∨ Iv (am_ren mem')) → k + 6 ≤ Ln → lw_W p l e s m b below meth c Q D cy ad (836, lw_ls (nI k), [], mem') := by
      intro mem' hv hk
      refine lw_b C (x' := (23, lw_ls (nI k + 6), [], mem')) 2 rfl ?_
      have e6 : nI k + 6 = nI (k + 6) := by
        rw [← Int32.toInt_inj, Int32.toInt_add, nI_toInt (by omega), nI_toInt (by omega)]
        have : (6 : Int32).toInt = 6 := rfl
        rw [this, Int.bmod_eq_of_le (by omega) (by omega)]
        omega
      rw [e6]
      rcases hv with hv | hv
      · exact ih (k + 6) ad mem' (by omega) hk hA had hv
      · refine lw_ren ?_
        exact ih (k + 6) (fun k => ad (am_pi k)) (am_ren mem') (by omega) hk (fun k h => hA _ (am_pi_lt k h)) had hv
    refine lw_b C (x' := (26, lw_ls (nI k), [.ref 82, .int (nI k)], mem)) 2 rfl ?_
    refine lw_l C rfl ?_
    refine lw_b C (x' := (30, lw_ls (nI k), [.int (Int32.ofNat Ln - 6), .int (nI k)], mem)) 2 rfl ?_
    refine lw_gt C rfl (fun z => hend ad (nI k) mem hA had) (fun z => ?_)
    have hk6 : k + 6 ≤ Ln := by
      have hz : ¬ (Int32.ofNat Ln - 6).toInt < (nI k).toInt := fun h => z (Int32.lt_iff_toInt_lt.mpr h)
      rw [nI_toInt (by omega)] at hz
      by_cases h6 : 6 ≤ Ln
      · have e1 : (Int32.ofNat Ln - 6).toInt = (Ln : Int) - 6 := by
          rw [Int32.toInt_sub, show (Int32.ofNat Ln).toInt = (Ln : Int) from nI_toInt (by omega)]
          have : (6 : Int32).toInt = 6 := rfl
          rw [this, Int.bmod_eq_of_le (by omega) (by omega)]
        omega
      · have e1 : (Int32.ofNat Ln - 6).toInt = (Ln : Int) - 6 := by
          rw [Int32.toInt_sub, show (Int32.ofNat Ln).toInt = (Ln : Int) from nI_toInt (by omega)]
          have : (6 : Int32).toInt = 6 := rfl
          rw [this, Int.bmod_eq_of_le (by omega) (by omega)]
        omega
    have hin : ∀ j : Nat, j < 6 → ∀ v : Int32, v.toInt = (j : Int) → vp_in (nI k + v) Ln := by
      intro j hj v hv
      have e1 : nI k + v = nI (k + j) := by
        rw [← Int32.toInt_inj, Int32.toInt_add, nI_toInt (by omega), nI_toInt (by omega), hv, Int.bmod_eq_of_le (by omega) (by omega)]
        omega
      rw [e1]
      exact vp_in_nI (by omega) (by omega)
    have h0 : vp_in (nI k) Ln := vp_in_nI (by omega) (by omega)
    have g1 := hin 1 (by omega) 1 rfl
    have g2 := hin 2 (by omega) 2 rfl
    have g3 := hin 3 (by omega) 3 rfl
    have g4 := hin 4 (by omega) 4 rfl
    have g5 := hin 5 (by omega) 5 rfl
    refine lw_b C (x' := (36, lw_ls (nI k), [.int (nI k), .ref 82], mem)) 2 rfl ?_
    refine lw_s C rfl h0 ?_
    refine lw_b C (x' := (40, lw_ls (nI k), [.int (xs (nI k).toNatClampNeg &&& 15)], mem)) 2 rfl ?_
    obtain ⟨j, hj, hx⟩ := lw_and15 (xs (nI k).toNatClampNeg)
    obtain ⟨t0, t1, t2, t3, t4, t5, t6, t7, t8, t9, t10, t11, t12, t14, t15⟩ := hall
    match j, hj, hx with
    | 0, _, hx =>
      obtain ⟨r, m1, m2, r1, r2, hv⟩ := t0 (xs (nI k + 1).toNatClampNeg) (xs (nI k + 2).toNatClampNeg) (xs (nI k + 3).toNatClampNeg) (xs (nI k + 4).toNatClampNeg) (xs (nI k + 5).toNatClampNeg) mem hI
      exact lw_ts C 0 rfl (by rw [hx]; rfl) (by decide) rfl (lwc_0 C (nI k) g1 g2 g3 g4 g5 r1 r2 (next m2 hv hk6))
    | 1, _, hx =>
      obtain ⟨r, m1, m2, r1, r2, hv⟩ := t1 (xs (nI k + 1).toNatClampNeg) mem hI
      exact lw_ts C 1 rfl (by rw [hx]; rfl) (by decide) rfl (lwc_1 C (nI k) g1 r1 r2 (next m2 hv hk6))
    | 2, _, hx =>
      obtain ⟨r, m1, m2, r1, r2, hv⟩ := t2 (xs (nI k + 1).toNatClampNeg) mem hI
      exact lw_ts C 2 rfl (by rw [hx]; rfl) (by decide) rfl (lwc_2 C (nI k) g1 r1 r2 (next m2 hv hk6))
    | 3, _, hx =>
      obtain ⟨r, m1, m2, r1, r2, hv⟩ := t3 (xs (nI k + 1).toNatClampNeg) mem hI
      exact lw_ts C 3 rfl (by rw [hx]; rfl) (by decide) rfl (lwc_3 C (nI k) g1 r1 r2 (next m2 hv hk6))
    | 4, _, hx =>
      obtain ⟨r, m1, m2, r1, r2, hv⟩ := t4 (xs (nI k + 1).toNatClampNeg) (xs (nI k + 2).toNatClampNeg) (xs (nI k + 3).toNatClampNeg) mem hI
      exact lw_ts C 4 rfl (by rw [hx]; rfl) (by decide) rfl (lwc_4 C (nI k) g1 g2 g3 r1 r2 (next m2 hv hk6))
    | 5, _, hx =>
      obtain ⟨r, m1, m2, r1, r2, hv⟩ := t5 (xs (nI k + 1).toNatClampNeg) (xs (nI k + 2).toNatClampNeg) (xs (nI k + 3).toNatClampNeg) (xs (nI k + 4).toNatClampNeg) (xs (nI k + 5).toNatClampNeg) mem hI
      exact lw_ts C 5 rfl (by rw [hx]; rfl) (by decide) rfl (lwc_5 C (nI k) g1 g2 g3 g4 g5 r1 r2 (next m2 hv hk6))
    | 6, _, hx =>
      obtain ⟨r, m1, m2, r1, r2, hv⟩ := t6 (xs (nI k + 1).toNatClampNeg) (xs (nI k + 2).toNatClampNeg) (xs (nI k + 3).toNatClampNeg) mem hI
      exact lw_ts C 6 rfl (by rw [hx]; rfl) (by decide) rfl (lwc_6 C (nI k) g1 g2 g3 r1 r2 (next m2 hv hk6))
    | 7, _, hx =>
      obtain ⟨r, m1, m2, r1, r2, hv⟩ := t7 (xs (nI k + 1).toNatClampNeg) mem hI
      exact lw_ts C 7 rfl (by rw [hx]; rfl) (by decide) rfl (lwc_7 C (nI k) g1 r1 r2 (next m2 hv hk6))
    | 8, _, hx =>
      obtain ⟨r, m1, m2, r1, r2, hv⟩ := t8 (xs (nI k + 1).toNatClampNeg) (xs (nI k + 2).toNatClampNeg) mem hI
      exact lw_ts C 8 rfl (by rw [hx]; rfl) (by decide) rfl (lwc_8 C (nI k) g1 g2 r1 r2 (next m2 hv hk6))
    | 9, _, hx =>
      obtain ⟨r, m1, m2, r1, r2, hv⟩ := t9 (xs (nI k + 1).toNatClampNeg) (xs (nI k + 2).toNatClampNeg) mem hI
      exact lw_ts C 9 rfl (by rw [hx]; rfl) (by decide) rfl (lwc_9 C (nI k) g1 g2 r1 r2 (next m2 hv hk6))
    | 10, _, hx =>
      obtain ⟨r, m1, m2, r1, r2, hv⟩ := t10 (xs (nI k + 1).toNatClampNeg) (xs (nI k + 2).toNatClampNeg) (xs (nI k + 3).toNatClampNeg) mem hI
      exact lw_ts C 10 rfl (by rw [hx]; rfl) (by decide) rfl (lwc_10 C (nI k) g1 g2 g3 r1 r2 (next m2 hv hk6))
    | 11, _, hx =>
      obtain ⟨r, m1, m2, r1, r2, hv⟩ := t11 (xs (nI k + 1).toNatClampNeg) (xs (nI k + 2).toNatClampNeg) (xs (nI k + 3).toNatClampNeg) mem hI
      exact lw_ts C 11 rfl (by rw [hx]; rfl) (by decide) rfl (lwc_11 C (nI k) g1 g2 g3 r1 r2 (next m2 hv hk6))
    | 12, _, hx =>
      obtain ⟨r, m1, m2, r1, r2, hv⟩ := t12 (xs (nI k + 1).toNatClampNeg) (xs (nI k + 2).toNatClampNeg) (xs (nI k + 3).toNatClampNeg) (xs (nI k + 4).toNatClampNeg) (xs (nI k + 5).toNatClampNeg) mem hI
      exact lw_ts C 12 rfl (by rw [hx]; rfl) (by decide) rfl (lwc_12 C (nI k) g1 g2 g3 g4 g5 r1 r2 (next m2 hv hk6))
    | 13, _, hx => exact lw_ts C 13 rfl (by rw [hx]; rfl) (by decide) rfl (hmach ad (nI k) mem hA had g1 hI (fun mem' hv => next mem' (Or.inl hv) hk6))
    | 14, _, hx =>
      obtain ⟨r, m1, m2, r1, r2, hv⟩ := t14 (xs (nI k + 1).toNatClampNeg) mem hI
      exact lw_ts C 14 rfl (by rw [hx]; rfl) (by decide) rfl (lwc_14 C (nI k) g1 r1 r2 (next m2 hv hk6))
    | 15, _, hx =>
      obtain ⟨r, m1, m2, r1, r2, hv⟩ := t15 (xs (nI k + 1).toNatClampNeg) mem hI
      exact lw_ts C 15 rfl (by rw [hx]; rfl) (by decide) rfl (lwc_15 C (nI k) g1 r1 r2 (next m2 hv hk6))
    | (j + 16), hj, _ => exact absurd hj (by omega)
end LOOP
