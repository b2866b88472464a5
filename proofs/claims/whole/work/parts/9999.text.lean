/-! ===== text ===== -/
theorem pt_tx_wf {t : pt_K} (ht : pt_tk t) (hen : pt_end t) : ∀ (n : Nat) (ls : pt_L) (c kn : Nat) (ls' : pt_L), pt_good1 t ls c kn → pt_tx t n ls c kn = some (.inr ls') → pt_wf ls' ∧ pt_ks ls' ≤ 96 ∧ pt_nn ls' ≤ 12 ∧ pt_nf ls' ≤ 6 := by
  intro n
  induction n with
  | zero => intro ls c kn ls' h e; simp only [pt_tx] at e; cases e
  | succ n ih =>
    intro ls c kn ls' h e
    obtain ⟨h1, h2, h3, h4, h5, h6⟩ := h
    obtain ⟨⟨q, hq⟩, g⟩ := pt_ln_good ht hen h1 h2 h3 h4 h5 h6
    simp only [pt_tx] at e
    split at e
    · cases e
      exact ⟨h4, by omega, h5, h6⟩
    · rw [hq] at g e
      match q, g, e with
      | .inl f, g, e => simp only at e; cases e
      | .inr (c', k', l2), g, e =>
        obtain ⟨m1, m2, m3, m4, m5, m6, m7⟩ := g _ _ _ rfl
        exact ih l2 c' k' ls' ⟨m1, m3, m2, m4, m5, m6⟩ e
/-! the world renamed -/
def sh_n (x : Option am_S1) : Nat := match x with
  | some (.inl o) => o.2.length
  | _ => 0
def fl (k : Nat) : Nat := sh_n am_SH[k]?
theorem rs_ren : ∀ k, k < 82 → ∀ j, j < fl k → (am_rsl.lookup (am_pi k * 128 + j)).map am_pi = am_rsl.lookup (k * 128 + j) := by decide +kernel
theorem rs_pi : ∀ k, k < 82 → (am_pi k == 0) = (k == 0) ∧ (am_pi k == 20) = (k == 20) ∧ (am_pi k == 25) = (k == 25) ∧ (am_pi k == 34) = (k == 34) ∧ (am_pi k == 39) = (k == 39) := by decide
theorem rf_ren (t s i p u c : Nat) {k j : Nat} (hk : k < 82) (hj : j < fl k) : (am_rf (t, s, i, p, u, c) (am_pi k) j).map am_pi = am_rf (am_pi t, am_pi s, am_pi i, am_pi p, am_pi u, am_pi c) k j := by
  obtain ⟨e0, e20, e25, e34, e39⟩ := rs_pi k hk
  have er := rs_ren k hk j hj
  unfold am_rf
  rw [e0, e20, e25, e34, e39]
  cases (k == 0 && j == 1) with
  | true => rfl
  | false =>
    cases (k == 0 && j == 2) with
    | true => rfl
    | false =>
      cases (k == 20 && j == 1) with
      | true => rfl
      | false =>
        cases (k == 25 && j == 5) with
        | true => rfl
        | false =>
          cases (k == 34 && j == 5) with
          | true => rfl
          | false =>
            cases (k == 39 && j == 3) with
            | true => rfl
            | false => exact er
/-- the cells look at the first slots alone -/
theorem am_W_rr {cy : Nat → ClassId} {ad : Nat → Nat} {m : am_M} {R : Nat → Nat → Option Nat} (h : ∀ k, k < 82 → ∀ j, j < fl k → m.2.2.2 k j = R k j) : am_W cy ad am_SH m = am_W cy ad am_SH (m.1, m.2.1, m.2.2.1, R) := by
  unfold am_W
  apply List.map_congr_left
  intro k hk
  have hk' : k < am_SH.length := List.mem_range.mp hk
  have hk2 : k < 82 := hk'
  obtain ⟨x, hx⟩ : ∃ x, am_SH[k]? = some x := ⟨_, List.getElem?_eq_getElem hk'⟩
  have h1 : fl k = sh_n (some x) := by unfold fl; rw [hx]
  have hg : am_SH.getD k (.inr (0, 0)) = x := by simp [List.getD, hx]
  rw [hg]
  congr 1
  match x, h1 with
  | .inl o, h1 =>
    simp only [am_cell]
    congr 2
    apply List.map_congr_left
    intro j hj
    have hj2 : j < fl k := by rw [h1]; exact List.mem_range.mp hj
    have h5 := h k hk2 j hj2
    unfold am_fv
    congr 1
    unfold am_rv
    split
    · rfl
    · rfl
    · rfl
    · simp only
      rw [h5]
    · rfl
  | .inr (0, n), _ => rfl
  | .inr (1, n), _ => rfl
  | .inr (2, n), _ => rfl
  | .inr (3, n), _ => rfl
  | .inr (n + 4, k), _ => rfl
def ren_ok (Iv : am_M → Prop) (m : am_M) : Prop := ∃ R : Nat → Nat → Option Nat, (∀ k, k < 82 → ∀ j, j < fl k → (am_ren m).2.2.2 k j = R k j) ∧ Iv ((am_ren m).1, (am_ren m).2.1, (am_ren m).2.2.1, R)
theorem am_pi_hi {a : Nat} (h : 20 ≤ a) : am_pi a = a := by
  have e1 : Nat.ble a 10 = false := by
    cases hb : Nat.ble a 10 with
    | false => rfl
    | true => exact absurd (Nat.le_of_ble_eq_true hb) (by omega)
  have e2 : Nat.ble a 19 = false := by
    cases hb : Nat.ble a 19 with
    | false => rfl
    | true => exact absurd (Nat.le_of_ble_eq_true hb) (by omega)
  simp [am_pi, e1, e2]
theorem rm_K_of {ls : pt_L} {I I' : Nat → Nat → Int32} (h : rm_K ls I) (hwf : pt_wf ls) (g : ∀ a b, 42 ≤ a → I' a b = I a b) : rm_K ls I' := by
  obtain ⟨h1, h2, h3, h4, h5, h6, h7⟩ := h
  refine ⟨?_, ?_, ?_, ?_, fun l hl => ?_, fun i x hx => ⟨?_, ?_⟩, fun k x hx => ?_⟩
  · rw [g 42 24 (by omega)]; exact h1
  · rw [g 42 25 (by omega)]; exact h2
  · rw [g 42 21 (by omega)]; exact h3
  · rw [g 42 17 (by omega)]; exact h4
  · rw [g 51 l (by omega)]; exact h5 l hl
  · rw [g 52 x.1 (by omega)]; exact (h6 i x hx).1
  · exact rf_rp_of x.2.2 _ (hwf i x hx).2.2.2 (h6 i x hx).2 (fun a j q1 q2 _ _ => g a j (by omega))
  · rw [g 53 k (by omega)]; exact h7 k x hx
section TEXT
variable {d : Nat} (L : Nat → Nat → Int64) (D : Nat → Nat → UInt64)
theorem c207_36 {ext : Nat → List Value → am_M → Option am_R} (X : am_Rf) (I : Nat → Nat → Int32) (x : Int32) : ∃ I', am_Rn ext (d + 1) 207 [.ref 36, .int x] (I, L, D, am_rf X) (none, (I', L, D, am_rf X)) ∧ (∀ j, j < 18 → I' 36 j = x) ∧ ∀ a b, ¬ a = 36 → I' a b = I a b := by
  have key : ∀ (n k : Nat) (J : Nat → Nat → Int32), k + n = 18 → (∀ j, j < k → J 36 j = x) → (∀ a b, ¬ a = 36 → J a b = I a b) → am_wp ext d mz_207 (5, [some (.ref 36), some (.int x), some (.int (nI k)), some (.int 18)], [], (J, L, D, am_rf X)) (fun r => ∃ I', r = (none, (I', L, D, am_rf X)) ∧ (∀ j, j < 18 → I' 36 j = x) ∧ ∀ a b, ¬ a = 36 → I' a b = I a b) := by
    intro n
    induction n with
    | zero =>
      intro k J hk h1 h2
      obtain rfl : k = 18 := by omega
      exact w207_5_36 J L D X x _ _ ⟨fun _ => ⟨J, rfl, h1, h2⟩, fun z => absurd (by decide) z⟩
    | succ n ih =>
      intro k J hk h1 h2
      refine w207_5_36 J L D X x _ _ ⟨fun z => ?_, fun _ => ⟨ni_inb (by omega) (by omega), ?_⟩⟩
      · rw [show (18 : Int32) = nI 18 from rfl, ni_le (by omega) (by omega)] at z
        omega
      · rw [show (1 : Int32) = nI 1 from rfl, ni_add (by omega), ni_nat (by omega)]
        refine ih (k + 1) _ (by omega) (fun j hj => ?_) (fun a b hab => ?_)
        · rw [am_uI_at]
          by_cases hjk : j = k
          · rw [if_pos ⟨rfl, hjk⟩]
          · rw [if_neg (fun z => hjk z.2)]
            exact h1 j (by omega)
        · rw [am_uI_at, if_neg (fun z => hab z.1)]
          exact h2 a b hab
  obtain ⟨r, h1, I', rfl, h2⟩ := am_of_wp (as := [.ref 36, .int x]) mh_207 rfl (w207_0_36 I L D X x (key 18 0 I (by omega) (fun j hj => by omega) (fun _ _ _ => rfl)))
  exact ⟨I', h1, h2⟩
theorem c3 {ext : Nat → List Value → am_M → Option am_R} (xt xs xi xp xu xc : Nat) (I : Nat → Nat → Int32) : ∃ I', am_Rn ext (d + 2) 3 [.ref 34, .ref 11] (I, L, D, am_rf (xt, xs, xi, xp, xu, xc)) (none, (I', L, D, am_rf (xt, xs, xi, xp, 11, xc))) ∧ (∀ j, j < 18 → I' 36 j = 0) ∧ ∀ a b, ¬ a = 36 → I' a b = I a b := by
  obtain ⟨I1, r1, h1, h2⟩ := c207_36 (ext := ext) (d := d) L D (xt, xs, xi, xp, 11, xc) I 0
  exact ⟨I1, am_rn_of mh_3 rfl (w3_0 I L D xc xi xp xs xt xu ⟨I1, L, D, r1, rfl⟩), h1, h2⟩
theorem v_in {v : Int32} {t : Nat} (ht : t ≤ 500) (h1 : ¬ v < 0) (h2 : v ≤ nI t) : ∃ n : Nat, n ≤ t ∧ v = nI n := by
  have z : (0 : Int32).toInt = 0 := rfl
  rw [Int32.lt_iff_toInt_lt, z] at h1
  rw [Int32.le_iff_toInt_le, nI_toInt (by omega)] at h2
  refine ⟨v.toInt.toNat, by omega, ?_⟩
  rw [← Int32.toInt_inj, nI_toInt (by omega)]
  omega
theorem ow_1 : ∀ (v : Int32) (mem : am_M), iv (Cc2 Cm) mem → ∃ (r : Int32) (m1 m2 : am_M), am_Rn am_ext 400 94 [.ref 0, .int v] mem (some (.int r), m1) ∧ am_Rn am_ext 400 144 [.ref 42, .int v] m1 (some (.int r), m2) ∧ (iv (Cc2 Cm) m2 ∨ ren_ok (iv (Cc2 Cm)) m2) := by
  intro v m hm
  obtain ⟨I, L, D, xi, xp, xc, ls, rfl, hT, hP, hc⟩ := hm
  have hT' := hT
  obtain ⟨t, h1, h2, h3, h4, h5, h6, h7⟩ := hT'
  have no : (v.toInt < 0 ∨ (t : Int) < v.toInt) → am_Rn am_ext 400 94 [.ref 0, .int v] (I, L, D, am_rf (2, 11, xi, xp, 2, xc)) (some (.int (-2)), (I, L, D, am_rf (2, 11, xi, xp, 2, xc))) → ∃ (r : Int32) (m1 m2 : am_M), am_Rn am_ext 400 94 [.ref 0, .int v] (I, L, D, am_rf (2, 11, xi, xp, 2, xc)) (some (.int r), m1) ∧ am_Rn am_ext 400 144 [.ref 42, .int v] m1 (some (.int r), m2) ∧ (iv (Cc2 Cm) m2 ∨ ren_ok (iv (Cc2 Cm)) m2) := fun hv r =>
    ⟨-2, _, _, r, am_up (c144_no (ext := am_ext) L D (2, 11, xi, xp, 2, xc) h3 h1 hv) (by omega), Or.inl (iv_go (ok2 Cm_ok) hT hP hc (iv_s_I (iv_2 I 0) (fun _ _ _ => rfl)))⟩
  by_cases g1 : v < 0
  · exact no (Or.inl (by rw [Int32.lt_iff_toInt_lt] at g1; exact g1)) (am_rn_of (d := 399) mh_94 rfl (w94_0 I L D xc xi xp 2 v ⟨fun _ => rfl, fun z => absurd g1 z⟩))
  · by_cases g2 : v ≤ nI t
    · obtain ⟨n, hn, rfl⟩ := v_in h1 g1 g2
      have e43 : I 43 = I 1 := funext fun i => (h4 i).symm
      obtain ⟨ht, hen⟩ := pt_tape_ok (I 1) (show n ≤ 500 by omega) (pu_toks_len (I 1) n n 0)
      have g0 : pt_good1 (pt_tape (I 1) n) [] 0 0 := ⟨ht.1, by omega, rfl, fun i x hx => by simp at hx, by decide, by decide⟩
      obtain ⟨q, hq⟩ := pt_tx_good ht hen 20 [] 0 0 g0 (by simp)
      have e1 : (am_uI I 0 8 0) 1 = I 1 := funext fun i => by rw [am_uI_at, if_neg (by omega)]
      obtain ⟨x, I1, r1, fr, K⟩ := c40 (d := 398) L D 2 11 xp 2 xc xi (am_uI I 0 8 0) (n := n) (by omega) (by omega) (q := q) (by rw [e1]; exact hq)
      -- what stands ahead of the reference's reading
      have le8 : nI n ≤ I 0 8 := by rw [h2]; exact g2
      cases q with
      | inl f =>
        obtain ⟨kx, k8, k9⟩ := K
        subst kx
        obtain ⟨I2, hI2⟩ : ∃ I2 : Nat → Nat → Int32, I2 = am_uI (am_uI I1 0 9 (I1 20 8)) 0 10 (I1 20 9) := ⟨_, rfl⟩
        have f2 : ∀ a b, (a < 11 ∨ 24 < a) → ¬ (a = 0 ∧ (b = 8 ∨ b = 9 ∨ b = 10)) → I2 a b = I a b := fun a b q1 q2 => by rw [hI2, am_uI_at, if_neg (by omega), am_uI_at, if_neg (by omega), fr a b q1, am_uI_at, if_neg (by omega)]
        have e08 : I2 0 8 = 0 := by rw [hI2, am_uI_at, if_neg (by omega), am_uI_at, if_neg (by omega), fr 0 8 (by omega), am_uI_at, if_pos ⟨rfl, rfl⟩]
        have e09 : I2 0 9 = nI f.1 := by rw [hI2, am_uI_at, if_neg (by omega), am_uI_at, if_pos ⟨rfl, rfl⟩]; exact k8
        have e010 : I2 0 10 = f.2 := by rw [hI2, am_uI_at, if_pos ⟨rfl, rfl⟩]; exact k9
        have r94 : am_Rn am_ext 400 94 [.ref 0, .int (nI n)] (I, L, D, am_rf (2, 11, xi, xp, 2, xc)) (some (.int (-1)), (I2, L, D, am_rf (2, 11, 11, xp, 2, xc))) := am_rn_of (d := 399) mh_94 rfl (w94_0 I L D xc xi xp 2 (nI n) ⟨fun z => absurd z g1, fun _ => ⟨fun _ => ⟨0, I1, L, D, r1, fun z => absurd rfl z, fun _ => by rw [hI2]⟩, fun z => absurd le8 z⟩⟩)
        have e43' : I2 43 = I 1 := by rw [← e43]; exact funext fun b => f2 43 b (by omega) (by omega)
        obtain ⟨y, I3, r3, t1, fr3, M⟩ := c144 (ext := am_ext) L D (2, 11, 11, xp, 2, xc) (I := I2) (ts := t) (n := n) (by rw [f2 42 1 (by omega) (by omega)]; exact h3) h1 hn (fun i hi => by rw [f2 44 i (by omega) (by omega)]; exact h7 i hi) (q := .inl f) (by rw [e43']; exact hq)
        obtain ⟨ky, kF, kf⟩ := M
        subst ky
        have g3 : ∀ a b, iv_k a b → ¬ (a = 0 ∧ (b = 8 ∨ b = 9 ∨ b = 10)) → ¬ (a = 42 ∧ (b = 1 ∨ b = 4 ∨ b = 5)) → I3 a b = I a b := by
          intro a b k q1 q2
          by_cases hk : (45 ≤ a ∧ a ≤ 50 ∧ b < 96) ∨ ((a = 51 ∨ a = 52) ∧ b < 26) ∨ a = 53 ∨ (a = 42 ∧ (b = 17 ∨ b = 21 ∨ b = 24 ∨ b = 25 ∨ b = 59 ∨ b = 60))
          · rw [kf a b hk, f2 a b (by omega) q1]
          · rw [fr3 a b (by unfold iv_k at k; omega), f2 a b (by unfold iv_k at k; omega) q1]
        refine ⟨-1, _, _, r94, am_up r3 (by omega), Or.inl ⟨I3, L, D, 11, xp, xc, ls, rfl, ⟨0, by omega, ?_, t1, fun i => ?_, ?_, ?_, fun i hi => ?_⟩, ?_, ?_, ?_⟩⟩
        · rw [fr3 0 8 (by omega)]; exact e08
        · rw [g3 1 i (by unfold iv_k; omega) (by omega) (by omega), g3 43 i (by unfold iv_k; omega) (by omega) (by omega)]; exact h4 i
        · rw [fr3 0 9 (by omega), e09, kF.1]
        · rw [fr3 0 10 (by omega), e010, kF.2]
        · rw [g3 44 i (by unfold iv_k; omega) (by omega) (by omega)]; exact h7 i hi
        · obtain ⟨hL, hK, hwf, h18, h96, h12, hf6⟩ := hP
          refine ⟨?_, ?_, hwf, h18, h96, h12, hf6⟩
          · have e : ∀ a, 2 ≤ a → a ≤ 10 → I3 a = I a := fun a q1 q2 => funext fun b => g3 a b (by unfold iv_k; omega) (by omega) (by omega)
            unfold rd_L at hL ⊢
            simp only [Nat.reduceAdd] at hL ⊢
            rw [e 2 (by omega) (by omega), e 3 (by omega) (by omega), e 4 (by omega) (by omega), e 5 (by omega) (by omega), e 6 (by omega) (by omega), e 7 (by omega) (by omega), e 8 (by omega) (by omega), e 9 (by omega) (by omega), e 10 (by omega) (by omega)]
            exact hL
          · have hK2 : rm_K ls (fun a b => if 42 ≤ a ∧ ¬ (a = 42 ∧ (b = 1 ∨ b = 4 ∨ b = 5)) then I3 a b else I a b) := rm_K_s hK hwf h96 (fun a b k => by
              split
              · exact g3 a b k (by omega) (by omega)
              · rfl)
            obtain ⟨k1, k2, k3, k4, k5, k6, k7⟩ := hK2
            exact ⟨k1, k2, k3, k4, k5, fun i x hx => ⟨(k6 i x hx).1, rf_rp_of x.2.2 _ (hwf i x hx).2.2.2 (k6 i x hx).2 (fun a j q1 q2 _ _ => by rw [if_pos (by omega)])⟩, k7⟩
        · exact Cx_s hc.1 (g3 42 59 (by unfold iv_k; omega) (by omega) (by omega)) (fun b => g3 71 b (by unfold iv_k; omega) (by omega) (by omega)) (fun _ _ _ => rfl)
        · exact Cm_ok ls I D I3 D hP (fun b => g3 36 b (by unfold iv_k; omega) (by omega) (by omega)) (g3 42 60 (by unfold iv_k; omega) (by omega) (by omega)) (fun b => g3 76 b (by unfold iv_k; omega) (by omega) (by omega)) (fun _ _ _ => rfl) hc.2
      | inr ln =>
        obtain ⟨kx, k8, k9, kL⟩ := K
        subst kx
        obtain ⟨wf, w96, w12, w6⟩ := pt_tx_wf ht hen 20 [] 0 0 ln g0 hq
        have w18 : ln.length ≤ 18 := by have := pt_nn_nf ln; omega
        obtain ⟨I2, hI2⟩ : ∃ I2 : Nat → Nat → Int32, I2 = am_uI (am_uI I1 0 9 (I1 20 8)) 0 10 (I1 20 9) := ⟨_, rfl⟩
        have f2 : ∀ a b, (a < 11 ∨ 24 < a) → ¬ (a = 0 ∧ (b = 8 ∨ b = 9 ∨ b = 10)) → I2 a b = I a b := fun a b q1 q2 => by rw [hI2, am_uI_at, if_neg (by omega), am_uI_at, if_neg (by omega), fr a b q1, am_uI_at, if_neg (by omega)]
        have f1 : ∀ a b, ¬ a = 0 → I2 a b = I1 a b := fun a b q => by rw [hI2, am_uI_at, if_neg (by omega), am_uI_at, if_neg (by omega)]
        have e08 : I2 0 8 = 0 := by rw [hI2, am_uI_at, if_neg (by omega), am_uI_at, if_neg (by omega), fr 0 8 (by omega), am_uI_at, if_pos ⟨rfl, rfl⟩]
        have e09 : I2 0 9 = 0 := by rw [hI2, am_uI_at, if_neg (by omega), am_uI_at, if_pos ⟨rfl, rfl⟩]; exact k8
        have e010 : I2 0 10 = -1 := by rw [hI2, am_uI_at, if_pos ⟨rfl, rfl⟩]; exact k9
        have kL2 : rd_L 11 ln I2 := by
          have e : ∀ a, 11 ≤ a → I2 a = I1 a := fun a q => funext fun b => f1 a b (by omega)
          unfold rd_L at kL ⊢
          simp only [Nat.reduceAdd] at kL ⊢
          rw [e 11 (by omega), e 12 (by omega), e 13 (by omega), e 14 (by omega), e 15 (by omega), e 16 (by omega), e 17 (by omega), e 18 (by omega), e 19 (by omega)]
          exact kL
        obtain ⟨I3, L3, r25, f3, l3, x3⟩ := c25 (ext := am_ext) D (11, 2, 11, xp, 2, xc) (I := I2) (L := L) kL2 wf w18 w96
        obtain ⟨I4, r3', z4, f4⟩ := c3 (ext := am_ext) (d := 0) L3 D 11 2 11 xp 2 xc I3
        have f24 : ∀ a b, ¬ a = 36 → ¬ (a = 29 ∧ b = 4) → I4 a b = I2 a b := fun a b q1 q2 => by rw [f4 a b q1, f3 a b q2]
        have kL4 : rd_L 11 ln I4 := by
          have e : ∀ a, 11 ≤ a → a ≤ 19 → I4 a = I2 a := fun a q1 q2 => funext fun b => f24 a b (by omega) (by omega)
          unfold rd_L at kL2 ⊢
          simp only [Nat.reduceAdd] at kL2 ⊢
          rw [e 11 (by omega) (by omega), e 12 (by omega) (by omega), e 13 (by omega) (by omega), e 14 (by omega) (by omega), e 15 (by omega) (by omega), e 16 (by omega) (by omega), e 17 (by omega) (by omega), e 18 (by omega) (by omega), e 19 (by omega) (by omega)]
          exact kL2
        have r94 : am_Rn am_ext 400 94 [.ref 0, .int (nI n)] (I, L, D, am_rf (2, 11, xi, xp, 2, xc)) (some (.int (nI ln.length)), (I4, L3, D, am_rf (11, 2, 11, xp, 11, xc))) := am_rn_of (d := 399) mh_94 rfl (w94_0 I L D xc xi xp 2 (nI n) ⟨fun z => absurd z g1, fun _ => ⟨fun _ => ⟨1, I1, L, D, r1, fun _ => ⟨I3, L3, D, by rw [← hI2]; exact am_up r25 (by omega), I4, L3, D, am_up r3' (by omega), by rw [kL4.1]⟩, fun z => absurd z (by decide)⟩, fun z => absurd le8 z⟩⟩)
        have f04 : ∀ a b, (a < 11 ∨ 24 < a) → ¬ (a = 0 ∧ (b = 8 ∨ b = 9 ∨ b = 10)) → ¬ a = 36 → ¬ (a = 29 ∧ b = 4) → I4 a b = I a b := fun a b q1 q2 q3 q4 => by rw [f24 a b q3 q4, f2 a b q1 q2]
        have e43' : I4 43 = I 1 := by rw [← e43]; exact funext fun b => f04 43 b (by omega) (by omega) (by omega) (by omega)
        obtain ⟨y, I5, r5, t1, fr5, M⟩ := c144 (ext := am_ext) L3 D (11, 2, 11, xp, 11, xc) (I := I4) (ts := t) (n := n) (by rw [f04 42 1 (by omega) (by omega) (by omega) (by omega)]; exact h3) h1 hn (fun i hi => by rw [f04 44 i (by omega) (by omega) (by omega) (by omega)]; exact h7 i hi) (q := .inr ln) (by rw [e43']; exact hq)
        obtain ⟨ky, m4, m5, mK, m59, m60⟩ := M
        subst ky
        refine ⟨_, _, _, r94, am_up r5 (by omega), Or.inr ⟨am_rf (2, 11, 2, am_pi xp, 2, am_pi xc), fun k hk j hj => rf_ren 11 2 11 xp 11 xc hk hj, ?_⟩⟩
        show iv (Cc2 Cm) ((fun a b => I5 (am_pi a) b), (fun a b => L3 (am_pi a) b), (fun a b => D (am_pi a) b), am_rf (2, 11, 2, am_pi xp, 2, am_pi xc))
        have lo : ∀ a b, a < 42 → I5 a b = I4 a b := fun a b h => fr5 a b (by omega)
        refine ⟨_, _, _, 2, am_pi xp, am_pi xc, ln, rfl, ⟨0, by omega, ?_, t1, fun i => ?_, ?_, ?_, fun i hi => ?_⟩, ⟨?_, ?_, wf, w18, w96, w12, w6⟩, ⟨fun i hi => ?_, Or.inl m59⟩, ⟨fun i x hx hb => Or.inl ?_, Or.inl m60⟩⟩
        · show I5 0 8 = nI 0
          rw [lo 0 8 (by omega), f24 0 8 (by omega) (by omega)]; exact e08
        · show I5 1 i = I5 43 i
          rw [lo 1 i (by omega), fr5 43 i (by omega), f04 1 i (by omega) (by omega) (by omega) (by omega), f04 43 i (by omega) (by omega) (by omega) (by omega)]; exact h4 i
        · show I5 0 9 = I5 42 4
          rw [lo 0 9 (by omega), f24 0 9 (by omega) (by omega), e09, m4]
        · show I5 0 10 = I5 42 5
          rw [lo 0 10 (by omega), f24 0 10 (by omega) (by omega), e010, m5]
        · show I5 44 i = _
          rw [fr5 44 i (by omega), f04 44 i (by omega) (by omega) (by omega) (by omega)]; exact h7 i hi
        · have e : ∀ a, 11 ≤ a → a ≤ 19 → I5 a = I4 a := fun a q1 q2 => funext fun b => lo a b (by omega)
          have kL5 : rd_L 11 ln I5 := by
            unfold rd_L at kL4 ⊢
            simp only [Nat.reduceAdd] at kL4 ⊢
            rw [e 11 (by omega) (by omega), e 12 (by omega) (by omega), e 13 (by omega) (by omega), e 14 (by omega) (by omega), e 15 (by omega) (by omega), e 16 (by omega) (by omega), e 17 (by omega) (by omega), e 18 (by omega) (by omega), e 19 (by omega) (by omega)]
            exact kL4
          exact kL5
        · exact rm_K_of mK wf (fun a b h => by show I5 (am_pi a) b = I5 a b; rw [am_pi_hi (by omega)])
        · show (xE ln i = none → L3 31 i = 0) ∧ _
          exact x3 i hi
        · have hi : i < ln.length := (List.getElem?_eq_some_iff.mp hx).1
          show I5 36 i = 0
          rw [lo 36 i (by omega)]
          exact z4 i (by omega)
    · refine no (Or.inr ?_) (am_rn_of (d := 399) mh_94 rfl (w94_0 I L D xc xi xp 2 v ⟨fun z => absurd z g1, fun _ => ⟨fun z => absurd (by rw [h2] at z; exact z) g2, fun _ => rfl⟩⟩))
      rw [Int32.le_iff_toInt_le, nI_toInt (by omega)] at g2
      omega
end TEXT
