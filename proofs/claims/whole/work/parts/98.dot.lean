/-! ===== dot, dots ===== -/
def dt_t (x : Int32) (k : Nat) : Int64 := sp_l 16 (Int32.toInt64 x) + sp_l 12 (Int32.toInt64 (nI k))
def dt_w (ls : pt_L) (l : Nat) (x : Int32) : Option (Int64 × Int64) := aq_o 16 ls l (sp_l 16 (Int32.toInt64 x)) (sp_l 16 (Int32.toInt64 (x + 1)))
def dt_p (ls : pt_L) (l : Nat) (x : Int32) (k : Nat) : Option (Int64 × Int64) := aq_o 16 ls l (dt_t x k) (dt_t x k)
def dt_l (f : Nat → Option (Int64 × Int64)) (b t : Int64) : Nat → Nat → Int32
  | 0, _ => 1
  | k + 1, n => match f n with
    | none => dt_l f b t k (n + 1)
    | some q => if q.1 < b then dt_l f b t k (n + 1) else if t < q.2 then dt_l f b t k (n + 1) else 2
def dt_a (o : Option (Int64 × Int64)) (f : Nat → Option (Int64 × Int64)) (b t : Int64) : Int32 := match o with
  | none => dt_l f b t 17 0
  | some q => if t < q.1 then 0 else if b ≤ q.2 then dt_l f b t 17 0 else 0
def dt (ls : pt_L) (l : Nat) (x y : Int32) : Int32 := dt_a (dt_w ls l x) (dt_p ls l x) (sp_l 16 (Int32.toInt64 y)) (sp_l 16 (Int32.toInt64 (y + 1)))
def sq_ok (x : Int32) : Prop := ¬ x < -64 ∧ ¬ 63 < x
theorem sq_i {x : Int32} (h : sq_ok x) : -64 ≤ x.toInt ∧ x.toInt ≤ 63 := by
  obtain ⟨h1, h2⟩ := h
  rw [Int32.lt_iff_toInt_lt, show (-64 : Int32).toInt = -64 from rfl] at h1
  rw [Int32.lt_iff_toInt_lt, show (63 : Int32).toInt = 63 from rfl] at h2
  omega
theorem sq_1 {x : Int32} (h : sq_ok x) : sp_l 16 (Int32.toInt64 (x + 1)) = sp_l 16 (Int32.toInt64 x) + 65536 := by
  have hx := sq_i h
  have e0 : (Int32.toInt64 x).toInt = x.toInt := Int32.toInt_toInt64 x
  have e1 : (Int32.toInt64 (x + 1)).toInt = x.toInt + 1 := by rw [Int32.toInt_toInt64, Int32.toInt_add, show (1 : Int32).toInt = 1 from rfl, Int.bmod_eq_of_le (by omega) (by omega)]
  have p16 : (2 : Int) ^ 16 = 65536 := by decide
  have l0 := sp_l_i (Int32.toInt64 x) (w := 16) (by omega) (by omega) (by omega)
  have l1 := sp_l_i (Int32.toInt64 (x + 1)) (w := 16) (by omega) (by omega) (by omega)
  have c : (65536 : Int64).toInt = 65536 := rfl
  rw [e0, p16] at l0
  rw [e1, p16] at l1
  rw [← Int64.toInt_inj, l1, i64_add (by omega) (by omega), l0, c]
  omega
theorem sq_w {x : Int32} (h : sq_ok x) : gd2 16 (sp_l 16 (Int32.toInt64 x)) (sp_l 16 (Int32.toInt64 (x + 1))) := by
  have hx := sq_i h
  have e0 : (Int32.toInt64 x).toInt = x.toInt := Int32.toInt_toInt64 x
  have p16 : (2 : Int) ^ 16 = 65536 := by decide
  have l0 := sp_l_i (Int32.toInt64 x) (w := 16) (by omega) (by omega) (by omega)
  have c : (65536 : Int64).toInt = 65536 := rfl
  rw [e0, p16] at l0
  rw [sq_1 h]
  unfold gd2
  rw [i64_add (by omega) (by omega), l0, c, p16]
  omega
theorem dt_12 : ∀ k : Fin 18, sp_l 12 (Int32.toInt64 (nI k.val)) = 4096 * Int32.toInt64 (nI k.val) := by decide
theorem sq_t {x : Int32} {k : Nat} (h : sq_ok x) (hk : k < 17) : gd2 16 (dt_t x k) (dt_t x k) := by
  have hx := sq_i h
  have e0 : (Int32.toInt64 x).toInt = x.toInt := Int32.toInt_toInt64 x
  have ek : (Int32.toInt64 (nI k)).toInt = k := by rw [Int32.toInt_toInt64, nI_toInt (by omega)]
  have p16 : (2 : Int) ^ 16 = 65536 := by decide
  have p12 : (2 : Int) ^ 12 = 4096 := by decide
  have l0 := sp_l_i (Int32.toInt64 x) (w := 16) (by omega) (by omega) (by omega)
  have l1 := sp_l_i (Int32.toInt64 (nI k)) (w := 12) (by omega) (by omega) (by omega)
  rw [e0, p16] at l0
  rw [ek, p12] at l1
  unfold dt_t gd2
  rw [i64_add (by omega) (by omega), l0, l1, p16]
  omega
/-- what the curve keeps -/
def cv (ls : pt_L) (l : Nat) (x : Int32) (m : Nat) (I : Nat → Nat → Int32) (L : Nat → Nat → Int64) : Prop := I 39 4 = nI l ∧ I 39 5 = x ∧ (I 39 6 = if dt_w ls l x = none then 0 else 1) ∧ L 39 7 = sp_lo (dt_w ls l x) ∧ L 39 8 = sp_hi (dt_w ls l x) ∧ m ≤ 17 ∧ I 39 9 = nI m ∧ ∀ k, k < m → L 40 k = sp_lo (dt_p ls l x k) ∧ L 41 k = sp_hi (dt_p ls l x k)
section DOT
variable {ext : Nat → List Value → am_M → Option am_R} {d : Nat} (D : Nat → Nat → UInt64) {ls : pt_L}
theorem c1 (xi xc xp : Nat) {I : Nat → Nat → Int32} {L : Nat → Nat → Int64} (hP : iv_P ls I) {l : Nat} (hl : l < ls.length) {x : Int32} (hx : sq_ok x) : ∃ I' L', am_Rn ext 90 1 [.ref 39, .ref 2, .int (nI l), .int x] (I, L, D, am_rf (2, 11, xi, xp, 2, xc)) (none, (I', L', D, am_rf (2, 11, xi, 2, 2, 2))) ∧ iv_s I L D I' L' D ∧ cv ls l x 0 I' L' := by
  have s1 : iv_s I L D (am_uI (am_uI (am_uI I 39 4 (nI l)) 39 5 x) 39 9 0) L D := iv_s_I (fun a b h => by rw [am_uI_at, if_neg (by unfold iv_k at h; omega), am_uI_at, if_neg (by unfold iv_k at h; omega), am_uI_at, if_neg (by unfold iv_k at h; omega)]) (fun _ _ _ => rfl)
  have hP1 := iv_P_s hP s1.1
  obtain ⟨I1, L1, r3, K⟩ := c60 (ext := ext) (L := L) D 2 11 xi xp 2 2 (show 16 ≤ 20 by omega) hP1.2.2.1 hP1.2.2.2.1 hP1.2.2.2.2.1 hl (sq_w hx) hP1.1
  have kI : ∀ b, I1 39 b = am_uI (am_uI (am_uI I 39 4 (nI l)) 39 5 x) 39 9 0 39 b := fun b => K.2.2.2.1 39 b (by omega)
  refine ⟨_, _, am_rn_of (d := 89) mh_1 rfl (w1_0 I L D xc xi xp 11 2 2 (nI l) x ⟨_, I1, L1, D, am_up r3 (by omega), ?_, rfl⟩), iv_s_t (iv_s_t s1 (rk_iv (D := D) K)) (iv_s_I (fun a b h => by rw [am_uI_at, if_neg (by unfold iv_k at h; omega)]) (fun a b h => by rw [am_uL_at, if_neg (by omega), am_uL_at, if_neg (by omega)])), ?_, ?_, ?_, ?_, ?_, by omega, ?_, fun k hk => by omega⟩
  · split
    · exact Or.inl rfl
    · exact Or.inr rfl
  · rw [am_uI_at, if_neg (by omega), kI, am_uI_at, if_neg (by omega), am_uI_at, if_neg (by omega), am_uI_at, if_pos ⟨rfl, rfl⟩]
  · rw [am_uI_at, if_neg (by omega), kI, am_uI_at, if_neg (by omega), am_uI_at, if_pos ⟨rfl, rfl⟩]
  · rw [am_uI_at, if_pos ⟨rfl, rfl⟩]; rfl
  · rw [am_uL_at, if_neg (by omega), am_uL_at, if_pos ⟨rfl, rfl⟩, K.2.1]; rfl
  · rw [am_uL_at, if_pos ⟨rfl, rfl⟩, K.2.2.1]; rfl
  · rw [am_uI_at, if_neg (by omega), kI, am_uI_at, if_pos ⟨rfl, rfl⟩]; rfl
theorem c2 (xi : Nat) {I0 : Nat → Nat → Int32} {L0 : Nat → Nat → Int64} (hP0 : iv_P ls I0) {l : Nat} (hl : l < ls.length) {x : Int32} (hx : sq_ok x) {m : Nat} (hc : cv ls l x m I0 L0) (y : Int32) : ∃ I' L' m', am_Rn ext 90 2 [.ref 39, .int y] (I0, L0, D, am_rf (2, 11, xi, 2, 2, 2)) (some (.int (dt ls l x y)), (I', L', D, am_rf (2, 11, xi, 2, 2, 2))) ∧ iv_s I0 L0 D I' L' D ∧ cv ls l x m' I' L' := by
  have le : ∀ x y : Int64, x ≤ y ↔ ¬ y < x := fun x y => by rw [Int64.le_iff_toInt_le, Int64.lt_iff_toInt_lt]; omega
  have key : ∀ (b t : Int64) (k n : Nat) (I : Nat → Nat → Int32) (L : Nat → Nat → Int64) (m : Nat), n + k = 17 → n ≤ m → cv ls l x m I L → iv_s I0 L0 D I L D → am_wp ext 89 mz_2 (46, [some (.ref 39), none, some (.long b), none, some (.long t), none, some (.int (nI n)), none, none, none], [], (I, L, D, am_rf (2, 11, xi, 2, 2, 2))) (fun r => ∃ I' L' m', r = (some (.int (dt_l (dt_p ls l x) b t k n)), (I', L', D, am_rf (2, 11, xi, 2, 2, 2))) ∧ iv_s I0 L0 D I' L' D ∧ cv ls l x m' I' L') := by
    intro b t k
    induction k with
    | zero =>
      intro n I L m hn hnm hc hs
      have : n = 17 := by omega
      subst this
      exact w2_46 I L D 2 xi 2 11 2 2 b t (nI 17) ⟨fun _ => ⟨I, L, m, rfl, hs, hc⟩, fun z => absurd (by decide) z⟩
    | succ k ih =>
      intro n I L m hn hnm hc hs
      have n17 : ¬ (17 : Int32) ≤ nI n := fun z => by have := (ni_le (a := 17) (by omega) (by omega)).mp z; omega
      have e1 : nI n + 1 = nI (n + 1) := by rw [show (1 : Int32) = nI 1 from rfl, ni_add (by omega)]
      have hP := iv_P_s hP0 hs.1
      -- the place is asked: n < m
      have look : ∀ (I : Nat → Nat → Int32) (L : Nat → Nat → Int64) (m : Nat), n < m → cv ls l x m I L → iv_s I0 L0 D I L D → am_wp ext 89 mz_2 (156, [some (.ref 39), none, some (.long b), none, some (.long t), none, some (.int (nI n)), none, none, none], [], (I, L, D, am_rf (2, 11, xi, 2, 2, 2))) (fun r => ∃ I' L' m', r = (some (.int (dt_l (dt_p ls l x) b t (k + 1) n)), (I', L', D, am_rf (2, 11, xi, 2, 2, 2))) ∧ iv_s I0 L0 D I' L' D ∧ cv ls l x m' I' L') := by
        intro I L m hnm hc hs
        have hb : am_inb (nI n) 17 = true := ni_inb (by omega) (by omega)
        obtain ⟨l1, l2⟩ := hc.2.2.2.2.2.2.2 n hnm
        have nxt := ih (n + 1) I L m (by omega) (by omega) hc hs
        refine w2_156 I L D 2 xi 2 11 2 2 b t (nI n) ?_
        rw [ni_nat (by omega), l1, l2, e1]
        have gp := aq_gd (w := 16) (by omega) hP.2.2.1 l (sq_t (k := n) hx (by omega))
        cases ho : dt_p ls l x n with
        | none =>
          have ed : dt_l (dt_p ls l x) b t (k + 1) n = dt_l (dt_p ls l x) b t k (n + 1) := by rw [dt_l, ho]
          rw [ed]
          exact ⟨hb, hb, fun _ => nxt, fun z => absurd (by decide) z⟩
        | some q =>
          have ed : dt_l (dt_p ls l x) b t (k + 1) n = if q.1 < b then dt_l (dt_p ls l x) b t k (n + 1) else if t < q.2 then dt_l (dt_p ls l x) b t k (n + 1) else 2 := by rw [dt_l, ho]
          have gq := gp q ho
          rw [ed]
          refine ⟨hb, hb, fun z => ?_, fun _ => ⟨hb, fun z => ?_, fun z => ⟨hb, fun v => ?_, fun v => ?_⟩⟩⟩
          · have z' : q.2 < q.1 := z
            rw [Int64.lt_iff_toInt_lt] at z'
            have := gq.1
            omega
          · have z' : q.1 < b := z
            rw [if_pos z']; exact nxt
          · have z' : ¬ q.1 < b := z
            have v' : t < q.2 := v
            rw [if_neg z', if_pos v']; exact nxt
          · have z' : ¬ q.1 < b := z
            have v' : ¬ t < q.2 := v
            rw [if_neg z', if_neg v']; exact ⟨I, L, m, rfl, hs, hc⟩
      by_cases hlt : n < m
      · refine w2_46 I L D 2 xi 2 11 2 2 b t (nI n) ⟨fun z => absurd z n17, fun _ => ⟨fun _ => look I L m hlt hc hs, fun z => absurd ?_ z⟩⟩
        rw [hc.2.2.2.2.2.2.1, ni_lt (by omega) (by have := hc.2.2.2.2.2.1; omega)]
        exact hlt
      · have em : m = n := by omega
        subst em
        obtain ⟨h4, h5, h6, h7, h8, hm, h9, hk⟩ := hc
        obtain ⟨I1, L1, r3, K⟩ := c60 (ext := ext) (L := L) D 2 11 xi 2 2 2 (show 16 ≤ 20 by omega) hP.2.2.1 hP.2.2.2.1 hP.2.2.2.2.1 hl (sq_t (k := m) hx (by omega)) hP.1
        have hs1 := iv_s_t hs (rk_iv (D := D) K)
        have r3' := am_up r3 (show 83 ≤ 89 by omega)
        -- what is stored
        have sto : ∀ (I2 : Nat → Nat → Int32) (L2 : Nat → Nat → Int64), I2 = am_uI I1 39 9 (nI (m + 1)) → L2 = am_uL (am_uL L1 40 m (sp_lo (dt_p ls l x m))) 41 m (sp_hi (dt_p ls l x m)) → cv ls l x (m + 1) I2 L2 ∧ iv_s I0 L0 D I2 L2 D := by
          intro I2 L2 e2 e3
          subst e2
          subst e3
          have kI : ∀ b, I1 39 b = I 39 b := fun b => K.2.2.2.1 39 b (by omega)
          have kL : ∀ a b, a = 39 ∨ a = 40 ∨ a = 41 → L1 a b = L a b := fun a b h => K.2.2.2.2 a b (by omega)
          refine ⟨⟨?_, ?_, ?_, ?_, ?_, by omega, ?_, fun j hj => ?_⟩, iv_s_t hs1 (iv_s_I (fun a b h => by rw [am_uI_at, if_neg (by unfold iv_k at h; omega)]) (fun a b h => by rw [am_uL_at, if_neg (by omega), am_uL_at, if_neg (by omega)]))⟩
          · rw [am_uI_at, if_neg (by omega), kI]; exact h4
          · rw [am_uI_at, if_neg (by omega), kI]; exact h5
          · rw [am_uI_at, if_neg (by omega), kI]; exact h6
          · rw [am_uL_at, if_neg (by omega), am_uL_at, if_neg (by omega), kL _ _ (by omega)]; exact h7
          · rw [am_uL_at, if_neg (by omega), am_uL_at, if_neg (by omega), kL _ _ (by omega)]; exact h8
          · rw [am_uI_at, if_pos ⟨rfl, rfl⟩]
          · by_cases e : j = m
            · subst e
              exact ⟨by rw [am_uL_at, if_neg (by omega), am_uL_at, if_pos ⟨rfl, rfl⟩], by rw [am_uL_at, if_pos ⟨rfl, rfl⟩]⟩
            · rw [am_uL_at, if_neg (by omega), am_uL_at, if_neg (by omega), am_uL_at, if_neg (by omega), am_uL_at, if_neg (by omega), kL _ _ (by omega), kL _ _ (by omega)]
              exact hk j (by omega)
        have hb : am_inb (nI m) 17 = true := ni_inb (by omega) (by omega)
        have sto' := sto _ _ rfl rfl
        refine w2_46 I L D 2 xi 2 11 2 2 b t (nI m) ⟨fun z => absurd z n17, fun _ => ⟨fun z => ?_, fun _ => ⟨_, I1, L1, D, by rw [h4, h5]; exact r3', fun z => ?_, fun z => ?_⟩⟩⟩
        · rw [h9, ni_lt (by omega) (by omega)] at z; omega
        · have ho : dt_p ls l x m = none := by
            by_cases q : dt_p ls l x m = none
            · exact q
            · have z' : (if dt_p ls l x m = none then (0 : Int32) else 1) = 0 := z
              rw [if_neg q] at z'; exact absurd z' (by decide)
          refine w2_124 I1 L1 D 2 xi 11 2 2 b t (nI m) _ 1 (nI m) ?_
          rw [ni_nat (by omega), e1]
          rw [ho] at sto'
          exact ⟨hb, fun _ => ⟨hb, look _ _ (m + 1) (by omega) sto'.1 sto'.2⟩, fun q => absurd z q⟩
        · have ho : ¬ dt_p ls l x m = none := fun q => z (show (if dt_p ls l x m = none then (0 : Int32) else 1) = 0 by rw [if_pos q])
          refine w2_124 I1 L1 D 2 xi 11 2 2 b t (nI m) _ _ (nI m) ?_
          have l9 : L1 25 9 = sp_lo (dt_p ls l x m) := K.2.1
          have l10 : L1 25 10 = sp_hi (dt_p ls l x m) := K.2.2.1
          rw [ni_nat (by omega), e1, l9, l10]
          exact ⟨hb, fun q => absurd q z, fun _ => ⟨hb, look _ _ (m + 1) (by omega) sto'.1 sto'.2⟩⟩
  have kk := key (sp_l 16 (Int32.toInt64 y)) (sp_l 16 (Int32.toInt64 (y + 1))) 17 0 I0 L0 m rfl (by omega) hc (iv_s_0 I0 L0 D)
  have hc' := hc
  obtain ⟨h4, h5, h6, h7, h8, hm, h9, hk⟩ := hc'
  have main : am_wp ext 89 mz_2 (0, [some (.ref 39), some (.int y), none, none, none, none, none, none, none, none], [], (I0, L0, D, am_rf (2, 11, xi, 2, 2, 2))) (fun r => ∃ I' L' m', r = (some (.int (dt ls l x y)), (I', L', D, am_rf (2, 11, xi, 2, 2, 2))) ∧ iv_s I0 L0 D I' L' D ∧ cv ls l x m' I' L') := by
    refine w2_0 I0 L0 D 2 xi 2 11 2 2 y ?_
    rw [h6, h7, h8]
    cases ho : dt_w ls l x with
    | none =>
      have ed : dt ls l x y = dt_l (dt_p ls l x) (sp_l 16 (Int32.toInt64 y)) (sp_l 16 (Int32.toInt64 (y + 1))) 17 0 := by unfold dt dt_a; rw [ho]
      rw [ed]
      exact ⟨fun _ => kk, fun z => absurd rfl z⟩
    | some q =>
      have ed : dt ls l x y = if sp_l 16 (Int32.toInt64 (y + 1)) < q.1 then 0 else if sp_l 16 (Int32.toInt64 y) ≤ q.2 then dt_l (dt_p ls l x) (sp_l 16 (Int32.toInt64 y)) (sp_l 16 (Int32.toInt64 (y + 1))) 17 0 else 0 := by unfold dt dt_a; rw [ho]
      rw [ed, if_neg (by intro q; cases q)]
      refine ⟨fun z => absurd z (by decide), fun _ => ⟨fun z => ?_, fun z => ⟨fun v => ?_, fun v => ?_⟩⟩⟩
      · have z' : sp_l 16 (Int32.toInt64 (y + 1)) < q.1 := z
        rw [if_pos z']; exact ⟨I0, L0, m, rfl, iv_s_0 I0 L0 D, hc⟩
      · have z' : ¬ sp_l 16 (Int32.toInt64 (y + 1)) < q.1 := z
        have v' : sp_l 16 (Int32.toInt64 y) ≤ q.2 := v
        rw [if_neg z', if_pos v']; exact kk
      · have z' : ¬ sp_l 16 (Int32.toInt64 (y + 1)) < q.1 := z
        have v' : ¬ sp_l 16 (Int32.toInt64 y) ≤ q.2 := v
        rw [if_neg z', if_neg v']; exact ⟨I0, L0, m, rfl, iv_s_0 I0 L0 D, hc⟩
  obtain ⟨r, rr, I', L', m', e, h⟩ := am_of_wp (ext := ext) (d := 89) (as := [.ref 39, .int y]) mh_2 rfl main
  rw [e] at rr
  exact ⟨I', L', m', rr, h⟩
theorem c185 (X : am_Rf) {I0 : Nat → Nat → Int32} {L0 : Nat → Nat → Int64} (hP0 : iv_P ls I0) {v1 : Int32} (hl : lt_k ls v1 = 2) {x y : Int32} (hx : sq_ok x) (hy : sq_ok y) : ∃ I' L', am_Rn ext 90 185 [.ref 42, .int v1, .int x, .int y] (I0, L0, D, am_rf X) (some (.int (dt ls (lt_i ls v1) x y)), (I', L', D, am_rf X)) ∧ iv_s I0 L0 D I' L' D := by
  obtain ⟨q0, q00, _, _, bb, T, q1, q2, q3⟩ := lt_x (ls := ls) (v := v1) (by omega)
  have hb := ni_inb (n := 52) (k := v1.toNatClampNeg) (by omega) (by omega)
  rw [← q00] at hb
  have key : ∀ (b t : Int64) (k n : Nat) (I : Nat → Nat → Int32) (L : Nat → Nat → Int64), n + k = 17 → iv_s I0 L0 D I L D → I 42 48 = 16 → am_wp ext 89 mz_185 (78, [some (.ref 42), some (.int v1), none, none, some (.long (sp_l 16 (Int32.toInt64 x))), none, some (.long b), none, some (.long t), none, some (.int (nI n))], [], (I, L, D, am_rf X)) (fun r => ∃ I' L', r = (some (.int (dt_l (dt_p ls (lt_i ls v1) x) b t k n)), (I', L', D, am_rf X)) ∧ iv_s I0 L0 D I' L' D) := by
    intro b t k
    induction k with
    | zero =>
      intro n I L hn hs h48
      have : n = 17 := by omega
      subst this
      exact w185_78 I L D X v1 _ b t (nI 17) ⟨fun _ => ⟨I, L, rfl, hs⟩, fun z => absurd (by decide) z⟩
    | succ k ih =>
      intro n I L hn hs h48
      have n17 : ¬ (17 : Int32) ≤ nI n := fun z => by have := (ni_le (a := 17) (by omega) (by omega)).mp z; omega
      have e1 : nI n + 1 = nI (n + 1) := by rw [show (1 : Int32) = nI 1 from rfl, ni_add (by omega)]
      have hP := iv_P_s hP0 hs.1
      obtain ⟨I1, L1, r3, K⟩ := c153 (ext := ext) (L := L) D X (show 16 ≤ 20 by omega) hP.2.2.1 hP.2.2.2.1 hP.2.2.2.2.1 hP.2.1 q1 h48 (sq_t (k := n) hx (by omega))
      have e52 : I 52 v1.toNatClampNeg = nI (tr_rt T) := (hP.2.1.2.2.2.2.2.1 _ _ q1).1
      have hs1 := iv_s_t hs (mk_iv (D := D) K)
      have h48' : I1 42 48 = 16 := (K.2.2.1 42 48 (by omega) (by omega)).trans h48
      have et : sp_l 16 (Int32.toInt64 x) + 4096 * Int32.toInt64 (nI n) = dt_t x n := by unfold dt_t; rw [dt_12 ⟨n, by omega⟩]
      have nxt := ih (n + 1) I1 L1 (by omega) hs1 h48'
      have V : me_v (dt_p ls (lt_i ls v1) x n) I1 L1 := K.2.1
      refine w185_78 I L D X v1 _ b t (nI n) ⟨fun z => absurd z n17, fun _ => ⟨hb, I1, L1, D, by rw [e52, et]; exact am_up r3 (by omega), ?_⟩⟩
      rw [e1]
      cases ho : dt_p ls (lt_i ls v1) x n with
      | none =>
        have ed : dt_l (dt_p ls (lt_i ls v1) x) b t (k + 1) n = dt_l (dt_p ls (lt_i ls v1) x) b t k (n + 1) := by rw [dt_l, ho]
        rw [ed]
        rw [ho] at V
        exact ⟨fun _ => nxt, fun z => absurd (me_v0 V) z⟩
      | some q =>
        have ed : dt_l (dt_p ls (lt_i ls v1) x) b t (k + 1) n = if q.1 < b then dt_l (dt_p ls (lt_i ls v1) x) b t k (n + 1) else if t < q.2 then dt_l (dt_p ls (lt_i ls v1) x) b t k (n + 1) else 2 := by rw [dt_l, ho]
        rw [ho] at V
        obtain ⟨v0, l1, l2⟩ := me_v1 V
        rw [ed, v0, l1, l2]
        refine ⟨fun z => absurd z (by decide), fun _ => ⟨fun z => ?_, fun z => ⟨fun v => ?_, fun v => ?_⟩⟩⟩
        · rw [if_pos z]; exact nxt
        · rw [if_neg z, if_pos v]; exact nxt
        · rw [if_neg z, if_neg v]; exact ⟨I1, L1, rfl, hs1⟩
  have s1 : iv_s I0 L0 D (am_uI I0 42 48 16) L0 D := iv_s_I (iv_48 I0 16) (fun _ _ _ => rfl)
  have hP := iv_P_s hP0 s1.1
  obtain ⟨I1, L1, r3, K⟩ := c153 (ext := ext) (L := L0) D X (show 16 ≤ 20 by omega) hP.2.2.1 hP.2.2.2.1 hP.2.2.2.2.1 hP.2.1 q1 (show am_uI I0 42 48 16 42 48 = nI 16 by rw [am_uI_at, if_pos ⟨rfl, rfl⟩]; rfl) (sq_w hx)
  have e52 : I0 52 v1.toNatClampNeg = nI (tr_rt T) := (hP0.2.1.2.2.2.2.2.1 _ _ q1).1
  have hs1 := iv_s_t s1 (mk_iv (D := D) K)
  have h48' : I1 42 48 = 16 := (K.2.2.1 42 48 (by omega) (by omega)).trans (by rw [am_uI_at, if_pos ⟨rfl, rfl⟩])
  have V : me_v (dt_w ls (lt_i ls v1) x) I1 L1 := K.2.1
  have kk := key (sp_l 16 (Int32.toInt64 y)) (sp_l 16 (Int32.toInt64 (y + 1))) 17 0 I1 L1 rfl hs1 h48'
  have main : am_wp ext 89 mz_185 (0, [some (.ref 42), some (.int v1), some (.int x), some (.int y), none, none, none, none, none, none, none], [], (I0, L0, D, am_rf X)) (fun r => ∃ I' L', r = (some (.int (dt ls (lt_i ls v1) x y)), (I', L', D, am_rf X)) ∧ iv_s I0 L0 D I' L' D) := by
    refine w185_0 I0 L0 D X v1 x y ⟨hb, I1, L1, D, ?_, ?_⟩
    · rw [e52]
      have e := sq_1 hx
      rw [e] at r3
      exact am_up r3 (by omega)
    · have ey := sq_1 hy
      rw [ey] at kk
      have edt : dt ls (lt_i ls v1) x y = dt_a (dt_w ls (lt_i ls v1) x) (dt_p ls (lt_i ls v1) x) (sp_l 16 (Int32.toInt64 y)) (sp_l 16 (Int32.toInt64 y) + 65536) := by unfold dt; rw [ey]
      cases ho : dt_w ls (lt_i ls v1) x with
      | none =>
        rw [edt, ho]
        rw [ho] at V
        exact ⟨fun _ => kk, fun z => absurd (me_v0 V) z⟩
      | some q =>
        rw [ho] at V
        obtain ⟨v0, l1, l2⟩ := me_v1 V
        have ed : dt ls (lt_i ls v1) x y = if sp_l 16 (Int32.toInt64 y) + 65536 < q.1 then 0 else if sp_l 16 (Int32.toInt64 y) ≤ q.2 then dt_l (dt_p ls (lt_i ls v1) x) (sp_l 16 (Int32.toInt64 y)) (sp_l 16 (Int32.toInt64 y) + 65536) 17 0 else 0 := by rw [edt, ho]; rfl
        rw [ed, v0, l1, l2]
        refine ⟨fun z => absurd z (by decide), fun _ => ⟨fun z => ?_, fun z => ⟨fun v => ?_, fun v => ?_⟩⟩⟩
        · have z' : sp_l 16 (Int32.toInt64 y) + 65536 < q.1 := z
          rw [if_pos z']; exact ⟨I1, L1, rfl, hs1⟩
        · have z' : ¬ sp_l 16 (Int32.toInt64 y) + 65536 < q.1 := z
          have v' : sp_l 16 (Int32.toInt64 y) ≤ q.2 := v
          rw [if_neg z', if_pos v']; exact kk
        · have z' : ¬ sp_l 16 (Int32.toInt64 y) + 65536 < q.1 := z
          have v' : ¬ sp_l 16 (Int32.toInt64 y) ≤ q.2 := v
          rw [if_neg z', if_neg v']; exact ⟨I1, L1, rfl, hs1⟩
  obtain ⟨r, rr, I', L', e, h⟩ := am_of_wp (ext := ext) (d := 89) (as := [.ref 42, .int v1, .int x, .int y]) mh_185 rfl main
  rw [e] at rr
  exact ⟨I', L', rr, h⟩
theorem c114 (X : am_Rf) {I : Nat → Nat → Int32} {L : Nat → Nat → Int64} (v : Int32) : am_Rn ext (d + 1) 114 [.int v] (I, L, D, am_rf X) (some (.int (if v < -64 then 0 else if 63 < v then 0 else 1)), (I, L, D, am_rf X)) := by
  refine am_rn_of mh_114 rfl (w114_0 I L D X v ⟨fun z => ?_, fun z => ⟨fun y => ?_, fun y => ?_⟩⟩)
  · rw [if_pos z]
  · rw [if_neg z, if_pos y]
  · rw [if_neg z, if_neg y]
theorem ow_11 {Cc : iv_C} (hC : iv_ok Cc) : lw_t11 ext (iv Cc) := by
  intro v1 v2 v3 m hm
  obtain ⟨I, L, D, xi, xp, xc, ls, rfl, hT, hP, hc⟩ := hm
  have r1 := am_up (c112 (ext := ext) (d := 0) L D xi xp 2 xc hP.1 hP.2.2.2.1 v1) (show 2 ≤ 399 by omega)
  have Q := fun (v : Int32) => am_up (c114 (ext := ext) (d := 0) D (2, 11, xi, xp, 2, xc) (I := I) (L := L) v) (show 1 ≤ 399 by omega)
  by_cases good : lt_k ls v1 = 2 ∧ sq_ok v2 ∧ sq_ok v3
  · obtain ⟨g1, g2, g3⟩ := good
    obtain ⟨_, _, _, _, b, T, q1, q2, q3⟩ := lt_x (ls := ls) (v := v1) (by omega)
    rw [if_pos g1] at r1
    obtain ⟨I1, L1, rg, s1, c1'⟩ := c1 (ext := ext) (L := L) D xi xc xp hP q2 g2
    have hP1 := iv_P_s hP s1.1
    obtain ⟨I2, L2, m', rk, s2, c2'⟩ := c2 (ext := ext) D xi hP1 q2 g2 c1' v3
    have ra : am_Rn ext 400 106 [.ref 0, .int v1, .int v2, .int v3] (I, L, D, am_rf (2, 11, xi, xp, 2, xc)) (some (.int (dt ls (lt_i ls v1) v2 v3)), (I2, L2, D, am_rf (2, 11, xi, 2, 2, 2))) := am_rn_of (d := 399) mh_106 rfl (w106_0 I L D xc xi xp 11 2 2 v1 v2 v3 ⟨_, I, L, D, r1, fun z => absurd z (ni_nn (by have := hP.2.2.2.1; omega)), fun _ => ⟨_, I, L, D, Q v2, fun z => absurd (in_0 z) (fun q => q.elim g2.1 g2.2), fun _ => ⟨_, I, L, D, Q v3, fun _ => ⟨I1, L1, D, am_up rg (by omega), _, I2, L2, D, am_up rk (by omega), rfl⟩, fun z => absurd (in_0 z) (fun q => q.elim g3.1 g3.2)⟩⟩⟩)
    have s12 := iv_s_t s1 s2
    have s3 : iv_s I2 L2 D (am_uI I2 42 2 0) L2 D := iv_s_I (iv_2 I2 0) (fun _ _ _ => rfl)
    have hP3 := iv_P_s hP (iv_s_t s12 s3).1
    obtain ⟨I4, L4, r4, s4⟩ := c185 (ext := ext) (L0 := L2) D (2, 11, xi, 2, 2, 2) hP3 g1 g2 g3
    have rb := am_up (c149 (ext := ext) (d := 0) (I := am_uI I2 42 2 0) L2 D (2, 11, xi, 2, 2, 2) hP3.2.1 v1) (show 2 ≤ 399 by omega)
    rw [if_pos g1] at rb
    have R := fun (v a b : Int32) => am_up (c117 (ext := ext) (d := 0) (L := L2) (I := am_uI I2 42 2 0) D (2, 11, xi, 2, 2, 2) v a b) (show 1 ≤ 399 by omega)
    exact ⟨_, _, _, ra, am_rn_of (d := 399) mh_186 rfl (w186_0 I2 L2 D _ v1 v2 v3 ⟨_, _, L2, D, rb, fun z => absurd z (by decide), fun _ => ⟨_, _, L2, D, R v2 (-64) 63, fun z => absurd (in_0 z) (fun q => q.elim g2.1 g2.2), fun _ => ⟨_, _, L2, D, R v3 (-64) 63, fun z => absurd (in_0 z) (fun q => q.elim g3.1 g3.2), fun _ => ⟨_, I4, L4, D, am_up r4 (by omega), rfl⟩⟩⟩⟩), Or.inl (iv_go hC hT hP hc (iv_s_t (iv_s_t s12 s3) s4))⟩
  · have s3 : iv_s I L D (am_uI I 42 2 0) L D := iv_s_I (iv_2 I 0) (fun _ _ _ => rfl)
    have hP3 := iv_P_s hP s3.1
    have rb := am_up (c149 (ext := ext) (d := 0) (I := am_uI I 42 2 0) L D (2, 11, xi, xp, 2, xc) hP3.2.1 v1) (show 2 ≤ 399 by omega)
    have R := fun (v a b : Int32) => am_up (c117 (ext := ext) (d := 0) (L := L) (I := am_uI I 42 2 0) D (2, 11, xi, xp, 2, xc) v a b) (show 1 ≤ 399 by omega)
    have k2 : ∀ {z : Int32}, z = (if lt_k ls v1 = 2 then nI (lt_i ls v1) else -1) → ¬ z < 0 → lt_k ls v1 = 2 := fun {z} e h => by
      by_cases q : lt_k ls v1 = 2
      · exact q
      · rw [if_neg q] at e; rw [e] at h; exact absurd (by decide) h
    have k3 : ¬ (if lt_k ls v1 = 2 then (1 : Int32) else 0) = 0 → lt_k ls v1 = 2 := fun h => by
      by_cases q : lt_k ls v1 = 2
      · exact q
      · rw [if_neg q] at h; exact absurd rfl h
    refine ⟨-1, _, _, am_rn_of (d := 399) mh_106 rfl (w106_0 I L D xc xi xp 11 2 2 v1 v2 v3 ⟨_, I, L, D, r1, fun _ => rfl, fun z1 => ⟨_, I, L, D, Q v2, fun _ => rfl, fun z2 => ⟨_, I, L, D, Q v3, fun z3 => absurd ⟨k2 rfl z1, in_1 z2, in_1 z3⟩ good, fun _ => rfl⟩⟩⟩), am_rn_of (d := 399) mh_186 rfl (w186_0 I L D _ v1 v2 v3 ⟨_, _, L, D, rb, fun _ => rfl, fun z1 => ⟨_, _, L, D, R v2 (-64) 63, fun _ => rfl, fun z2 => ⟨_, _, L, D, R v3 (-64) 63, fun _ => rfl, fun z3 => absurd ⟨k3 z1, in_1 z2, in_1 z3⟩ good⟩⟩⟩), Or.inl (iv_go hC hT hP hc s3)⟩
end DOT
