/-! ===== where ===== -/
def wh_ok (f : Nat → Option (Int64 × Int64)) : Nat → Nat → Bool
  | 0, _ => true
  | k + 1, n => match f n with
    | none => false
    | some _ => wh_ok f k (n + 1)
def wh_m (f : Nat → Option (Int64 × Int64)) : Nat → Nat → Int64 → Int64
  | 0, _, c => c
  | k + 1, n, c => wh_m f k (n + 1) (sp_mx c (sp_lo (f n)))
def wh_b (f : Nat → Option (Int64 × Int64)) (g : Int64) : Nat → Nat → Int32 → Int32
  | 0, _, s => s
  | k + 1, n, s => wh_b f g k (n + 1) (if sp_hi (f n) < g then s else s ||| (1 <<< (nI n &&& 31)))
def wh_a (f : Nat → Option (Int64 × Int64)) : Int32 := if wh_ok f 16 0 = true then wh_b f (wh_m f 15 1 (sp_lo (f 0))) 16 0 0 else 0
theorem wh_ok_at (f : Nat → Option (Int64 × Int64)) : ∀ (k n : Nat), wh_ok f k n = true → ∀ i, n ≤ i → i < n + k → ¬ f i = none
  | 0, n, _, i, h1, h2 => by omega
  | k + 1, n, h, i, h1, h2 => by
    cases hf : f n with
    | none => rw [wh_ok, hf] at h; cases h
    | some q =>
      rw [wh_ok, hf] at h
      by_cases e : i = n
      · subst e; rw [hf]; intro z; cases z
      · exact wh_ok_at f k (n + 1) h i (by omega) (by omega)
/-- the pieces asked -/
def wh_f (ls : pt_L) (l : Nat) (i j : Int) (n : Nat) : Option (Int64 × Int64) := aq_o 16 ls l (sp_pe 16 i j n) (sp_pe 16 i j (n + 1))
def an_wh (ls : pt_L) (v1 v2 v3 : Int32) : Int32 := if lt_k ls v1 = 2 ∧ ¬ v2 < -64 ∧ ¬ 64 < v3 ∧ v2 < v3 then wh_a (wh_f ls (lt_i ls v1) v2.toInt v3.toInt) else 0
theorem pe_mul {n : Nat} {x y : Int32} (h1 : -64 ≤ x.toInt) (h2 : x.toInt < y.toInt) (h3 : y.toInt ≤ 64) (hn : n ≤ 16) : ((Int32.toInt64 x) <<< ((Int32.toInt64 16) &&& 63)) + (((Int32.toInt64 (y - x)) <<< ((Int32.toInt64 12) &&& 63)) * (Int32.toInt64 (nI n))) = sp_pe 16 x.toInt y.toInt n := by
  rw [← Int64.toInt_inj, pe_i (w := 16) (by omega) h1 h2 h3 (by simpa using hn)]
  have ed : (Int32.toInt64 (y - x)).toInt = y.toInt - x.toInt := by rw [Int32.toInt_toInt64, Int32.toInt_sub, Int.bmod_eq_of_le (by omega) (by omega)]
  have ex : (Int32.toInt64 x).toInt = x.toInt := Int32.toInt_toInt64 x
  have en : (Int32.toInt64 (nI n)).toInt = n := by rw [Int32.toInt_toInt64, nI_toInt (by omega)]
  have e16 : ((Int32.toInt64 x) <<< ((Int32.toInt64 16) &&& 63)).toInt = x.toInt * 65536 := by
    have := sp_l_i (Int32.toInt64 x) (w := 16) (by omega) (by rw [ex]; omega) (by rw [ex]; omega)
    rw [ex] at this
    exact this
  have e12 : ((Int32.toInt64 (y - x)) <<< ((Int32.toInt64 12) &&& 63)).toInt = (y.toInt - x.toInt) * 4096 := by
    have := sp_l_i (Int32.toInt64 (y - x)) (w := 12) (by omega) (by rw [ed]; omega) (by rw [ed]; omega)
    rw [ed] at this
    exact this
  have b1 : 0 ≤ (y.toInt - x.toInt) * (n : Int) := Int.mul_nonneg (by omega) (by omega)
  have b2 : (y.toInt - x.toInt) * (n : Int) ≤ 128 * 16 := Int.mul_le_mul (by omega) (by omega) (by omega) (by omega)
  have em : (y.toInt - x.toInt) * 4096 * (n : Int) = (y.toInt - x.toInt) * (n : Int) * 4096 := by rw [Int.mul_assoc, Int.mul_comm 4096, Int.mul_assoc]
  have e3 : (((Int32.toInt64 (y - x)) <<< ((Int32.toInt64 12) &&& 63)) * (Int32.toInt64 (nI n))).toInt = (y.toInt - x.toInt) * (n : Int) * 4096 := by rw [i64_mul (by rw [e12, en, em]; omega) (by rw [e12, en, em]; omega), e12, en, em]
  have p16 : (2 : Int) ^ 16 = 65536 := by decide
  have p4 : (2 : Int) ^ (16 / 4) = 16 := by decide
  rw [i64_add (by rw [e16, e3]; omega) (by rw [e16, e3]; omega), e16, e3, p16, p4]
  omega
theorem pe_ok {n : Nat} {i j : Int} (h1 : -64 ≤ i) (h2 : i < j) (h3 : j ≤ 64) (hn : n < 16) : gd2 16 (sp_pe 16 i j n) (sp_pe 16 i j (n + 1)) := pe_gd (w := 16) (by omega) h1 h2 h3 (by simpa using hn)
section WHERE
variable {ext : Nat → List Value → am_M → Option am_R} {d : Nat} (D : Nat → Nat → UInt64) {ls : pt_L}
theorem c105 (xi xc : Nat) {I0 : Nat → Nat → Int32} {L0 : Nat → Nat → Int64} (hP0 : iv_P ls I0) (xp : Nat) (v1 v2 v3 : Int32) : ∃ I' L' xp', am_Rn ext 400 105 [.ref 0, .int v1, .int v2, .int v3] (I0, L0, D, am_rf (2, 11, xi, xp, 2, xc)) (some (.int (an_wh ls v1 v2 v3)), (I', L', D, am_rf (2, 11, xi, xp', 2, xc))) ∧ iv_s I0 L0 D I' L' D := by
  have r1 := am_up (c112 (ext := ext) (d := 0) L0 D xi xp 2 xc hP0.1 hP0.2.2.2.1 v1) (show 2 ≤ 399 by omega)
  by_cases good : lt_k ls v1 = 2 ∧ ¬ v2 < -64 ∧ ¬ 64 < v3 ∧ v2 < v3
  · have ea : an_wh ls v1 v2 v3 = wh_a (wh_f ls (lt_i ls v1) v2.toInt v3.toInt) := by unfold an_wh; rw [if_pos good]
    obtain ⟨g1, a1, a2, a3⟩ := good
    have a1' := a1
    have a2' := a2
    have a3' := a3
    rw [Int32.lt_iff_toInt_lt, show (-64 : Int32).toInt = -64 from rfl] at a1'
    rw [Int32.lt_iff_toInt_lt, show (64 : Int32).toInt = 64 from rfl] at a2'
    rw [Int32.lt_iff_toInt_lt] at a3'
    obtain ⟨_, _, _, _, b, T, q1, q2, q3⟩ := lt_x (ls := ls) (v := v1) (by omega)
    rw [ea]
    rw [if_pos g1] at r1
    generalize hf : wh_f ls (lt_i ls v1) v2.toInt v3.toInt = F
    have hF : ∀ n, F n = aq_o 16 ls (lt_i ls v1) (sp_pe 16 v2.toInt v3.toInt n) (sp_pe 16 v2.toInt v3.toInt (n + 1)) := fun n => by rw [← hf]; rfl
    -- bits
    have bits : ∀ (I : Nat → Nat → Int32) (L : Nat → Nat → Int64) (xp : Nat) (g : Int64), (∀ n, n < 16 → L 41 n = sp_hi (F n)) → ∀ (k n : Nat) (s : Int32), n + k = 16 → am_wp ext 398 mz_0 (134, [some (.ref 39), none, none, none, none, some (.long g), none, some (.int s), some (.int (nI n)), none], [], (I, L, D, am_rf (2, 11, xi, xp, 2, xc))) (fun r => r = (some (.int (wh_b F g k n s)), (I, L, D, am_rf (2, 11, xi, xp, 2, xc)))) := by
      intro I L xp g hL k
      induction k with
      | zero =>
        intro n s hn
        have : n = 16 := by omega
        subst this
        exact w0_134 I L D xc xi xp 11 2 2 g s (nI 16) ⟨fun _ => rfl, fun z => absurd (by decide) z⟩
      | succ k ih =>
        intro n s hn
        have n16 : ¬ (16 : Int32) ≤ nI n := fun z => by have := (ni_le (a := 16) (by omega) (by omega)).mp z; omega
        have e1 : nI n + 1 = nI (n + 1) := by rw [show (1 : Int32) = nI 1 from rfl, ni_add (by omega)]
        refine w0_134 I L D xc xi xp 11 2 2 g s (nI n) ⟨fun z => absurd z n16, fun _ => ⟨ni_inb (by omega) (by omega), ?_⟩⟩
        rw [ni_nat (by omega), hL n (by omega), e1]
        refine ⟨fun z => ?_, fun z => ?_⟩
        · rw [wh_b, if_pos z, show s ||| 0 = s from Int32.or_zero]; exact ih (n + 1) s (by omega)
        · rw [wh_b, if_neg z]; exact ih (n + 1) _ (by omega)
    have most : ∀ (I : Nat → Nat → Int32) (L : Nat → Nat → Int64) (xp : Nat), (∀ n, n < 16 → L 40 n = sp_lo (F n)) → (∀ n, n < 16 → L 41 n = sp_hi (F n)) → ∀ (k n : Nat) (g : Int64), n + k = 16 → am_wp ext 398 mz_0 (101, [some (.ref 39), none, none, none, none, some (.long g), none, some (.int (nI n)), none, none], [], (I, L, D, am_rf (2, 11, xi, xp, 2, xc))) (fun r => r = (some (.int (wh_b F (wh_m F k n g) 16 0 0)), (I, L, D, am_rf (2, 11, xi, xp, 2, xc)))) := by
      intro I L xp hL hH k
      induction k with
      | zero =>
        intro n g hn
        have : n = 16 := by omega
        subst this
        exact w0_101 I L D xc xi xp 11 2 2 g (nI 16) ⟨fun _ => bits I L xp g hH 16 0 0 rfl, fun z => absurd (by decide) z⟩
      | succ k ih =>
        intro n g hn
        have n16 : ¬ (16 : Int32) ≤ nI n := fun z => by have := (ni_le (a := 16) (by omega) (by omega)).mp z; omega
        have e1 : nI n + 1 = nI (n + 1) := by rw [show (1 : Int32) = nI 1 from rfl, ni_add (by omega)]
        refine w0_101 I L D xc xi xp 11 2 2 g (nI n) ⟨fun z => absurd z n16, fun _ => ⟨ni_inb (by omega) (by omega), _, I, L, D, am_up (c203 (ext := ext) (d := 0) L D _ I g _) (by omega), ?_⟩⟩
        rw [ni_nat (by omega), hL n (by omega), e1]
        exact ih (n + 1) _ (by omega)
    have key : ∀ (k n : Nat) (I : Nat → Nat → Int32) (L : Nat → Nat → Int64) (xp : Nat), n + k = 16 → (∀ m, m < n → L 40 m = sp_lo (F m) ∧ L 41 m = sp_hi (F m)) → iv_s I0 L0 D I L D → (wh_ok F 16 0 = wh_ok F k n) → am_wp ext 398 mz_0 (3, [some (.ref 39), some (.ref 2), some (.int (nI (lt_i ls v1))), some (.int v2), some (.int v3), some (.int (nI n)), none, none, none, none], [], (I, L, D, am_rf (2, 11, xi, xp, 2, xc))) (fun r => ∃ I' L' xp', r = (some (.int (wh_a F)), (I', L', D, am_rf (2, 11, xi, xp', 2, xc))) ∧ iv_s I0 L0 D I' L' D ∧ (n < 16 → xp' = 2) ∧ (n = 16 → xp' = xp)) := by
      intro k
      induction k with
      | zero =>
        intro n I L xp hn hL hs ho
        have : n = 16 := by omega
        subst this
        have e : wh_a F = wh_b F (wh_m F 15 1 (L 40 0)) 16 0 0 := by unfold wh_a; rw [if_pos (by rw [ho]; rfl), (hL 0 (by omega)).1]
        refine w0_3 I L D xc xi xp 11 2 2 _ v2 v3 (nI 16) ⟨fun _ => am_wp_mono (most I L xp (fun m hm => (hL m hm).1) (fun m hm => (hL m hm).2) 15 1 (L 40 0) rfl) (fun r hr => ⟨I, L, xp, by rw [e]; exact hr, hs, fun h => absurd h (by omega), fun _ => rfl⟩), fun z => absurd (by decide) z⟩
      | succ k ih =>
        intro n I L xp hn hL hs ho
        have n16 : ¬ (16 : Int32) ≤ nI n := fun z => by have := (ni_le (a := 16) (by omega) (by omega)).mp z; omega
        have e1 : nI n + 1 = nI (n + 1) := by rw [show (1 : Int32) = nI 1 from rfl, ni_add (by omega)]
        have hP := iv_P_s hP0 hs.1
        have ra := am_up (c82 (ext := ext) (d := 0) L D (2, 11, xi, xp, 2, xc) I 16 n v2.toInt v3.toInt) (show 1 ≤ 398 by omega)
        have rb := am_up (c82 (ext := ext) (d := 0) L D (2, 11, xi, xp, 2, xc) I 16 (n + 1) v2.toInt v3.toInt) (show 1 ≤ 398 by omega)
        rw [Int32.ofInt_toInt, Int32.ofInt_toInt] at ra rb
        obtain ⟨I1, L1, r3, K⟩ := c60 (ext := ext) (L := L) D 2 11 xi xp 2 xc (show 16 ≤ 20 by omega) hP.2.2.1 hP.2.2.2.1 hP.2.2.2.2.1 q2 (pe_ok (n := n) (by omega) a3' (by omega) (by omega)) hP.1
        have hs1 := iv_s_t hs (rk_iv (D := D) K)
        have r3' := am_up r3 (show 83 ≤ 398 by omega)
        rw [← hF n] at r3'
        refine w0_3 I L D xc xi xp 11 2 2 _ v2 v3 (nI n) ⟨fun z => absurd z n16, fun _ => ⟨_, I, L, D, ra, _, I, L, D, by rw [e1]; exact rb, _, I1, L1, D, r3', fun z => ?_, fun z => ?_⟩⟩
        · have hne : ¬ F n = none := fun q => z (by rw [if_pos q])
          obtain ⟨q, hq⟩ : ∃ q, F n = some q := Option.ne_none_iff_exists'.mp hne
          have l9 : L1 25 9 = sp_lo (F n) := by rw [K.2.1, hF n]
          have l10 : L1 25 10 = sp_hi (F n) := by rw [K.2.2.1, hF n]
          rw [ni_nat (by omega), l9, l10, e1]
          refine ⟨ni_inb (by omega) (by omega), ni_inb (by omega) (by omega), am_wp_mono (ih (n + 1) I1 _ 2 (by omega) (fun m hm => ?_) (iv_s_t hs1 (iv_s_I (fun _ _ _ => rfl) (fun a b h => by rw [am_uL_at, if_neg (by omega), am_uL_at, if_neg (by omega)]))) (by rw [ho, wh_ok, hq])) (fun r hr => ?_)⟩
          · by_cases e : m = n
            · subst e
              exact ⟨by rw [am_uL_at, if_neg (by omega), am_uL_at, if_pos ⟨rfl, rfl⟩], by rw [am_uL_at, if_pos ⟨rfl, rfl⟩]⟩
            · rw [am_uL_at, if_neg (by omega), am_uL_at, if_neg (by omega), am_uL_at, if_neg (by omega), am_uL_at, if_neg (by omega), K.2.2.2.2 40 m (by omega), K.2.2.2.2 41 m (by omega)]
              exact hL m (by omega)
          · obtain ⟨I', L', xp', h1, h2, h3, h4⟩ := hr
            refine ⟨I', L', xp', h1, h2, fun _ => ?_, fun h => by omega⟩
            by_cases t : n + 1 < 16
            · exact h3 t
            · exact h4 (by omega)
        · have hno : F n = none := by
            by_cases q : F n = none
            · exact q
            · rw [if_neg q] at z; exact absurd z (by decide)
          refine ⟨I1, L1, 2, ?_, hs1, fun _ => rfl, fun h => by omega⟩
          unfold wh_a
          rw [ho, wh_ok, hno, if_neg (fun z => by cases z)]
    obtain ⟨r, rr, I', L', xp', e, hs, hx, _⟩ := am_of_wp (ext := ext) (d := 398) (as := [.ref 39, .ref 2, .int (nI (lt_i ls v1)), .int v2, .int v3]) mh_0 rfl (w0_0 I0 L0 D xc xi xp 11 2 2 (nI (lt_i ls v1)) v2 v3 (key 16 0 I0 L0 xp rfl (fun m hm => by omega) (iv_s_0 I0 L0 D) rfl))
    have hx2 := hx (by omega)
    subst hx2
    rw [e] at rr
    exact ⟨I', L', 2, am_rn_of (d := 399) mh_105 rfl (w105_0 I0 L0 D xc xi xp 11 2 2 v1 v2 v3 ⟨_, I0, L0, D, r1, fun z => absurd z (ni_nn (by have := hP0.2.2.2.1; omega)), fun _ => ⟨fun z => absurd z a1, fun _ => ⟨fun z => absurd z a2, fun _ => ⟨fun _ => ⟨_, I', L', D, rr, rfl⟩, fun z => absurd a3 z⟩⟩⟩⟩), hs⟩
  · have e : an_wh ls v1 v2 v3 = 0 := by unfold an_wh; rw [if_neg good]
    rw [e]
    refine ⟨I0, L0, xp, am_rn_of (d := 399) mh_105 rfl (w105_0 I0 L0 D xc xi xp 11 2 2 v1 v2 v3 ⟨_, I0, L0, D, r1, fun _ => rfl, fun z1 => ⟨fun _ => rfl, fun z2 => ⟨fun _ => rfl, fun z3 => ⟨fun z4 => absurd ⟨?_, z2, z3, z4⟩ good, fun _ => rfl⟩⟩⟩⟩), iv_s_0 I0 L0 D⟩
    by_cases q : lt_k ls v1 = 2
    · exact q
    · rw [if_neg q] at z1; exact absurd (by decide) z1
theorem c183 (X : am_Rf) {I0 : Nat → Nat → Int32} {L0 : Nat → Nat → Int64} (hP0 : iv_P ls I0) (v1 v2 v3 : Int32) : ∃ I' L', am_Rn ext 400 183 [.ref 42, .int v1, .int v2, .int v3] (I0, L0, D, am_rf X) (some (.int (an_wh ls v1 v2 v3)), (I', L', D, am_rf X)) ∧ iv_s I0 L0 D I' L' D := by
  have s2 : iv_s I0 L0 D (am_uI I0 42 2 0) L0 D := iv_s_I (iv_2 I0 0) (fun _ _ _ => rfl)
  have hP2 := iv_P_s hP0 s2.1
  have r1 := am_up (c149 (ext := ext) (d := 0) (I := am_uI I0 42 2 0) L0 D X hP2.2.1 v1) (show 2 ≤ 399 by omega)
  have R := fun (v a b : Int32) => am_up (c117 (ext := ext) (d := 0) (L := L0) (I := am_uI I0 42 2 0) D X v a b) (show 1 ≤ 399 by omega)
  have p1 : ¬ v2 < -64 → ¬ 64 < v2 → (¬ v3 < v2 + 1 ↔ v2 < v3) := by
    intro h1 h2
    rw [Int32.lt_iff_toInt_lt, show (-64 : Int32).toInt = -64 from rfl] at h1
    rw [Int32.lt_iff_toInt_lt, show (64 : Int32).toInt = 64 from rfl] at h2
    rw [Int32.lt_iff_toInt_lt, Int32.lt_iff_toInt_lt, Int32.toInt_add, show (1 : Int32).toInt = 1 from rfl, Int.bmod_eq_of_le (by omega) (by omega)]
    omega
  by_cases good : lt_k ls v1 = 2 ∧ ¬ v2 < -64 ∧ ¬ 64 < v3 ∧ v2 < v3
  · have ea : an_wh ls v1 v2 v3 = wh_a (wh_f ls (lt_i ls v1) v2.toInt v3.toInt) := by unfold an_wh; rw [if_pos good]
    obtain ⟨g1, a1, a2, a3⟩ := good
    have a1' := a1
    have a2' := a2
    have a3' := a3
    rw [Int32.lt_iff_toInt_lt, show (-64 : Int32).toInt = -64 from rfl] at a1'
    rw [Int32.lt_iff_toInt_lt, show (64 : Int32).toInt = 64 from rfl] at a2'
    rw [Int32.lt_iff_toInt_lt] at a3'
    have a4 : ¬ 64 < v2 := by rw [Int32.lt_iff_toInt_lt, show (64 : Int32).toInt = 64 from rfl]; omega
    obtain ⟨q0, q00, _, _, b, T, q1, q2, q3⟩ := lt_x (ls := ls) (v := v1) (by omega)
    have hb := ni_inb (n := 52) (k := v1.toNatClampNeg) (by omega) (by omega)
    rw [← q00] at hb
    rw [ea]
    rw [if_pos g1] at r1
    generalize hf : wh_f ls (lt_i ls v1) v2.toInt v3.toInt = F
    have hF : ∀ n, F n = aq_o 16 ls (lt_i ls v1) (sp_pe 16 v2.toInt v3.toInt n) (sp_pe 16 v2.toInt v3.toInt (n + 1)) := fun n => by rw [← hf]; rfl
    -- one piece
    have piece : ∀ (n : Nat) (I : Nat → Nat → Int32) (L : Nat → Nat → Int64), n < 16 → iv_s I0 L0 D I L D → I 42 48 = 16 → ∃ I1 L1, am_Rn ext 399 184 [.ref 42, .int v1, .int v2, .int v3, .int (nI n)] (I, L, D, am_rf X) (none, (I1, L1, D, am_rf X)) ∧ iv_s I0 L0 D I1 L1 D ∧ I1 42 48 = 16 ∧ me_v (F n) I1 L1 := by
      intro n I L hn hs h48
      have hP := iv_P_s hP0 hs.1
      obtain ⟨I1, L1, r3, K⟩ := c153 (ext := ext) (L := L) D X (show 16 ≤ 20 by omega) hP.2.2.1 hP.2.2.2.1 hP.2.2.2.2.1 hP.2.1 q1 h48 (pe_ok (n := n) (by omega) a3' (by omega) hn)
      have e52 : I 52 v1.toNatClampNeg = nI (tr_rt T) := (hP.2.1.2.2.2.2.2.1 _ _ q1).1
      have e1 : nI n + 1 = nI (n + 1) := by rw [show (1 : Int32) = nI 1 from rfl, ni_add (by omega)]
      refine ⟨I1, L1, am_rn_of (d := 398) mh_184 rfl (w184_0 I L D X v1 v2 v3 (nI n) ⟨hb, I1, L1, D, ?_, rfl⟩), iv_s_t hs (mk_iv (D := D) K), (K.2.2.1 42 48 (by omega) (by omega)).trans h48, ?_⟩
      · rw [e52, e1, pe_mul (by omega) a3' (by omega) (by omega), pe_mul (by omega) a3' (by omega) (by omega)]
        exact am_up r3 (by omega)
      · rw [hF n]; exact K.2.1
    have bits : ∀ (g : Int64), wh_ok F 16 0 = true → ∀ (k n : Nat) (s : Int32) (I : Nat → Nat → Int32) (L : Nat → Nat → Int64), n + k = 16 → iv_s I0 L0 D I L D → I 42 48 = 16 → am_wp ext 399 mz_183 (100, [some (.ref 42), some (.int v1), some (.int v2), some (.int v3), some (.long g), none, some (.int s), some (.int (nI n))], [], (I, L, D, am_rf X)) (fun r => ∃ I' L', r = (some (.int (wh_b F g k n s)), (I', L', D, am_rf X)) ∧ iv_s I0 L0 D I' L' D) := by
      intro g hok k
      induction k with
      | zero =>
        intro n s I L hn hs h48
        have : n = 16 := by omega
        subst this
        exact w183_100 I L D X v1 v2 v3 g s (nI 16) ⟨fun _ => ⟨I, L, rfl, hs⟩, fun z => absurd (by decide) z⟩
      | succ k ih =>
        intro n s I L hn hs h48
        have n16 : ¬ (16 : Int32) ≤ nI n := fun z => by have := (ni_le (a := 16) (by omega) (by omega)).mp z; omega
        have e1 : nI n + 1 = nI (n + 1) := by rw [show (1 : Int32) = nI 1 from rfl, ni_add (by omega)]
        obtain ⟨I1, L1, r3, hs1, h48', V⟩ := piece n I L (by omega) hs h48
        obtain ⟨q, hq⟩ : ∃ q, F n = some q := Option.ne_none_iff_exists'.mp (wh_ok_at F 16 0 hok n (by omega) (by omega))
        rw [hq] at V
        have l2 : L1 42 52 = sp_hi (F n) := by rw [(me_v1 V).2.2, hq]; rfl
        refine w183_100 I L D X v1 v2 v3 g s (nI n) ⟨fun z => absurd z n16, fun _ => ⟨I1, L1, D, r3, ?_⟩⟩
        rw [l2, e1]
        refine ⟨fun z => ?_, fun z => ?_⟩
        · rw [wh_b, if_pos z]; exact ih (n + 1) s I1 L1 (by omega) hs1 h48'
        · rw [wh_b, if_neg z]; exact ih (n + 1) _ I1 L1 (by omega) hs1 h48'
    have key : ∀ (k n : Nat) (g : Int64) (I : Nat → Nat → Int32) (L : Nat → Nat → Int64), n + k = 16 → iv_s I0 L0 D I L D → I 42 48 = 16 → (wh_ok F 16 0 = wh_ok F k n) → (wh_m F 16 0 (-9223372036854775808) = wh_m F k n g) → am_wp ext 399 mz_183 (52, [some (.ref 42), some (.int v1), some (.int v2), some (.int v3), some (.long g), none, some (.int (nI n)), none], [], (I, L, D, am_rf X)) (fun r => ∃ I' L', r = (some (.int (wh_a F)), (I', L', D, am_rf X)) ∧ iv_s I0 L0 D I' L' D) := by
      intro k
      induction k with
      | zero =>
        intro n g I L hn hs h48 ho hm
        have : n = 16 := by omega
        subst this
        have hok : wh_ok F 16 0 = true := by rw [ho]; rfl
        have em : wh_m F 15 1 (sp_lo (F 0)) = g := by
          have e0 : sp_mx (-9223372036854775808) (sp_lo (F 0)) = sp_lo (F 0) := by
            rw [← Int64.toInt_inj]
            have := mx_i (-9223372036854775808) (sp_lo (F 0))
            have h1 : (-9223372036854775808 : Int64).toInt = -9223372036854775808 := rfl
            have h2 := (sp_lo (F 0)).le_toInt
            omega
          have e16 : wh_m F 16 0 (-9223372036854775808) = wh_m F 15 1 (sp_mx (-9223372036854775808) (sp_lo (F 0))) := rfl
          rw [e16, e0] at hm
          exact hm
        have e : wh_a F = wh_b F g 16 0 0 := by unfold wh_a; rw [if_pos hok, em]
        rw [e]
        exact w183_52 I L D X v1 v2 v3 g (nI 16) ⟨fun _ => bits g hok 16 0 0 I L rfl hs h48, fun z => absurd (by decide) z⟩
      | succ k ih =>
        intro n g I L hn hs h48 ho hm
        have n16 : ¬ (16 : Int32) ≤ nI n := fun z => by have := (ni_le (a := 16) (by omega) (by omega)).mp z; omega
        have e1 : nI n + 1 = nI (n + 1) := by rw [show (1 : Int32) = nI 1 from rfl, ni_add (by omega)]
        obtain ⟨I1, L1, r3, hs1, h48', V⟩ := piece n I L (by omega) hs h48
        refine w183_52 I L D X v1 v2 v3 g (nI n) ⟨fun z => absurd z n16, fun _ => ⟨I1, L1, D, r3, fun z => ?_, fun z => ?_⟩⟩
        · cases hq : F n with
          | none => rw [hq] at V; exact absurd (me_v0 V) z
          | some q =>
            rw [hq] at V
            have l1 : L1 42 51 = sp_lo (F n) := by rw [(me_v1 V).2.1, hq]; rfl
            refine ⟨_, I1, L1, D, am_up (c158 (ext := ext) (d := 0) D X g _) (by omega), ?_⟩
            rw [l1, e1]
            exact ih (n + 1) _ I1 L1 (by omega) hs1 h48' (by rw [ho, wh_ok, hq]) (by rw [hm, wh_m])
        · cases hq : F n with
          | none =>
            refine ⟨I1, L1, ?_, hs1⟩
            unfold wh_a
            rw [ho, wh_ok, hq, if_neg (fun z => by cases z)]
          | some q => rw [hq] at V; rw [(me_v1 V).1] at z; exact absurd z (by decide)
    have s3 := iv_s_t s2 (iv_s_I (L := L0) (L' := L0) (D := D) (iv_48 (am_uI I0 42 2 0) 16) (fun _ _ _ => rfl))
    obtain ⟨r, rr, I', L', e, hs⟩ := am_of_wp (ext := ext) (d := 399) (as := [.ref 42, .int v1, .int v2, .int v3]) mh_183 rfl (w183_0 I0 L0 D X v1 v2 v3 ⟨_, _, L0, D, r1, fun z => absurd z (by decide), fun _ => ⟨_, _, L0, D, R v2 (-64) 64, fun z => absurd (in_0 z) (fun q => q.elim a1 a4), fun _ => ⟨_, _, L0, D, R v3 (v2 + 1) 64, fun _ => key 16 0 (-9223372036854775808) _ L0 rfl s3 (by rw [am_uI_at, if_pos ⟨rfl, rfl⟩]) rfl rfl, fun z => absurd (in_0 z) (fun q => q.elim ((p1 a1 a4).mpr a3) a2)⟩⟩⟩)
    rw [e] at rr
    exact ⟨I', L', rr, hs⟩
  · have e : an_wh ls v1 v2 v3 = 0 := by unfold an_wh; rw [if_neg good]
    rw [e]
    refine ⟨_, L0, am_rn_of (d := 399) mh_183 rfl (w183_0 I0 L0 D X v1 v2 v3 ⟨_, _, L0, D, r1, fun _ => rfl, fun z1 => ⟨_, _, L0, D, R v2 (-64) 64, fun _ => rfl, fun z2 => ⟨_, _, L0, D, R v3 (v2 + 1) 64, fun z3 => absurd ⟨?_, (in_1 z2).1, (in_1 z3).2, (p1 (in_1 z2).1 (in_1 z2).2).mp (in_1 z3).1⟩ good, fun _ => rfl⟩⟩⟩), s2⟩
    by_cases q : lt_k ls v1 = 2
    · exact q
    · rw [if_neg q] at z1; exact absurd rfl z1
theorem ow_10 {Cc : iv_C} (hC : iv_ok Cc) : lw_t10 ext (iv Cc) := by
  intro v1 v2 v3 m hm
  obtain ⟨I, L, D, xi, xp, xc, ls, rfl, hT, hP, hc⟩ := hm
  obtain ⟨I1, L1, xp', r1, s1⟩ := c105 (ext := ext) (L0 := L) D xi xc hP xp v1 v2 v3
  have hP1 := iv_P_s hP s1.1
  obtain ⟨I2, L2, r2, s2⟩ := c183 (ext := ext) (L0 := L1) D (2, 11, xi, xp', 2, xc) hP1 v1 v2 v3
  exact ⟨_, _, _, r1, r2, Or.inl (iv_go hC hT hP hc (iv_s_t s1 s2))⟩
end WHERE
