/-! ===== the class asks: values on the row ===== -/
theorem sp_1_3 (w : Nat) (a b : Int64) : sp_1 w 3 a b = sp_k w (-b) (-a) := by unfold sp_1; rw [if_pos rfl]
theorem sp_1_4 (w : Nat) {a b : Int64} (h : ¬ a < 0) : sp_1 w 4 a b = sp_k w (sp_rd (sp_l w a)) (sp_ru (sp_l w b)) := by unfold sp_1; rw [if_neg (by omega), if_pos rfl, if_neg h]
theorem sp_2_6 (w : Nat) (a b c d : Int64) : sp_2 w 6 a b c d = sp_k w (a + c) (b + d) := by unfold sp_2; rw [if_pos rfl]
theorem sp_2_7 (w : Nat) (a b c d : Int64) : sp_2 w 7 a b c d = sp_k w (a - d) (b - c) := by unfold sp_2; rw [if_neg (by omega), if_pos rfl]
theorem sp_2_8 (w : Nat) (a b c d : Int64) : sp_2 w 8 a b c d = sp_k w (sp_r w (sp_mn (sp_mn (a * c) (a * d)) (sp_mn (b * c) (b * d)))) (sp_up w (sp_mx (sp_mx (a * c) (a * d)) (sp_mx (b * c) (b * d)))) := by unfold sp_2; rw [if_neg (by omega), if_neg (by omega), if_pos rfl]
theorem sp_2_10 (w : Nat) (a b c d : Int64) : sp_2 w 10 a b c d = sp_k w (sp_mx a c) (sp_mx b d) := by unfold sp_2; rw [if_neg (by omega), if_neg (by omega), if_neg (by omega), if_neg (by omega), if_pos rfl]
theorem sp_2_11 (w : Nat) (a b c d : Int64) : sp_2 w 11 a b c d = sp_k w (sp_mn a c) (sp_mn b d) := by unfold sp_2; rw [if_neg (by omega), if_neg (by omega), if_neg (by omega), if_neg (by omega), if_neg (by omega)]
def sp_m1 (w kd : Nat) (o : Option (Int64 × Int64)) : Option (Int64 × Int64) := match o with
  | none => none
  | some q => sp_1 w kd q.1 q.2
def sp_m2 (w kd : Nat) (o p : Option (Int64 × Int64)) : Option (Int64 × Int64) := match o, p with
  | some q, some r => sp_2 w kd q.1 q.2 r.1 r.2
  | _, _ => none
def st_v (o : Option (Int64 × Int64)) (i : Nat) (L : Nat → Nat → Int64) : Prop := L 26 i = sp_lo o ∧ L 27 i = sp_hi o
def sp_le (o : Option (Int64 × Int64)) : Prop := ∀ p, o = some p → ¬ p.2 < p.1
theorem sp_le_n {o : Option (Int64 × Int64)} (h : sp_le o) : (sp_hi o < sp_lo o ↔ o = none) ∧ (sp_lo o ≤ sp_hi o ↔ ¬ o = none) := by
  have e : ∀ a b : Int64, a ≤ b ↔ ¬ b < a := fun a b => by rw [Int64.le_iff_toInt_le, Int64.lt_iff_toInt_lt]; omega
  cases o with
  | none => exact ⟨⟨fun _ => rfl, fun _ => by decide⟩, ⟨fun z => absurd z (by decide), fun z => absurd rfl z⟩⟩
  | some p =>
    have hp := h p rfl
    refine ⟨⟨fun z => absurd z hp, fun z => (by cases z)⟩, ⟨fun _ z => (by cases z), fun _ => (e _ _).mpr hp⟩⟩
/-- one value more on the row: it stands at top -/
def pp_P (I : Nat → Nat → Int32) (L : Nat → Nat → Int64) (top : Nat) (o : Option (Int64 × Int64)) (I' : Nat → Nat → Int32) (L' : Nat → Nat → Int64) : Prop := I' 25 3 = nI (top + 1) ∧ (∀ a b, ¬ (a = 25 ∧ b = 3) → I' a b = I a b) ∧ st_v o top L' ∧ (∀ a b, ¬ ((a = 26 ∨ a = 27) ∧ b = top) → L' a b = L a b)
theorem pp_P_u {I : Nat → Nat → Int32} {L : Nat → Nat → Int64} {top : Nat} {o : Option (Int64 × Int64)} {I' : Nat → Nat → Int32} {L' : Nat → Nat → Int64} {x : Int32} (h : pp_P (am_uI I 25 3 x) L top o I' L') : pp_P I L top o I' L' := ⟨h.1, fun a b hab => by rw [h.2.1 a b hab, am_uI_at, if_neg hab], h.2.2⟩
section COPS
variable {ext : Nat → List Value → am_M → Option am_R} {d : Nat} {L : Nat → Nat → Int64} (D : Nat → Nat → UInt64) (X : am_Rf) {I : Nat → Nat → Int32} {w top : Nat}
theorem c64p (h3 : I 25 3 = nI top) (ht : top < 100) (h7 : L 25 7 = sp_lim w) (lo hi : Int64) : ∃ I' L', am_Rn ext (d + 1) 64 [.ref 25, .long lo, .long hi] (I, L, D, am_rf X) (none, (I', L', D, am_rf X)) ∧ pp_P I L top (sp_k w lo hi) I' L' := by
  refine ⟨_, _, c64 L D X I h3 ht h7 lo hi, ?_, ?_, ⟨?_, ?_⟩, ?_⟩
  · simp [am_uI_at]
  · intro a b hab
    rw [am_uI_at, if_neg hab]
  · rw [am_uL_at, if_neg (by omega), am_uL_at, if_pos ⟨rfl, rfl⟩]
  · rw [am_uL_at, if_pos ⟨rfl, rfl⟩]
  · intro a b hab
    rw [am_uL_at, if_neg (by omega), am_uL_at, if_neg (by omega)]
theorem c64n (h3 : I 25 3 = nI top) (ht : top < 100) (h7 : L 25 7 = sp_lim w) : ∃ I' L', am_Rn ext (d + 1) 64 [.ref 25, .long 1, .long 0] (I, L, D, am_rf X) (none, (I', L', D, am_rf X)) ∧ pp_P I L top none I' L' := by
  obtain ⟨I', L', r, h1, h2, h3', h4⟩ := c64p (ext := ext) (d := d) D X h3 ht h7 1 0
  refine ⟨I', L', r, h1, h2, ?_, h4⟩
  unfold sp_k at h3'
  split at h3'
  · exact h3'
  · split at h3'
    · exact h3'
    · exact h3'
/-- take -/
theorem c61 {o : Option (Int64 × Int64)} (h3 : I 25 3 = nI (top + 1)) (ht : top < 100) (ho : sp_le o) (hv : st_v o top L) : ∃ I' L', am_Rn ext (d + 1) 61 [.ref 25] (I, L, D, am_rf X) (some (.int (if o = none then 0 else 1)), (I', L', D, am_rf X)) ∧ I' 25 3 = nI top ∧ (∀ a b, ¬ (a = 25 ∧ b = 3) → I' a b = I a b) ∧ L' 25 9 = sp_lo o ∧ L' 25 10 = sp_hi o ∧ (∀ a b, ¬ (a = 25 ∧ (b = 9 ∨ b = 10)) → L' a b = L a b) := by
  have e1 : I 25 3 - 1 = nI top := by rw [h3, show (1 : Int32) = nI 1 from rfl, ni_sub (by omega) (by omega)]; rfl
  have hb : am_inb (I 25 3 - 1) 100 = true := by rw [e1]; exact ni_inb ht (by omega)
  have e2 : (I 25 3 - 1).toNatClampNeg = top := by rw [e1, ni_nat (by omega)]
  have h1 : (1 : Int32) ≤ I 25 3 := by rw [h3, show (1 : Int32) = nI 1 from rfl, ni_le (by omega) (by omega)]; omega
  obtain ⟨v1, v2⟩ := hv
  obtain ⟨n1, n2⟩ := sp_le_n ho
  refine ⟨am_uI I 25 3 (nI top), am_uL (am_uL L 25 9 (sp_lo o)) 25 10 (sp_hi o), am_rn_of mh_61 rfl (w61_0 I L D X ⟨fun _ => ⟨hb, hb, fun z => ?_, fun z => ?_⟩, fun z => absurd h1 z⟩), ?_, ?_, ?_, ?_, ?_⟩
  · rw [e2, v1, v2] at z
    rw [e1, ni_nat (by omega), v1, v2, if_pos (n1.mp z)]
  · rw [e2, v1, v2] at z
    rw [e1, ni_nat (by omega), v1, v2, if_neg (fun q => z (n1.mpr q))]
  · simp [am_uI_at]
  · intro a b hab; rw [am_uI_at, if_neg hab]
  · simp [am_uL_at]
  · simp [am_uL_at]
  · intro a b hab; rw [am_uL_at, if_neg (by omega), am_uL_at, if_neg (by omega)]
/-- ofOne -/
theorem c66 {o : Option (Int64 × Int64)} {kd : Nat} (hkd : kd = 3 ∨ kd = 4 ∨ kd = 5) (h3 : I 25 3 = nI (top + 1)) (ht : top < 100) (h6 : I 25 6 = nI w) (h7 : L 25 7 = sp_lim w) (ho : sp_le o) (hv : st_v o top L) : ∃ I' L', am_Rn ext (d + 3) 66 [.ref 25, .int (nI (kd + 5))] (I, L, D, am_rf X) (none, (I', L', D, am_rf X)) ∧ pp_P I L top (sp_m1 w kd o) I' L' := by
  have e1 : I 25 3 - 1 = nI top := by rw [h3, show (1 : Int32) = nI 1 from rfl, ni_sub (by omega) (by omega)]; rfl
  have hb : am_inb (I 25 3 - 1) 100 = true := by rw [e1]; exact ni_inb ht (by omega)
  have e2 : (I 25 3 - 1).toNatClampNeg = top := by rw [e1, ni_nat (by omega)]
  have h1 : (1 : Int32) ≤ I 25 3 := by rw [h3, show (1 : Int32) = nI 1 from rfl, ni_le (by omega) (by omega)]; omega
  obtain ⟨v1, v2⟩ := hv
  obtain ⟨n1, n2⟩ := sp_le_n ho
  have j3 : (am_uI I 25 3 (I 25 3 - 1)) 25 3 = nI top := by rw [am_uI_at, if_pos ⟨rfl, rfl⟩]; exact e1
  have j6 : (am_uI I 25 3 (I 25 3 - 1)) 25 6 = nI w := by rw [am_uI_at, if_neg (by omega)]; exact h6
  cases o with
  | none =>
    obtain ⟨I', L', r, g⟩ := c64n (ext := ext) (d := d + 1) D X j3 ht h7
    refine ⟨I', L', am_rn_of mh_66 rfl (w66_0 I L D X _ ⟨fun _ => ⟨hb, hb, fun _ => ⟨I', L', D, r, rfl⟩, fun z => absurd ?_ z⟩, fun z => absurd h1 z⟩), pp_P_u g⟩
    rw [e2, v1, v2]; decide
  | some q =>
    have nz : ¬ L 27 (I 25 3 - 1).toNatClampNeg < L 26 (I 25 3 - 1).toNatClampNeg := by rw [e2, v1, v2]; exact ho q rfl
    have l26 : L 26 (I 25 3 - 1).toNatClampNeg = q.1 := by rw [e2]; exact v1
    have l27 : L 27 (I 25 3 - 1).toNatClampNeg = q.2 := by rw [e2]; exact v2
    show ∃ I' L', _ ∧ pp_P I L top (sp_1 w kd q.1 q.2) I' L'
    by_cases hneg : kd = 4 ∧ q.1 < 0
    · obtain ⟨I', L', r, g⟩ := c64n (ext := ext) (d := d + 1) D X j3 ht h7
      have er : sp_1 w kd q.1 q.2 = none := by simp only [sp_1]; rw [if_neg (by omega), if_pos hneg.1, if_pos hneg.2]
      refine ⟨I', L', am_rn_of mh_66 rfl (w66_0 I L D X _ ⟨fun _ => ⟨hb, hb, fun z => absurd z nz, fun _ => ⟨fun z => absurd ?_ z, fun _ => ⟨fun z => absurd z ?_, fun _ => ⟨I', L', D, r, rfl⟩⟩⟩⟩, fun z => absurd h1 z⟩), by rw [er]; exact pp_P_u g⟩
      · rw [hneg.1]; rfl
      · rw [l26]
        have := hneg.2
        rw [Int64.lt_iff_toInt_lt] at this
        rw [Int64.le_iff_toInt_le]
        omega
    · -- to pc 68
      have go : ∀ {r0 : am_R}, am_wp ext (d + 2) mz_66 (68, [some (.ref 25), some (.int (nI (kd + 5))), some (.long q.1), none, some (.long q.2), none], [], (am_uI I 25 3 (I 25 3 - 1), L, D, am_rf X)) (fun r => r = r0) → am_Rn ext (d + 3) 66 [.ref 25, .int (nI (kd + 5))] (I, L, D, am_rf X) r0 := by
        intro r0 wp
        refine am_rn_of mh_66 rfl (w66_0 I L D X _ ⟨fun _ => ⟨hb, hb, fun z => absurd z nz, fun _ => ⟨fun _ => by rw [l26, l27]; exact wp, fun z => ⟨fun _ => by rw [l26, l27]; exact wp, fun y => ?_⟩⟩⟩, fun z => absurd h1 z⟩)
        exfalso
        have k4 : kd = 4 := by
          have z' : nI (kd + 5) = nI 9 := z
          rw [ni_eq (by omega) (by omega)] at z'
          omega
        rw [l26] at y
        refine hneg ⟨k4, ?_⟩
        rw [Int64.le_iff_toInt_le] at y
        rw [Int64.lt_iff_toInt_lt]
        omega
      rcases hkd with rfl | rfl | rfl
      · obtain ⟨I', L', r, g⟩ := c64p (ext := ext) (d := d + 1) D X j3 ht h7 (-q.2) (-q.1)
        exact ⟨I', L', go (w66_68 _ L D X _ _ _ ⟨fun z => absurd rfl z, fun _ => ⟨I', L', D, r, rfl⟩⟩), by rw [sp_1_3]; exact pp_P_u g⟩
      · obtain ⟨I', L', r, g⟩ := c64p (ext := ext) (d := d + 1) D X j3 ht h7 (sp_rd (sp_l w q.1)) (sp_ru (sp_l w q.2))
        have er := sp_1_4 w (b := q.2) (fun z => hneg ⟨rfl, z⟩)
        refine ⟨I', L', go (w66_68 _ L D X _ _ _ ⟨fun _ => ⟨fun z => absurd rfl z, fun _ => ⟨_, _, L, D, c74 (ext := ext) (d := d + 1) L D X _ _, _, _, L, D, c75 (ext := ext) (d := d) L D X _ _, I', L', D, ?_, rfl⟩⟩, fun z => absurd z (by decide)⟩), by rw [er]; exact pp_P_u g⟩
        rw [j6]; exact r
      · have e5 : ∀ {lo hi : Int64}, sp_1 w 5 q.1 q.2 = sp_k w lo hi → (∃ I' L', am_Rn ext (d + 2) 64 [.ref 25, .long lo, .long hi] (am_uI I 25 3 (I 25 3 - 1), L, D, am_rf X) (none, (I', L', D, am_rf X)) ∧ pp_P I L top (sp_1 w 5 q.1 q.2) I' L') := by
          intro lo hi he
          obtain ⟨I', L', r, g⟩ := c64p (ext := ext) (d := d + 1) D X j3 ht h7 lo hi
          exact ⟨I', L', r, by rw [he]; exact pp_P_u g⟩
        by_cases hp : 0 < q.1
        · obtain ⟨I', L', r, g⟩ := e5 (show sp_1 w 5 q.1 q.2 = sp_k w (sp_mn (sp_ab q.1) (sp_ab q.2)) (sp_mx (sp_ab q.1) (sp_ab q.2)) by simp only [sp_1]; rw [if_neg (by omega), if_neg (by omega), if_pos hp])
          exact ⟨I', L', go (w66_68 _ L D X _ _ _ ⟨fun _ => ⟨fun _ => ⟨fun _ => ⟨_, _, L, D, c205 L D X _ _, _, _, L, D, c205 L D X _ _, _, _, L, D, c204 L D X _ _ _, _, _, L, D, c205 L D X _ _, _, _, L, D, c205 L D X _ _, _, _, L, D, c203 L D X _ _ _, I', L', D, r, rfl⟩, fun z => absurd hp z⟩, fun z => absurd z (by decide)⟩, fun z => absurd z (by decide)⟩), g⟩
        · by_cases hn : q.2 < 0
          · obtain ⟨I', L', r, g⟩ := e5 (show sp_1 w 5 q.1 q.2 = sp_k w (sp_mn (sp_ab q.1) (sp_ab q.2)) (sp_mx (sp_ab q.1) (sp_ab q.2)) by simp only [sp_1]; rw [if_neg (by omega), if_neg (by omega), if_neg hp, if_pos hn])
            exact ⟨I', L', go (w66_68 _ L D X _ _ _ ⟨fun _ => ⟨fun _ => ⟨fun z => absurd z hp, fun _ => ⟨fun _ => ⟨_, _, L, D, c205 L D X _ _, _, _, L, D, c205 L D X _ _, _, _, L, D, c204 L D X _ _ _, _, _, L, D, c205 L D X _ _, _, _, L, D, c205 L D X _ _, _, _, L, D, c203 L D X _ _ _, I', L', D, r, rfl⟩, fun z => absurd hn z⟩⟩, fun z => absurd z (by decide)⟩, fun z => absurd z (by decide)⟩), g⟩
          · obtain ⟨I', L', r, g⟩ := e5 (show sp_1 w 5 q.1 q.2 = sp_k w 0 (sp_mx (-q.1) q.2) by simp only [sp_1]; rw [if_neg (by omega), if_neg (by omega), if_neg hp, if_neg hn])
            exact ⟨I', L', go (w66_68 _ L D X _ _ _ ⟨fun _ => ⟨fun _ => ⟨fun z => absurd z hp, fun _ => ⟨fun z => absurd z hn, fun _ => ⟨_, _, L, D, c203 L D X _ _ _, I', L', D, r, rfl⟩⟩⟩, fun z => absurd z (by decide)⟩, fun z => absurd z (by decide)⟩), g⟩
/-- pushProduct, pushQuotient -/
theorem c68 (h3 : I 25 3 = nI top) (ht : top < 100) (h6 : I 25 6 = nI w) (h7 : L 25 7 = sp_lim w) (a b c e : Int64) : ∃ I' L', am_Rn ext (d + 2) 68 [.ref 25, .long a, .long b, .long c, .long e] (I, L, D, am_rf X) (none, (I', L', D, am_rf X)) ∧ pp_P I L top (sp_2 w 8 a b c e) I' L' := by
  obtain ⟨I', L', r, g⟩ := c64p (ext := ext) (d := d) D X h3 ht h7 (sp_r w (sp_mn (sp_mn (a * c) (a * e)) (sp_mn (b * c) (b * e)))) (sp_up w (sp_mx (sp_mx (a * c) (a * e)) (sp_mx (b * c) (b * e))))
  exact ⟨I', L', am_rn_of mh_68 rfl (w68_0 I L D X a b c e ⟨_, _, L, D, c204 L D X _ _ _, _, _, L, D, c204 L D X _ _ _, _, _, L, D, c204 L D X _ _ _, _, _, L, D, c203 L D X _ _ _, _, _, L, D, c203 L D X _ _ _, _, _, L, D, c203 L D X _ _ _, _, _, L, D, c70 L D X _ h6 _, _, _, L, D, c71 L D X _ h6 _, I', L', D, r, rfl⟩), by rw [sp_2_8]; exact g⟩
theorem c69 (h3 : I 25 3 = nI top) (ht : top < 100) (h6 : I 25 6 = nI w) (h7 : L 25 7 = sp_lim w) (a b c e : Int64) : ∃ I' L', am_Rn ext (d + 3) 69 [.ref 25, .long a, .long b, .long c, .long e] (I, L, D, am_rf X) (none, (I', L', D, am_rf X)) ∧ pp_P I L top (sp_2 w 9 a b c e) I' L' := by
  by_cases hz : ¬ 0 < c ∧ ¬ e < 0
  · obtain ⟨I', L', r, g⟩ := c64n (ext := ext) (d := d + 1) D X h3 ht h7
    have er : sp_2 w 9 a b c e = none := by simp only [sp_2]; rw [if_neg (by omega), if_neg (by omega), if_neg (by omega), if_pos trivial, if_pos hz]
    exact ⟨I', L', am_rn_of mh_69 rfl (w69_0 I L D X a b c e ⟨fun z => absurd z hz.1, fun _ => ⟨fun z => absurd z hz.2, fun _ => ⟨I', L', D, r, rfl⟩⟩⟩), by rw [er]; exact g⟩
  · have er : sp_2 w 9 a b c e = sp_k w (sp_mn (sp_mn (sp_fl (sp_l w a) c) (sp_fl (sp_l w a) e)) (sp_mn (sp_fl (sp_l w b) c) (sp_fl (sp_l w b) e))) (sp_mx (sp_mx (sp_ce (sp_l w a) c) (sp_ce (sp_l w a) e)) (sp_mx (sp_ce (sp_l w b) c) (sp_ce (sp_l w b) e))) := by simp only [sp_2]; rw [if_neg (by omega), if_neg (by omega), if_neg (by omega), if_pos trivial, if_neg hz]
    obtain ⟨I', L', r, g⟩ := c64p (ext := ext) (d := d + 1) D X h3 ht h7 (sp_mn (sp_mn (sp_fl (sp_l w a) c) (sp_fl (sp_l w a) e)) (sp_mn (sp_fl (sp_l w b) c) (sp_fl (sp_l w b) e))) (sp_mx (sp_mx (sp_ce (sp_l w a) c) (sp_ce (sp_l w a) e)) (sp_mx (sp_ce (sp_l w b) c) (sp_ce (sp_l w b) e)))
    have fin : am_wp ext (d + 2) mz_69 (21, [some (.ref 25), some (.long a), none, some (.long b), none, some (.long c), none, some (.long e), none, none, none, none, none, none, none, none, none, none, none, none, none], [], (I, L, D, am_rf X)) (fun r => r = (none, (I', L', D, am_rf X))) := by
      refine w69_21 I L D X a b c e ?_
      rw [h6]
      exact ⟨_, _, L, D, c72 L D X _ _ _, _, _, L, D, c72 L D X _ _ _, _, _, L, D, c204 L D X _ _ _, _, _, L, D, c72 L D X _ _ _, _, _, L, D, c72 L D X _ _ _, _, _, L, D, c204 L D X _ _ _, _, _, L, D, c73 L D X _ _ _, _, _, L, D, c73 L D X _ _ _, _, _, L, D, c203 L D X _ _ _, _, _, L, D, c73 L D X _ _ _, _, _, L, D, c73 L D X _ _ _, _, _, L, D, c203 L D X _ _ _, _, _, L, D, c204 L D X _ _ _, _, _, L, D, c203 L D X _ _ _, I', L', D, r, rfl⟩
    refine ⟨I', L', am_rn_of mh_69 rfl (w69_0 I L D X a b c e ⟨fun _ => fin, fun z => ⟨fun _ => fin, fun y => absurd ⟨z, y⟩ hz⟩⟩), by rw [er]; exact g⟩
/-- ofTwo -/
theorem c67 {o p : Option (Int64 × Int64)} {kd : Nat} (hkd : 6 ≤ kd ∧ kd ≤ 11) (h3 : I 25 3 = nI (top + 2)) (ht : top + 1 < 100) (h6 : I 25 6 = nI w) (h7 : L 25 7 = sp_lim w) (ho : sp_le o) (hp : sp_le p) (hv : st_v o top L) (hv2 : st_v p (top + 1) L) : ∃ I' L', am_Rn ext (d + 4) 67 [.ref 25, .int (nI (kd + 5))] (I, L, D, am_rf X) (none, (I', L', D, am_rf X)) ∧ pp_P I L top (sp_m2 w kd o p) I' L' := by
  have e1 : I 25 3 - 2 = nI top := by rw [h3, show (2 : Int32) = nI 2 from rfl, ni_sub (by omega) (by omega)]; rfl
  have e1' : I 25 3 - 2 + 1 = nI (top + 1) := by rw [e1, show (1 : Int32) = nI 1 from rfl, ni_add (by omega)]
  have hb : am_inb (I 25 3 - 2) 100 = true := by rw [e1]; exact ni_inb (by omega) (by omega)
  have hb' : am_inb (I 25 3 - 2 + 1) 100 = true := by rw [e1']; exact ni_inb ht (by omega)
  have e2 : (I 25 3 - 2).toNatClampNeg = top := by rw [e1, ni_nat (by omega)]
  have e2' : (I 25 3 - 2 + 1).toNatClampNeg = top + 1 := by rw [e1', ni_nat (by omega)]
  have h2 : (2 : Int32) ≤ I 25 3 := by rw [h3, show (2 : Int32) = nI 2 from rfl, ni_le (by omega) (by omega)]; omega
  obtain ⟨v1, v2⟩ := hv
  obtain ⟨u1, u2⟩ := hv2
  have j3 : (am_uI I 25 3 (I 25 3 - 2)) 25 3 = nI top := by rw [am_uI_at, if_pos ⟨rfl, rfl⟩]; exact e1
  have j6 : (am_uI I 25 3 (I 25 3 - 2)) 25 6 = nI w := by rw [am_uI_at, if_neg (by omega)]; exact h6
  cases o with
  | none =>
    obtain ⟨I', L', r, g⟩ := c64n (ext := ext) (d := d + 2) D X j3 (by omega) h7
    refine ⟨I', L', am_rn_of mh_67 rfl (w67_0 I L D X _ ⟨fun _ => ⟨hb, hb, hb', hb', fun _ => ⟨I', L', D, r, rfl⟩, fun z => absurd ?_ z⟩, fun z => absurd h2 z⟩), pp_P_u g⟩
    rw [e2, v1, v2]; decide
  | some q =>
    have nz : ¬ L 27 (I 25 3 - 2).toNatClampNeg < L 26 (I 25 3 - 2).toNatClampNeg := by rw [e2, v1, v2]; exact ho q rfl
    cases p with
    | none =>
      obtain ⟨I', L', r, g⟩ := c64n (ext := ext) (d := d + 2) D X j3 (by omega) h7
      refine ⟨I', L', am_rn_of mh_67 rfl (w67_0 I L D X _ ⟨fun _ => ⟨hb, hb, hb', hb', fun z => absurd z nz, fun _ => ⟨fun z => absurd z ?_, fun _ => ⟨I', L', D, r, rfl⟩⟩⟩, fun z => absurd h2 z⟩), pp_P_u g⟩
      rw [e2', u1, u2]; decide
    | some q2 =>
      have yz : L 26 (I 25 3 - 2 + 1).toNatClampNeg ≤ L 27 (I 25 3 - 2 + 1).toNatClampNeg := by rw [e2', u1, u2]; exact (sp_le_n hp).2.mpr (by simp)
      have v1' : L 26 top = q.1 := v1
      have v2' : L 27 top = q.2 := v2
      have u1' : L 26 (top + 1) = q2.1 := u1
      have u2' : L 27 (top + 1) = q2.2 := u2
      have hk6 : kd = 6 ∨ kd = 7 ∨ kd = 8 ∨ kd = 9 ∨ kd = 10 ∨ kd = 11 := by omega
      have pushed : ∀ {lo hi : Int64}, sp_2 w kd q.1 q.2 q2.1 q2.2 = sp_k w lo hi → ∃ I' L', am_Rn ext (d + 3) 64 [.ref 25, .long lo, .long hi] (am_uI I 25 3 (I 25 3 - 2), L, D, am_rf X) (none, (I', L', D, am_rf X)) ∧ pp_P I L top (sp_2 w kd q.1 q.2 q2.1 q2.2) I' L' := by
        intro lo hi he
        obtain ⟨I', L', r, g⟩ := c64p (ext := ext) (d := d + 2) D X j3 (by omega) h7 lo hi
        exact ⟨I', L', r, by rw [he]; exact pp_P_u g⟩
      show ∃ I' L', _ ∧ pp_P I L top (sp_2 w kd q.1 q.2 q2.1 q2.2) I' L'
      rcases hk6 with rfl | rfl | rfl | rfl | rfl | rfl
      · obtain ⟨I', L', r, g⟩ := pushed (sp_2_6 w q.1 q.2 q2.1 q2.2)
        refine ⟨I', L', am_rn_of mh_67 rfl (w67_0 I L D X _ ⟨fun _ => ⟨hb, hb, hb', hb', fun z => absurd z nz, fun _ => ⟨fun _ => ⟨fun _ => ⟨I', L', D, ?_, rfl⟩, fun z => absurd z (by decide), fun z => absurd z (by decide), fun z => absurd z (by decide), fun z => absurd z (by decide), fun z => absurd rfl z.1⟩, fun z => absurd yz z⟩⟩, fun z => absurd h2 z⟩), g⟩
        rw [e2, e2', v1', v2', u1', u2']; exact r
      · obtain ⟨I', L', r, g⟩ := pushed (sp_2_7 w q.1 q.2 q2.1 q2.2)
        refine ⟨I', L', am_rn_of mh_67 rfl (w67_0 I L D X _ ⟨fun _ => ⟨hb, hb, hb', hb', fun z => absurd z nz, fun _ => ⟨fun _ => ⟨fun z => absurd z (by decide), fun _ => ⟨I', L', D, ?_, rfl⟩, fun z => absurd z (by decide), fun z => absurd z (by decide), fun z => absurd z (by decide), fun z => absurd rfl z.2.1⟩, fun z => absurd yz z⟩⟩, fun z => absurd h2 z⟩), g⟩
        rw [e2, e2', v1', v2', u1', u2']; exact r
      · obtain ⟨I', L', r, g⟩ := c68 (ext := ext) (d := d + 1) D X j3 (by omega) j6 h7 q.1 q.2 q2.1 q2.2
        refine ⟨I', L', am_rn_of mh_67 rfl (w67_0 I L D X _ ⟨fun _ => ⟨hb, hb, hb', hb', fun z => absurd z nz, fun _ => ⟨fun _ => ⟨fun z => absurd z (by decide), fun z => absurd z (by decide), fun _ => ⟨I', L', D, ?_, rfl⟩, fun z => absurd z (by decide), fun z => absurd z (by decide), fun z => absurd rfl z.2.2.1⟩, fun z => absurd yz z⟩⟩, fun z => absurd h2 z⟩), pp_P_u g⟩
        rw [e2, e2', v1', v2', u1', u2']; exact r
      · obtain ⟨I', L', r, g⟩ := c69 (ext := ext) (d := d) D X j3 (by omega) j6 h7 q.1 q.2 q2.1 q2.2
        refine ⟨I', L', am_rn_of mh_67 rfl (w67_0 I L D X _ ⟨fun _ => ⟨hb, hb, hb', hb', fun z => absurd z nz, fun _ => ⟨fun _ => ⟨fun z => absurd z (by decide), fun z => absurd z (by decide), fun z => absurd z (by decide), fun _ => ⟨I', L', D, ?_, rfl⟩, fun z => absurd z (by decide), fun z => absurd rfl z.2.2.2.1⟩, fun z => absurd yz z⟩⟩, fun z => absurd h2 z⟩), pp_P_u g⟩
        rw [e2, e2', v1', v2', u1', u2']; exact r
      · obtain ⟨I', L', r, g⟩ := pushed (sp_2_10 w q.1 q.2 q2.1 q2.2)
        refine ⟨I', L', am_rn_of mh_67 rfl (w67_0 I L D X _ ⟨fun _ => ⟨hb, hb, hb', hb', fun z => absurd z nz, fun _ => ⟨fun _ => ⟨fun z => absurd z (by decide), fun z => absurd z (by decide), fun z => absurd z (by decide), fun z => absurd z (by decide), fun _ => ?_, fun z => absurd rfl z.2.2.2.2⟩, fun z => absurd yz z⟩⟩, fun z => absurd h2 z⟩), g⟩
        rw [e2, e2', v1', v2', u1', u2']
        exact ⟨_, _, L, D, c203 L D X _ _ _, _, _, L, D, c203 L D X _ _ _, I', L', D, r, rfl⟩
      · obtain ⟨I', L', r, g⟩ := pushed (sp_2_11 w q.1 q.2 q2.1 q2.2)
        refine ⟨I', L', am_rn_of mh_67 rfl (w67_0 I L D X _ ⟨fun _ => ⟨hb, hb, hb', hb', fun z => absurd z nz, fun _ => ⟨fun _ => ⟨fun z => absurd z (by decide), fun z => absurd z (by decide), fun z => absurd z (by decide), fun z => absurd z (by decide), fun z => absurd z (by decide), fun _ => ?_⟩, fun z => absurd yz z⟩⟩, fun z => absurd h2 z⟩), g⟩
        rw [e2, e2', v1', v2', u1', u2']
        exact ⟨_, _, L, D, c204 L D X _ _ _, _, _, L, D, c204 L D X _ _ _, I', L', D, r, rfl⟩
/-- joinTwo -/
theorem c78 {o p : Option (Int64 × Int64)} (h3 : I 25 3 = nI (top + 2)) (ht : top + 1 < 100) (h7 : L 25 7 = sp_lim w) (ho : sp_le o) (hp : sp_le p) (hv : st_v o top L) (hv2 : st_v p (top + 1) L) : ∃ I' L', am_Rn ext (d + 2) 78 [.ref 25] (I, L, D, am_rf X) (none, (I', L', D, am_rf X)) ∧ pp_P I L top (sp_j w o p) I' L' := by
  have e1 : I 25 3 - 2 = nI top := by rw [h3, show (2 : Int32) = nI 2 from rfl, ni_sub (by omega) (by omega)]; rfl
  have e1' : I 25 3 - 2 + 1 = nI (top + 1) := by rw [e1, show (1 : Int32) = nI 1 from rfl, ni_add (by omega)]
  have hb : am_inb (I 25 3 - 2) 100 = true := by rw [e1]; exact ni_inb (by omega) (by omega)
  have hb' : am_inb (I 25 3 - 2 + 1) 100 = true := by rw [e1']; exact ni_inb ht (by omega)
  have e2 : (I 25 3 - 2).toNatClampNeg = top := by rw [e1, ni_nat (by omega)]
  have e2' : (I 25 3 - 2 + 1).toNatClampNeg = top + 1 := by rw [e1', ni_nat (by omega)]
  have h2 : (2 : Int32) ≤ I 25 3 := by rw [h3, show (2 : Int32) = nI 2 from rfl, ni_le (by omega) (by omega)]; omega
  obtain ⟨v1, v2⟩ := hv
  obtain ⟨u1, u2⟩ := hv2
  have j3 : (am_uI I 25 3 (I 25 3 - 2)) 25 3 = nI top := by rw [am_uI_at, if_pos ⟨rfl, rfl⟩]; exact e1
  cases o with
  | none =>
    obtain ⟨I', L', r, g⟩ := c64n (ext := ext) (d := d) D X j3 (by omega) h7
    refine ⟨I', L', am_rn_of mh_78 rfl (w78_0 I L D X ⟨fun _ => ⟨hb, hb, fun _ => ⟨I', L', D, r, rfl⟩, fun z => absurd ?_ z⟩, fun z => absurd h2 z⟩), pp_P_u g⟩
    rw [e2, v1, v2]; decide
  | some q =>
    have nz : ¬ L 27 (I 25 3 - 2).toNatClampNeg < L 26 (I 25 3 - 2).toNatClampNeg := by rw [e2, v1, v2]; exact ho q rfl
    cases p with
    | none =>
      obtain ⟨I', L', r, g⟩ := c64n (ext := ext) (d := d) D X j3 (by omega) h7
      refine ⟨I', L', am_rn_of mh_78 rfl (w78_0 I L D X ⟨fun _ => ⟨hb, hb, fun z => absurd z nz, fun _ => ⟨hb', hb', fun z => absurd z ?_, fun _ => ⟨I', L', D, r, rfl⟩⟩⟩, fun z => absurd h2 z⟩), pp_P_u g⟩
      rw [e2', u1, u2]; decide
    | some q2 =>
      have yz : L 26 (I 25 3 - 2 + 1).toNatClampNeg ≤ L 27 (I 25 3 - 2 + 1).toNatClampNeg := by rw [e2', u1, u2]; exact (sp_le_n hp).2.mpr (by simp)
      have v1' : L 26 top = q.1 := v1
      have v2' : L 27 top = q.2 := v2
      have u1' : L 26 (top + 1) = q2.1 := u1
      have u2' : L 27 (top + 1) = q2.2 := u2
      obtain ⟨I', L', r, g⟩ := c64p (ext := ext) (d := d) D X j3 (by omega) h7 (sp_mn q.1 q2.1) (sp_mx q.2 q2.2)
      have jb : am_inb ((am_uI I 25 3 (I 25 3 - 2)) 25 3) 100 = true := by rw [j3]; exact ni_inb (by omega) (by omega)
      have j4 : (am_uI I 25 3 (I 25 3 - 2)) 25 3 + 1 = nI (top + 1) := by rw [j3, show (1 : Int32) = nI 1 from rfl, ni_add (by omega)]
      have jb' : am_inb ((am_uI I 25 3 (I 25 3 - 2)) 25 3 + 1) 100 = true := by rw [j4]; exact ni_inb ht (by omega)
      refine ⟨I', L', am_rn_of mh_78 rfl (w78_0 I L D X ⟨fun _ => ⟨hb, hb, fun z => absurd z nz, fun _ => ⟨hb', hb', fun _ => ⟨hb, hb', ?_⟩, fun z => absurd yz z⟩⟩, fun z => absurd h2 z⟩), pp_P_u g⟩
      rw [e2, e2', v1', u1']
      refine ⟨_, _, L, D, c204 L D X _ _ _, jb, jb', ?_⟩
      rw [j4, j3, ni_nat (by omega), ni_nat (by omega), v2', u2']
      exact ⟨_, _, L, D, c203 L D X _ _ _, I', L', D, r, rfl⟩
end COPS
