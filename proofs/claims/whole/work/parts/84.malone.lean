/-! ===== the reference asks: what knots of one, of two parts make ===== -/
theorem sp_1_5a {w : Nat} (hw : w ≤ 20) {a b : Int64} (h : gd2 w a b) (h0 : 0 < a) : sp_1 w 5 a b = sp_k w a b := by
  have hb := gd_b hw h
  have z : (0 : Int64).toInt = 0 := rfl
  have ha : sp_ab a = a := by unfold sp_ab; rw [if_pos (by rw [Int64.le_iff_toInt_le]; rw [Int64.lt_iff_toInt_lt] at h0; omega)]
  have hb' : sp_ab b = b := by unfold sp_ab; rw [if_pos (by rw [Int64.le_iff_toInt_le]; rw [Int64.lt_iff_toInt_lt] at h0; omega)]
  unfold sp_1
  rw [if_neg (by omega), if_neg (by omega), if_pos h0, ha, hb']
  have e1 : sp_mn a b = a := by rw [← Int64.toInt_inj]; have := mn_i a b; omega
  have e2 : sp_mx a b = b := by rw [← Int64.toInt_inj]; have := mx_i a b; omega
  rw [e1, e2]
theorem sp_1_5b {w : Nat} (hw : w ≤ 20) {a b : Int64} (h : gd2 w a b) (h0 : b < 0) : sp_1 w 5 a b = sp_k w (-b) (-a) := by
  have hb := gd_b hw h
  have z : (0 : Int64).toInt = 0 := rfl
  rw [Int64.lt_iff_toInt_lt, z] at h0
  have ha : sp_ab a = -a := by unfold sp_ab; rw [if_neg (by rw [Int64.le_iff_toInt_le]; omega)]
  have hb' : sp_ab b = -b := by unfold sp_ab; rw [if_neg (by rw [Int64.le_iff_toInt_le]; omega)]
  unfold sp_1
  rw [if_neg (by omega), if_neg (by omega), if_neg (by rw [Int64.lt_iff_toInt_lt]; omega), if_pos (by rw [Int64.lt_iff_toInt_lt]; omega), ha, hb']
  have na : (-a).toInt = -a.toInt := i64_neg (by omega)
  have nb : (-b).toInt = -b.toInt := i64_neg (by omega)
  have e1 : sp_mn (-a) (-b) = -b := by rw [← Int64.toInt_inj]; have := mn_i (-a) (-b); omega
  have e2 : sp_mx (-a) (-b) = -a := by rw [← Int64.toInt_inj]; have := mx_i (-a) (-b); omega
  rw [e1, e2]
theorem sp_1_5c {w : Nat} {a b : Int64} (h0 : ¬ 0 < a) (h1 : ¬ b < 0) : sp_1 w 5 a b = sp_k w 0 (sp_mx (-a) b) := by
  unfold sp_1
  rw [if_neg (by omega), if_neg (by omega), if_neg h0, if_neg h1]
theorem me_v0 {I : Nat → Nat → Int32} {L : Nat → Nat → Int64} (h : me_v none I L) : I 42 50 = 0 := h.1.trans rfl
theorem me_v1 {q : Int64 × Int64} {I : Nat → Nat → Int32} {L : Nat → Nat → Int64} (h : me_v (some q) I L) : I 42 50 = 1 ∧ L 42 51 = q.1 ∧ L 42 52 = q.2 := ⟨h.1.trans rfl, (h.2 q rfl).1, (h.2 q rfl).2⟩
theorem me_v01 {o : Option (Int64 × Int64)} {I : Nat → Nat → Int32} {L : Nat → Nat → Int64} (h : me_v o I L) : I 42 50 = 0 ∨ I 42 50 = 1 := by
  cases o with
  | none => exact Or.inl (me_v0 h)
  | some q => exact Or.inr (me_v1 h).1
section MALONE
variable {ext : Nat → List Value → am_M → Option am_R} {d : Nat} (D : Nat → Nat → UInt64) (X : am_Rf) {I : Nat → Nat → Int32} {L : Nat → Nat → Int64}
theorem c162 {g w kd : Nat} {o : Option (Int64 × Int64)} (hw : w ≤ 20) (hkd : kd = 3 ∨ kd = 4 ∨ kd = 5) (h47 : I 42 47 = nI (g + 1)) (hg : g < 128) (h48 : I 42 48 = nI w) (hv : me_v o I L) (ho : gd w o) : ∃ I' L', am_Rn ext (d + 3) 162 [.ref 42, .int (nI kd)] (I, L, D, am_rf X) (none, (I', L', D, am_rf X)) ∧ me_V g (sp_m1 w kd o) I L I' L' := by
  have n1 : ¬ (1 : Int32) = 0 := by decide
  cases o with
  | none =>
    obtain ⟨I', L', r, G⟩ := c152 (ext := ext) (d := d) D X (I := I) (L := L) h47 hg
    exact ⟨I', L', am_rn_of mh_162 rfl (w162_0 I L D X (nI kd) ⟨fun z => absurd (me_v0 hv) z, fun _ => ⟨I', L', D, r, rfl⟩⟩), G⟩
  | some q =>
    obtain ⟨v0, v1, v2⟩ := me_v1 hv
    have gq := ho q rfl
    have hb := gd_b hw gq
    have nz : ¬ I 42 50 = 0 := by rw [v0]; exact n1
    have z : (0 : Int64).toInt = 0 := rfl
    show ∃ I' L', _ ∧ me_V g (sp_1 w kd q.1 q.2) I L I' L'
    rcases hkd with rfl | rfl | rfl
    · obtain ⟨I', L', r, G⟩ := c151_1 (ext := ext) (d := d + 1) D X (I := I) (L := L) h47 hg h48 (-q.2) (-q.1)
      refine ⟨I', L', am_rn_of mh_162 rfl (w162_0 I L D X (nI 3) ⟨fun _ => ⟨fun y => absurd rfl y, fun _ => ⟨I', L', D, ?_, rfl⟩⟩, fun y => absurd y nz⟩), by rw [sp_1_3]; exact G⟩
      rw [v1, v2]; exact r
    · by_cases hn : q.1 < 0
      · obtain ⟨I', L', r, G⟩ := c152 (ext := ext) (d := d) D X (I := I) (L := L) h47 hg
        refine ⟨I', L', am_rn_of mh_162 rfl (w162_0 I L D X (nI 4) ⟨fun _ => ⟨fun _ => ⟨fun y => absurd rfl y, fun _ => ⟨fun y => ?_, fun _ => ⟨I', L', D, r, rfl⟩⟩⟩, fun y => absurd y (by decide)⟩, fun y => absurd y nz⟩), ?_⟩
        · rw [v1, Int64.le_iff_toInt_le] at y
          rw [Int64.lt_iff_toInt_lt] at hn
          omega
        · have e : sp_1 w 4 q.1 q.2 = none := by unfold sp_1; rw [if_neg (by omega), if_pos rfl, if_pos hn]
          rw [e]; exact G
      · have e := sp_1_4 w (b := q.2) hn
        rw [e]
        rw [Int64.lt_iff_toInt_lt, z] at hn
        obtain ⟨l1, l2, l3⟩ := l_nn hw gq (by omega)
        obtain ⟨t1, t2, t3, t4⟩ := rd_i (n := sp_l w q.2) (by omega) l3
        have m := mul_b (x := (sp_rd (sp_l w q.2)).toInt) (y := (sp_rd (sp_l w q.2)).toInt) (by omega) (by omega) (by omega) (by omega)
        have em : (sp_rd (sp_l w q.2) * sp_rd (sp_l w q.2)).toInt = (sp_rd (sp_l w q.2)).toInt * (sp_rd (sp_l w q.2)).toInt := i64_mul (by omega) (by omega)
        have ra := c159 (ext := ext) (d := d + 1) D X (I := I) (L := L) (sp_l w q.1)
        have rb := c159 (ext := ext) (d := d + 1) D X (I := I) (L := L) (sp_l w q.2)
        have e1 : (L 42 51) <<< ((Int32.toInt64 (I 42 48)) &&& 63) = sp_l w q.1 := by rw [v1, h48]; rfl
        have e2 : (L 42 52) <<< ((Int32.toInt64 (I 42 48)) &&& 63) = sp_l w q.2 := by rw [v2, h48]; rfl
        obtain ⟨I', L', r, G⟩ := c151_1 (ext := ext) (d := d + 1) D X (I := I) (L := L) h47 hg h48 (sp_rd (sp_l w q.1)) (sp_ru (sp_l w q.2))
        refine ⟨I', L', am_rn_of mh_162 rfl (w162_0 I L D X (nI 4) ⟨fun _ => ⟨fun _ => ⟨fun y => absurd rfl y, fun _ => ⟨fun _ => ⟨_, I, L, D, by rw [e1]; exact ra, _, I, L, D, by rw [e2]; exact rb, fun y => ⟨I', L', D, ?_, rfl⟩, fun y => ⟨I', L', D, ?_, rfl⟩⟩, fun y => absurd ?_ y⟩⟩, fun y => absurd y (by decide)⟩, fun y => absurd y nz⟩), G⟩
        · rw [e2, Int64.le_iff_toInt_le, em] at y
          have : sp_ru (sp_l w q.2) = sp_rd (sp_l w q.2) := by
            unfold sp_ru
            rw [if_pos (by rw [← Int64.toInt_inj, em]; omega)]
          rw [this] at r
          exact r
        · rw [e2, Int64.le_iff_toInt_le, em] at y
          have : sp_ru (sp_l w q.2) = sp_rd (sp_l w q.2) + 1 := by
            unfold sp_ru
            rw [if_neg (by rw [← Int64.toInt_inj, em]; omega)]
          rw [this] at r
          exact r
        · rw [v1, Int64.le_iff_toInt_le]; omega
    · by_cases h1 : 0 < q.1
      · obtain ⟨I', L', r, G⟩ := c151_1 (ext := ext) (d := d + 1) D X (I := I) (L := L) h47 hg h48 q.1 q.2
        refine ⟨I', L', am_rn_of mh_162 rfl (w162_0 I L D X (nI 5) ⟨fun _ => ⟨fun _ => ⟨fun _ => ⟨fun _ => w162_155 I L D X ⟨fun y => ?_, fun _ => ⟨I', L', D, by rw [v1, v2]; exact r, rfl⟩⟩, fun y => absurd (by rw [v1]; exact h1) y⟩, fun y => absurd y (by decide)⟩, fun y => absurd y (by decide)⟩, fun y => absurd y nz⟩), by rw [sp_1_5a hw gq h1]; exact G⟩
        rw [v1, Int64.le_iff_toInt_le] at y
        rw [Int64.lt_iff_toInt_lt] at h1
        omega
      · by_cases h2 : q.2 < 0
        · obtain ⟨I', L', r, G⟩ := c151_1 (ext := ext) (d := d + 1) D X (I := I) (L := L) h47 hg h48 (-q.2) (-q.1)
          refine ⟨I', L', am_rn_of mh_162 rfl (w162_0 I L D X (nI 5) ⟨fun _ => ⟨fun _ => ⟨fun _ => ⟨fun y => absurd (by rw [v1] at y; exact y) h1, fun _ => ⟨fun _ => w162_155 I L D X ⟨fun _ => ⟨I', L', D, by rw [v1, v2]; exact r, rfl⟩, fun y => absurd ?_ y⟩, fun y => absurd (by rw [v2]; exact h2) y⟩⟩, fun y => absurd y (by decide)⟩, fun y => absurd y (by decide)⟩, fun y => absurd y nz⟩), by rw [sp_1_5b hw gq h2]; exact G⟩
          rw [v1, Int64.le_iff_toInt_le]
          rw [Int64.lt_iff_toInt_lt] at h1
          omega
        · have rm := c158 (ext := ext) (d := d + 1) D X (I := I) (L := L) (-q.1) q.2
          obtain ⟨I', L', r, G⟩ := c151_1 (ext := ext) (d := d + 1) D X (I := I) (L := L) h47 hg h48 0 (sp_mx (-q.1) q.2)
          exact ⟨I', L', am_rn_of mh_162 rfl (w162_0 I L D X (nI 5) ⟨fun _ => ⟨fun _ => ⟨fun _ => ⟨fun y => absurd (by rw [v1] at y; exact y) h1, fun _ => ⟨fun y => absurd (by rw [v2] at y; exact y) h2, fun _ => ⟨_, I, L, D, by rw [v1, v2]; exact rm, I', L', D, r, rfl⟩⟩⟩, fun y => absurd y (by decide)⟩, fun y => absurd y (by decide)⟩, fun y => absurd y nz⟩), by rw [sp_1_5c h1 h2]; exact G⟩
theorem c164 {g w : Nat} {a b c e : Int64} (h47 : I 42 47 = nI (g + 1)) (hg : g < 128) (h48 : I 42 48 = nI w) (h51 : L 42 51 = c) (h52 : L 42 52 = e) (hce : c.toInt ≤ e.toInt) : ∃ I' L', am_Rn ext (d + 3) 164 [.ref 42, .long (sp_l w a), .long (sp_l w b)] (I, L, D, am_rf X) (none, (I', L', D, am_rf X)) ∧ me_V g (sp_2 w 9 a b c e) I L I' L' := by
  have z : (0 : Int64).toInt = 0 := rfl
  have ed : ∀ x, sp_2 w 9 a b c e = x ↔ (if ¬ 0 < c ∧ ¬ e < 0 then none else sp_k w (sp_mn (sp_mn (sp_fl (sp_l w a) c) (sp_fl (sp_l w a) e)) (sp_mn (sp_fl (sp_l w b) c) (sp_fl (sp_l w b) e))) (sp_mx (sp_mx (sp_ce (sp_l w a) c) (sp_ce (sp_l w a) e)) (sp_mx (sp_ce (sp_l w b) c) (sp_ce (sp_l w b) e)))) = x := by
    intro x
    unfold sp_2
    rw [if_neg (by omega), if_neg (by omega), if_neg (by omega), if_pos rfl]
  by_cases h : ¬ 0 < c ∧ ¬ e < 0
  · obtain ⟨I', L', r, G⟩ := c152 (ext := ext) (d := d) D X (I := I) (L := L) h47 hg
    refine ⟨I', L', am_rn_of mh_164 rfl (w164_0 I L D X (sp_l w a) (sp_l w b) ⟨fun y => absurd (by rw [h51] at y; exact y) h.1, fun _ => ⟨fun y => absurd (by rw [h52] at y; exact y) h.2, fun _ => ⟨I', L', D, r, rfl⟩⟩⟩), ?_⟩
    have e2 : sp_2 w 9 a b c e = none := (ed _).mpr (if_pos h)
    rw [e2]
    exact G
  · have h' : 0 < c ∨ e < 0 := by
      by_cases q : 0 < c
      · exact Or.inl q
      · exact Or.inr (Decidable.byContradiction fun q2 => h ⟨q, q2⟩)
    have hc : ¬ c = 0 := by
      intro q
      rw [← Int64.toInt_inj, z] at q
      rw [Int64.lt_iff_toInt_lt, Int64.lt_iff_toInt_lt, z] at h'
      omega
    have he : ¬ e = 0 := by
      intro q
      rw [← Int64.toInt_inj, z] at q
      rw [Int64.lt_iff_toInt_lt, Int64.lt_iff_toInt_lt, z] at h'
      omega
    have e2 := (ed _).mpr (if_neg h)
    obtain ⟨I', L', r, G⟩ := c151_1 (ext := ext) (d := d + 1) D X (I := I) (L := L) h47 hg h48 (sp_mn (sp_mn (sp_fl (sp_l w a) c) (sp_fl (sp_l w a) e)) (sp_mn (sp_fl (sp_l w b) c) (sp_fl (sp_l w b) e))) (sp_mx (sp_mx (sp_ce (sp_l w a) c) (sp_ce (sp_l w a) e)) (sp_mx (sp_ce (sp_l w b) c) (sp_ce (sp_l w b) e)))
    have F := fun (x : Int64) (y : Int64) (hy : ¬ y = 0) => c155 (ext := ext) (d := d + 1) (I := I) (L := L) D X (a := x) hy
    have C := fun (x : Int64) (y : Int64) (hy : ¬ y = 0) => c156 (ext := ext) (d := d) (I := I) (L := L) D X (a := x) hy
    have M := fun (x y : Int64) => c157 (ext := ext) (d := d + 1) (I := I) (L := L) D X x y
    have N := fun (x y : Int64) => c158 (ext := ext) (d := d + 1) (I := I) (L := L) D X x y
    have go : am_wp ext (d + 2) mz_164 (23, [some (.ref 42), some (.long (sp_l w a)), none, some (.long (sp_l w b)), none, none, none, none, none], [], (I, L, D, am_rf X)) (fun r => r = (none, (I', L', D, am_rf X))) := by
      refine w164_23 I L D X (sp_l w a) (sp_l w b) ?_
      rw [h51]
      exact ⟨_, I, L, D, F _ _ hc, _, I, L, D, by rw [h52]; exact F _ _ he, _, I, L, D, M _ _, _, I, L, D, by rw [h51]; exact F _ _ hc, _, I, L, D, by rw [h52]; exact F _ _ he, _, I, L, D, M _ _, _, I, L, D, M _ _, _, I, L, D, by rw [h51]; exact C _ _ hc, _, I, L, D, by rw [h52]; exact C _ _ he, _, I, L, D, N _ _, _, I, L, D, by rw [h51]; exact C _ _ hc, _, I, L, D, by rw [h52]; exact C _ _ he, _, I, L, D, N _ _, _, I, L, D, N _ _, I', L', D, r, rfl⟩
    refine ⟨I', L', am_rn_of mh_164 rfl (w164_0 I L D X (sp_l w a) (sp_l w b) ⟨fun _ => go, fun y => ⟨fun _ => go, fun x => ?_⟩⟩), by rw [e2]; exact G⟩
    rw [h51] at y
    rw [h52] at x
    exact absurd ⟨y, x⟩ h
theorem c163 {f g w kd : Nat} {o1 o2 : Option (Int64 × Int64)} (hw : w ≤ 20) (hkd : 6 ≤ kd ∧ kd ≤ 11) (hf : f < 128) (h47 : I 42 47 = nI (g + 1)) (hg : g < 128) (h48 : I 42 48 = nI w) (h65 : I 65 f = if o1 = none then 0 else 1) (h63 : ∀ q, o1 = some q → L 63 f = q.1 ∧ L 64 f = q.2) (hv : me_v o2 I L) (ho : gd w o2) : ∃ I' L', am_Rn ext (d + 4) 163 [.ref 42, .int (nI f), .int (nI kd)] (I, L, D, am_rf X) (none, (I', L', D, am_rf X)) ∧ me_V g (sp_m2 w kd o1 o2) I L I' L' := by
  have hbf : am_inb (nI f) 128 = true := ni_inb hf (by omega)
  have ef : (nI f).toNatClampNeg = f := ni_nat (by omega)
  cases o1 with
  | none =>
    obtain ⟨I', L', r, G⟩ := c152 (ext := ext) (d := d + 1) D X (I := I) (L := L) h47 hg
    refine ⟨I', L', am_rn_of mh_163 rfl (w163_0 I L D X (nI f) (nI kd) ⟨hbf, fun _ => ⟨I', L', D, r, rfl⟩, fun y => absurd ?_ y⟩), G⟩
    rw [ef, h65]; rfl
  | some q =>
    obtain ⟨p1, p2⟩ := h63 q rfl
    have n65 : ¬ I 65 (nI f).toNatClampNeg = 0 := by rw [ef, h65, if_neg (by intro z; cases z)]; decide
    cases o2 with
    | none =>
      obtain ⟨I', L', r, G⟩ := c152 (ext := ext) (d := d + 1) D X (I := I) (L := L) h47 hg
      exact ⟨I', L', am_rn_of mh_163 rfl (w163_0 I L D X (nI f) (nI kd) ⟨hbf, fun y => absurd y n65, fun _ => ⟨fun y => absurd (me_v0 hv) y, fun _ => ⟨I', L', D, r, rfl⟩⟩⟩), G⟩
    | some s =>
      obtain ⟨v0, v1, v2⟩ := me_v1 hv
      have nz : ¬ I 42 50 = 0 := by rw [v0]; decide
      have gs := ho s rfl
      show ∃ I' L', _ ∧ me_V g (sp_2 w kd q.1 q.2 s.1 s.2) I L I' L'
      have F := fun (a b : Int64) => c151_1 (ext := ext) (d := d + 2) D X (I := I) (L := L) h47 hg h48 a b
      have M := fun (x y : Int64) => c157 (ext := ext) (d := d + 2) (I := I) (L := L) D X x y
      have N := fun (x y : Int64) => c158 (ext := ext) (d := d + 2) (I := I) (L := L) D X x y
      have hk : kd = 6 ∨ kd = 7 ∨ kd = 8 ∨ kd = 9 ∨ kd = 10 ∨ kd = 11 := by omega
      rcases hk with rfl | rfl | rfl | rfl | rfl | rfl
      · obtain ⟨I', L', r, G⟩ := F (q.1 + s.1) (q.2 + s.2)
        refine ⟨I', L', am_rn_of mh_163 rfl (w163_0 I L D X (nI f) (nI 6) ⟨hbf, fun y => absurd y n65, fun _ => ⟨fun _ => ⟨hbf, hbf, fun _ => ⟨I', L', D, ?_, rfl⟩, fun y => absurd y (by decide), fun y => absurd y (by decide), fun y => absurd y (by decide), fun y => absurd y (by decide), fun y => absurd rfl y.1⟩, fun y => absurd y nz⟩⟩), by rw [sp_2_6]; exact G⟩
        rw [ef, p1, p2, v1, v2]; exact r
      · obtain ⟨I', L', r, G⟩ := F (q.1 - s.2) (q.2 - s.1)
        refine ⟨I', L', am_rn_of mh_163 rfl (w163_0 I L D X (nI f) (nI 7) ⟨hbf, fun y => absurd y n65, fun _ => ⟨fun _ => ⟨hbf, hbf, fun y => absurd y (by decide), fun _ => ⟨I', L', D, ?_, rfl⟩, fun y => absurd y (by decide), fun y => absurd y (by decide), fun y => absurd y (by decide), fun y => absurd rfl y.2.1⟩, fun y => absurd y nz⟩⟩), by rw [sp_2_7]; exact G⟩
        rw [ef, p1, p2, v1, v2]; exact r
      · obtain ⟨I', L', r, G⟩ := F (sp_r w (sp_mn (sp_mn (q.1 * s.1) (q.1 * s.2)) (sp_mn (q.2 * s.1) (q.2 * s.2)))) (sp_up w (sp_mx (sp_mx (q.1 * s.1) (q.1 * s.2)) (sp_mx (q.2 * s.1) (q.2 * s.2))))
        have U := fun (x : Int64) => c154 (ext := ext) (d := d + 2) (I := I) (L := L) D X h48 x
        refine ⟨I', L', am_rn_of mh_163 rfl (w163_0 I L D X (nI f) (nI 8) ⟨hbf, fun y => absurd y n65, fun _ => ⟨fun _ => ⟨hbf, hbf, fun y => absurd y (by decide), fun y => absurd y (by decide), fun _ => ?_, fun y => absurd y (by decide), fun y => absurd y (by decide), fun y => absurd rfl y.2.2.1⟩, fun y => absurd y nz⟩⟩), by rw [sp_2_8]; exact G⟩
        rw [ef, p1, p2, v1, v2]
        exact ⟨_, I, L, D, M _ _, _, I, L, D, by rw [v1, v2]; exact M _ _, _, I, L, D, M _ _, _, I, L, D, by rw [v1, v2]; exact N _ _, _, I, L, D, by rw [v1, v2]; exact N _ _, _, I, L, D, N _ _, _, I, L, D, U _, I', L', D, by rw [h48]; exact r, rfl⟩
      · obtain ⟨I', L', r, G⟩ := c164 (ext := ext) (d := d) D X (I := I) (L := L) (a := q.1) (b := q.2) h47 hg h48 v1 v2 gs.1
        refine ⟨I', L', am_rn_of mh_163 rfl (w163_0 I L D X (nI f) (nI 9) ⟨hbf, fun y => absurd y n65, fun _ => ⟨fun _ => ⟨hbf, hbf, fun y => absurd y (by decide), fun y => absurd y (by decide), fun y => absurd y (by decide), fun y => absurd y (by decide), fun y => absurd y (by decide), fun _ => ⟨I', L', D, ?_, rfl⟩⟩, fun y => absurd y nz⟩⟩), G⟩
        rw [ef, p1, p2, h48]; exact r
      · obtain ⟨I', L', r, G⟩ := F (sp_mx q.1 s.1) (sp_mx q.2 s.2)
        refine ⟨I', L', am_rn_of mh_163 rfl (w163_0 I L D X (nI f) (nI 10) ⟨hbf, fun y => absurd y n65, fun _ => ⟨fun _ => ⟨hbf, hbf, fun y => absurd y (by decide), fun y => absurd y (by decide), fun y => absurd y (by decide), fun _ => ?_, fun y => absurd y (by decide), fun y => absurd rfl y.2.2.2.1⟩, fun y => absurd y nz⟩⟩), by rw [sp_2_10]; exact G⟩
        rw [ef, p1, p2, v1]
        exact ⟨_, I, L, D, N _ _, _, I, L, D, by rw [v2]; exact N _ _, I', L', D, r, rfl⟩
      · obtain ⟨I', L', r, G⟩ := F (sp_mn q.1 s.1) (sp_mn q.2 s.2)
        refine ⟨I', L', am_rn_of mh_163 rfl (w163_0 I L D X (nI f) (nI 11) ⟨hbf, fun y => absurd y n65, fun _ => ⟨fun _ => ⟨hbf, hbf, fun y => absurd y (by decide), fun y => absurd y (by decide), fun y => absurd y (by decide), fun y => absurd y (by decide), fun _ => ?_, fun y => absurd rfl y.2.2.2.2⟩, fun y => absurd y nz⟩⟩), by rw [sp_2_11]; exact G⟩
        rw [ef, p1, p2, v1]
        exact ⟨_, I, L, D, M _ _, _, I, L, D, by rw [v2]; exact M _ _, I', L', D, r, rfl⟩
end MALONE
