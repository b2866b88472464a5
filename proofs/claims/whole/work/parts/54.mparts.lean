/-! ===== the reference's reader: parts, a bracket's next sign ===== -/
section PARTS
variable {ext : Nat → List Value → am_M → Option am_R} {d : Nat} (L : Nat → Nat → Int64) (D : Nat → Nat → UInt64) (X : am_Rf) {f : Nat → Int32} {n c kn op nw nh : Nat} {I : Nat → Nat → Int32}
def pa_more (k s : Int32) : Int32 := if k = 12 then (if s = 1 ∨ s = 2 then 1 else 0) else if (k = 10 ∨ k = 11) ∧ s = 0 then 1 else 0
def pa_cmp (k s : Int32) : Int32 := if k = 12 ∧ s = 0 then 1 else 0
def pa_right (t : pt_K) (c : Nat) (k s : Int32) : Int32 := if k = 12 ∧ s = 0 then (if pt_k t c = 60 ∨ pt_k t c = 62 then 1 else 0) else if pt_k t c = (if pa_more k s = 1 then 44 else 41) then 1 else 0
theorem c140_route (hd : 1 ≤ d) (hT : rf_T f n c I) {v1 v2 k s : Int32} {P : am_R → Prop} (hb : am_inb v1 120 = true) (hs : I 57 v1.toNatClampNeg = s)
    (h : am_wp ext d mz_140 (168, [some (.ref 42), some (.int v1), some (.int v2), none, some (.int s), none, some (.int (pa_cmp k s)), some (.int (pa_more k s)), none, none], [.int (pa_right (pt_tape f n) c k s)], (I, L, D, am_rf X)) P) :
    am_wp ext d mz_140 (33, [some (.ref 42), some (.int v1), some (.int v2), none, none, none, none, none, none, none], [.int k], (I, L, D, am_rf X)) P := by
  have isg : ∀ w : Int32, pu_sgn w = true → am_Rn ext d 124 [.ref 42, .int w] (I, L, D, am_rf X) (some (.int (if pt_k (pt_tape f n) c = w then 1 else 0)), (I, L, D, am_rf X)) := fun w hw => am_up (c124 (ext := ext) (d := 0) L D X hT hw) hd
  -- from 119 on
  have g119 : ∀ m : Int32, ¬ (k = 12 ∧ s = 0) → m = pa_more k s → am_wp ext d mz_140 (119, [some (.ref 42), some (.int v1), some (.int v2), none, some (.int s), none, some (.int 0), none, none, none], [.int m], (I, L, D, am_rf X)) P := by
    intro m hn hm
    have ec : pa_cmp k s = 0 := by unfold pa_cmp; rw [if_neg hn]
    rw [ec] at h
    unfold pa_right at h
    rw [if_neg hn, ← hm] at h
    refine w140_119 I L D X v1 v2 s 0 m ⟨fun _ => ⟨fun z => ?_, fun z => ?_⟩, fun z => absurd rfl z⟩
    · subst z
      rw [if_neg (show ¬ (0 : Int32) = 1 by decide)] at h
      exact w140_165 I L D X v1 v2 s 0 0 41 ⟨_, I, L, D, isg 41 (by decide), h⟩
    · have m1 : m = 1 := by
        rw [hm]
        unfold pa_more at hm ⊢
        by_cases h1 : k = 12
        · simp only [if_pos h1] at hm ⊢
          by_cases h2 : s = 1 ∨ s = 2
          · rw [if_pos h2]
          · rw [if_neg h2] at hm; exact absurd hm z
        · simp only [if_neg h1] at hm ⊢
          by_cases h2 : (k = 10 ∨ k = 11) ∧ s = 0
          · rw [if_pos h2]
          · rw [if_neg h2] at hm; exact absurd hm z
      subst m1
      rw [if_pos rfl] at h
      exact w140_165 I L D X v1 v2 s 0 1 44 ⟨_, I, L, D, isg 44 (by decide), h⟩
  refine w140_33 I L D X v1 v2 k ⟨hb, fun z => ?_, fun z => ?_⟩
  · rw [hs]
    refine w140_53 I L D X v1 v2 k s 0 ⟨fun _ => w140_69 I L D X v1 v2 k s 0 (w140_70 I L D X v1 v2 k s 0 0 ⟨fun _ => ⟨fun z10 => ?_, fun z10 => ⟨fun z11 => ?_, fun z11 => ?_⟩⟩, fun y => absurd rfl y⟩), fun y => absurd rfl y⟩
    · refine w140_109 I L D X v1 v2 s 0 ⟨fun y => w140_118 I L D X v1 v2 s 0 (g119 0 (fun q => z q.1) ?_), fun y => g119 1 (fun q => z q.1) ?_⟩
      · unfold pa_more; rw [if_neg z, if_neg (fun q => y q.2)]
      · unfold pa_more; rw [if_neg z, if_pos ⟨Or.inl z10, y⟩]
    · refine w140_118 I L D X v1 v2 s 0 (g119 0 (fun q => z q.1) ?_)
      unfold pa_more; rw [if_neg z, if_neg (fun q => q.1.elim z10 z11)]
    · refine w140_109 I L D X v1 v2 s 0 ⟨fun y => w140_118 I L D X v1 v2 s 0 (g119 0 (fun q => z q.1) ?_), fun y => g119 1 (fun q => z q.1) ?_⟩
      · unfold pa_more; rw [if_neg z, if_neg (fun q => y q.2)]
      · unfold pa_more; rw [if_neg z, if_pos ⟨Or.inr z11, y⟩]
  · rw [hs]
    refine w140_53 I L D X v1 v2 k s 1 ⟨fun y => absurd y (by decide), fun _ => ⟨fun y => ?_, fun y => ?_⟩⟩
    · refine w140_69 I L D X v1 v2 k s 1 (w140_70 I L D X v1 v2 k s 1 0 ⟨fun q => absurd q (by decide), fun _ => ⟨fun q => ?_, fun q => ⟨fun q2 => ?_, fun q2 => ?_⟩⟩⟩)
      · exact g119 1 (fun q' => y q'.2) (by unfold pa_more; rw [if_pos z, if_pos (Or.inl q)])
      · exact g119 0 (fun q' => y q'.2) (by unfold pa_more; rw [if_pos z, if_neg (fun h => h.elim q q2)])
      · exact g119 1 (fun q' => y q'.2) (by unfold pa_more; rw [if_pos z, if_pos (Or.inr q2)])
    · have ec : pa_cmp k s = 1 := by unfold pa_cmp; rw [if_pos ⟨z, y⟩]
      have em : pa_more k s = 0 := by unfold pa_more; rw [if_pos z, if_neg (fun q => by rw [y] at q; exact absurd q (by decide))]
      rw [ec, em] at h
      unfold pa_right at h
      rw [if_pos ⟨z, y⟩] at h
      refine w140_70 I L D X v1 v2 k s 1 1 ⟨fun q => absurd q (by decide), fun _ => ⟨fun q => ?_, fun q => ⟨fun q2 => ?_, fun q2 => ?_⟩⟩⟩
      · rw [y] at q; exact absurd q (by decide)
      · have r60 := isg 60 (by decide)
        have r62 := isg 62 (by decide)
        refine w140_119 I L D X v1 v2 s 1 0 ⟨fun q => absurd q (by decide), fun _ => ⟨_, I, L, D, r60, fun q3 => ?_, fun q3 => ⟨_, I, L, D, r62, fun q4 => ?_, fun q4 => ?_⟩⟩⟩
        · have h60 : pt_k (pt_tape f n) c = 60 := by
            by_cases hh : pt_k (pt_tape f n) c = 60
            · exact hh
            · rw [if_neg hh] at q3; exact absurd rfl q3
          rw [if_pos (Or.inl h60)] at h
          exact h
        · have h60 : ¬ pt_k (pt_tape f n) c = 60 := fun hh => by rw [if_pos hh] at q3; exact absurd q3 (by decide)
          have h62 : ¬ pt_k (pt_tape f n) c = 62 := fun hh => by rw [if_pos hh] at q4; exact absurd q4 (by decide)
          rw [if_neg (fun hh => hh.elim h60 h62)] at h
          exact h
        · have h62 : pt_k (pt_tape f n) c = 62 := by
            by_cases hh : pt_k (pt_tape f n) c = 62
            · exact hh
            · rw [if_neg hh] at q4; exact absurd rfl q4
          rw [if_pos (Or.inr h62)] at h
          exact h
      · rw [y] at q2; exact absurd q2 (by decide)
/-- the wrong sign -/
theorem c140_wrong (hd : 1 ≤ d) (h : rf_S f n c kn op nw nh I) {v1 v2 v4 v6 v7 : Int32} : ∃ I', am_wp ext d mz_140 (168, [some (.ref 42), some (.int v1), some (.int v2), none, some (.int v4), none, some (.int v6), some (.int v7), none, none], [.int 0], (I, L, D, am_rf X)) (fun r => r = (some (.int 0), (I', L, D, am_rf X))) ∧ rf_F (1, pt_p (pt_tape f n) c) I' ∧ ∀ kn nw nh, rf_fr kn nw nh I I' := by
  obtain ⟨I', r, g⟩ := c118t (ext := ext) (d := 0) L D X h 1
  exact ⟨I', w140_168 I L D X v1 v2 v4 v6 v7 0 ⟨fun z => absurd rfl z, fun _ => ⟨0, I', L, D, am_up r hd, Or.inl rfl, rfl⟩⟩, g⟩
/-- mere brackets close -/
theorem c140_close0 (hd : 2 ≤ d) (hc : c < (pt_tape f n).2) (hn : nw < 120) (ho : op < 8) (h : rf_S f n c kn (op + 1) (nw + 1) nh I) {s : Int32} : ∃ I', am_wp ext d mz_140 (168, [some (.ref 42), some (.int (nI nw)), some (.int (-1)), none, some (.int s), none, some (.int 0), some (.int 0), none, none], [.int 1], (I, L, D, am_rf X)) (fun r => r = (some (.int 1), (I', L, D, am_rf X))) ∧ rf_S f n (pt_adv (pt_tape f n) c) kn op nw nh I' ∧ (∀ a b, ¬ (a = 42 ∧ (b = 31 ∨ b = 34 ∨ (7 ≤ b ∧ b ≤ 10))) → ¬ (a = 57 ∧ b = nw) → I' a b = I a b) := by
  obtain ⟨h0, h1, h2, h3, h4, h5, h6⟩ := h
  have e31 : I 42 31 - 1 = nI nw := by rw [h3, show (1 : Int32) = nI 1 from rfl, ni_sub (by omega) (by omega)]; rfl
  have e34 : I 42 34 - 1 = nI op := by rw [h2, show (1 : Int32) = nI 1 from rfl, ni_sub (by omega) (by omega)]; rfl
  have S1 : rf_S f n c kn op nw nh (am_uI (am_uI (am_uI I 57 nw (s + 1)) 42 31 (nI nw)) 42 34 (nI op)) := by
    refine ⟨rf_T_of h0 (fun b q1 q2 => ?_) (fun b => by simp [am_uI_at]) (fun b => by simp [am_uI_at]), by simp [am_uI_at, h1], by simp [am_uI_at], by simp [am_uI_at], by simp [am_uI_at, h4], by simp [am_uI_at, h5], by simp [am_uI_at, h6]⟩
    simp only [am_uI_at]
    rw [if_neg (by omega), if_neg (by omega), if_neg (by omega)]
  obtain ⟨I2, r2, s2, f2⟩ := rf_S_take (ext := ext) (d := 0) L D X hc S1
  refine ⟨I2, w140_168 I L D X _ _ _ _ _ _ ⟨fun _ => ⟨fun _ => w140_274 I L D X _ _ _ _ _ ⟨ni_inb hn (by omega), fun z => absurd rfl z, fun _ => ⟨fun _ => ⟨fun _ => ⟨I2, L, D, ?_, rfl⟩, fun z => absurd (by decide) z⟩, fun z => absurd rfl z⟩⟩, fun z => absurd (by decide) z⟩, fun z => absurd z (by decide)⟩, s2, ?_⟩
  · rw [e31, e34, ni_nat (by omega)]
    exact am_up r2 hd
  · intro a b q1 q2
    rw [f2 a b (by omega)]
    simp only [am_uI_at]
    rw [if_neg (by omega), if_neg (by omega), if_neg (by omega)]
def pa_fld (s : Nat) : Nat := 47 + s
/-- the last part of a knot comes, its bracket closes -/
theorem c140_close (hd : 2 ≤ d) (hc : c < (pt_tape f n).2) (hn : nw < 120) (hh : nh < 120) (ho : op < 8) {k s : Nat} (hk : k < 96) (hs : s ≤ 3) (h : rf_S f n c kn (op + 1) (nw + 1) (nh + 1) I) : ∃ I', am_wp ext d mz_140 (168, [some (.ref 42), some (.int (nI nw)), some (.int (nI (96 + k))), none, some (.int (nI s)), none, some (.int 0), some (.int 0), none, none], [.int 1], (I, L, D, am_rf X)) (fun r => r = (some (.int 1), (I', L, D, am_rf X))) ∧ rf_S f n (pt_adv (pt_tape f n) c) kn op nw (nh + 1) I' ∧ I' 58 nh = nI (96 + k) ∧ I' (47 + s) (96 + k) = I 58 nh ∧ (∀ a b, ¬ (a = 42 ∧ (b = 31 ∨ b = 33 ∨ b = 34 ∨ (7 ≤ b ∧ b ≤ 10))) → ¬ (a = 57 ∧ b = nw) → ¬ (a = 58 ∧ b = nh) → ¬ (a = 47 + s ∧ b = 96 + k) → I' a b = I a b) := by
  obtain ⟨h0, h1, h2, h3, h4, h5, h6⟩ := h
  have e31 : I 42 31 - 1 = nI nw := by rw [h3, show (1 : Int32) = nI 1 from rfl, ni_sub (by omega) (by omega)]; rfl
  have e34 : I 42 34 - 1 = nI op := by rw [h2, show (1 : Int32) = nI 1 from rfl, ni_sub (by omega) (by omega)]; rfl
  have ek : (nI (96 + k)).toNatClampNeg = 96 + k := ni_nat (by omega)
  have hb : am_inb (nI (96 + k)) 192 = true := ni_inb (by omega) (by omega)
  have nn : ¬ nI (96 + k) < 0 := ni_nn (by omega)
  have r1 := c128 (ext := ext) (d := 0) L D X h4 hh
  -- the field's row
  have goal : ∀ J : Nat → Nat → Int32, J = am_uI (am_uI I 42 33 (nI nh)) (47 + s) (96 + k) (I 58 nh) → ∃ I', am_wp ext d mz_140 (274, [some (.ref 42), some (.int (nI nw)), some (.int (nI (96 + k))), none, some (.int (nI s)), none, some (.int 0), some (.int 0), none, none], [], (J, L, D, am_rf X)) (fun r => r = (some (.int 1), (I', L, D, am_rf X))) ∧ rf_S f n (pt_adv (pt_tape f n) c) kn op nw (nh + 1) I' ∧ I' 58 nh = nI (96 + k) ∧ I' (47 + s) (96 + k) = I 58 nh ∧ (∀ a b, ¬ (a = 42 ∧ (b = 31 ∨ b = 33 ∨ b = 34 ∨ (7 ≤ b ∧ b ≤ 10))) → ¬ (a = 57 ∧ b = nw) → ¬ (a = 58 ∧ b = nh) → ¬ (a = 47 + s ∧ b = 96 + k) → I' a b = I a b) := by
    intro J hJ
    have j31 : J 42 31 - 1 = nI nw := by rw [hJ]; rw [am_uI_at, if_neg (by omega), am_uI_at, if_neg (by omega)]; exact e31
    have j34 : J 42 34 - 1 = nI op := by rw [hJ]; rw [am_uI_at, if_neg (by omega), am_uI_at, if_neg (by omega)]; exact e34
    have j33 : (am_uI (am_uI (am_uI J 57 nw (nI s + 1)) 42 31 (nI nw)) 42 34 (nI op)) 42 33 = nI nh := by
      rw [hJ]
      simp only [am_uI_at]
      rw [if_neg (by omega), if_neg (by omega), if_neg (by omega), if_neg (by omega), if_pos ⟨trivial, trivial⟩]
    have r3 := c129 (ext := ext) (d := 0) L D X j33 hh (nI (96 + k))
    have S1 : rf_S f n c kn op nw (nh + 1) (am_uI (am_uI (am_uI (am_uI (am_uI J 57 nw (nI s + 1)) 42 31 (nI nw)) 42 34 (nI op)) 58 nh (nI (96 + k))) 42 33 (nI (nh + 1))) := by
      subst hJ
      refine ⟨rf_T_of h0 (fun b q1 q2 => ?_) (fun b => ?_) (fun b => ?_), ?_, ?_, ?_, ?_, ?_, ?_⟩
      · simp only [am_uI_at]
        rw [if_neg (by omega), if_neg (by omega), if_neg (by omega), if_neg (by omega), if_neg (by omega), if_neg (by omega), if_neg (by omega)]
      · simp only [am_uI_at]
        rw [if_neg (by omega), if_neg (by omega), if_neg (by omega), if_neg (by omega), if_neg (by omega), if_neg (by omega), if_neg (by omega)]
      · simp only [am_uI_at]
        rw [if_neg (by omega), if_neg (by omega), if_neg (by omega), if_neg (by omega), if_neg (by omega), if_neg (by omega), if_neg (by omega)]
      · simp only [am_uI_at]
        rw [if_neg (by omega), if_neg (by omega), if_neg (by omega), if_neg (by omega), if_neg (by omega), if_neg (by omega), if_neg (by omega)]
        exact h1
      · simp only [am_uI_at]
        rw [if_neg (by omega), if_neg (by omega), if_pos ⟨trivial, trivial⟩]
      · simp only [am_uI_at]
        rw [if_neg (by omega), if_neg (by omega), if_neg (by omega), if_pos ⟨trivial, trivial⟩]
      · simp only [am_uI_at]
        rw [if_pos ⟨trivial, trivial⟩]
      · simp only [am_uI_at]
        rw [if_neg (by omega), if_neg (by omega), if_neg (by omega), if_neg (by omega), if_neg (by omega), if_neg (by omega), if_neg (by omega)]
        exact h5
      · simp only [am_uI_at]
        rw [if_neg (by omega), if_neg (by omega), if_neg (by omega), if_neg (by omega), if_neg (by omega), if_neg (by omega), if_neg (by omega)]
        exact h6
    obtain ⟨I2, r2, s2, f2⟩ := rf_S_take (ext := ext) (d := 0) L D X hc S1
    refine ⟨I2, w140_274 J L D X _ _ _ _ _ ⟨ni_inb hn (by omega), fun z => absurd rfl z, fun _ => ⟨fun _ => ⟨fun z => absurd z nn, fun _ => ⟨_, L, D, ?_, I2, L, D, am_up r2 hd, rfl⟩⟩, fun z => absurd rfl z⟩⟩, s2, ?_, ?_, ?_⟩
    · rw [j31, j34, ni_nat (by omega)]
      exact am_up r3 (by omega)
    · rw [f2 58 nh (by omega)]
      simp [am_uI_at]
    · rw [f2 _ _ (by omega), hJ]
      simp only [am_uI_at]
      rw [if_neg (by omega), if_neg (by omega), if_neg (by omega), if_neg (by omega), if_neg (by omega), if_pos ⟨trivial, trivial⟩]
    · intro a b q1 q2 q3 q4
      rw [f2 a b (by omega), hJ]
      simp only [am_uI_at]
      rw [if_neg (by omega), if_neg (by omega), if_neg (by omega), if_neg (by omega), if_neg (by omega), if_neg (by omega), if_neg (by omega)]
  obtain ⟨I', w, g⟩ := goal _ rfl
  refine ⟨I', w140_168 I L D X _ _ _ _ _ _ ⟨fun _ => ⟨fun z => absurd z nn, fun _ => ⟨_, _, L, D, am_up r1 (by omega), ?_⟩⟩, fun z => absurd z (by decide)⟩, g⟩
  rw [ek]
  have hs4 : s = 0 ∨ s = 1 ∨ s = 2 ∨ s = 3 := by omega
  rcases hs4 with rfl | rfl | rfl | rfl
  · exact ⟨fun z => absurd rfl z, fun _ => ⟨hb, fun _ => w, fun z => absurd rfl z⟩⟩
  · exact ⟨fun _ => ⟨fun z => absurd rfl z, fun _ => ⟨hb, fun _ => w, fun z => absurd rfl z⟩⟩, fun z => absurd z (by decide)⟩
  · exact ⟨fun _ => ⟨fun _ => ⟨fun z => absurd rfl z, fun _ => ⟨hb, fun _ => w, fun z => absurd rfl z⟩⟩, fun z => absurd z (by decide)⟩, fun z => absurd z (by decide)⟩
  · exact ⟨fun _ => ⟨fun _ => ⟨fun _ => ⟨hb, fun _ => w, fun z => absurd rfl z⟩, fun z => absurd z (by decide)⟩, fun z => absurd z (by decide)⟩, fun z => absurd z (by decide)⟩
/-- a part of a knot comes, and more will: m behind a comma, cm behind < or > -/
theorem c140_more (hd : 2 ≤ d) (hc : c < (pt_tape f n).2) (hn : nw < 120) (hh : nh < 120) {k s : Nat} (hk : k < 96) (hs : s ≤ 2) {cm m : Int32} (hcm : (cm = 0 ∧ m = 1) ∨ (cm = 1 ∧ s = 0)) (h : rf_S f n c kn op (nw + 1) (nh + 1) I) : ∃ I', am_wp ext d mz_140 (168, [some (.ref 42), some (.int (nI nw)), some (.int (nI (96 + k))), none, some (.int (nI s)), none, some (.int cm), some (.int m), none, none], [.int 1], (I, L, D, am_rf X)) (fun r => r = (some (.int 1), (I', L, D, am_rf X))) ∧ rf_S f n (pt_adv (pt_tape f n) c) kn op (nw + 1) nh I' ∧ I' 42 35 = 1 ∧ I' 57 nw = nI (s + 1) ∧ I' (47 + s) (96 + k) = I 58 nh ∧ (cm = 1 → I' 46 (96 + k) = if I 42 9 = 62 then 1 else 0) ∧ (∀ a b, ¬ (a = 42 ∧ (b = 33 ∨ b = 35 ∨ (7 ≤ b ∧ b ≤ 10))) → ¬ (a = 57 ∧ b = nw) → ¬ (a = 47 + s ∧ b = 96 + k) → ¬ (cm = 1 ∧ a = 46 ∧ b = 96 + k) → I' a b = I a b) := by
  obtain ⟨h0, h1, h2, h3, h4, h5, h6⟩ := h
  have ek : (nI (96 + k)).toNatClampNeg = 96 + k := ni_nat (by omega)
  have hb : am_inb (nI (96 + k)) 192 = true := ni_inb (by omega) (by omega)
  have nn : ¬ nI (96 + k) < 0 := ni_nn (by omega)
  have r1 := c128 (ext := ext) (d := 0) L D X h4 hh
  have es : nI s + 1 = nI (s + 1) := by rw [show (1 : Int32) = nI 1 from rfl, ni_add (by omega)]
  have goal : ∀ J : Nat → Nat → Int32, (∀ a b, ¬ (a = 42 ∧ b = 33) → ¬ (a = 47 + s ∧ b = 96 + k) → ¬ (cm = 1 ∧ a = 46 ∧ b = 96 + k) → J a b = I a b) → J 42 33 = nI nh → J (47 + s) (96 + k) = I 58 nh → (cm = 1 → J 46 (96 + k) = if I 42 9 = 62 then 1 else 0) → ∃ I', am_wp ext d mz_140 (274, [some (.ref 42), some (.int (nI nw)), some (.int (nI (96 + k))), none, some (.int (nI s)), none, some (.int cm), some (.int m), none, none], [], (J, L, D, am_rf X)) (fun r => r = (some (.int 1), (I', L, D, am_rf X))) ∧ rf_S f n (pt_adv (pt_tape f n) c) kn op (nw + 1) nh I' ∧ I' 42 35 = 1 ∧ I' 57 nw = nI (s + 1) ∧ I' (47 + s) (96 + k) = I 58 nh ∧ (cm = 1 → I' 46 (96 + k) = if I 42 9 = 62 then 1 else 0) ∧ (∀ a b, ¬ (a = 42 ∧ (b = 33 ∨ b = 35 ∨ (7 ≤ b ∧ b ≤ 10))) → ¬ (a = 57 ∧ b = nw) → ¬ (a = 47 + s ∧ b = 96 + k) → ¬ (cm = 1 ∧ a = 46 ∧ b = 96 + k) → I' a b = I a b) := by
    intro J hJ j33 jf jn
    have S1 : rf_S f n c kn op (nw + 1) nh (am_uI (am_uI J 57 nw (nI (s + 1))) 42 35 1) := by
      refine ⟨rf_T_of h0 (fun b q1 q2 => ?_) (fun b => ?_) (fun b => ?_), ?_, ?_, ?_, ?_, ?_, ?_⟩
      · simp only [am_uI_at]
        rw [if_neg (by omega), if_neg (by omega), hJ _ _ (by omega) (by omega) (by omega)]
      · simp only [am_uI_at]
        rw [if_neg (by omega), if_neg (by omega), hJ _ _ (by omega) (by omega) (by omega)]
      · simp only [am_uI_at]
        rw [if_neg (by omega), if_neg (by omega), hJ _ _ (by omega) (by omega) (by omega)]
      · simp only [am_uI_at]
        rw [if_neg (by omega), if_neg (by omega), hJ _ _ (by omega) (by omega) (by omega)]; exact h1
      · simp only [am_uI_at]
        rw [if_neg (by omega), if_neg (by omega), hJ _ _ (by omega) (by omega) (by omega)]; exact h2
      · simp only [am_uI_at]
        rw [if_neg (by omega), if_neg (by omega), hJ _ _ (by omega) (by omega) (by omega)]; exact h3
      · simp only [am_uI_at]
        rw [if_neg (by omega), if_neg (by omega)]; exact j33
      · simp only [am_uI_at]
        rw [if_neg (by omega), if_neg (by omega), hJ _ _ (by omega) (by omega) (by omega)]; exact h5
      · simp only [am_uI_at]
        rw [if_neg (by omega), if_neg (by omega), hJ _ _ (by omega) (by omega) (by omega)]; exact h6
    obtain ⟨I2, r2, s2, f2⟩ := rf_S_take (ext := ext) (d := 0) L D X hc S1
    have r2' : am_Rn ext d 123 [.ref 42] (am_uI (am_uI J 57 (nI nw).toNatClampNeg (nI s + 1)) 42 35 1, L, D, am_rf X) (none, (I2, L, D, am_rf X)) := by
      rw [es, ni_nat (by omega)]
      exact am_up r2 hd
    refine ⟨I2, w140_274 J L D X _ _ _ _ _ ⟨ni_inb hn (by omega), fun _ => ⟨I2, L, D, r2', rfl⟩, fun z => ⟨fun z2 => ?_, fun _ => ⟨I2, L, D, r2', rfl⟩⟩⟩, s2, ?_, ?_, ?_, ?_, ?_⟩
    · rcases hcm with ⟨_, q⟩ | ⟨q, _⟩
      · rw [q] at z2; exact absurd z2 (by decide)
      · rw [q] at z; exact absurd z (by decide)
    · rw [f2 42 35 (by omega)]; simp [am_uI_at]
    · rw [f2 57 nw (by omega)]; simp [am_uI_at]
    · rw [f2 _ _ (by omega)]
      simp only [am_uI_at]
      rw [if_neg (by omega), if_neg (by omega)]; exact jf
    · intro q
      rw [f2 _ _ (by omega)]
      simp only [am_uI_at]
      rw [if_neg (by omega), if_neg (by omega)]; exact jn q
    · intro a b q1 q2 q3 q4
      rw [f2 a b (by omega)]
      simp only [am_uI_at]
      rw [if_neg (by omega), if_neg (by omega)]; exact hJ a b (by omega) q3 q4
  -- the plain field
  rcases hcm with ⟨rfl, rfl⟩ | ⟨rfl, rfl⟩
  · obtain ⟨I', w, g⟩ := goal (am_uI (am_uI I 42 33 (nI nh)) (47 + s) (96 + k) (I 58 nh)) (fun a b q1 q2 _ => by rw [am_uI_at, if_neg q2, am_uI_at, if_neg q1]) (by rw [am_uI_at, if_neg (by omega), am_uI_at, if_pos ⟨rfl, rfl⟩]) (by rw [am_uI_at, if_pos ⟨rfl, rfl⟩]) (fun z => absurd z (by decide))
    refine ⟨I', w140_168 I L D X _ _ _ _ _ _ ⟨fun _ => ⟨fun z => absurd z nn, fun _ => ⟨_, _, L, D, am_up r1 (by omega), ?_⟩⟩, fun z => absurd z (by decide)⟩, g⟩
    rw [ek]
    have hs4 : s = 0 ∨ s = 1 ∨ s = 2 := by omega
    rcases hs4 with rfl | rfl | rfl
    · exact ⟨fun z => absurd rfl z, fun _ => ⟨hb, fun _ => w, fun z => absurd rfl z⟩⟩
    · exact ⟨fun _ => ⟨fun z => absurd rfl z, fun _ => ⟨hb, fun _ => w, fun z => absurd rfl z⟩⟩, fun z => absurd z (by decide)⟩
    · exact ⟨fun _ => ⟨fun _ => ⟨fun z => absurd rfl z, fun _ => ⟨hb, fun _ => w, fun z => absurd rfl z⟩⟩, fun z => absurd z (by decide)⟩, fun z => absurd z (by decide)⟩
  · obtain ⟨I', w, g⟩ := goal (am_uI (am_uI (am_uI I 42 33 (nI nh)) 47 (96 + k) (I 58 nh)) 46 (96 + k) (if I 42 9 = 62 then 1 else 0)) (fun a b q1 q2 q3 => by rw [am_uI_at, if_neg (fun z => q3 ⟨rfl, z⟩), am_uI_at, if_neg q2, am_uI_at, if_neg q1]) (by rw [am_uI_at, if_neg (by omega), am_uI_at, if_neg (by omega), am_uI_at, if_pos ⟨rfl, rfl⟩]) (by rw [am_uI_at, if_neg (by omega), am_uI_at, if_pos ⟨rfl, rfl⟩]) (fun _ => by rw [am_uI_at, if_pos ⟨rfl, rfl⟩])
    refine ⟨I', w140_168 I L D X _ _ _ _ _ _ ⟨fun _ => ⟨fun z => absurd z nn, fun _ => ⟨_, _, L, D, am_up r1 (by omega), ?_⟩⟩, fun z => absurd z (by decide)⟩, g⟩
    rw [ek]
    have e9 : (am_uI I 42 33 (nI nh)) 42 9 = I 42 9 := by simp [am_uI_at]
    refine ⟨fun z => absurd rfl z, fun _ => ⟨hb, fun z => absurd z (by decide), fun _ => ⟨fun z => ⟨hb, ?_⟩, fun z => ⟨hb, ?_⟩⟩⟩⟩
    · rw [e9] at z
      rw [if_neg z] at w
      exact w
    · rw [e9] at z
      rw [if_pos z] at w
      exact w
end PARTS
