/-! ===== the reference's reader: how an expression is read, step by step ===== -/
/-- behind a product no * or /, behind a sum no + or - either -/
def pt_no (t : pt_K) (ws : List Int32) (r : pt_R) : Prop := ∀ c k T, r = some (.inr (c, k, T)) → ∀ w ∈ ws, ¬ pt_k t c = w
theorem pt_no_b {t : pt_K} {ws : List Int32} {r : pt_R} {g : Nat → Nat → tr_T → pt_R} (h : ∀ c k A, r = some (.inr (c, k, A)) → pt_no t ws (g c k A)) : pt_no t ws (pt_b r g) := by
  unfold pt_b
  split
  · intro _ _ _ h; cases h
  · intro _ _ _ h; cases h
  · next q => exact h _ _ _ rfl
theorem pt_no_n {t : pt_K} {ws : List Int32} {c kn : Nat} {g : Nat → pt_R} (h : pt_no t ws (g (pt_adv t c))) : pt_no t ws (pt_n t c kn g) := by
  unfold pt_n
  split
  · exact h
  · intro _ _ _ h; cases h
theorem pt_noop {t : pt_K} {e : pt_E} : ∀ (n c kn op : Nat) (A : tr_T), pt_no t [42, 47, 43, 45] (pt_pp t e n 0 A c kn op) ∧ pt_no t [42, 47] (pt_pp t e n 1 A c kn op) ∧ ((∀ w ∈ [42, 47], ¬ pt_k t c = w) → pt_no t [42, 47, 43, 45] (pt_pp t e n 3 A c kn op)) ∧ pt_no t [42, 47] (pt_pp t e n 4 A c kn op) := by
  intro n
  induction n with
  | zero =>
    intro c kn op A
    have z : ∀ ws, pt_no t ws none := fun ws _ _ _ h => by cases h
    exact ⟨z _, z _, fun _ => z _, z _⟩
  | succ n ih =>
    intro c kn op A
    refine ⟨?_, ?_, fun h0 => ?_, ?_⟩
    · simp only [pt_pp]
      exact pt_no_b fun c1 k1 B h1 => (ih c1 k1 op B).2.2.1 ((ih c kn op A).2.1 _ _ _ h1)
    · simp only [pt_pp]
      exact pt_no_b fun c1 k1 B h1 => (ih c1 k1 op B).2.2.2
    · simp only [pt_pp]
      split
      · exact pt_no_n (pt_no_b fun c1 k1 B h1 => (ih c1 k1 op _).2.2.1 ((ih _ _ _ _).2.1 _ _ _ h1))
      · next hn =>
        intro c' k' T' h
        cases h
        intro w hw
        rcases List.mem_cons.mp hw with rfl | hw
        · exact h0 42 (by simp)
        · rcases List.mem_cons.mp hw with rfl | hw
          · exact h0 47 (by simp)
          · rcases List.mem_cons.mp hw with rfl | hw
            · exact fun z => hn (Or.inl z)
            · rcases List.mem_cons.mp hw with rfl | hw
              · exact fun z => hn (Or.inr z)
              · cases hw
    · simp only [pt_pp]
      split
      · exact pt_no_n (pt_no_b fun c1 k1 B h1 => (ih c1 k1 op _).2.2.2)
      · next hn =>
        intro c' k' T' h
        cases h
        intro w hw
        rcases List.mem_cons.mp hw with rfl | hw
        · exact fun z => hn (Or.inl z)
        · rcases List.mem_cons.mp hw with rfl | hw
          · exact fun z => hn (Or.inr z)
          · cases hw
section SEQ
variable {ext : Nat → List Value → am_M → Option am_R} {d : Nat} (L : Nat → Nat → Int64) (D : Nat → Nat → UInt64) (X : am_Rf) {f : Nat → Int32} {n c kn op nw nh : Nat} {I : Nat → Nat → Int32} {e : pt_E} {q : pt_Q} {P : am_R → Prop}
/-- the loop's head -/
def rf_go (ext : Nat → List Value → am_M → Option am_R) (d : Nat) (L : Nat → Nat → Int64) (D : Nat → Nat → UInt64) (X : am_Rf) (I : Nat → Nat → Int32) (P : am_R → Prop) : Prop := am_wp ext d mz_141 (20, [some (.ref 42), none], [], (I, L, D, am_rf X)) P
def rf_ok (ext : Nat → List Value → am_M → Option am_R) (L : Nat → Nat → Int64) (D : Nat → Nat → UInt64) (X : am_Rf) (f : Nat → Int32) (n lvl lb nw nh op : Nat) (I : Nat → Nat → Int32) (c' k' : Nat) (T : tr_T) (I' : Nat → Nat → Int32) : Prop := rf_fr lb nw nh I I' ∧ (∃ nw' nh', rf_S f n c' k' op nw' nh' I') ∧ I' 42 35 = 0 ∧ rf_C ext 0 L D X lvl T lb nw nh I'
/-- what must follow -/
def rf_run (ext : Nat → List Value → am_M → Option am_R) (d : Nat) (L : Nat → Nat → Int64) (D : Nat → Nat → UInt64) (X : am_Rf) (f : Nat → Int32) (n lvl lb nw nh op : Nat) (I : Nat → Nat → Int32) (q : pt_Q) (P : am_R → Prop) : Prop := match q with
  | .inl fq => ∀ I', rf_F fq I' → rf_fr lb nw nh I I' → P (some (.int 0), (I', L, D, am_rf X))
  | .inr t => ∀ I', rf_ok ext L D X f n lvl lb nw nh op I t.1 t.2.1 t.2.2 I' → rf_go ext d L D X I' P
theorem rf_run_t {lvl lb : Nat} {I I2 : Nat → Nat → Int32} (hf : rf_fr lb nw nh I I2) (h : rf_run ext d L D X f n lvl lb nw nh op I q P) : rf_run ext d L D X f n lvl lb nw nh op I2 q P := by
  match q, h with
  | .inl fq, h => exact fun I' h1 h2 => h I' h1 (rf_fr_t hf h2 (Nat.le_refl _) (Nat.le_refl _) (Nat.le_refl _))
  | .inr t, h => exact fun I' h1 => h I' ⟨rf_fr_t hf h1.1 (Nat.le_refl _) (Nat.le_refl _) (Nat.le_refl _), h1.2⟩
/-- signNow -/
def rf_sn (x : Int32) : Int32 := if x = 43 then 6 else if x = 45 then 7 else if x = 42 then 8 else if x = 47 then 9 else -1
theorem c138 (h : rf_T f n c I) : am_Rn ext (d + 1) 138 [.ref 42] (I, L, D, am_rf X) (some (.int (rf_sn (pt_k (pt_tape f n) c))), (I, L, D, am_rf X)) := by
  have hs : ∀ w : Int32, pu_sgn w = true → ((I 42 8 = 4 ∧ I 42 9 = w) ↔ pt_k (pt_tape f n) c = w) := fun w hw => rf_sgn (rf_T_tok h) hw
  have s43 := hs 43 (by decide)
  have s45 := hs 45 (by decide)
  have s42 := hs 42 (by decide)
  have s47 := hs 47 (by decide)
  unfold rf_sn
  refine am_rn_of mh_138 rfl (w138_0 I L D X ⟨fun z => ⟨fun a => ⟨fun b => ⟨fun c => ⟨fun d => ?_, fun d => ?_⟩, fun c => ?_⟩, fun b => ?_⟩, fun a => ?_⟩, fun z => ?_⟩)
  · rw [if_neg (fun q => a (s43.mpr q).2), if_neg (fun q => b (s45.mpr q).2), if_neg (fun q => c (s42.mpr q).2), if_neg (fun q => d (s47.mpr q).2)]
  · have := s47.mp ⟨z, d⟩
    rw [if_neg (by rw [this]; decide), if_neg (by rw [this]; decide), if_neg (by rw [this]; decide), if_pos this]
  · have := s42.mp ⟨z, c⟩
    rw [if_neg (by rw [this]; decide), if_neg (by rw [this]; decide), if_pos this]
  · have := s45.mp ⟨z, b⟩
    rw [if_neg (by rw [this]; decide), if_pos this]
  · have := s43.mp ⟨z, a⟩
    rw [if_pos this]
  · rw [if_neg (fun q => z (s43.mpr q).1), if_neg (fun q => z (s45.mpr q).1), if_neg (fun q => z (s42.mpr q).1), if_neg (fun q => z (s47.mpr q).1)]
/-- the operator's kind -/
def rf_op (x : Int32) : Nat := if x = 43 then 6 else if x = 45 then 7 else if x = 42 then 8 else 9
/-- signRead -/
theorem c139 {lvl lb : Nat} {A : tr_T} {k w : Nat} (hc : c < (pt_tape f n).2) (hk : kn ≤ 96) (hA : tr_ok e A lb) (hlb : kn = lb + tr_sz A) (hnw : nw < 119) (hnh : nh < 119) (hkk : 6 ≤ k ∧ k ≤ 9) (hw : rf_w (nI k) = w) (hw1 : 1 ≤ w) (hwl : w ≤ lvl) (hl3 : lvl ≤ 3) {nw' nh' : Nat} (hS : rf_S f n c kn op nw' nh' I) (hC : rf_C ext 0 L D X lvl A lb nw nh I) (hb : nw = 0 ∨ rf_w (I 55 (nw - 1)) < w) :
    (kn < 96 → ∃ I', am_Rn ext 4 139 [.ref 42, .int (nI k)] (I, L, D, am_rf X) (some (.int 1), (I', L, D, am_rf X)) ∧ rf_S f n (pt_adv (pt_tape f n) c) (kn + 1) op (nw + 1) (nh + 1) I' ∧ I' 42 35 = 1 ∧ I' 55 nw = nI k ∧ I' 56 nw = nI (96 + kn) ∧ I' 45 (96 + kn) = nI k ∧ I' 58 nh = nI (96 + tr_rt A) ∧ rf_rp 96 true I' A ∧ rf_fr lb nw nh I I') ∧
    (¬ kn < 96 → ∃ I', am_Rn ext 4 139 [.ref 42, .int (nI k)] (I, L, D, am_rf X) (some (.int 0), (I', L, D, am_rf X)) ∧ rf_F (2, pt_p (pt_tape f n) c) I' ∧ rf_fr lb nw nh I I') := by
  constructor
  · intro hk9
    have r1 := (c126 (ext := ext) (d := 0) L D X hS hk (nI k) 0).1 hk9
    obtain ⟨s1, f1⟩ := rf_S_grown hS (nI k) 0
    have k1 : ∀ a b, ¬ (a = 42 ∧ b = 18) → ¬ (45 ≤ a ∧ a ≤ 50 ∧ b = 96 + kn) → (am_uI (am_uI (am_uI (am_uI (am_uI (am_uI (am_uI I 42 18 (nI (kn + 1))) 45 (96 + kn) (nI k)) 46 (96 + kn) 0) 47 (96 + kn) (-1)) 48 (96 + kn) (-1)) 49 (96 + kn) (-1)) 50 (96 + kn) (-1)) a b = I a b := by
      intro a b q1 q2
      simp only [am_uI_at]
      rw [if_neg (by omega), if_neg (by omega), if_neg (by omega), if_neg (by omega), if_neg (by omega), if_neg (by omega), if_neg (by omega)]
    have k2 : (am_uI (am_uI (am_uI (am_uI (am_uI (am_uI (am_uI I 42 18 (nI (kn + 1))) 45 (96 + kn) (nI k)) 46 (96 + kn) 0) 47 (96 + kn) (-1)) 48 (96 + kn) (-1)) 49 (96 + kn) (-1)) 50 (96 + kn) (-1)) 45 (96 + kn) = nI k := by simp [am_uI_at]
    revert r1 s1 f1 k1 k2
    generalize (am_uI (am_uI (am_uI (am_uI (am_uI (am_uI (am_uI I 42 18 (nI (kn + 1))) 45 (96 + kn) (nI k)) 46 (96 + kn) 0) 47 (96 + kn) (-1)) 48 (96 + kn) (-1)) 49 (96 + kn) (-1)) 50 (96 + kn) (-1)) = I1
    intro r1 s1 f1 k1 k2
    have hsz := tr_pos A
    obtain ⟨J, w1, a1, a2, a3, a4, a5⟩ := hC I1 w hw1 hwl (k1 42 31 (by omega) (by omega)) (k1 42 33 (by omega) (by omega)) (fun i hi => ⟨k1 55 i (by omega) (by omega), k1 56 i (by omega) (by omega)⟩) (fun i hi => k1 58 i (by omega) (by omega)) (fun a i q1 q2 q3 q4 => k1 a i (by omega) (by omega))
    have e55 : ∀ i, J 55 i = I 55 i := fun i => by rw [a5 55 i (by omega), k1 55 i (by omega) (by omega)]
    obtain ⟨rJ, rr, hrJ⟩ := am_of_wp (as := [.ref 42, .int (nI w)]) mh_130 rfl (w1 (fun r => r = (none, (J, L, D, am_rf X))) (c130_end (ext := ext) (d := 0) L D X a1 (by omega) (by omega) (by rw [e55]; exact hb) rfl))
    subst hrJ
    obtain ⟨t0, t1, t2, t3, t4, t5, t6⟩ := s1
    have SJ : rf_S f n c (kn + 1) op nw (nh + 1) J := by
      refine ⟨rf_T_of t0 (fun b q1 q2 => a5 42 b (by omega)) (fun b => a5 43 b (by omega)) (fun b => a5 44 b (by omega)), ?_, ?_, a1, a2, ?_, ?_⟩
      · rw [a5 42 18 (by omega)]; exact t1
      · rw [a5 42 34 (by omega)]; exact t2
      · rw [a5 42 4 (by omega)]; exact t5
      · rw [a5 42 5 (by omega)]; exact t6
    have r3 := c131 (ext := ext) (d := 0) L D X a1 (by omega) (nI k) (nI (96 + kn))
    obtain ⟨s3, f3⟩ := rf_S_wait SJ (nI k) (nI (96 + kn))
    have S4 : rf_S f n c (kn + 1) op (nw + 1) (nh + 1) (am_uI (am_uI (am_uI (am_uI (am_uI J 55 nw (nI k)) 56 nw (nI (96 + kn))) 57 nw 0) 42 31 (nI (nw + 1))) 42 35 1) := by
      obtain ⟨u0, u1, u2, u3, u4, u5, u6⟩ := s3
      exact ⟨rf_T_of u0 (fun b q1 q2 => by rw [am_uI_at, if_neg (by omega)]) (fun b => by rw [am_uI_at, if_neg (by omega)]) (fun b => by rw [am_uI_at, if_neg (by omega)]), by rw [am_uI_at, if_neg (by omega)]; exact u1, by rw [am_uI_at, if_neg (by omega)]; exact u2, by rw [am_uI_at, if_neg (by omega)]; exact u3, by rw [am_uI_at, if_neg (by omega)]; exact u4, by rw [am_uI_at, if_neg (by omega)]; exact u5, by rw [am_uI_at, if_neg (by omega)]; exact u6⟩
    obtain ⟨I5, r5, s5, f5⟩ := rf_S_take (ext := ext) (d := 0) L D X hc S4
    have eo : ∀ a b, ¬ (a = 42 ∧ (b = 31 ∨ b = 35 ∨ (7 ≤ b ∧ b ≤ 10))) → ¬ ((a = 55 ∨ a = 56 ∨ a = 57) ∧ b = nw) → I5 a b = J a b := by
      intro a b q1 q2
      rw [f5 a b (by omega)]
      simp only [am_uI_at]
      rw [if_neg (by omega), if_neg (by omega), if_neg (by omega), if_neg (by omega), if_neg (by omega)]
    refine ⟨I5, am_rn_of mh_139 rfl (w139_0 I L D X (nI k) ⟨_, I1, L, D, am_up r1 (by omega), fun _ => ⟨_, I1, L, D, am_up (c127 (ext := ext) (d := 0) L D X (nI k)) (by omega), J, L, D, by rw [hw]; exact am_up rr (by omega), _, L, D, am_up r3 (by omega), I5, L, D, am_up r5 (by omega), rfl⟩, fun z => absurd ?_ z⟩), s5, ?_, ?_, ?_, ?_, ?_, ?_, ?_⟩
    · rw [show (0 : Int32) = nI 0 from rfl, ni_le (by omega) (by omega)]; omega
    · rw [f5 42 35 (by omega)]; simp [am_uI_at]
    · rw [f5 55 nw (by omega)]; simp [am_uI_at]
    · rw [f5 56 nw (by omega)]; simp [am_uI_at]
    · rw [eo 45 _ (by omega) (by omega), a5 45 _ (by omega)]; exact k2
    · rw [eo 58 _ (by omega) (by omega)]; exact a3
    · exact rf_rp_of A lb hA a4 (fun a i q1 q2 q3 q4 => eo a i (by omega) (by omega))
    · intro a b hab
      have h' := rf_x_iff.mp hab
      rw [eo a b (by omega) (by omega), a5 a b (by omega), k1 a b (by omega) (by omega)]
  · intro hk9
    obtain ⟨I', r, g1, g2⟩ := (c126 (ext := ext) (d := 0) L D X hS hk (nI k) 0).2 hk9
    exact ⟨I', am_rn_of mh_139 rfl (w139_0 I L D X (nI k) ⟨_, I', L, D, am_up r (by omega), fun z => absurd z (by decide), fun _ => rfl⟩), g1, g2 _ _ _⟩
/-- a bracket's next sign: first what stands in it is bound -/
theorem rf_parts (hd : 4 ≤ d) {lvl lb : Nat} {T : tr_T} {at_ kq : Int32} {s : Int32} (hl : 1 ≤ lvl) (hnw : nw < 119) (hnh : nh < 119) {nw' nh' : Nat} (hS : rf_S f n c kn (op + 1) nw' nh' I) (ho : op < 8) (h35 : I 42 35 = 0) (hC : rf_C ext 0 L D X lvl T lb (nw + 1) nh I) (h55 : I 55 nw = 100) (h56 : I 56 nw = at_) (h57 : I 57 nw = s) (hno : ∀ w ∈ [42, 47, 43, 45], ¬ pt_k (pt_tape f n) c = w)
    (hkq : (at_ = -1 ∧ kq = -1) ∨ ∃ k, k < 96 ∧ at_ = nI (96 + k) ∧ I 45 (96 + k) = kq ∧ (k < lb ∨ lb + tr_sz T ≤ k)) :
    ∃ J, rf_S f n c kn (op + 1) (nw + 1) (nh + 1) J ∧ J 58 nh = nI (96 + tr_rt T) ∧ rf_rp 96 true J T ∧ J 57 nw = s ∧ (∀ a b, ¬ ((a = 42 ∧ (b = 31 ∨ b = 33)) ∨ (a = 58 ∧ nh ≤ b) ∨ (45 ≤ a ∧ a ≤ 50 ∧ 96 + lb ≤ b ∧ b < 96 + lb + tr_sz T)) → J a b = I a b) ∧
      ∀ (P : am_R → Prop) (x : Int32) (I' : Nat → Nat → Int32), am_wp ext 3 mz_140 (33, [some (.ref 42), some (.int (nI nw)), some (.int at_), none, none, none, none, none, none, none], [.int kq], (J, L, D, am_rf X)) (fun r => r = (some (.int x), (I', L, D, am_rf X))) → (¬ x = 0 → rf_go ext d L D X I' P) → (x = 0 → P (some (.int 0), (I', L, D, am_rf X))) → rf_go ext d L D X I P := by
  obtain ⟨J, w1, a1, a2, a3, a4, a5⟩ := hC I 1 (Nat.le_refl _) hl rfl rfl (fun i _ => ⟨rfl, rfl⟩) (fun i _ => rfl) (fun _ _ _ _ _ _ => rfl)
  obtain ⟨t0, t1, t2, t3, t4, t5, t6⟩ := hS
  have SJ : rf_S f n c kn (op + 1) (nw + 1) (nh + 1) J := by
    refine ⟨rf_T_of t0 (fun b q1 q2 => a5 42 b (by omega)) (fun b => a5 43 b (by omega)) (fun b => a5 44 b (by omega)), ?_, ?_, a1, a2, ?_, ?_⟩
    · rw [a5 42 18 (by omega)]; exact t1
    · rw [a5 42 34 (by omega)]; exact t2
    · rw [a5 42 4 (by omega)]; exact t5
    · rw [a5 42 5 (by omega)]; exact t6
  have b55 : J 55 nw = 100 := by rw [a5 55 nw (by omega)]; exact h55
  have b56 : J 56 nw = at_ := by rw [a5 56 nw (by omega)]; exact h56
  refine ⟨J, SJ, a3, a4, by rw [a5 57 nw (by omega)]; exact h57, a5, fun P x I' w hg hz => ?_⟩
  have e8 : rf_w (J 55 (nw + 1 - 1)) < 1 := by rw [show nw + 1 - 1 = nw by omega, b55]; decide
  obtain ⟨rJ, rr, hrJ⟩ := am_of_wp (as := [.ref 42, .int (nI 1)]) mh_130 rfl (w1 (fun r => r = (none, (J, L, D, am_rf X))) (c130_end (ext := ext) (d := 0) L D X a1 (by omega) (by omega) (Or.inr e8) rfl))
  subst hrJ
  have e31 : J 42 31 - 1 = nI nw := by rw [a1, show (1 : Int32) = nI 1 from rfl, ni_sub (by omega) (by omega)]; rfl
  have r140 : am_Rn ext 4 140 [.ref 42] (I, L, D, am_rf X) (some (.int x), (I', L, D, am_rf X)) := by
    refine am_rn_of mh_140 rfl (w140_0 I L D X ⟨J, L, D, am_up rr (by omega), by rw [e31]; exact ni_inb (by omega) (by omega), fun z => ?_, fun z => ?_⟩)
    · rw [e31, ni_nat (by omega), b56] at z
      rw [e31, ni_nat (by omega), b56]
      rcases hkq with ⟨h1, h2⟩ | ⟨k, h1, h2, h3, h4⟩
      · rw [h1] at z; exact absurd z (by decide)
      · rw [h2]
        refine ⟨ni_inb (by omega) (by omega), ?_⟩
        rw [ni_nat (by omega), a5 45 (96 + k) (by omega), h3, ← h2]
        exact w
    · rw [e31, ni_nat (by omega), b56] at z
      rw [e31, ni_nat (by omega), b56]
      rcases hkq with ⟨h1, h2⟩ | ⟨k, h1, h2, h3, h4⟩
      · rw [h2] at w; exact w
      · rw [h2] at z
        refine absurd ?_ z
        rw [show (0 : Int32) = nI 0 from rfl, ni_le (by omega) (by omega)]; omega
  have r138 := c138 (ext := ext) (d := 0) L D X t0
  have esn : rf_sn (pt_k (pt_tape f n) c) = -1 := by
    unfold rf_sn
    rw [if_neg (hno 43 (by simp)), if_neg (hno 45 (by simp)), if_neg (hno 42 (by simp)), if_neg (hno 47 (by simp))]
  rw [esn] at r138
  refine w141_20 I L D X ⟨fun _ => ⟨-1, I, L, D, am_up r138 (by omega), fun _ => ⟨fun z => absurd z ?_, fun _ => ⟨x, I', L, D, am_up r140 (by omega), fun y => hg y, fun y => hz y⟩⟩, fun z => absurd (by decide) z⟩, fun z => absurd h35 z⟩
  rw [t2, show (0 : Int32) = nI 0 from rfl, ni_le (by omega) (by omega)]; omega
end SEQ
