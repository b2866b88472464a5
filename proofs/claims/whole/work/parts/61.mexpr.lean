/-! ===== the reference's reader: expression ===== -/
section EXPR
variable {ext : Nat → List Value → am_M → Option am_R} {d : Nat} (L : Nat → Nat → Int64) (D : Nat → Nat → UInt64) (X : am_Rf) {f : Nat → Int32} {n : Nat} {e : pt_E}
/-- one operator more, or none -/
theorem rf_loop (hd : 6 ≤ d) {c kn op nw nh lb w lvl : Nat} {A : tr_T} {I : Nat → Nat → Int32} {one other : Int32} {k1 k2 : Nat} {q : pt_Q} {P : am_R → Prop} (hlv : (w = 1 ∧ lvl = 2 ∧ one = 43 ∧ other = 45 ∧ k1 = 6 ∧ k2 = 7) ∨ (w = 2 ∧ lvl = 3 ∧ one = 42 ∧ other = 47 ∧ k1 = 8 ∧ k2 = 9)) (hc : c < (pt_tape f n).2) (hk : kn ≤ 96) (hnw : nw ≤ lb + op) (hnh : nh ≤ lb) (ho : op ≤ 8) (hA : tr_ok e A lb) (hlb : kn = lb + tr_sz A) {nw' nh' : Nat} (hS : rf_S f n c kn op nw' nh' I) (h35 : I 42 35 = 0) (hE : rf_E e I) (hC : rf_C ext 0 L D X w A lb nw nh I) (hb : nw = 0 ∨ rf_w (I 55 (nw - 1)) < w)
    {nx : Nat → Nat → Nat → pt_R} (hnx : ∀ (I' : Nat → Nat → Int32) (qq : pt_Q), rf_S f n (pt_adv (pt_tape f n) c) (kn + 1) op (nw + 1) (nh + 1) I' → I' 42 35 = 1 → rf_E e I' → rf_w (I' 55 nw) = w → kn < 96 → nx (pt_adv (pt_tape f n) c) (kn + 1) op = some qq → rf_run ext d L D X f n lvl (kn + 1) (nw + 1) (nh + 1) op I' qq P → rf_go ext d L D X I' P) (hg : rd_G (pt_tape f n) e nx op)
    {more : tr_T → Nat → Nat → pt_R} (hm : ∀ c2 k2' B I2 nw2 nh2, c2 < (pt_tape f n).2 → k2' ≤ 96 → k2' = kn + 1 + tr_sz B → tr_ok e B (kn + 1) → rf_S f n c2 k2' op nw2 nh2 I2 → I2 42 35 = 0 → rf_E e I2 → rf_fr lb nw nh I I2 → rf_C ext 0 L D X w (tr_2 (kn, if pt_k (pt_tape f n) c = one then k1 else k2, 0, 0, 0, 0) A B) lb nw nh I2 → (nw = 0 ∨ rf_w (I2 55 (nw - 1)) < w) → more (tr_2 (kn, if pt_k (pt_tape f n) c = one then k1 else k2, 0, 0, 0, 0) A B) c2 k2' = some q → rf_go ext d L D X I2 P)
    (hq : (if pt_k (pt_tape f n) c = one ∨ pt_k (pt_tape f n) c = other then pt_n (pt_tape f n) c kn fun c1 => pt_b (nx c1 (kn + 1) op) fun c2 k2' B => more (tr_2 (kn, if pt_k (pt_tape f n) c = one then k1 else k2, 0, 0, 0, 0) A B) c2 k2' else pt_r c kn A) = some q) (hrun : rf_run ext d L D X f n w lb nw nh op I q P) : rf_go ext d L D X I P := by
  have hpos := tr_pos A
  by_cases htk : pt_k (pt_tape f n) c = one ∨ pt_k (pt_tape f n) c = other
  · rw [if_pos htk] at hq
    -- the operator
    have hop : ∃ kd, kd = (if pt_k (pt_tape f n) c = one then k1 else k2) ∧ 6 ≤ kd ∧ kd ≤ 9 ∧ rf_w (nI kd) = w ∧ rf_sn (pt_k (pt_tape f n) c) = nI kd := by
      refine ⟨_, rfl, ?_⟩
      rcases hlv with ⟨rfl, rfl, rfl, rfl, rfl, rfl⟩ | ⟨rfl, rfl, rfl, rfl, rfl, rfl⟩
      · rcases htk with h | h
        · rw [if_pos h, h]; exact ⟨by omega, by omega, by decide, by decide⟩
        · rw [if_neg (by rw [h]; decide), h]; exact ⟨by omega, by omega, by decide, by decide⟩
      · rcases htk with h | h
        · rw [if_pos h, h]; exact ⟨by omega, by omega, by decide, by decide⟩
        · rw [if_neg (by rw [h]; decide), h]; exact ⟨by omega, by omega, by decide, by decide⟩
    obtain ⟨kd, hkd, hk6, hk9', hw, hsn⟩ := hop
    rw [← hkd] at hq hm
    have hw12 : 1 ≤ w ∧ w ≤ 2 := by rcases hlv with ⟨rfl, _⟩ | ⟨rfl, _⟩ <;> omega
    have r138 := c138 (ext := ext) (d := 0) L D X hS.1
    rw [hsn] at r138
    have n0 : ¬ nI kd < 0 := ni_nn (by omega)
    have c139' := c139 (ext := ext) L D X hc hk hA hlb (show nw < 119 by omega) (show nh < 119 by omega) ⟨hk6, hk9'⟩ hw hw12.1 (Nat.le_refl w) (by omega) hS hC hb
    have go : ∀ {x : Int32} {I' : Nat → Nat → Int32}, am_Rn ext 4 139 [.ref 42, .int (nI kd)] (I, L, D, am_rf X) (some (.int x), (I', L, D, am_rf X)) → (¬ x = 0 → rf_go ext d L D X I' P) → (x = 0 → P (some (.int 0), (I', L, D, am_rf X))) → rf_go ext d L D X I P := fun {x I'} r h1 h0 => w141_20 I L D X ⟨fun _ => ⟨_, I, L, D, am_up r138 (by omega), fun z => absurd z n0, fun _ => ⟨_, I, L, D, am_up r138 (by omega), x, I', L, D, am_up r (by omega), h1, h0⟩⟩, fun z => absurd h35 z⟩
    rcases pt_n_some hq with ⟨hk9, hq⟩ | ⟨hk9, rfl⟩
    · obtain ⟨I1, r1, s1, b35, b55, b56, b45, b58, brp, f1⟩ := c139'.1 hk9
      refine go r1 (fun _ => ?_) (fun z => absurd z (by decide))
      have hc1 := pt_adv_lt hc
      have hE1 := rf_E_fr hE f1
      rcases pt_b_some hq with ⟨fq, hr, rfl⟩ | ⟨c2, k2', B, hr, hq⟩
      · exact hnx I1 _ s1 b35 hE1 (by rw [b55]; exact hw) hk9 hr (fun I' h1 h2 => hrun I' h1 (rf_fr_t f1 h2 (by omega) (by omega) (by omega)))
      · obtain ⟨m1, m2, m3, m4⟩ := hg _ _ hc1 (by omega) _ _ _ hr
        refine hnx I1 _ s1 b35 hE1 (by rw [b55]; exact hw) hk9 hr ?_
        intro I2 hok
        obtain ⟨f2, ⟨nw2, nh2, S2⟩, i35, hC2⟩ := hok
        have f12 : rf_fr lb nw nh I I2 := rf_fr_t f1 f2 (by omega) (by omega) (by omega)
        refine hm c2 k2' B I2 nw2 nh2 m1 m2 m3 m4 S2 i35 (rf_E_fr hE f12) f12 ?_ ?_ hq
        · refine rf_C_two L D X hA (by rw [← hlb]; exact m4) (show kn = lb + tr_sz A from hlb) ⟨hk6, hk9'⟩ (by omega) (by omega) (by omega) (by show w ≤ rf_w (nI kd); omega) ?_ ?_ ?_ ?_ ?_ ?_
          · rw [← hlb]
            exact rf_C_le L D X hC2 (by rcases hlv with ⟨rfl, rfl, _⟩ | ⟨rfl, rfl, _⟩ <;> omega)
          · rw [f2 55 nw (rf_x_iff.mpr ⟨by omega, by omega, by omega, by omega⟩)]; exact b55
          · rw [f2 56 nw (rf_x_iff.mpr ⟨by omega, by omega, by omega, by omega⟩)]; exact b56
          · show I2 45 (96 + kn) = nI kd
            rw [f2 45 _ (rf_x_iff.mpr ⟨by omega, by omega, by omega, by omega⟩)]; exact b45
          · rw [f2 58 nh (rf_x_iff.mpr ⟨by omega, by omega, by omega, by omega⟩)]; exact b58
          · exact rf_rp_of A _ hA brp (fun a i q1 q2 q3 q4 => f2 a i (rf_x_iff.mpr ⟨by omega, by omega, by omega, by omega⟩))
        · rcases hb with hb | hb
          · exact Or.inl hb
          · by_cases h0 : nw = 0
            · exact Or.inl h0
            · refine Or.inr ?_
              rw [f12 55 (nw - 1) (rf_x_iff.mpr ⟨by omega, by omega, by omega, by omega⟩)]
              exact hb
    · obtain ⟨I1, r1, g1, g2⟩ := c139'.2 hk9
      exact go r1 (fun z => absurd rfl z) (fun _ => hrun I1 g1 g2)
  · rw [if_neg htk] at hq
    cases hq
    exact hrun I ⟨rf_fr_0 _ _ _ _, ⟨nw', nh', hS⟩, h35, hC⟩
/-- ALL: what the reference's reader does with an expression -/
theorem rf_all (hd : 6 ≤ d) (ht : pt_tk (pt_tape f n)) (he : pt_en e) : ∀ (m : Nat),
    (∀ (op : Nat) (A : tr_T), op ≤ 8 → rf_H ext d L D X f n e (fun c k o => pt_pp (pt_tape f n) e m 0 A c k o) op) ∧
    (∀ (op : Nat) (A : tr_T) (c kn nw nh : Nat) (I : Nat → Nat → Int32) (q : pt_Q) (P : am_R → Prop), op ≤ 8 → c < (pt_tape f n).2 → kn ≤ 96 → nw ≤ kn + op → nh ≤ kn → rf_S f n c kn op nw nh I → I 42 35 = 1 → rf_E e I → (nw = 0 ∨ rf_w (I 55 (nw - 1)) < 2) → pt_pp (pt_tape f n) e m 1 A c kn op = some q → rf_run ext d L D X f n 2 kn nw nh op I q P → rf_go ext d L D X I P) ∧
    (∀ (op : Nat) (A : tr_T), op ≤ 8 → rf_H2 ext d L D X f n e (fun c k o => pt_pp (pt_tape f n) e m 2 A c k o) op) ∧
    (∀ (op : Nat) (A : tr_T) (c kn nw nh lb nw' nh' : Nat) (I : Nat → Nat → Int32) (q : pt_Q) (P : am_R → Prop), op ≤ 8 → c < (pt_tape f n).2 → kn ≤ 96 → nw ≤ lb + op → nh ≤ lb → tr_ok e A lb → kn = lb + tr_sz A → rf_S f n c kn op nw' nh' I → I 42 35 = 0 → rf_E e I →
      (rf_C ext 0 L D X 1 A lb nw nh I → (nw = 0 ∨ rf_w (I 55 (nw - 1)) < 1) → pt_pp (pt_tape f n) e m 3 A c kn op = some q → rf_run ext d L D X f n 1 lb nw nh op I q P → rf_go ext d L D X I P) ∧
      (rf_C ext 0 L D X 2 A lb nw nh I → (nw = 0 ∨ rf_w (I 55 (nw - 1)) < 2) → pt_pp (pt_tape f n) e m 4 A c kn op = some q → rf_run ext d L D X f n 2 lb nw nh op I q P → rf_go ext d L D X I P)) := by
  intro m
  induction m with
  | zero =>
    refine ⟨?_, ?_, ?_, ?_⟩
    · intro op A _ c kn nw nh I q P _ _ _ _ _ _ _ _ h; cases h
    · intro op A c kn nw nh I q P _ _ _ _ _ _ _ _ _ h; cases h
    · intro op A _ c kn nw nh I q P _ _ _ _ _ _ _ h; cases h
    · intro op A c kn nw nh lb nw' nh' I q P _ _ _ _ _ _ _ _ _ _
      exact ⟨fun _ _ h => (by cases h), fun _ _ h => (by cases h)⟩
  | succ m ih =>
    obtain ⟨ih0, ih1, ih2, ih3⟩ := ih
    have part : ∀ (op : Nat) (A : tr_T), op ≤ 8 → rf_H2 ext d L D X f n e (fun c k o => pt_pp (pt_tape f n) e (m + 1) 2 A c k o) op := by
      intro op A ho c kn nw nh I q P hc hk hnw hnh hS h35 hE hq hrun
      simp only [pt_pp] at hq
      exact rf_part L D X hd ht he hc hk ho hnw hnh hS h35 hE (fun h8 => ih0 (op + 1) A (by omega)) (fun h8 c1 k1 h1 h2 => (pt_good ht he m c1 k1 (op + 1) A h1 h2).1) (fun h8 c1 k1 => (pt_noop m c1 k1 (op + 1) A).1) (ih2 op A ho) (fun c1 k1 h1 h2 => (pt_good ht he m c1 k1 op A h1 h2).2.2.1) hq hrun
    refine ⟨?_, ?_, part, ?_⟩
    · intro op A ho c kn nw nh I q P hc hk hnw hnh hS h35 hE hb hq hrun
      simp only [pt_pp] at hq
      have hb2 : nw = 0 ∨ rf_w (I 55 (nw - 1)) < 2 := hb.imp id (fun h => by omega)
      rcases pt_b_some hq with ⟨fq, hr, rfl⟩ | ⟨c1, k1, B, hr, hq⟩
      · exact ih1 op A c kn nw nh I _ P ho hc hk hnw hnh hS h35 hE hb2 hr (fun I' h1 h2 => hrun I' h1 h2)
      · obtain ⟨m1, m2, m3, m4⟩ := (pt_good ht he m c kn op A hc hk).2.1 _ _ _ hr
        refine ih1 op A c kn nw nh I _ P ho hc hk hnw hnh hS h35 hE hb2 hr ?_
        intro I2 hok
        obtain ⟨f2, ⟨nw2, nh2, S2⟩, i35, hC2⟩ := hok
        refine (ih3 op B c1 k1 nw nh kn nw2 nh2 I2 q P ho m1 m2 hnw hnh m4 m3 S2 i35 (rf_E_fr hE f2)).1 (rf_C_le L D X hC2 (by omega)) ?_ hq (rf_run_t L D X f2 hrun)
        by_cases h0 : nw = 0
        · exact Or.inl h0
        · refine Or.inr ?_
          rw [f2 55 (nw - 1) (rf_x_iff.mpr ⟨by omega, by omega, by omega, by omega⟩)]
          exact hb.resolve_left h0
    · intro op A c kn nw nh I q P ho hc hk hnw hnh hS h35 hE hb hq hrun
      simp only [pt_pp] at hq
      rcases pt_b_some hq with ⟨fq, hr, rfl⟩ | ⟨c1, k1, B, hr, hq⟩
      · exact ih2 op A ho c kn nw nh I _ P hc hk hnw hnh hS h35 hE hr (fun I' h1 h2 => hrun I' h1 h2)
      · obtain ⟨m1, m2, m3, m4⟩ := (pt_good ht he m c kn op A hc hk).2.2.1 _ _ _ hr
        refine ih2 op A ho c kn nw nh I _ P hc hk hnw hnh hS h35 hE hr ?_
        intro I2 hok
        obtain ⟨f2, ⟨nw2, nh2, S2⟩, i35, hC2⟩ := hok
        refine (ih3 op B c1 k1 nw nh kn nw2 nh2 I2 q P ho m1 m2 hnw hnh m4 m3 S2 i35 (rf_E_fr hE f2)).2 (rf_C_le L D X hC2 (by omega)) ?_ hq (rf_run_t L D X f2 hrun)
        by_cases h0 : nw = 0
        · exact Or.inl h0
        · refine Or.inr ?_
          rw [f2 55 (nw - 1) (rf_x_iff.mpr ⟨by omega, by omega, by omega, by omega⟩)]
          exact hb.resolve_left h0
    · intro op A c kn nw nh lb nw' nh' I q P ho hc hk hnw hnh hA hlb hS h35 hE
      have hpos := tr_pos A
      constructor
      · intro hC hb hq hrun
        simp only [pt_pp] at hq
        refine rf_loop L D X hd (w := 1) (lvl := 2) (one := 43) (other := 45) (k1 := 6) (k2 := 7) (Or.inl ⟨rfl, rfl, rfl, rfl, rfl, rfl⟩) hc hk hnw hnh ho hA hlb hS h35 hE hC hb (nx := fun c k o => pt_pp (pt_tape f n) e m 1 A c k o) ?_ (fun c1 k1 h1 h2 => (pt_good ht he m c1 k1 op A h1 h2).2.1) (more := fun T c k => pt_pp (pt_tape f n) e m 3 T c k op) ?_ hq hrun
        · intro I' qq s1 b35 hE1 hw hk9 hr hrun'
          exact ih1 op A _ (kn + 1) (nw + 1) (nh + 1) I' qq P ho (pt_adv_lt hc) (by omega) (by omega) (by omega) s1 b35 hE1 (Or.inr (by rw [show nw + 1 - 1 = nw by omega]; omega)) hr hrun'
        · intro c2 k2' B I2 nw2 nh2 h1 h2 h3 h4 S2 i35 hE2 f2 hC2 hb2 hq2
          refine (ih3 op _ c2 k2' nw nh lb nw2 nh2 I2 q P ho h1 h2 hnw hnh ?_ ?_ S2 i35 hE2).1 hC2 hb2 hq2 (rf_run_t L D X f2 hrun)
          · refine Or.inl ⟨?_, ?_, hA, hlb, by rw [← hlb]; exact h4⟩
            · by_cases h6 : pt_k (pt_tape f n) c = 43 <;> simp [h6]
            · by_cases h6 : pt_k (pt_tape f n) c = 43 <;> simp [h6]
          · simp only [tr_sz]; omega
      · intro hC hb hq hrun
        simp only [pt_pp] at hq
        refine rf_loop L D X hd (w := 2) (lvl := 3) (one := 42) (other := 47) (k1 := 8) (k2 := 9) (Or.inr ⟨rfl, rfl, rfl, rfl, rfl, rfl⟩) hc hk hnw hnh ho hA hlb hS h35 hE hC hb (nx := fun c k o => pt_pp (pt_tape f n) e m 2 A c k o) ?_ (fun c1 k1 h1 h2 => (pt_good ht he m c1 k1 op A h1 h2).2.2.1) (more := fun T c k => pt_pp (pt_tape f n) e m 4 T c k op) ?_ hq hrun
        · intro I' qq s1 b35 hE1 hw hk9 hr hrun'
          exact ih2 op A ho _ (kn + 1) (nw + 1) (nh + 1) I' qq P (pt_adv_lt hc) (by omega) (by omega) (by omega) s1 b35 hE1 hr hrun'
        · intro c2 k2' B I2 nw2 nh2 h1 h2 h3 h4 S2 i35 hE2 f2 hC2 hb2 hq2
          refine (ih3 op _ c2 k2' nw nh lb nw2 nh2 I2 q P ho h1 h2 hnw hnh ?_ ?_ S2 i35 hE2).2 hC2 hb2 hq2 (rf_run_t L D X f2 hrun)
          · refine Or.inl ⟨?_, ?_, hA, hlb, by rw [← hlb]; exact h4⟩
            · by_cases h6 : pt_k (pt_tape f n) c = 42 <;> simp [h6]
            · by_cases h6 : pt_k (pt_tape f n) c = 42 <;> simp [h6]
          · simp only [tr_sz]; omega
/-- expression -/
def rf_XR (f : Nat → Int32) (n : Nat) (q : pt_Q) (x : Int32) (I' : Nat → Nat → Int32) : Prop := match q with
  | .inl fq => x = 0 ∧ rf_F fq I'
  | .inr t => x = 1 ∧ rf_T f n t.1 I' ∧ I' 42 18 = nI t.2.1 ∧ I' 42 4 = 0 ∧ I' 42 5 = -1 ∧ I' 58 0 = nI (96 + tr_rt t.2.2) ∧ rf_rp 96 true I' t.2.2
theorem c141 (ht : pt_tk (pt_tape f n)) (he : pt_en e) {c kn : Nat} {I : Nat → Nat → Int32} (hc : c < (pt_tape f n).2) (hk : kn ≤ 96) (hT : rf_T f n c I) (h18 : I 42 18 = nI kn) (h4 : I 42 4 = 0) (h5 : I 42 5 = -1) (hE : rf_E e I) {q : pt_Q} (hq : pt_ex (pt_tape f n) e c kn = some q) :
    ∃ x I', am_Rn ext 7 141 [.ref 42] (I, L, D, am_rf X) (some (.int x), (I', L, D, am_rf X)) ∧ rf_fr kn 0 0 I I' ∧ rf_XR f n q x I' := by
  have S0 : rf_S f n c kn 0 0 0 (am_uI (am_uI (am_uI (am_uI I 42 31 0) 42 33 0) 42 34 0) 42 35 1) := by
    refine ⟨rf_T_of hT (fun b q1 q2 => ?_) (fun b => ?_) (fun b => ?_), ?_, ?_, ?_, ?_, ?_, ?_⟩
    · simp only [am_uI_at]
      rw [if_neg (by omega), if_neg (by omega), if_neg (by omega), if_neg (by omega)]
    · simp [am_uI_at]
    · simp [am_uI_at]
    · simp [am_uI_at, h18]
    · simp [am_uI_at]; rfl
    · simp [am_uI_at]; rfl
    · simp [am_uI_at]; rfl
    · simp [am_uI_at, h4]
    · simp [am_uI_at, h5]
  have f0 : rf_fr kn 0 0 I (am_uI (am_uI (am_uI (am_uI I 42 31 0) 42 33 0) 42 34 0) 42 35 1) := rf_fr_u (rf_fr_u (rf_fr_u (rf_fr_u (rf_fr_0 _ _ _ _) (by omega)) (by omega)) (by omega)) (by omega)
  have b35 : (am_uI (am_uI (am_uI (am_uI I 42 31 0) 42 33 0) 42 34 0) 42 35 1) 42 35 = 1 := by simp [am_uI_at]
  have key := (rf_all (ext := ext) (d := 6) L D X (by omega) ht he (3 * (pt_tape f n).2 + 3)).1 0 (.leaf (0, 0, 0, 0, 0, 0)) (by omega) c kn 0 0 _ q (fun r => ∃ x I', r = (some (.int x), (I', L, D, am_rf X)) ∧ rf_fr kn 0 0 I I' ∧ rf_XR f n q x I') hc hk (by omega) (by omega) S0 b35 (rf_E_fr hE f0) (Or.inl rfl) hq ?_
  · obtain ⟨r, h1, x, I', rfl, h2⟩ := am_of_wp (as := [.ref 42]) mh_141 rfl (w141_0 I L D X key)
    exact ⟨x, I', h1, h2⟩
  · match q, hq with
    | .inl fq, hq => exact fun I' h1 h2 => ⟨0, I', rfl, rf_fr_t f0 h2 (Nat.le_refl _) (Nat.le_refl _) (Nat.le_refl _), rfl, h1⟩
    | .inr (c2, k2, T), hq =>
      intro I2 hok
      obtain ⟨f2, ⟨nw', nh', S2⟩, i35, hC⟩ := hok
      have hno := (pt_noop (t := pt_tape f n) (e := e) (3 * (pt_tape f n).2 + 3) c kn 0 (.leaf (0, 0, 0, 0, 0, 0))).1 _ _ _ hq
      obtain ⟨J, w1, a1, a2, a3, a4, a5⟩ := hC I2 1 (Nat.le_refl _) (Nat.le_refl _) rfl rfl (fun i _ => ⟨rfl, rfl⟩) (fun i _ => rfl) (fun _ _ _ _ _ _ => rfl)
      obtain ⟨rJ, rr, hrJ⟩ := am_of_wp (as := [.ref 42, .int (nI 1)]) mh_130 rfl (w1 (fun r => r = (none, (J, L, D, am_rf X))) (c130_end (ext := ext) (d := 0) L D X a1 (by omega) (by omega) (Or.inl rfl) rfl))
      subst hrJ
      obtain ⟨t0, t1, t2, t3, t4, t5, t6⟩ := S2
      have r138 := c138 (ext := ext) (d := 0) L D X t0
      have esn : rf_sn (pt_k (pt_tape f n) c2) = -1 := by
        unfold rf_sn
        rw [if_neg (hno 43 (by simp)), if_neg (hno 45 (by simp)), if_neg (hno 42 (by simp)), if_neg (hno 47 (by simp))]
      rw [esn] at r138
      refine w141_20 I2 L D X ⟨fun _ => ⟨-1, I2, L, D, am_up r138 (by omega), fun _ => ⟨fun _ => ⟨J, L, D, am_up rr (by omega), 1, J, rfl, ?_, rfl, ?_, ?_, ?_, ?_, a3, a4⟩, fun z => absurd (by rw [t2]; decide) z⟩, fun z => absurd (by decide) z⟩, fun z => absurd i35 z⟩
      · refine rf_fr_t (rf_fr_t f0 f2 (Nat.le_refl _) (Nat.le_refl _) (Nat.le_refl _)) (kn' := kn) (nw' := 0) (nh' := 0) ?_ (Nat.le_refl _) (Nat.le_refl _) (Nat.le_refl _)
        intro a b hab
        have h' := rf_x_iff.mp hab
        exact a5 a b (by omega)
      · exact rf_T_of t0 (fun b q1 q2 => a5 42 b (by omega)) (fun b => a5 43 b (by omega)) (fun b => a5 44 b (by omega))
      · rw [a5 42 18 (by omega)]; exact t1
      · rw [a5 42 4 (by omega)]; exact t5
      · rw [a5 42 5 (by omega)]; exact t6
end EXPR
