/-! ===== the reference's reader: knots with brackets ===== -/
def rf_H (ext : Nat → List Value → am_M → Option am_R) (d : Nat) (L : Nat → Nat → Int64) (D : Nat → Nat → UInt64) (X : am_Rf) (f : Nat → Int32) (n : Nat) (e : pt_E) (sum : Nat → Nat → Nat → pt_R) (op : Nat) : Prop := ∀ (c kn nw nh : Nat) (I : Nat → Nat → Int32) (q : pt_Q) (P : am_R → Prop), c < (pt_tape f n).2 → kn ≤ 96 → nw ≤ kn + op → nh ≤ kn → rf_S f n c kn op nw nh I → I 42 35 = 1 → rf_E e I → (nw = 0 ∨ rf_w (I 55 (nw - 1)) < 1) → sum c kn op = some q → rf_run ext d L D X f n 1 kn nw nh op I q P → rf_go ext d L D X I P
def rf_N (t : pt_K) (sum : Nat → Nat → Nat → pt_R) (op : Nat) : Prop := ∀ c kn, pt_no t [42, 47, 43, 45] (sum c kn op)
/-- inside the bracket of knot kn, its part s to come -/
def rf_G (f : Nat → Int32) (n kn op nw nh : Nat) (kdr : Int32) (I0 : Nat → Nat → Int32) (c k s : Nat) (I : Nat → Nat → Int32) : Prop := rf_S f n c k (op + 1) (nw + 1) nh I ∧ I 42 35 = 1 ∧ I 55 nw = 100 ∧ I 56 nw = nI (96 + kn) ∧ I 57 nw = nI s ∧ I 45 (96 + kn) = kdr ∧ rf_fr kn nw nh I0 I ∧ kn < k ∧ k ≤ 96
/-- the part has come and is bound -/
def rf_J (f : Nat → Int32) (n : Nat) (e : pt_E) (kn op nw nh : Nat) (kdr : Int32) (I0 I : Nat → Nat → Int32) (k s : Nat) (p : Nat × Nat × tr_T) (J : Nat → Nat → Int32) : Prop := rf_S f n p.1 p.2.1 (op + 1) (nw + 1) (nh + 1) J ∧ J 42 35 = 0 ∧ J 58 nh = nI (96 + tr_rt p.2.2) ∧ rf_rp 96 true J p.2.2 ∧ J 55 nw = 100 ∧ J 56 nw = nI (96 + kn) ∧ J 57 nw = nI s ∧ J 45 (96 + kn) = kdr ∧ rf_fr kn nw nh I0 J ∧ (∀ a b, 45 ≤ a → a ≤ 50 → b < 96 + k → J a b = I a b) ∧ p.1 < (pt_tape f n).2 ∧ p.2.1 = k + tr_sz p.2.2 ∧ p.2.1 ≤ 96 ∧ tr_ok e p.2.2 k
section KNOT
variable {ext : Nat → List Value → am_M → Option am_R} {d : Nat} (L : Nat → Nat → Int64) (D : Nat → Nat → UInt64) (X : am_Rf) {f : Nat → Int32} {n kn op nw nh : Nat} {I0 : Nat → Nat → Int32} {e : pt_E} {q : pt_Q} {P : am_R → Prop} {sum : Nat → Nat → Nat → pt_R} {kdr : Int32}
theorem rf_st (hd : 4 ≤ d) (ho : op < 8) (hnw : nw ≤ kn + op) (hnh : nh ≤ kn) (IH : rf_H ext d L D X f n e sum (op + 1)) (hg : rd_G (pt_tape f n) e sum (op + 1)) (hN : rf_N (pt_tape f n) sum (op + 1)) {c k s : Nat} {I : Nat → Nat → Int32} (hc : c < (pt_tape f n).2) (hG : rf_G f n kn op nw nh kdr I0 c k s I) (hE : rf_E e I0) {r : pt_Q} (hr : sum c k (op + 1) = some r)
    (h : match r with
      | .inl fq => ∀ I', rf_F fq I' → rf_fr kn nw nh I0 I' → P (some (.int 0), (I', L, D, am_rf X))
      | .inr p => ∀ J, rf_J f n e kn op nw nh kdr I0 I k s p J → ∃ x I', am_wp ext 3 mz_140 (168, [some (.ref 42), some (.int (nI nw)), some (.int (nI (96 + kn))), none, some (.int (nI s)), none, some (.int (pa_cmp kdr (nI s))), some (.int (pa_more kdr (nI s))), none, none], [.int (pa_right (pt_tape f n) p.1 kdr (nI s))], (J, L, D, am_rf X)) (fun r => r = (some (.int x), (I', L, D, am_rf X))) ∧ (¬ x = 0 → rf_go ext d L D X I' P) ∧ (x = 0 → P (some (.int 0), (I', L, D, am_rf X)))) : rf_go ext d L D X I P := by
  obtain ⟨S, g35, g55, g56, g57, g45, gfr, gk, gk9⟩ := hG
  refine IH c k (nw + 1) nh I r P hc gk9 (by omega) (by omega) S g35 (rf_E_fr hE gfr) (Or.inr ?_) hr ?_
  · rw [show nw + 1 - 1 = nw by omega, g55]; decide
  · match r, hr, h with
    | .inl fq, hr, h => exact fun I' h1 h2 => h I' h1 (rf_fr_t gfr h2 (by omega) (by omega) (Nat.le_refl _))
    | .inr (c3, k3, A), hr, h =>
      intro I2 hok
      obtain ⟨f2, ⟨nw', nh', S2⟩, i35, hC⟩ := hok
      obtain ⟨m1, m2, m3, m4⟩ := hg _ _ hc gk9 _ _ _ hr
      have x2 : ∀ a b, rf_x k (nw + 1) nh a b = false → I2 a b = I a b := f2
      obtain ⟨J, SJ, j58, jrp, j57, ja, jw⟩ := rf_parts (ext := ext) (d := d) L D X (at_ := nI (96 + kn)) (kq := kdr) (s := nI s) hd (Nat.le_refl 1) (show nw < 119 by omega) (show nh < 119 by omega) S2 ho i35 hC
        (by rw [x2 55 nw (rf_x_iff.mpr ⟨by omega, by omega, by omega, by omega⟩)]; exact g55)
        (by rw [x2 56 nw (rf_x_iff.mpr ⟨by omega, by omega, by omega, by omega⟩)]; exact g56)
        (by rw [x2 57 nw (rf_x_iff.mpr ⟨by omega, by omega, by omega, by omega⟩)]; exact g57)
        (hN c k _ _ _ hr) (Or.inr ⟨kn, by omega, rfl, by rw [x2 45 _ (rf_x_iff.mpr ⟨by omega, by omega, by omega, by omega⟩)]; exact g45, Or.inl gk⟩)
      have fJ : rf_fr kn nw nh I0 J := by
        refine rf_fr_t (rf_fr_t gfr f2 (by omega) (by omega) (Nat.le_refl _)) (kn' := kn) (nw' := nw) (nh' := nh) ?_ (Nat.le_refl _) (Nat.le_refl _) (Nat.le_refl _)
        intro a b hab
        have h' := rf_x_iff.mp hab
        exact ja a b (by omega)
      obtain ⟨x, I', w, g1, g2⟩ := h J ⟨SJ, (ja 42 35 (by omega)).trans i35, j58, jrp, by rw [ja 55 nw (by omega), x2 55 nw (rf_x_iff.mpr ⟨by omega, by omega, by omega, by omega⟩)]; exact g55, by rw [ja 56 nw (by omega), x2 56 nw (rf_x_iff.mpr ⟨by omega, by omega, by omega, by omega⟩)]; exact g56, j57, by rw [ja 45 _ (by omega), x2 45 _ (rf_x_iff.mpr ⟨by omega, by omega, by omega, by omega⟩)]; exact g45, fJ, fun a b q1 q2 q3 => by rw [ja a b (by omega), x2 a b (rf_x_iff.mpr ⟨by omega, by omega, by omega, by omega⟩)], m1, m3, m2, m4⟩
      exact jw P x I' (c140_route (ext := ext) (d := 3) L D X (by omega) SJ.1 (ni_inb (by omega) (by omega)) (by rw [ni_nat (by omega)]; exact j57) w) g1 g2
/-- the knot's last part -/
theorem rf_last (hd : 4 ≤ d) (ho : op < 8) (hnw : nw ≤ kn + op) (hnh : nh ≤ kn) {I : Nat → Nat → Int32} {k s : Nat} {p : Nat × Nat × tr_T} {J : Nat → Nat → Int32} {T : tr_T} (hs : s ≤ 3) (hcm : pa_cmp kdr (nI s) = 0) (hm : pa_more kdr (nI s) = 0) (hnc : ¬ (kdr = 12 ∧ nI s = 0)) (hk : kn < k) (hJ : rf_J f n e kn op nw nh kdr I0 I k s p J) (hT : tr_ok e T kn) (hsz : p.2.1 = kn + tr_sz T) (hrt : tr_rt T = kn) {q : pt_Q} (hq : pt_x (pt_tape f n) 41 p.1 (fun c4 => pt_r c4 p.2.1 T) = some q)
    (hrp : ∀ I' : Nat → Nat → Int32, I' (47 + s) (96 + kn) = nI (96 + tr_rt p.2.2) → (∀ a b, 45 ≤ a → a ≤ 50 → ¬ (a = 47 + s ∧ b = 96 + kn) → I' a b = J a b) → rf_rp 96 true I' T) (hrun : rf_run ext d L D X f n 3 kn nw nh op I0 q P) :
    ∃ x I', am_wp ext 3 mz_140 (168, [some (.ref 42), some (.int (nI nw)), some (.int (nI (96 + kn))), none, some (.int (nI s)), none, some (.int (pa_cmp kdr (nI s))), some (.int (pa_more kdr (nI s))), none, none], [.int (pa_right (pt_tape f n) p.1 kdr (nI s))], (J, L, D, am_rf X)) (fun r => r = (some (.int x), (I', L, D, am_rf X))) ∧ (¬ x = 0 → rf_go ext d L D X I' P) ∧ (x = 0 → P (some (.int 0), (I', L, D, am_rf X))) := by
  obtain ⟨SJ, j35, j58, jrp, j55, j56, j57, j45, jfr, jK, m1, m3, m2, m4⟩ := hJ
  have er : pa_right (pt_tape f n) p.1 kdr (nI s) = if pt_k (pt_tape f n) p.1 = 41 then 1 else 0 := by
    unfold pa_right
    rw [if_neg hnc, hm]
    simp
  rw [er, hcm, hm]
  rcases pt_x_some hq with ⟨h41, hq⟩ | ⟨h41, rfl⟩
  · rw [if_pos h41]
    cases hq
    obtain ⟨I', w, S', b1, b2, b3⟩ := c140_close (ext := ext) (d := 3) L D X (by omega) m1 (show nw < 120 by omega) (show nh < 120 by omega) ho (k := kn) (s := s) (by omega) hs SJ
    refine ⟨1, I', w, fun _ => ?_, fun z => absurd z (by decide)⟩
    refine hrun I' ⟨?_, ⟨nw, nh + 1, S'⟩, ?_, ?_⟩
    · refine rf_fr_t jfr (kn' := kn) (nw' := nw) (nh' := nh) ?_ (Nat.le_refl _) (Nat.le_refl _) (Nat.le_refl _)
      intro a b hab
      have h' := rf_x_iff.mp hab
      exact b3 a b (by omega) (by omega) (by omega) (by omega)
    · rw [b3 42 35 (by omega) (by omega) (by omega) (by omega)]; exact j35
    · refine rf_C_0 L D X hT S'.2.2.2.1 S'.2.2.2.2.1 ?_ (hrp I' (b2.trans j58) (fun a b q1 q2 q3 => b3 a b (by omega) (by omega) (by omega) q3))
      show I' 58 nh = nI (96 + tr_rt T)
      rw [hrt]
      exact b1
  · rw [if_neg h41]
    obtain ⟨I', w, b1, b2⟩ := c140_wrong (ext := ext) (d := 3) L D X (by omega) SJ (v1 := nI nw) (v2 := nI (96 + kn)) (v4 := nI s) (v6 := 0) (v7 := 0)
    exact ⟨0, I', w, fun z => absurd rfl z, fun _ => hrun I' b1 (rf_fr_t jfr (b2 kn nw nh) (Nat.le_refl _) (Nat.le_refl _) (Nat.le_refl _))⟩
/-- sqrt, abs, a call -/
theorem rf_one (hd : 4 ≤ d) (ho : op < 8) (hnw : nw ≤ kn + op) (hnh : nh ≤ kn) (hkn : kn < 96) (IH : rf_H ext d L D X f n e sum (op + 1)) (hg : rd_G (pt_tape f n) e sum (op + 1)) (hN : rf_N (pt_tape f n) sum (op + 1)) (hE : rf_E e I0) {c kd nu ln : Nat} {num : Int32} {I : Nat → Nat → Int32} (hc : c < (pt_tape f n).2) (hkd : kd = 4 ∨ kd = 5 ∨ kd = 14) (hk1 : tr_k1 e (kn, kd, nu, ln, 0, 0)) (hnum : kd = 14 → num = nI nu) (h46 : I 46 (96 + kn) = num) (hG : rf_G f n kn op nw nh (nI kd) I0 c (kn + 1) 0 I)
    (hq : pt_b (sum c (kn + 1) (op + 1)) (fun c3 k3 A => pt_x (pt_tape f n) 41 c3 fun c4 => pt_r c4 k3 (tr_1 (kn, kd, nu, ln, 0, 0) A)) = some q) (hrun : rf_run ext d L D X f n 3 kn nw nh op I0 q P) : rf_go ext d L D X I P := by
  rcases pt_b_some hq with ⟨fq, hr, rfl⟩ | ⟨c3, k3, A, hr, hq⟩
  · exact rf_st L D X hd ho hnw hnh IH hg hN hc hG hE hr (fun I' h1 h2 => hrun I' h1 h2)
  · refine rf_st L D X hd ho hnw hnh IH hg hN hc hG hE hr ?_
    intro J hJ
    have hJ' := hJ
    obtain ⟨SJ, j35, j58, jrp, j55, j56, j57, j45, jfr, jK, m1, m3, m2, m4⟩ := hJ'
    have n1 : ∀ w : Int32, w = 12 ∨ w = 10 ∨ w = 11 → ¬ nI kd = w := by
      intro w hw
      rcases hkd with rfl | rfl | rfl <;> rcases hw with rfl | rfl | rfl <;> decide
    refine rf_last L D X hd ho hnw hnh (p := (c3, k3, A)) (T := tr_1 (kn, kd, nu, ln, 0, 0) A) (by omega) ?_ ?_ (fun z => n1 12 (Or.inl rfl) z.1) (show kn < kn + 1 by omega) hJ ⟨rfl, hk1, m4⟩ ?_ rfl hq ?_ hrun
    · unfold pa_cmp; rw [if_neg (fun z => n1 12 (Or.inl rfl) z.1)]
    · unfold pa_more; rw [if_neg (n1 12 (Or.inl rfl)), if_neg (fun z => z.1.elim (n1 10 (Or.inr (Or.inl rfl))) (n1 11 (Or.inr (Or.inr rfl))))]
    · show k3 = kn + tr_sz (tr_1 _ A)
      simp only [tr_sz]
      have : k3 = kn + 1 + tr_sz A := m3
      omega
    · intro I' h1 h2
      refine ⟨?_, fun z => ?_, h1, rf_rp_of A _ m4 jrp (fun a i q1 q2 q3 q4 => h2 a i q1 q2 (by omega))⟩
      · rw [h2 45 _ (by omega) (by omega) (by omega)]; exact j45
      · show I' 46 (96 + kn) = nI nu
        rw [h2 46 _ (by omega) (by omega) (by omega), jK 46 _ (by omega) (by omega) (by omega), h46, hnum z]
/-- a part, and a comma (or < >) behind it -/
theorem rf_more (hd : 4 ≤ d) (ho : op < 8) (hnw : nw ≤ kn + op) (hnh : nh ≤ kn) {I : Nat → Nat → Int32} {k s : Nat} {p : Nat × Nat × tr_T} {J : Nat → Nat → Int32} (hs : s ≤ 2) (hkn : kn < 96) (hk : kn < k) (hJ : rf_J f n e kn op nw nh kdr I0 I k s p J) {cm m : Int32} (hcm : pa_cmp kdr (nI s) = cm) (hm : pa_more kdr (nI s) = m) (hcc : (cm = 0 ∧ m = 1) ∨ (cm = 1 ∧ s = 0)) (hr : pa_right (pt_tape f n) p.1 kdr (nI s) = 1) (hk46 : cm = 1 → True) :
    ∃ I', am_wp ext 3 mz_140 (168, [some (.ref 42), some (.int (nI nw)), some (.int (nI (96 + kn))), none, some (.int (nI s)), none, some (.int (pa_cmp kdr (nI s))), some (.int (pa_more kdr (nI s))), none, none], [.int (pa_right (pt_tape f n) p.1 kdr (nI s))], (J, L, D, am_rf X)) (fun r => r = (some (.int 1), (I', L, D, am_rf X))) ∧ rf_G f n kn op nw nh kdr I0 (pt_adv (pt_tape f n) p.1) p.2.1 (s + 1) I' ∧ I' (47 + s) (96 + kn) = nI (96 + tr_rt p.2.2) ∧ (cm = 1 → I' 46 (96 + kn) = if J 42 9 = 62 then 1 else 0) ∧ (∀ a b, 45 ≤ a → a ≤ 50 → ¬ (a = 47 + s ∧ b = 96 + kn) → ¬ (cm = 1 ∧ a = 46 ∧ b = 96 + kn) → I' a b = J a b) := by
  obtain ⟨SJ, j35, j58, jrp, j55, j56, j57, j45, jfr, jK, m1, m3, m2, m4⟩ := hJ
  rw [hr, hcm, hm]
  obtain ⟨I', w, S', b35, b57, bf, b46, bo⟩ := c140_more (ext := ext) (d := 3) L D X (by omega) m1 (show nw < 120 by omega) (show nh < 120 by omega) (k := kn) (s := s) hkn hs hcc SJ
  have hpos := tr_pos p.2.2
  refine ⟨I', w, ⟨S', b35, ?_, ?_, b57, ?_, ?_, by omega, m2⟩, bf.trans j58, b46, fun a b q1 q2 q3 q4 => bo a b (by omega) (by omega) q3 q4⟩
  · rw [bo 55 nw (by omega) (by omega) (by omega) (by omega)]; exact j55
  · rw [bo 56 nw (by omega) (by omega) (by omega) (by omega)]; exact j56
  · rw [bo 45 _ (by omega) (by omega) (by omega) (by omega)]; exact j45
  · refine rf_fr_t jfr (kn' := kn) (nw' := nw) (nh' := nh) ?_ (Nat.le_refl _) (Nat.le_refl _) (Nat.le_refl _)
    intro a b hab
    have h' := rf_x_iff.mp hab
    exact bo a b (by omega) (by omega) (by omega) (by omega)
/-- max, min -/
theorem rf_two (hd : 4 ≤ d) (ho : op < 8) (hnw : nw ≤ kn + op) (hnh : nh ≤ kn) (hkn : kn < 96) (IH : rf_H ext d L D X f n e sum (op + 1)) (hg : rd_G (pt_tape f n) e sum (op + 1)) (hN : rf_N (pt_tape f n) sum (op + 1)) (hE : rf_E e I0) {c kd : Nat} {I : Nat → Nat → Int32} (hc : c < (pt_tape f n).2) (hkd : kd = 10 ∨ kd = 11) (hG : rf_G f n kn op nw nh (nI kd) I0 c (kn + 1) 0 I)
    (hq : pt_b (sum c (kn + 1) (op + 1)) (fun c3 k3 A => pt_x (pt_tape f n) 44 c3 fun c4 => pt_b (sum c4 k3 (op + 1)) fun c5 k5 B => pt_x (pt_tape f n) 41 c5 fun c6 => pt_r c6 k5 (tr_2 (kn, kd, 0, 0, 0, 0) A B)) = some q) (hrun : rf_run ext d L D X f n 3 kn nw nh op I0 q P) : rf_go ext d L D X I P := by
  have n12 : ¬ nI kd = 12 := by rcases hkd with rfl | rfl <;> decide
  have y10 : nI kd = 10 ∨ nI kd = 11 := by rcases hkd with rfl | rfl <;> decide
  rcases pt_b_some hq with ⟨fq, hr, rfl⟩ | ⟨c3, k3, A, hr, hq⟩
  · exact rf_st L D X hd ho hnw hnh IH hg hN hc hG hE hr (fun I' h1 h2 => hrun I' h1 h2)
  · refine rf_st L D X hd ho hnw hnh IH hg hN hc hG hE hr ?_
    intro J hJ
    have hJ' := hJ
    obtain ⟨SJ, j35, j58, jrp, j55, j56, j57, j45, jfr, jK, m1, m3, m2, m4⟩ := hJ'
    have ecm : pa_cmp (nI kd) (nI 0) = 0 := by unfold pa_cmp; rw [if_neg (fun z => n12 z.1)]
    have em : pa_more (nI kd) (nI 0) = 1 := by unfold pa_more; rw [if_neg n12, if_pos ⟨y10, rfl⟩]
    have er : pa_right (pt_tape f n) c3 (nI kd) (nI 0) = if pt_k (pt_tape f n) c3 = 44 then 1 else 0 := by unfold pa_right; rw [if_neg (fun z => n12 z.1), em]; simp
    rcases pt_x_some hq with ⟨h44, hq⟩ | ⟨h44, rfl⟩
    · rw [if_pos h44] at er
      obtain ⟨I2, w, hG2, b47, _, bo⟩ := rf_more L D X (p := (c3, k3, A)) hd ho hnw hnh (by omega) hkn (show kn < kn + 1 by omega) hJ ecm em (Or.inl ⟨rfl, rfl⟩) er (fun _ => trivial)
      refine ⟨1, I2, w, fun _ => ?_, fun z => absurd z (by decide)⟩
      have hc4 := pt_adv_lt m1
      rcases pt_b_some hq with ⟨fq, hr5, rfl⟩ | ⟨c5, k5, B, hr5, hq⟩
      · exact rf_st L D X hd ho hnw hnh IH hg hN hc4 hG2 hE hr5 (fun I' h1 h2 => hrun I' h1 h2)
      · refine rf_st L D X hd ho hnw hnh IH hg hN hc4 hG2 hE hr5 ?_
        intro K hK
        have hK' := hK
        obtain ⟨SK, k35, k58, krp, k55, k56, k57, k45, kfr, kK, l1, l3, l2, l4⟩ := hK'
        have hk3 : k3 = kn + 1 + tr_sz A := m3
        have hk5 : k5 = k3 + tr_sz B := l3
        have n1 : ¬ nI 1 = (0 : Int32) := by decide
        refine rf_last L D X hd ho hnw hnh (p := (c5, k5, B)) (T := tr_2 (kn, kd, 0, 0, 0, 0) A B) (by omega) ?_ ?_ (fun z => n12 z.1) (show kn < k3 by omega) hK (Or.inr ⟨hkd, rfl, m4, by rw [← hk3]; exact l4⟩) ?_ rfl hq ?_ hrun
        · unfold pa_cmp; rw [if_neg (fun z => n12 z.1)]
        · unfold pa_more; rw [if_neg n12, if_neg (fun z => n1 z.2)]
        · show k5 = kn + tr_sz (tr_2 _ A B)
          simp only [tr_sz]
          omega
        · intro I' h1 h2
          refine ⟨?_, ?_, h1, ?_, rf_rp_of B _ l4 krp (fun a i q1 q2 q3 q4 => h2 a i q1 q2 (by omega))⟩
          · rw [h2 45 _ (by omega) (by omega) (by omega)]; exact k45
          · show I' 47 (96 + kn) = _
            rw [h2 47 _ (by omega) (by omega) (by omega), kK 47 _ (by omega) (by omega) (by show 96 + kn < 96 + k3; omega)]; exact b47
          · refine rf_rp_of A _ m4 jrp (fun a i q1 q2 q3 q4 => ?_)
            rw [h2 a i q1 q2 (by omega), kK a i q1 q2 (by show i < 96 + k3; omega), bo a i q1 q2 (by omega) (by omega)]
    · rw [if_neg h44] at er
      rw [er]
      obtain ⟨I', w, b1, b2⟩ := c140_wrong (ext := ext) (d := 3) L D X (by omega) SJ (v1 := nI nw) (v2 := nI (96 + kn)) (v4 := nI 0) (v6 := pa_cmp (nI kd) (nI 0)) (v7 := pa_more (nI kd) (nI 0))
      exact ⟨0, I', w, fun z => absurd rfl z, fun _ => hrun I' b1 (rf_fr_t jfr (b2 kn nw nh) (Nat.le_refl _) (Nat.le_refl _) (Nat.le_refl _))⟩
/-- if -/
theorem rf_if (hd : 4 ≤ d) (ho : op < 8) (hnw : nw ≤ kn + op) (hnh : nh ≤ kn) (hkn : kn < 96) (IH : rf_H ext d L D X f n e sum (op + 1)) (hg : rd_G (pt_tape f n) e sum (op + 1)) (hN : rf_N (pt_tape f n) sum (op + 1)) (hE : rf_E e I0) {c : Nat} {I : Nat → Nat → Int32} (hc : c < (pt_tape f n).2) (hG : rf_G f n kn op nw nh 12 I0 c (kn + 1) 0 I)
    (hq : pt_b (sum c (kn + 1) (op + 1)) (fun c3 k3 A => if pt_k (pt_tape f n) c3 = 60 ∨ pt_k (pt_tape f n) c3 = 62 then pt_b (sum (pt_adv (pt_tape f n) c3) k3 (op + 1)) fun c5 k5 B => pt_x (pt_tape f n) 44 c5 fun c6 => pt_b (sum c6 k5 (op + 1)) fun c7 k7 V => pt_x (pt_tape f n) 44 c7 fun c8 => pt_b (sum c8 k7 (op + 1)) fun c9 k9 W => pt_x (pt_tape f n) 41 c9 fun c10 => pt_r c10 k9 (tr_4 (kn, if pt_k (pt_tape f n) c3 = 60 then 12 else 13, 0, 0, 0, 0) A B V W) else pt_f (pt_tape f n) 1 c3) = some q) (hrun : rf_run ext d L D X f n 3 kn nw nh op I0 q P) : rf_go ext d L D X I P := by
  have wrong : ∀ {c' k' s' : Nat} {A' : tr_T} {I2 J : Nat → Nat → Int32}, rf_J f n e kn op nw nh 12 I0 I2 k' s' (c', k' + tr_sz A', A') J → pa_right (pt_tape f n) c' 12 (nI s') = 0 → q = .inl (1, pt_p (pt_tape f n) c') → ∃ x I', am_wp ext 3 mz_140 (168, [some (.ref 42), some (.int (nI nw)), some (.int (nI (96 + kn))), none, some (.int (nI s')), none, some (.int (pa_cmp 12 (nI s'))), some (.int (pa_more 12 (nI s'))), none, none], [.int (pa_right (pt_tape f n) c' 12 (nI s'))], (J, L, D, am_rf X)) (fun r => r = (some (.int x), (I', L, D, am_rf X))) ∧ (¬ x = 0 → rf_go ext d L D X I' P) ∧ (x = 0 → P (some (.int 0), (I', L, D, am_rf X))) := by
    intro c' k' s' A' I2 J hJ er hqq
    obtain ⟨SJ, j35, j58, jrp, j55, j56, j57, j45, jfr, jK, m1, m3, m2, m4⟩ := hJ
    subst hqq
    rw [er]
    obtain ⟨I', w, b1, b2⟩ := c140_wrong (ext := ext) (d := 3) L D X (by omega) SJ (v1 := nI nw) (v2 := nI (96 + kn)) (v4 := nI s') (v6 := pa_cmp 12 (nI s')) (v7 := pa_more 12 (nI s'))
    exact ⟨0, I', w, fun z => absurd rfl z, fun _ => hrun I' b1 (rf_fr_t jfr (b2 kn nw nh) (Nat.le_refl _) (Nat.le_refl _) (Nat.le_refl _))⟩
  rcases pt_b_some hq with ⟨fq, hr, rfl⟩ | ⟨c3, k3, A, hr, hq⟩
  · exact rf_st L D X hd ho hnw hnh IH hg hN hc hG hE hr (fun I' h1 h2 => hrun I' h1 h2)
  · refine rf_st L D X hd ho hnw hnh IH hg hN hc hG hE hr ?_
    intro J hJ
    have hJ' := hJ
    obtain ⟨SJ, j35, j58, jrp, j55, j56, j57, j45, jfr, jK, m1, m3, m2, m4⟩ := hJ'
    have hk3 : k3 = kn + 1 + tr_sz A := m3
    have er : pa_right (pt_tape f n) c3 12 (nI 0) = if pt_k (pt_tape f n) c3 = 60 ∨ pt_k (pt_tape f n) c3 = 62 then 1 else 0 := by unfold pa_right; rw [if_pos ⟨rfl, rfl⟩]
    by_cases hcp : pt_k (pt_tape f n) c3 = 60 ∨ pt_k (pt_tape f n) c3 = 62
    · rw [if_pos hcp] at hq er
      obtain ⟨I2, w, hG2, b47, b46, bo⟩ := rf_more L D X (p := (c3, k3, A)) hd ho hnw hnh (by omega) hkn (show kn < kn + 1 by omega) hJ (show pa_cmp 12 (nI 0) = 1 from rfl) (show pa_more 12 (nI 0) = 0 from rfl) (Or.inr ⟨rfl, rfl⟩) er (fun _ => trivial)
      have flag : I2 46 (96 + kn) = if pt_k (pt_tape f n) c3 = 60 then 0 else 1 := by
        rw [b46 rfl]
        have s62 := rf_sgn (rf_T_tok SJ.1) (y := 62) (by decide)
        have s60 := rf_sgn (rf_T_tok SJ.1) (y := 60) (by decide)
        by_cases h60 : pt_k (pt_tape f n) c3 = 60
        · rw [if_pos h60]
          have h9 : J 42 9 = 60 := (s60.mpr h60).2
          rw [if_neg (by rw [h9]; decide)]
        · rw [if_neg h60]
          have h9 : J 42 9 = 62 := (s62.mpr (hcp.resolve_left h60)).2
          rw [if_pos h9]
      refine ⟨1, I2, w, fun _ => ?_, fun z => absurd z (by decide)⟩
      have hc4 := pt_adv_lt m1
      rcases pt_b_some hq with ⟨fq, hr5, rfl⟩ | ⟨c5, k5, B, hr5, hq⟩
      · exact rf_st L D X hd ho hnw hnh IH hg hN hc4 hG2 hE hr5 (fun I' h1 h2 => hrun I' h1 h2)
      · refine rf_st L D X hd ho hnw hnh IH hg hN hc4 hG2 hE hr5 ?_
        intro K hK
        have hK' := hK
        obtain ⟨SK, k35, k58, krp, k55, k56, k57, k45, kfr, kK, l1, l3, l2, l4⟩ := hK'
        have hk5 : k5 = k3 + tr_sz B := l3
        have er5 : pa_right (pt_tape f n) c5 12 (nI 1) = if pt_k (pt_tape f n) c5 = 44 then 1 else 0 := by unfold pa_right; rw [if_neg (by decide), show (if pa_more 12 (nI 1) = 1 then (44 : Int32) else 41) = 44 from rfl]
        rcases pt_x_some hq with ⟨h44, hq⟩ | ⟨h44, hqq⟩
        · rw [if_pos h44] at er5
          obtain ⟨I3, w3, hG3, e48, _, eo⟩ := rf_more L D X (p := (c5, k5, B)) hd ho hnw hnh (by omega) hkn (show kn < k3 by omega) hK (show pa_cmp 12 (nI 1) = 0 from rfl) (show pa_more 12 (nI 1) = 1 from rfl) (Or.inl ⟨rfl, rfl⟩) er5 (fun _ => trivial)
          refine ⟨1, I3, w3, fun _ => ?_, fun z => absurd z (by decide)⟩
          have hc6 := pt_adv_lt l1
          rcases pt_b_some hq with ⟨fq, hr7, rfl⟩ | ⟨c7, k7, V, hr7, hq⟩
          · exact rf_st L D X hd ho hnw hnh IH hg hN hc6 hG3 hE hr7 (fun I' h1 h2 => hrun I' h1 h2)
          · refine rf_st L D X hd ho hnw hnh IH hg hN hc6 hG3 hE hr7 ?_
            intro M hM
            have hM' := hM
            obtain ⟨SM, a35, a58, arp, a55, a56, a57, a45, afr, aK, u1, u3, u2, u4⟩ := hM'
            have hk7 : k7 = k5 + tr_sz V := u3
            have er7 : pa_right (pt_tape f n) c7 12 (nI 2) = if pt_k (pt_tape f n) c7 = 44 then 1 else 0 := by unfold pa_right; rw [if_neg (by decide), show (if pa_more 12 (nI 2) = 1 then (44 : Int32) else 41) = 44 from rfl]
            rcases pt_x_some hq with ⟨h442, hq⟩ | ⟨h442, hqq⟩
            · rw [if_pos h442] at er7
              obtain ⟨I4, w4, hG4, e49, _, go⟩ := rf_more L D X (p := (c7, k7, V)) hd ho hnw hnh (by omega) hkn (show kn < k5 by omega) hM (show pa_cmp 12 (nI 2) = 0 from rfl) (show pa_more 12 (nI 2) = 1 from rfl) (Or.inl ⟨rfl, rfl⟩) er7 (fun _ => trivial)
              refine ⟨1, I4, w4, fun _ => ?_, fun z => absurd z (by decide)⟩
              have hc8 := pt_adv_lt u1
              rcases pt_b_some hq with ⟨fq, hr9, rfl⟩ | ⟨c9, k9, W, hr9, hq⟩
              · exact rf_st L D X hd ho hnw hnh IH hg hN hc8 hG4 hE hr9 (fun I' h1 h2 => hrun I' h1 h2)
              · refine rf_st L D X hd ho hnw hnh IH hg hN hc8 hG4 hE hr9 ?_
                intro N hNN
                have hN' := hNN
                obtain ⟨SN, z35, z58, zrp, z55, z56, z57, z45, zfr, zK, y1, y3, y2, y4⟩ := hN'
                have hk9 : k9 = k7 + tr_sz W := y3
                refine rf_last L D X hd ho hnw hnh (p := (c9, k9, W)) (T := tr_4 (kn, if pt_k (pt_tape f n) c3 = 60 then 12 else 13, 0, 0, 0, 0) A B V W) (by omega) rfl rfl (by decide) (show kn < k7 by omega) hNN ?_ ?_ rfl hq ?_ hrun
                · refine ⟨?_, rfl, m4, ?_, ?_, ?_⟩
                  · by_cases h6 : pt_k (pt_tape f n) c3 = 60 <;> simp [h6]
                  · rw [← hk3]; exact l4
                  · rw [← hk3, ← hk5]; exact u4
                  · rw [← hk3, ← hk5, ← hk7]; exact y4
                · show k9 = kn + tr_sz (tr_4 _ A B V W)
                  simp only [tr_sz]
                  omega
                · intro I' h1 h2
                  -- back to the earlier memories
                  have q4 : ∀ a b, 45 ≤ a → a ≤ 50 → b < 96 + k7 → ¬ (a = 50 ∧ b = 96 + kn) → I' a b = I4 a b := fun a b x1 x2 x3 x4 => by rw [h2 a b x1 x2 (by omega), zK a b x1 x2 x3]
                  have q3 : ∀ a b, 45 ≤ a → a ≤ 50 → b < 96 + k5 → ¬ (a = 50 ∧ b = 96 + kn) → ¬ (a = 49 ∧ b = 96 + kn) → I' a b = I3 a b := fun a b x1 x2 x3 x4 x5 => by rw [q4 a b x1 x2 (by omega) x4, go a b x1 x2 (by omega) (fun z => absurd z.1 (by decide)), aK a b x1 x2 x3]
                  have q2 : ∀ a b, 45 ≤ a → a ≤ 50 → b < 96 + k3 → ¬ (a = 50 ∧ b = 96 + kn) → ¬ (a = 49 ∧ b = 96 + kn) → ¬ (a = 48 ∧ b = 96 + kn) → I' a b = I2 a b := fun a b x1 x2 x3 x4 x5 x6 => by rw [q3 a b x1 x2 (by omega) x4 x5, eo a b x1 x2 (by omega) (fun z => absurd z.1 (by decide)), kK a b x1 x2 x3]
                  refine ⟨?_, ?_, ?_, ?_, h1, ?_, ?_, ?_, ?_⟩
                  · rw [if_pos rfl]
                    refine ⟨?_, ?_⟩
                    · show I' 45 (96 + kn) = 12
                      rw [h2 45 _ (by omega) (by omega) (by omega)]; exact z45
                    · show I' 46 (96 + kn) = _
                      rw [q2 46 _ (by omega) (by omega) (by omega) (by omega) (by omega) (by omega), flag]
                      by_cases h6 : pt_k (pt_tape f n) c3 = 60 <;> simp [h6]
                  · show I' 47 (96 + kn) = _
                    rw [q2 47 _ (by omega) (by omega) (by omega) (by omega) (by omega) (by omega)]; exact b47
                  · show I' 48 (96 + kn) = _
                    rw [q3 48 _ (by omega) (by omega) (by omega) (by omega) (by omega)]; exact e48
                  · show I' 49 (96 + kn) = _
                    rw [q4 49 _ (by omega) (by omega) (by omega) (by omega)]; exact e49
                  · refine rf_rp_of A _ m4 jrp (fun a i x1 x2 x3 x4 => ?_)
                    rw [q2 a i x1 x2 (by omega) (by omega) (by omega) (by omega), bo a i x1 x2 (by omega) (by omega)]
                  · refine rf_rp_of B _ l4 krp (fun a i x1 x2 x3 x4 => ?_)
                    have x3' : 96 + k3 ≤ i := x3
                    have x4' : i < 96 + k3 + tr_sz B := x4
                    rw [q3 a i x1 x2 (by omega) (by omega) (by omega), eo a i x1 x2 (by omega) (fun z => absurd z.1 (by decide))]
                  · refine rf_rp_of V _ u4 arp (fun a i x1 x2 x3 x4 => ?_)
                    have x3' : 96 + k5 ≤ i := x3
                    have x4' : i < 96 + k5 + tr_sz V := x4
                    rw [q4 a i x1 x2 (by omega) (by omega), go a i x1 x2 (by omega) (fun z => absurd z.1 (by decide))]
                  · exact rf_rp_of W _ y4 zrp (fun a i x1 x2 x3 x4 => h2 a i x1 x2 (by omega))
            · rw [if_neg h442] at er7
              subst hk7
              exact wrong hM er7 hqq
        · rw [if_neg h44] at er5
          subst hk5
          exact wrong hK er5 hqq
    · rw [if_neg hcp] at hq er
      cases hq
      subst hk3
      exact wrong hJ er rfl
end KNOT
