/-! ===== the reference asks: leaves, one part, two parts ===== -/
theorem me_v_1 {o : Option (Int64 × Int64)} {I : Nat → Nat → Int32} {L : Nat → Nat → Int64} {f s : Nat} (h : me_v o I L) : me_v o (me_1 I f s) L := ⟨by unfold me_1; rw [am_uI_at, if_neg (by omega)]; exact h.1, h.2⟩
theorem me_1_at {I : Nat → Nat → Int32} {f s p q : Nat} (h : ¬ p = 60) : me_1 I f s p q = I p q := by unfold me_1; rw [am_uI_at, if_neg (by omega)]
section MTREE
variable {ext : Nat → List Value → am_M → Option am_R} {d : Nat} (D : Nat → Nat → UInt64) (X : am_Rf) {J : Nat → Nat → Int32} {w : Nat} {a b : Int64}
theorem mt_Q {f k s kd u : Nat} {I : Nat → Nat → Int32} {L : Nat → Nat → Int64} (hf : f < 128) (hk : k < 192) (hs : s < 1000) (S : me_S w u f k s a b I L) (hJ : me_J J I) (h45 : J 45 k = nI kd) : me_Q f k s kd I := ⟨hf, hk, hs, S.2.2.2.1, S.2.2.2.2.1, (hJ 45 k (by omega) (by omega)).trans h45⟩
theorem mt_c {p : tr_P} {B n : Nat} (hd : 6 ≤ d) (hB : 1 ≤ B) (hp : p.1 < 192) (h45 : J 45 p.1 = nI 0) (h46 : J 46 p.1 = nI n) : me_G ext d D X J w (.leaf p) (sp_k w (sp_l w (Int32.toInt64 (nI n))) (sp_l w (Int32.toInt64 (nI n))), 1) a b B := by
  refine ⟨Nat.le_refl _, fun f u I L P hf hJ S hu on ab => ?_⟩
  have S1 := me_1_S S
  obtain ⟨I2, L2, r, V⟩ := c151_1 (ext := ext) (d := 0) D X (I := me_1 I f 0) (L := L) S1.1 (by omega) S1.2.1 (sp_l w (Int32.toInt64 (nI n))) (sp_l w (Int32.toInt64 (nI n)))
  exact me_val (ext := ext) D X rfl S (by omega) hu (am_up (c161_0 (ext := ext) D X (mt_Q (by omega) hp (by omega) S hJ h45) S.2.1 ((hJ 46 p.1 (by omega) (by omega)).trans h46) r) (by omega)) V (me_fr_0 _ _ _) on
theorem mt_t {p : tr_P} {B : Nat} (hd : 6 ≤ d) (hB : 1 ≤ B) (hp : p.1 < 192) (h45 : J 45 p.1 = nI 1) : me_G ext d D X J w (.leaf p) (sp_k w a b, 1) a b B := by
  refine ⟨Nat.le_refl _, fun f u I L P hf hJ S hu on ab => ?_⟩
  have S1 := me_1_S S
  obtain ⟨I2, L2, r, V⟩ := c151_1 (ext := ext) (d := 0) D X (I := me_1 I f 0) (L := L) S1.1 (by omega) S1.2.1 a b
  exact me_val (ext := ext) D X rfl S (by omega) hu (am_up (c161_1 (ext := ext) D X (mt_Q (by omega) hp (by omega) S hJ h45) (by rw [S.2.2.2.2.2.1, S.2.2.2.2.2.2]; exact r)) (by omega)) V (me_fr_0 _ _ _) on
/-- a letter's line -/
theorem mt_l {p : tr_P} {B BA l : Nat} {A : tr_T} {x : ev_R} (hw : w ≤ 20) (hd : 6 ≤ d) (hB : BA + 1 ≤ B) (h1 : 1 ≤ BA) (hp : p.1 < 192) (h45 : J 45 p.1 = nI 2) (h46 : J 46 p.1 = nI l) (hl : l < 26) (h52 : J 52 l = nI (tr_rt A)) (G : me_G ext d D X J w A x 0 0 BA) (hx : gd w x.1) : me_G ext d D X J w (.leaf p) (x.1, x.2 + 1) a b B := by
  refine ⟨by omega, fun f u I L P hf hJ S hu on ab => ?_⟩
  have S1 := me_1_S S
  obtain ⟨I2, L2, r, C⟩ := c150 (ext := ext) (d := 0) D X (I := me_1 I f 0) (L := L) S1.1 (by omega) S1.2.2.1 hu (nI (tr_rt A)) 0 0
  refine me_par (ext := ext) D X S hu (am_up (c161_2a (ext := ext) D X (mt_Q (by omega) hp (by omega) S hJ h45) ((hJ 46 p.1 (by omega) (by omega)).trans h46) (by omega) (by rw [hJ 52 l (by omega) (by omega), h52]; exact r)) (by omega)) S1 (me_1_fr f 0 I L) G (by omega) hJ C (fun h I3 L3 F S3 V => ?_) (fun h I3 L3 F h49 => ab (by simp only; omega) I3 L3 F h49)
  rw [show u + 1 + x.2 = u + (x.2 + 1) by omega] at S3 h
  have S4 := me_1_S S3
  have hJ3 := me_J_fr (me_J_fr hJ (me_1_fr f 0 I L)) F
  obtain ⟨I5, L5, r5, V5⟩ := c151_v (ext := ext) (d := 0) D X (I := me_1 I3 f 1) (L := L3) hw S4.1 (by omega) S4.2.1 V.1 V.2 hx
  exact me_val (ext := ext) D X rfl S3 (by omega) h (am_up (c161_2b (ext := ext) D X (mt_Q (by omega) hp (by omega) S3 hJ3 h45) r5) (by omega)) V5 (me_fr_t (me_1_fr f 0 I L) F (by omega)) on
/-- - sqrt abs -/
theorem mt_1 {p : tr_P} {B BA kd : Nat} {A : tr_T} {x : ev_R} (hw : w ≤ 20) (hd : 6 ≤ d) (hB : BA + 1 ≤ B) (h1 : 1 ≤ BA) (hkd : 3 ≤ kd ∧ kd ≤ 5) (hp : p.1 < 192) (h45 : J 45 p.1 = nI kd) (h47 : J 47 p.1 = nI (tr_rt A)) (G : me_G ext d D X J w A x a b BA) (hx : gd w x.1) : me_G ext d D X J w (tr_1 p A) (sp_m1 w kd x.1, x.2 + 1) a b B := by
  refine ⟨by omega, fun f u I L P hf hJ S hu on ab => ?_⟩
  have S1 := me_1_S S
  obtain ⟨I2, L2, r, C⟩ := c150 (ext := ext) (d := 0) D X (I := me_1 I f 0) (L := L) S1.1 (by omega) S1.2.2.1 hu (nI (tr_rt A)) a b
  refine me_par (ext := ext) D X S hu (am_up (c161_3a (ext := ext) D X (mt_Q (by omega) hp (by omega) S hJ h45) hkd (by rw [hJ 47 p.1 (by omega) (by omega), h47, S.2.2.2.2.2.1, S.2.2.2.2.2.2]; exact r)) (by omega)) S1 (me_1_fr f 0 I L) G (by omega) hJ C (fun h I3 L3 F S3 V => ?_) (fun h I3 L3 F h49 => ab (by simp only; omega) I3 L3 F h49)
  rw [show u + 1 + x.2 = u + (x.2 + 1) by omega] at S3 h
  have S4 := me_1_S S3
  have hJ3 := me_J_fr (me_J_fr hJ (me_1_fr f 0 I L)) F
  obtain ⟨I5, L5, r5, V5⟩ := c162 (ext := ext) (d := 0) D X (I := me_1 I3 f 1) (L := L3) hw (show kd = 3 ∨ kd = 4 ∨ kd = 5 by omega) S4.1 (by omega) S4.2.1 (me_v_1 V) hx
  exact me_val (ext := ext) D X rfl S3 (by omega) h (am_up (c161_3b (ext := ext) D X (mt_Q (by omega) hp (by omega) S3 hJ3 h45) hkd r5) (by omega)) V5 (me_fr_t (me_1_fr f 0 I L) F (by omega)) on
/-- + - * / max min -/
theorem mt_2 {p : tr_P} {B BA BB kd : Nat} {A A' : tr_T} {x y : ev_R} (hw : w ≤ 20) (hd : 6 ≤ d) (hB : BA + 1 ≤ B) (hB' : BB + 1 ≤ B) (h1 : 1 ≤ BA) (h2 : 1 ≤ BB) (hkd : 6 ≤ kd ∧ kd ≤ 11) (hp : p.1 < 192) (h45 : J 45 p.1 = nI kd) (h47 : J 47 p.1 = nI (tr_rt A)) (h48 : J 48 p.1 = nI (tr_rt A')) (G : me_G ext d D X J w A x a b BA) (G' : me_G ext d D X J w A' y a b BB) (hy : gd w y.1) : me_G ext d D X J w (tr_2 p A A') (sp_m2 w kd x.1 y.1, x.2 + y.2 + 1) a b B := by
  refine ⟨by omega, fun f u I L P hf hJ S hu on ab => ?_⟩
  have hbf : am_inb (nI f) 128 = true := ni_inb (by omega) (by omega)
  have hbk : am_inb (nI p.1) 192 = true := ni_inb hp (by omega)
  have ef : (nI f).toNatClampNeg = f := ni_nat (by omega)
  have ek : (nI p.1).toNatClampNeg = p.1 := ni_nat (by omega)
  have S1 := me_1_S S
  obtain ⟨I2, L2, r, C⟩ := c150 (ext := ext) (d := 0) D X (I := me_1 I f 0) (L := L) S1.1 (by omega) S1.2.2.1 hu (nI (tr_rt A)) a b
  have V1 : am_wp ext 1 mz_161 (199, [some (.ref 42), some (.int (nI f)), some (.int (nI p.1)), some (.int (nI 0)), some (.int (nI kd)), none, none], [], (me_1 I f 0, L, D, am_rf X)) (fun r => r = (none, (I2, L2, D, am_rf X))) := by
    refine w161_199 _ L D X (nI f) (nI p.1) (nI 0) (nI kd) ⟨fun z => absurd z (by decide), fun _ => ⟨fun z => absurd rfl z, fun _ => ⟨hbk, hbf, hbf, I2, L2, D, ?_, rfl⟩⟩⟩
    rw [ef, ek, me_1_at (by omega), hJ 47 p.1 (by omega) (by omega), h47, S.2.2.2.2.2.1, S.2.2.2.2.2.2]
    exact r
  refine me_par (ext := ext) D X S hu (am_up (c161_6 (ext := ext) D X (mt_Q (by omega) hp (by omega) S hJ h45) hkd (Or.inl ⟨by omega, rfl, rfl⟩) V1) (by omega)) S1 (me_1_fr f 0 I L) G (by omega) hJ C (fun h I3 L3 F S3 V => ?_) (fun h I3 L3 F h49 => ab (by simp only; omega) I3 L3 F h49)
  have F3 := me_fr_t (me_1_fr f 0 I L) F (by omega)
  have hJ3 := me_J_fr hJ F3
  have S4 := me_1_S S3
  have V4 := me_v_1 (f := f) (s := 1) V
  obtain ⟨I5, L5, r5, K5⟩ := c160 (ext := ext) (d := 0) D X (I := me_1 I3 f 1) (L := L3) (show f < 128 by omega) (me_v01 V4)
  have S5 := me_K_S S4 K5
  have F5 := me_fr_t (me_1_fr f 1 I3 L3) (me_K_fr K5) (Nat.le_refl _)
  have hJ5 := me_J_fr hJ3 F5
  obtain ⟨I6, L6, r6, Cb⟩ := c150 (ext := ext) (d := 0) D X (I := I5) (L := L5) S5.1 (by omega) S5.2.2.1 h (nI (tr_rt A')) a b
  have V6 : am_wp ext 1 mz_161 (199, [some (.ref 42), some (.int (nI f)), some (.int (nI p.1)), some (.int (nI 1)), some (.int (nI kd)), none, none], [], (I5, L5, D, am_rf X)) (fun r => r = (none, (I6, L6, D, am_rf X))) := by
    refine w161_199 _ L5 D X (nI f) (nI p.1) (nI 1) (nI kd) ⟨fun z => absurd z (by decide), fun _ => ⟨fun _ => ⟨hbk, hbf, hbf, I6, L6, D, ?_, rfl⟩, fun z => absurd z (by decide)⟩⟩
    rw [ef, ek, hJ5 48 p.1 (by omega) (by omega), h48, S5.2.2.2.2.2.1, S5.2.2.2.2.2.2]
    exact r6
  refine me_par (ext := ext) D X S3 h (am_up (c161_6 (ext := ext) D X (mt_Q (by omega) hp (by omega) S3 hJ3 h45) hkd (Or.inr ⟨rfl, r5⟩) V6) (by omega)) S5 F5 G' (by omega) hJ3 Cb (fun h' I7 L7 F7 S7 V7 => ?_) (fun h' I7 L7 F7 h49 => ab (by simp only; omega) I7 L7 (me_fr_t F3 F7 (by omega)) h49)
  rw [show u + 1 + x.2 + y.2 = u + (x.2 + y.2 + 1) by omega] at S7 h'
  have F8 := me_fr_t F3 (me_fr_t F5 F7 (by omega)) (by omega)
  have hJ7 := me_J_fr hJ F8
  have S8 := me_1_S S7
  have e65 : me_1 I7 f 2 65 f = if x.1 = none then 0 else 1 := by rw [me_1_at (by omega), F7.1 65 f (by omega) (by omega), K5.1]; exact V4.1
  have e63 : ∀ q, x.1 = some q → L7 63 f = q.1 ∧ L7 64 f = q.2 := fun q hq => by rw [F7.2 63 f (by omega) (by omega), F7.2 64 f (by omega) (by omega), K5.2.1, K5.2.2.1]; exact V4.2 q hq
  obtain ⟨I9, L9, r9, V9⟩ := c163 (ext := ext) (d := 0) D X (I := me_1 I7 f 2) (L := L7) hw hkd (show f < 128 by omega) S8.1 (by omega) S8.2.1 e65 e63 (me_v_1 V7) hy
  have W9 : am_wp ext 4 mz_161 (199, [some (.ref 42), some (.int (nI f)), some (.int (nI p.1)), some (.int (nI 2)), some (.int (nI kd)), none, none], [], (me_1 I7 f 2, L7, D, am_rf X)) (fun r => r = (none, (I9, L9, D, am_rf X))) := w161_199 _ L7 D X (nI f) (nI p.1) (nI 2) (nI kd) ⟨fun _ => ⟨I9, L9, D, r9, rfl⟩, fun z => absurd (by decide) z⟩
  exact me_val (ext := ext) D X rfl S7 (by omega) h' (am_up (c161_6 (ext := ext) D X (mt_Q (by omega) hp (by omega) S7 hJ7 h45) hkd (Or.inl ⟨by omega, rfl, rfl⟩) W9) (by omega)) V9 F8 on
end MTREE
