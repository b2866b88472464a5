/-! ===== the reference's doubles: the loop, a tree ===== -/
def md_hd (ext : Nat → List Value → am_M → Option am_R) (d : Nat) (L : Nat → Nat → Int64) (X : am_Rf) (v1 : Int32) (I : Nat → Nat → Int32) (D : Nat → Nat → UInt64) (P : am_R → Prop) : Prop := am_wp ext d mz_191 (45, [some (.ref 42), some (.int v1)], [], (I, L, D, am_rf X)) P
def md_fr (f : Nat) (I : Nat → Nat → Int32) (D : Nat → Nat → UInt64) (I' : Nat → Nat → Int32) (D' : Nat → Nat → UInt64) : Prop := (∀ p q, ¬ (p = 42 ∧ (q = 47 ∨ q = 68)) → ¬ ((p = 59 ∨ p = 60 ∨ p = 78 ∨ p = 80) ∧ f ≤ q) → I' p q = I p q) ∧ (∀ p q, ¬ (p = 42 ∧ q = 67) → ¬ ((p = 77 ∨ p = 79) ∧ f ≤ q) → D' p q = D p q)
def md_S (f k s : Nat) (t : Option UInt64) (I : Nat → Nat → Int32) (D : Nat → Nat → UInt64) : Prop := I 42 47 = nI (f + 1) ∧ I 59 f = nI k ∧ I 60 f = nI s ∧ I 78 f = flg t ∧ (∀ a, t = some a → D 77 f = a)
def md_J (J : Nat → Nat → Int32) (Y : Nat → Nat → UInt64) (I : Nat → Nat → Int32) (D : Nat → Nat → UInt64) : Prop := (∀ p q, 45 ≤ p → p ≤ 53 → I p q = J p q) ∧ (∀ q, I 76 q = J 76 q) ∧ (∀ q, D 75 q = Y 75 q)
theorem md_fr_0 (f : Nat) (I : Nat → Nat → Int32) (D : Nat → Nat → UInt64) : md_fr f I D I D := ⟨fun _ _ _ _ => rfl, fun _ _ _ _ => rfl⟩
theorem md_fr_t {f f' : Nat} {I I1 I2 : Nat → Nat → Int32} {D D1 D2 : Nat → Nat → UInt64} (h1 : md_fr f I D I1 D1) (h2 : md_fr f' I1 D1 I2 D2) (h : f ≤ f') : md_fr f I D I2 D2 := ⟨fun p q g1 g2 => (h2.1 p q g1 (by omega)).trans (h1.1 p q g1 g2), fun p q g1 g2 => (h2.2 p q g1 (by omega)).trans (h1.2 p q g1 g2)⟩
theorem md_J_fr {f : Nat} {J I I' : Nat → Nat → Int32} {Y D D' : Nat → Nat → UInt64} (h : md_J J Y I D) (F : md_fr f I D I' D') : md_J J Y I' D' := ⟨fun p q g1 g2 => (F.1 p q (by omega) (by omega)).trans (h.1 p q g1 g2), fun q => (F.1 76 q (by omega) (by omega)).trans (h.2.1 q), fun q => (F.2 75 q (by omega) (by omega)).trans (h.2.2 q)⟩
theorem md_1_S {f k s : Nat} {t : Option UInt64} {I : Nat → Nat → Int32} {D : Nat → Nat → UInt64} (h : md_S f k s t I D) : md_S f k (s + 1) t (me_1 I f s) D := by
  obtain ⟨h1, h2, h3, h4, h5⟩ := h
  refine ⟨?_, ?_, ?_, ?_, h5⟩
  · rw [me_1_at (by omega)]; exact h1
  · rw [me_1_at (by omega)]; exact h2
  · unfold me_1; rw [am_uI_at, if_pos ⟨rfl, rfl⟩]
  · rw [me_1_at (by omega)]; exact h4
theorem md_1_fr (f s : Nat) (I : Nat → Nat → Int32) (D : Nat → Nat → UInt64) : md_fr f I D (me_1 I f s) D := ⟨fun p q g1 g2 => by unfold me_1; rw [am_uI_at, if_neg (by omega)], fun _ _ _ _ => rfl⟩
theorem md_S_fr {f k s : Nat} {t : Option UInt64} {I I' : Nat → Nat → Int32} {D D' : Nat → Nat → UInt64} (h : md_S f k s t I D) (F : md_fr (f + 1) I D I' D') (h47 : I' 42 47 = nI (f + 1)) : md_S f k s t I' D' :=
  ⟨h47, (F.1 59 f (by omega) (by omega)).trans h.2.1, (F.1 60 f (by omega) (by omega)).trans h.2.2.1, (F.1 78 f (by omega) (by omega)).trans h.2.2.2.1, fun a ha => (F.2 77 f (by omega) (by omega)).trans (h.2.2.2.2 a ha)⟩
theorem md_C_fr {g : Nat} {k : Int32} {t : Option UInt64} {I I' : Nat → Nat → Int32} {D D' : Nat → Nat → UInt64} (h : md_C g k t I D I' D') : md_fr g I D I' D' := ⟨fun p q g1 g2 => h.2.2.2.2.2.1 p q (by omega) (by omega), fun p q g1 g2 => h.2.2.2.2.2.2 p q (by omega)⟩
theorem md_V_fr {g : Nat} {o : Option UInt64} {I I' : Nat → Nat → Int32} {D D' : Nat → Nat → UInt64} (h : md_V g o I D I' D') : md_fr g I D I' D' := ⟨fun p q g1 g2 => h.2.2.1 p q g1, fun p q g1 g2 => h.2.2.2 p q g1⟩
theorem md_v_1 {o : Option UInt64} {I : Nat → Nat → Int32} {D : Nat → Nat → UInt64} {f s : Nat} (h : md_v o I D) : md_v o (me_1 I f s) D := ⟨by rw [me_1_at (by omega)]; exact h.1, h.2⟩
theorem dbl_v {o : Option UInt64} {v : UInt64} (h : v = dbl o) : ∀ a, o = some a → v = a := fun a ha => by subst ha; exact h
section MDGO
variable {ext : Nat → List Value → am_M → Option am_R} {d : Nat} (L : Nat → Nat → Int64) (X : am_Rf) (v1 : Int32) {P : am_R → Prop}
theorem md_step {f : Nat} {I I' : Nat → Nat → Int32} {D D' : Nat → Nat → UInt64} (h47 : I 42 47 = nI (f + 1)) (hf : f < 128) (r : am_Rn ext d 192 [.ref 42, .int (nI f)] (I, L, D, am_rf X) (none, (I', L, D', am_rf X))) (h : md_hd ext d L X v1 I' D' P) : md_hd ext d L X v1 I D P := by
  have e : I 42 47 - 1 = nI f := by rw [h47, show (1 : Int32) = nI 1 from rfl, ni_sub (by omega) (by omega)]; rfl
  refine w191_45 I L D X v1 ⟨fun z => ?_, fun _ => ⟨I', L, D', by rw [e]; exact r, h⟩⟩
  rw [h47] at z
  have := (ni_le (b := 0) (by omega) (by omega)).mp z
  omega
/-- a tree is worked out: it is laid at place f -/
def md_G (ext : Nat → List Value → am_M → Option am_R) (d : Nat) (L : Nat → Nat → Int64) (X : am_Rf) (v1 : Int32) (J : Nat → Nat → Int32) (Y : Nat → Nat → UInt64) (T : tr_T) (t o : Option UInt64) (B : Nat) : Prop := ∀ (f : Nat) (I : Nat → Nat → Int32) (D : Nat → Nat → UInt64) (P : am_R → Prop), f + B ≤ 128 → md_J J Y I D → md_S f (tr_rt T) 0 t I D →
  (∀ I' D', md_fr f I D I' D' → I' 42 47 = nI f → md_v o I' D' → md_hd ext d L X v1 I' D' P) → md_hd ext d L X v1 I D P
variable {J : Nat → Nat → Int32} {Y : Nat → Nat → UInt64} {t : Option UInt64}
/-- the last step of a knot -/
theorem md_val {f k s : Nat} {o : Option UInt64} {I0 I I' : Nat → Nat → Int32} {D0 D D' : Nat → Nat → UInt64} (S : md_S f k s t I D) (hf : f < 128) (r : am_Rn ext d 192 [.ref 42, .int (nI f)] (I, L, D, am_rf X) (none, (I', L, D', am_rf X))) (V : md_V f o (me_1 I f s) D I' D') (F : md_fr f I0 D0 I D) (on : ∀ I' D', md_fr f I0 D0 I' D' → I' 42 47 = nI f → md_v o I' D' → md_hd ext d L X v1 I' D' P) : md_hd ext d L X v1 I D P :=
  md_step (ext := ext) L X v1 S.1 hf r (on I' D' (md_fr_t (md_fr_t F (md_1_fr f s I D) (Nat.le_refl _)) (md_V_fr V) (Nat.le_refl _)) V.1 V.2.1)
/-- a step that lays a part -/
theorem md_par {f k s s1 B' : Nat} {t' o' : Option UInt64} {T' : tr_T} {I I1 I2 : Nat → Nat → Int32} {D D1 D2 : Nat → Nat → UInt64} (S : md_S f k s t I D) (r : am_Rn ext d 192 [.ref 42, .int (nI f)] (I, L, D, am_rf X) (none, (I2, L, D2, am_rf X))) (S1 : md_S f k s1 t I1 D1) (F1 : md_fr f I D I1 D1) (G : md_G ext d L X v1 J Y T' t' o' B') (hf : f + 1 + B' ≤ 128) (hJ : md_J J Y I D) (C : md_C (f + 1) (nI (tr_rt T')) t' I1 D1 I2 D2)
    (on : ∀ I3 D3, md_fr (f + 1) I1 D1 I3 D3 → md_S f k s1 t I3 D3 → md_v o' I3 D3 → md_hd ext d L X v1 I3 D3 P) : md_hd ext d L X v1 I D P := by
  have F := md_C_fr C
  refine md_step (ext := ext) L X v1 S.1 (by omega) r (G (f + 1) I2 D2 P hf (md_J_fr (md_J_fr hJ F1) F) ⟨C.1, C.2.1, C.2.2.1, C.2.2.2.1, C.2.2.2.2.1⟩ (fun I3 D3 F3 h47 V => ?_))
  have F' := md_fr_t F F3 (Nat.le_refl _)
  exact on I3 D3 F' (md_S_fr S1 F' h47) V
theorem nt_Q {f k s kd : Nat} {I : Nat → Nat → Int32} {D : Nat → Nat → UInt64} (hf : f < 128) (hk : k < 192) (hs : s < 1000) (S : md_S f k s t I D) (hJ : md_J J Y I D) (h45 : J 45 k = nI kd) : me_Q f k s kd I := ⟨hf, hk, hs, S.2.1, S.2.2.1, (hJ.1 45 k (by omega) (by omega)).trans h45⟩
theorem nt_c {p : tr_P} {B n : Nat} (hd : 6 ≤ d) (hB : 1 ≤ B) (hp : p.1 < 192) (h45 : J 45 p.1 = nI 0) (h46 : J 46 p.1 = nI n) : md_G ext d L X v1 J Y (.leaf p) t (some (FP.i2d (nI n))) B := by
  intro f I D P hf hJ S on
  have S1 := md_1_S S
  obtain ⟨I2, D2, r, V⟩ := c190 (ext := ext) (d := 0) L X (I := me_1 I f 0) (D := D) (o := some (FP.i2d (nI n))) (v := FP.i2d (nI n)) S1.1 (by omega) (fun a h => by cases h; rfl)
  exact md_val (ext := ext) L X v1 S (by omega) (am_up (c192_0 (ext := ext) L X (nt_Q (by omega) hp (by omega) S hJ h45) ((hJ.1 46 p.1 (by omega) (by omega)).trans h46) r) (by omega)) V (md_fr_0 _ _ _) on
theorem nt_t {p : tr_P} {B : Nat} (hd : 6 ≤ d) (hB : 1 ≤ B) (hp : p.1 < 192) (h45 : J 45 p.1 = nI 1) : md_G ext d L X v1 J Y (.leaf p) t t B := by
  intro f I D P hf hJ S on
  have S1 := md_1_S S
  obtain ⟨I2, D2, r, V⟩ := c190 (ext := ext) (d := 0) L X (I := me_1 I f 0) (D := D) (o := t) (v := D 77 f) S1.1 (by omega) S.2.2.2.2
  exact md_val (ext := ext) L X v1 S (by omega) (am_up (c192_1 (ext := ext) L X (nt_Q (by omega) hp (by omega) S hJ h45) (by rw [S.2.2.2.1]; exact r)) (by omega)) V (md_fr_0 _ _ _) on
theorem nt_l {p : tr_P} {B l : Nat} {o : Option UInt64} (hd : 6 ≤ d) (hB : 1 ≤ B) (hp : p.1 < 192) (h45 : J 45 p.1 = nI 2) (h46 : J 46 p.1 = nI l) (hl : l < 26) (h76 : J 76 l = flg o) (h75 : Y 75 l = dbl o) : md_G ext d L X v1 J Y (.leaf p) t o B := by
  intro f I D P hf hJ S on
  have S1 := md_1_S S
  have e75 : D 75 l = dbl o := (hJ.2.2 l).trans h75
  have e76 : I 76 l = flg o := (hJ.2.1 l).trans h76
  obtain ⟨I2, D2, r, V⟩ := c190 (ext := ext) (d := 0) L X (I := me_1 I f 0) (D := D) (o := o) (v := D 75 l) S1.1 (by omega) (dbl_v e75)
  exact md_val (ext := ext) L X v1 S (by omega) (am_up (c192_2 (ext := ext) L X (nt_Q (by omega) hp (by omega) S hJ h45) ((hJ.1 46 p.1 (by omega) (by omega)).trans h46) hl (by rw [e76]; exact r)) (by omega)) V (md_fr_0 _ _ _) on
theorem nt_o {p : tr_P} {B : Nat} (hd : 6 ≤ d) (hB : 1 ≤ B) (hp : p.1 < 192) (h45 : J 45 p.1 = nI 15) : md_G ext d L X v1 J Y (.leaf p) t none B := by
  intro f I D P hf hJ S on
  have S1 := md_1_S S
  obtain ⟨I2, D2, r, V⟩ := c190 (ext := ext) (d := 0) L X (I := me_1 I f 0) (D := D) (o := none) (v := FP.dconst0) S1.1 (by omega) (fun a h => by cases h)
  exact md_val (ext := ext) L X v1 S (by omega) (am_up (c192_15 (ext := ext) L X (nt_Q (by omega) hp (by omega) S hJ h45) r) (by omega)) V (md_fr_0 _ _ _) on
/-- - sqrt abs -/
theorem nt_1 {p : tr_P} {B BA kd : Nat} {A : tr_T} {x : Option UInt64} (hd : 6 ≤ d) (hB : BA + 1 ≤ B) (h1 : 1 ≤ BA) (hkd : 3 ≤ kd ∧ kd ≤ 5) (hp : p.1 < 192) (h45 : J 45 p.1 = nI kd) (h47 : J 47 p.1 = nI (tr_rt A)) (G : md_G ext d L X v1 J Y A t x BA) (hx : og x) : md_G ext d L X v1 J Y (tr_1 p A) t (de_1k kd x) B := by
  intro f I D P hf hJ S on
  have S1 := md_1_S S
  obtain ⟨I2, D2, r, C⟩ := c189 (ext := ext) (d := 0) L X (I := me_1 I f 0) (D := D) (nI (tr_rt A)) S1.1 (by omega) (show f < 128 by omega) S1.2.2.2.1 S1.2.2.2.2
  refine md_par (ext := ext) L X v1 S (am_up (c192_a (ext := ext) L X (nt_Q (by omega) hp (by omega) S hJ h45) (by omega) (by rw [hJ.1 47 p.1 (by omega) (by omega), h47]; exact r)) (by omega)) S1 (md_1_fr f 0 I D) G (by omega) hJ C (fun I3 D3 F S3 V => ?_)
  have F3 := md_fr_t (md_1_fr f 0 I D) F (by omega)
  have hJ3 := md_J_fr hJ F3
  obtain ⟨I5, D5, r5, V5⟩ := c192_3 (ext := ext) (d := 0) L X (nt_Q (by omega) hp (by omega) S3 hJ3 h45) hkd S3.1 V hx
  exact md_val (ext := ext) L X v1 S3 (by omega) (am_up r5 (by omega)) V5 F3 on
/-- a call -/
theorem nt_14 {p : tr_P} {B BA Bf l : Nat} {A T' : tr_T} {x o : Option UInt64} (hd : 6 ≤ d) (hB : BA + 1 ≤ B) (hBf : Bf + 1 ≤ B) (h1 : 1 ≤ BA) (hp : p.1 < 192) (h45 : J 45 p.1 = nI 14) (h46 : J 46 p.1 = nI l) (hl : l < 26) (h47 : J 47 p.1 = nI (tr_rt A)) (h52 : J 52 l = nI (tr_rt T')) (G : md_G ext d L X v1 J Y A t x BA) (GE : md_G ext d L X v1 J Y T' x o Bf) : md_G ext d L X v1 J Y (tr_1 p A) t o B := by
  intro f I D P hf hJ S on
  have S1 := md_1_S S
  obtain ⟨I2, D2, r, C⟩ := c189 (ext := ext) (d := 0) L X (I := me_1 I f 0) (D := D) (nI (tr_rt A)) S1.1 (by omega) (show f < 128 by omega) S1.2.2.2.1 S1.2.2.2.2
  refine md_par (ext := ext) L X v1 S (am_up (c192_a (ext := ext) L X (nt_Q (by omega) hp (by omega) S hJ h45) (by omega) (by rw [hJ.1 47 p.1 (by omega) (by omega), h47]; exact r)) (by omega)) S1 (md_1_fr f 0 I D) G (by omega) hJ C (fun I3 D3 F S3 V => ?_)
  have F3 := md_fr_t (md_1_fr f 0 I D) F (by omega)
  have hJ3 := md_J_fr hJ F3
  have S4 := md_1_S S3
  obtain ⟨I5, D5, r5, Cb⟩ := c188 (ext := ext) (d := 0) L X (I := me_1 I3 f 1) (D := D3) (t := x) (v := D3 42 67) (nI (tr_rt T')) S4.1 (by omega) (dbl_v V.2)
  refine md_par (ext := ext) L X v1 S3 (am_up (c192_14b (ext := ext) L X (nt_Q (by omega) hp (by omega) S3 hJ3 h45) ((hJ3.1 46 p.1 (by omega) (by omega)).trans h46) hl (by rw [hJ3.1 52 l (by omega) (by omega), h52, V.1]; exact r5)) (by omega)) S4 (md_1_fr f 1 I3 D3) GE (by omega) hJ3 Cb (fun I7 D7 F7 S7 V7 => ?_)
  have F8 := md_fr_t F3 (md_fr_t (md_1_fr f 1 I3 D3) F7 (by omega)) (Nat.le_refl _)
  have hJ7 := md_J_fr hJ F8
  have S8 := md_1_S S7
  obtain ⟨I9, D9, r9, V9⟩ := c190 (ext := ext) (d := 0) L X (I := me_1 I7 f 2) (D := D7) (o := o) (v := D7 42 67) S8.1 (by omega) (dbl_v V7.2)
  exact md_val (ext := ext) L X v1 S7 (by omega) (am_up (c192_14c (ext := ext) L X (nt_Q (by omega) hp (by omega) S7 hJ7 h45) (by rw [V7.1]; exact r9)) (by omega)) V9 F8 on
/-- the first two parts of a knot -/
theorem nt_ab {p : tr_P} {BA BB kd f : Nat} {A A' : tr_T} {T : tr_T} {x y : Option UInt64} (h1 : 1 ≤ BA) (hd : 6 ≤ d) (hA : f + 1 + BA ≤ 128) (hB : f + 1 + BB ≤ 128) (hkd : 6 ≤ kd ∧ kd ≤ 13) (hp : p.1 < 192) (hT : tr_rt T = p.1) (h45 : J 45 p.1 = nI kd) (h47 : J 47 p.1 = nI (tr_rt A)) (h48 : J 48 p.1 = nI (tr_rt A')) (G : md_G ext d L X v1 J Y A t x BA) (G' : md_G ext d L X v1 J Y A' t y BB) {I : Nat → Nat → Int32} {D : Nat → Nat → UInt64} (hJ : md_J J Y I D) (S : md_S f (tr_rt T) 0 t I D)
    (on : ∀ I' D', md_fr f I D I' D' → md_S f p.1 2 t I' D' → I' 80 f = flg x → D' 79 f = dbl x → md_v y I' D' → md_hd ext d L X v1 I' D' P) : md_hd ext d L X v1 I D P := by
  rw [hT] at S
  have S1 := md_1_S S
  obtain ⟨I2, D2, r, C⟩ := c189 (ext := ext) (d := 0) L X (I := me_1 I f 0) (D := D) (nI (tr_rt A)) S1.1 (by omega) (show f < 128 by omega) S1.2.2.2.1 S1.2.2.2.2
  refine md_par (ext := ext) L X v1 S (am_up (c192_a (ext := ext) L X (nt_Q (by omega) hp (by omega) S hJ h45) (by omega) (by rw [hJ.1 47 p.1 (by omega) (by omega), h47]; exact r)) (by omega)) S1 (md_1_fr f 0 I D) G (by omega) hJ C (fun I3 D3 F S3 V => ?_)
  have F3 := md_fr_t (md_1_fr f 0 I D) F (by omega)
  have hJ3 := md_J_fr hJ F3
  have S4 := md_1_S S3
  have S5 : md_S f p.1 2 t (am_uI (me_1 I3 f 1) 80 f (I3 42 68)) (am_uD D3 79 f (D3 42 67)) := ⟨by rw [am_uI_at, if_neg (by omega)]; exact S4.1, by rw [am_uI_at, if_neg (by omega)]; exact S4.2.1, by rw [am_uI_at, if_neg (by omega)]; exact S4.2.2.1, by rw [am_uI_at, if_neg (by omega)]; exact S4.2.2.2.1, fun a ha => by rw [am_uD_at, if_neg (by omega)]; exact S4.2.2.2.2 a ha⟩
  have F5 : md_fr f I3 D3 (am_uI (me_1 I3 f 1) 80 f (I3 42 68)) (am_uD D3 79 f (D3 42 67)) := ⟨fun p q g1 g2 => by rw [am_uI_at, if_neg (by omega)]; unfold me_1; rw [am_uI_at, if_neg (by omega)], fun p q g1 g2 => by rw [am_uD_at, if_neg (by omega)]⟩
  obtain ⟨I6, D6, r6, Cb⟩ := c189 (ext := ext) (d := 0) L X (I := am_uI (me_1 I3 f 1) 80 f (I3 42 68)) (D := am_uD D3 79 f (D3 42 67)) (nI (tr_rt A')) S5.1 (by omega) (show f < 128 by omega) S5.2.2.2.1 S5.2.2.2.2
  refine md_par (ext := ext) L X v1 S3 (am_up (c192_b (ext := ext) L X (nt_Q (by omega) hp (by omega) S3 hJ3 h45) hkd (by rw [V.1]; exact flg01 x) (by rw [hJ3.1 48 p.1 (by omega) (by omega), h48]; exact r6)) (by omega)) S5 F5 G' (by omega) hJ3 Cb (fun I7 D7 F7 S7 V7 => ?_)
  refine on I7 D7 (md_fr_t F3 (md_fr_t F5 F7 (by omega)) (Nat.le_refl _)) S7 ?_ ?_ V7
  · rw [F7.1 80 f (by omega) (by omega), am_uI_at, if_pos ⟨rfl, rfl⟩]; exact V.1
  · rw [F7.2 79 f (by omega) (by omega), am_uD_at, if_pos ⟨rfl, rfl⟩]; exact V.2
/-- + - * / max min -/
theorem nt_2 {p : tr_P} {B BA BB kd : Nat} {A A' : tr_T} {x y : Option UInt64} (h1 : 1 ≤ BA) (hd : 6 ≤ d) (hB : BA + 1 ≤ B) (hB' : BB + 1 ≤ B) (hkd : 6 ≤ kd ∧ kd ≤ 11) (hp : p.1 < 192) (h45 : J 45 p.1 = nI kd) (h47 : J 47 p.1 = nI (tr_rt A)) (h48 : J 48 p.1 = nI (tr_rt A')) (G : md_G ext d L X v1 J Y A t x BA) (G' : md_G ext d L X v1 J Y A' t y BB) (gx : og x) (gy : og y) : md_G ext d L X v1 J Y (tr_2 p A A') t (de_2k kd x y) B := by
  intro f I D P hf hJ S on
  refine nt_ab (ext := ext) L X v1 (T := tr_2 p A A') h1 hd (by omega) (by omega) (by omega) hp rfl h45 h47 h48 G G' hJ S (fun I7 D7 F7 S7 e80 e79 V7 => ?_)
  have hJ7 := md_J_fr hJ F7
  obtain ⟨I9, D9, r9, V9⟩ := c192_6 (ext := ext) (d := 0) L X (nt_Q (by omega) hp (by omega) S7 hJ7 h45) hkd S7.1 e80 e79 V7 gx gy
  exact md_val (ext := ext) L X v1 S7 (by omega) (am_up r9 (by omega)) V9 F7 on
/-- if -/
theorem nt_4 {p : tr_P} {B BA BB BV BZ kd : Nat} {A A' V Z : tr_T} {x y v z : Option UInt64} (hd : 6 ≤ d) (hB : BA + 1 ≤ B) (hB' : BB + 1 ≤ B) (hBv : BV + 1 ≤ B) (hBz : BZ + 1 ≤ B) (h1 : 1 ≤ BA) (hkd : kd = 12 ∨ kd = 13) (hp : p.1 < 192) (h45 : J 45 p.1 = nI kd) (h47 : J 47 p.1 = nI (tr_rt A)) (h48 : J 48 p.1 = nI (tr_rt A')) (h49 : J 49 p.1 = nI (tr_rt V)) (h50 : J 50 p.1 = nI (tr_rt Z)) (G : md_G ext d L X v1 J Y A t x BA) (G' : md_G ext d L X v1 J Y A' t y BB) (GV : md_G ext d L X v1 J Y V t v BV) (GZ : md_G ext d L X v1 J Y Z t z BZ) (gx : og x) (gy : og y) : md_G ext d L X v1 J Y (tr_4 p A A' V Z) t (if de_ik kd x y = true then v else z) B := by
  intro f I D P hf hJ S on
  refine nt_ab (ext := ext) L X v1 (T := tr_4 p A A' V Z) h1 hd (by omega) (by omega) (by omega) hp rfl h45 h47 h48 G G' hJ S (fun I7 D7 F7 S7 e80 e79 V7 => ?_)
  have hJ7 := md_J_fr hJ F7
  have S8 := md_1_S S7
  -- the chosen one is laid
  have fin : ∀ (W : tr_T) (w : Option UInt64) (BW : Nat), BW + 1 ≤ B → md_G ext d L X v1 J Y W t w BW → (if de_ik kd x y = true then I7 49 p.1 else I7 50 p.1) = nI (tr_rt W) → (∀ I' D', md_fr f I D I' D' → I' 42 47 = nI f → md_v w I' D' → md_hd ext d L X v1 I' D' P) → md_hd ext d L X v1 I7 D7 P := by
    intro W w BW hBW GW eW on
    obtain ⟨I9, D9, r9, Cz⟩ := c189 (ext := ext) (d := 0) L X (I := me_1 I7 f 2) (D := D7) (nI (tr_rt W)) S8.1 (by omega) (show f < 128 by omega) S8.2.2.2.1 S8.2.2.2.2
    refine md_par (ext := ext) L X v1 S7 (am_up (c192_i (ext := ext) L X (nt_Q (by omega) hp (by omega) S7 hJ7 h45) hkd e80 e79 V7 gx gy (by rw [eW]; exact r9)) (by omega)) S8 (md_1_fr f 2 I7 D7) GW (by omega) hJ7 Cz (fun I3 D3 F3 S3 V3 => ?_)
    have F4 := md_fr_t F7 (md_fr_t (md_1_fr f 2 I7 D7) F3 (by omega)) (Nat.le_refl _)
    have hJ3 := md_J_fr hJ F4
    have S4 := md_1_S S3
    obtain ⟨I5, D5, r5, V5⟩ := c190 (ext := ext) (d := 0) L X (I := me_1 I3 f 3) (D := D3) (o := w) (v := D3 42 67) S4.1 (by omega) (dbl_v V3.2)
    exact md_val (ext := ext) L X v1 S3 (by omega) (am_up (c192_e (ext := ext) L X (nt_Q (by omega) hp (by omega) S3 hJ3 h45) hkd (by rw [V3.1]; exact r5)) (by omega)) V5 F4 on
  cases hb : de_ik kd x y with
  | true =>
    rw [hb, if_pos rfl] at on
    exact fin V v BV hBv GV (by rw [hb, if_pos rfl, hJ7.1 49 p.1 (by omega) (by omega), h49]) on
  | false =>
    rw [hb, if_neg (by decide)] at on
    exact fin Z z BZ hBz GZ (by rw [hb, if_neg (by decide), hJ7.1 50 p.1 (by omega) (by omega), h50]) on
end MDGO
