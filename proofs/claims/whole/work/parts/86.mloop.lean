/-! ===== the reference asks: the loop ===== -/
def me_hd (ext : Nat → List Value → am_M → Option am_R) (d : Nat) (D : Nat → Nat → UInt64) (X : am_Rf) (I : Nat → Nat → Int32) (L : Nat → Nat → Int64) (P : am_R → Prop) : Prop := am_wp ext d mz_153 (18, [some (.ref 42), none, none, none, none, none], [], (I, L, D, am_rf X)) P
def me_fr (f : Nat) (I : Nat → Nat → Int32) (L : Nat → Nat → Int64) (I' : Nat → Nat → Int32) (L' : Nat → Nat → Int64) : Prop := (∀ p q, ¬ (p = 42 ∧ (q = 47 ∨ q = 49 ∨ q = 50)) → ¬ ((p = 59 ∨ p = 60 ∨ p = 65 ∨ p = 68) ∧ f ≤ q) → I' p q = I p q) ∧ (∀ p q, ¬ (p = 42 ∧ (q = 51 ∨ q = 52)) → ¬ (((61 ≤ p ∧ p ≤ 64) ∨ p = 66 ∨ p = 67) ∧ f ≤ q) → L' p q = L p q)
def me_S (w u f k s : Nat) (a b : Int64) (I : Nat → Nat → Int32) (L : Nat → Nat → Int64) : Prop := I 42 47 = nI (f + 1) ∧ I 42 48 = nI w ∧ I 42 49 = nI u ∧ I 59 f = nI k ∧ I 60 f = nI s ∧ L 61 f = a ∧ L 62 f = b
def me_J (J I : Nat → Nat → Int32) : Prop := ∀ p q, 45 ≤ p → p ≤ 53 → I p q = J p q
theorem me_fr_0 (f : Nat) (I : Nat → Nat → Int32) (L : Nat → Nat → Int64) : me_fr f I L I L := ⟨fun _ _ _ _ => rfl, fun _ _ _ _ => rfl⟩
theorem me_fr_t {f f' : Nat} {I I1 I2 : Nat → Nat → Int32} {L L1 L2 : Nat → Nat → Int64} (h1 : me_fr f I L I1 L1) (h2 : me_fr f' I1 L1 I2 L2) (h : f ≤ f') : me_fr f I L I2 L2 := ⟨fun p q g1 g2 => (h2.1 p q g1 (by omega)).trans (h1.1 p q g1 g2), fun p q g1 g2 => (h2.2 p q g1 (by omega)).trans (h1.2 p q g1 g2)⟩
theorem me_J_fr {f : Nat} {J I I' : Nat → Nat → Int32} {L L' : Nat → Nat → Int64} (h : me_J J I) (F : me_fr f I L I' L') : me_J J I' := fun p q g1 g2 => (F.1 p q (by omega) (by omega)).trans (h p q g1 g2)
theorem me_1_S {w u f k s : Nat} {a b : Int64} {I : Nat → Nat → Int32} {L : Nat → Nat → Int64} (h : me_S w u f k s a b I L) : me_S w u f k (s + 1) a b (me_1 I f s) L := by
  obtain ⟨h1, h2, h3, h4, h5, h6, h7⟩ := h
  unfold me_1
  refine ⟨?_, ?_, ?_, ?_, ?_, h6, h7⟩
  · rw [am_uI_at, if_neg (by omega)]; exact h1
  · rw [am_uI_at, if_neg (by omega)]; exact h2
  · rw [am_uI_at, if_neg (by omega)]; exact h3
  · rw [am_uI_at, if_neg (by omega)]; exact h4
  · rw [am_uI_at, if_pos ⟨rfl, rfl⟩]
theorem me_1_fr (f s : Nat) (I : Nat → Nat → Int32) (L : Nat → Nat → Int64) : me_fr f I L (me_1 I f s) L := ⟨fun p q g1 g2 => by unfold me_1; rw [am_uI_at, if_neg (by omega)], fun _ _ _ _ => rfl⟩
theorem me_S_fr {w u u' f k s : Nat} {a b : Int64} {I I' : Nat → Nat → Int32} {L L' : Nat → Nat → Int64} (h : me_S w u f k s a b I L) (F : me_fr (f + 1) I L I' L') (h47 : I' 42 47 = nI (f + 1)) (h49 : I' 42 49 = nI u') : me_S w u' f k s a b I' L' :=
  ⟨h47, (F.1 42 48 (by omega) (by omega)).trans h.2.1, h49, (F.1 59 f (by omega) (by omega)).trans h.2.2.2.1, (F.1 60 f (by omega) (by omega)).trans h.2.2.2.2.1, (F.2 61 f (by omega) (by omega)).trans h.2.2.2.2.2.1, (F.2 62 f (by omega) (by omega)).trans h.2.2.2.2.2.2⟩
theorem me_K_fr {f : Nat} {I I' : Nat → Nat → Int32} {L L' : Nat → Nat → Int64} (h : me_K f I L I' L') : me_fr f I L I' L' := ⟨fun p q g1 g2 => h.2.2.2.1 p q (by omega), fun p q g1 g2 => h.2.2.2.2 p q (by omega)⟩
theorem me_K_S {w u f k s : Nat} {a b : Int64} {I I' : Nat → Nat → Int32} {L L' : Nat → Nat → Int64} (h : me_S w u f k s a b I L) (K : me_K f I L I' L') : me_S w u f k s a b I' L' :=
  ⟨(K.2.2.2.1 _ _ (by omega)).trans h.1, (K.2.2.2.1 _ _ (by omega)).trans h.2.1, (K.2.2.2.1 _ _ (by omega)).trans h.2.2.1, (K.2.2.2.1 _ _ (by omega)).trans h.2.2.2.1, (K.2.2.2.1 _ _ (by omega)).trans h.2.2.2.2.1, (K.2.2.2.2 _ _ (by omega)).trans h.2.2.2.2.2.1, (K.2.2.2.2 _ _ (by omega)).trans h.2.2.2.2.2.2⟩
theorem me_C_fr {g u : Nat} {k : Int32} {a b : Int64} {I I' : Nat → Nat → Int32} {L L' : Nat → Nat → Int64} (h : me_C g u k a b I L I' L') : me_fr g I L I' L' := ⟨fun p q g1 g2 => h.2.2.2.2.2.2.1 p q (by omega) (by omega), fun p q g1 g2 => h.2.2.2.2.2.2.2 p q (by omega)⟩
theorem me_V_fr {g : Nat} {o : Option (Int64 × Int64)} {I I' : Nat → Nat → Int32} {L L' : Nat → Nat → Int64} (h : me_V g o I L I' L') : me_fr g I L I' L' := ⟨fun p q g1 g2 => h.2.2.1 p q (by omega), fun p q g1 g2 => h.2.2.2 p q (by omega)⟩
section MLOOP
variable {ext : Nat → List Value → am_M → Option am_R} {d : Nat} (D : Nat → Nat → UInt64) (X : am_Rf) {P : am_R → Prop}
theorem me_step {f u : Nat} {I I' : Nat → Nat → Int32} {L L' : Nat → Nat → Int64} (h47 : I 42 47 = nI (f + 1)) (hf : f < 128) (h49 : I 42 49 = nI u) (hu : u ≤ 20000) (r : am_Rn ext d 161 [.ref 42, .int (nI f)] (I, L, D, am_rf X) (none, (I', L', D, am_rf X))) (h : me_hd ext d D X I' L' P) : me_hd ext d D X I L P := by
  have e : I 42 47 - 1 = nI f := by rw [h47, show (1 : Int32) = nI 1 from rfl, ni_sub (by omega) (by omega)]; rfl
  refine w153_18 I L D X ⟨fun z => ?_, fun _ => ⟨fun z => ?_, fun _ => ⟨I', L', D, by rw [e]; exact r, h⟩⟩⟩
  · rw [h47] at z
    have := (ni_le (b := 0) (by omega) (by omega)).mp z
    omega
  · rw [h49] at z
    have := (ni_lt (a := 20000) (by omega) (by omega)).mp z
    omega
/-- a tree is asked: it is laid at place f, so far u knots ahead of it -/
def me_G (ext : Nat → List Value → am_M → Option am_R) (d : Nat) (D : Nat → Nat → UInt64) (X : am_Rf) (J : Nat → Nat → Int32) (w : Nat) (T : tr_T) (r : ev_R) (a b : Int64) (B : Nat) : Prop := 1 ≤ r.2 ∧ ∀ (f u : Nat) (I : Nat → Nat → Int32) (L : Nat → Nat → Int64) (P : am_R → Prop), f + B ≤ 128 → me_J J I → me_S w (u + 1) f (tr_rt T) 0 a b I L → u + 1 ≤ 20000 →
  (u + r.2 ≤ 20000 → ∀ I' L', me_fr f I L I' L' → I' 42 47 = nI f → I' 42 49 = nI (u + r.2) → me_v r.1 I' L' → me_hd ext d D X I' L' P) →
  (20000 < u + r.2 → ∀ I' L', me_fr f I L I' L' → I' 42 49 = nI 20001 → me_hd ext d D X I' L' P) → me_hd ext d D X I L P
theorem me_sub {J : Nat → Nat → Int32} {w u f k s B' : Nat} {a b a' b' : Int64} {T' : tr_T} {r' : ev_R} {I1 I2 : Nat → Nat → Int32} {L1 L2 : Nat → Nat → Int64} (G : me_G ext d D X J w T' r' a' b' B') (hf : f + 1 + B' ≤ 128) (hJ : me_J J I1) (S : me_S w u f k s a b I1 L1) (hu : u ≤ 20000) (C : me_C (f + 1) u (nI (tr_rt T')) a' b' I1 L1 I2 L2)
    (on : u + r'.2 ≤ 20000 → ∀ I3 L3, me_fr (f + 1) I1 L1 I3 L3 → me_S w (u + r'.2) f k s a b I3 L3 → me_v r'.1 I3 L3 → me_hd ext d D X I3 L3 P)
    (ab : 20000 < u + r'.2 → ∀ I3 L3, me_fr (f + 1) I1 L1 I3 L3 → I3 42 49 = nI 20001 → me_hd ext d D X I3 L3 P) : me_hd ext d D X I2 L2 P := by
  have F := me_C_fr C
  obtain ⟨h1, G⟩ := G
  by_cases hu1 : u + 1 ≤ 20000
  · refine G (f + 1) u I2 L2 P hf (me_J_fr hJ F) ⟨C.1, (F.1 42 48 (by omega) (by omega)).trans S.2.1, C.2.1, C.2.2.1, C.2.2.2.1, C.2.2.2.2.1, C.2.2.2.2.2.1⟩ hu1 (fun h I3 L3 F3 h47 h49 V => ?_) (fun h I3 L3 F3 h49 => ab h I3 L3 (me_fr_t F F3 (Nat.le_refl _)) h49)
    have F' := me_fr_t F F3 (Nat.le_refl _)
    exact on h I3 L3 F' (me_S_fr S F' h47 h49) V
  · have e : u = 20000 := by omega
    subst e
    exact ab (by omega) I2 L2 F C.2.1
/-- the last step of a knot -/
theorem me_val {w u f k s n : Nat} {a b : Int64} {o : Option (Int64 × Int64)} {r : ev_R} {I0 I I' : Nat → Nat → Int32} {L0 L L' : Nat → Nat → Int64} (hr : r = (o, n)) (S : me_S w (u + n) f k s a b I L) (hf : f < 128) (hn : u + n ≤ 20000) (V : am_Rn ext d 161 [.ref 42, .int (nI f)] (I, L, D, am_rf X) (none, (I', L', D, am_rf X))) (hV : me_V f o (me_1 I f s) L I' L') (F : me_fr f I0 L0 I L) (on : u + r.2 ≤ 20000 → ∀ I' L', me_fr f I0 L0 I' L' → I' 42 47 = nI f → I' 42 49 = nI (u + r.2) → me_v r.1 I' L' → me_hd ext d D X I' L' P) : me_hd ext d D X I L P := by
  subst hr
  refine me_step (ext := ext) D X S.1 hf S.2.2.1 hn V (on hn I' L' ?_ hV.1 ?_ hV.2.1)
  · exact me_fr_t (me_fr_t F (me_1_fr f s I L) (Nat.le_refl _)) (me_V_fr hV) (Nat.le_refl _)
  · rw [hV.2.2.1 42 49 (by omega)]
    exact (me_1_S S).2.2.1
/-- a step that lays a part -/
theorem me_par {J : Nat → Nat → Int32} {w u f k s B' : Nat} {a b a' b' : Int64} {T' : tr_T} {r' : ev_R} {I I1 I2 : Nat → Nat → Int32} {L L1 L2 : Nat → Nat → Int64} {s1 : Nat} (S : me_S w u f k s a b I L) (hu : u ≤ 20000) (V : am_Rn ext d 161 [.ref 42, .int (nI f)] (I, L, D, am_rf X) (none, (I2, L2, D, am_rf X))) (S1 : me_S w u f k s1 a b I1 L1) (F1 : me_fr f I L I1 L1) (G : me_G ext d D X J w T' r' a' b' B') (hf : f + 1 + B' ≤ 128) (hJ : me_J J I) (C : me_C (f + 1) u (nI (tr_rt T')) a' b' I1 L1 I2 L2)
    (on : u + r'.2 ≤ 20000 → ∀ I3 L3, me_fr (f + 1) I1 L1 I3 L3 → me_S w (u + r'.2) f k s1 a b I3 L3 → me_v r'.1 I3 L3 → me_hd ext d D X I3 L3 P)
    (ab : 20000 < u + r'.2 → ∀ I3 L3, me_fr f I L I3 L3 → I3 42 49 = nI 20001 → me_hd ext d D X I3 L3 P) : me_hd ext d D X I L P :=
  me_step (ext := ext) D X S.1 (by omega) S.2.2.1 hu V (me_sub (ext := ext) D X G hf (me_J_fr hJ F1) S1 hu C on (fun h I3 L3 F h49 => ab h I3 L3 (me_fr_t F1 F (by omega)) h49))
end MLOOP
theorem ev_1_m {w : Nat} {E : Nat → Int64 → Int64 → ev_R} {p : tr_P} (x : ev_R) (h : ¬ p.2.1 = 14) : ev_1 w E p x = (sp_m1 w p.2.1 x.1, x.2 + 1) := by
  obtain ⟨o, n⟩ := x
  unfold ev_1
  cases o with
  | none => rfl
  | some q => simp only; rw [if_neg h]; rfl
theorem ev_2_m {w : Nat} {p : tr_P} (x y : ev_R) : ev_2 w p x y = (sp_m2 w p.2.1 x.1 y.1, x.2 + y.2 + 1) := by
  obtain ⟨o, n⟩ := x
  obtain ⟨o', n'⟩ := y
  unfold ev_2
  cases o with
  | none => rfl
  | some q =>
    cases o' with
    | none => rfl
    | some q' => rfl
theorem sp_k_id {w : Nat} (hw : w ≤ 20) {a b : Int64} (h : gd2 w a b) : sp_k w a b = some (a, b) := by
  obtain ⟨p1, p2⟩ := p2_le hw
  obtain ⟨h1, h2, h3⟩ := h
  have el := sp_lim_i hw
  have en : (-(sp_lim w)).toInt = -(sp_lim w).toInt := i64_neg (by omega)
  unfold sp_k
  rw [if_neg (by rw [Int64.lt_iff_toInt_lt]; omega), if_neg (by rw [Int64.lt_iff_toInt_lt]; omega)]
/-- what came is given again -/
theorem c151_v {ext : Nat → List Value → am_M → Option am_R} {d : Nat} (D : Nat → Nat → UInt64) (X : am_Rf) {I : Nat → Nat → Int32} {L : Nat → Nat → Int64} {g w : Nat} {o : Option (Int64 × Int64)} (hw : w ≤ 20) (h47 : I 42 47 = nI (g + 1)) (hg : g < 128) (h48 : I 42 48 = nI w) {i50 : Int32} {l51 l52 : Int64} (h50 : i50 = if o = none then 0 else 1) (h51 : ∀ q, o = some q → l51 = q.1 ∧ l52 = q.2) (ho : gd w o) : ∃ I' L', am_Rn ext (d + 1) 151 [.ref 42, .int i50, .long l51, .long l52] (I, L, D, am_rf X) (none, (I', L', D, am_rf X)) ∧ me_V g o I L I' L' := by
  cases o with
  | none =>
    obtain ⟨I', L', r, G⟩ := c151_0 (ext := ext) (d := d) D X (I := I) (L := L) h47 hg l51 l52
    exact ⟨I', L', by rw [h50]; exact r, G⟩
  | some q =>
    obtain ⟨I', L', r, G⟩ := c151_1 (ext := ext) (d := d) D X (I := I) (L := L) h47 hg h48 q.1 q.2
    rw [sp_k_id hw (ho q rfl)] at G
    obtain ⟨e1, e2⟩ := h51 q rfl
    exact ⟨I', L', by rw [h50, e1, e2]; exact r, G⟩
