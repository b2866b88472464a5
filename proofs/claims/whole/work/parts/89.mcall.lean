/-! ===== the reference asks: if, calls ===== -/
theorem me_u_S {w u f k s n : Nat} {a b : Int64} {I : Nat → Nat → Int32} {L : Nat → Nat → Int64} (h : me_S w u f k s a b I L) : me_S w u f k n a b (am_uI I 60 f (nI n)) L := by
  obtain ⟨h1, h2, h3, h4, h5, h6, h7⟩ := h
  refine ⟨?_, ?_, ?_, ?_, ?_, h6, h7⟩
  · rw [am_uI_at, if_neg (by omega)]; exact h1
  · rw [am_uI_at, if_neg (by omega)]; exact h2
  · rw [am_uI_at, if_neg (by omega)]; exact h3
  · rw [am_uI_at, if_neg (by omega)]; exact h4
  · rw [am_uI_at, if_pos ⟨rfl, rfl⟩]
theorem me_u_fr (f n : Nat) (I : Nat → Nat → Int32) (L : Nat → Nat → Int64) : me_fr f I L (am_uI I 60 f (nI n)) L := ⟨fun p q g1 g2 => by rw [am_uI_at, if_neg (by omega)], fun _ _ _ _ => rfl⟩
section MCALL
variable {ext : Nat → List Value → am_M → Option am_R} {d : Nat} (D : Nat → Nat → UInt64) (X : am_Rf) {J : Nat → Nat → Int32} {w : Nat} {a b : Int64}
/-- the last step of an if -/
theorem mt_4e {P : am_R → Prop} {f u k n kd : Nat} {I0 I : Nat → Nat → Int32} {L0 L : Nat → Nat → Int64} {o : Option (Int64 × Int64)} {r : ev_R} (hw : w ≤ 20) (hd : 6 ≤ d) (hkd : kd = 12 ∨ kd = 13) (hk : k < 192) (hr : r = (o, n)) (S : me_S w (u + n) f k 10 a b I L) (hf : f < 128) (hn : u + n ≤ 20000) (hJ : me_J J I) (h45 : J 45 k = nI kd) (V : me_v o I L) (ho : gd w o) (F : me_fr f I0 L0 I L) (on : u + r.2 ≤ 20000 → ∀ I' L', me_fr f I0 L0 I' L' → I' 42 47 = nI f → I' 42 49 = nI (u + r.2) → me_v r.1 I' L' → me_hd ext d D X I' L' P) : me_hd ext d D X I L P := by
  have S4 := me_1_S S
  have V4 := me_v_1 (f := f) (s := 10) V
  obtain ⟨I5, L5, r5, V5⟩ := c151_v (ext := ext) (d := 0) D X (I := me_1 I f 10) (L := L) hw S4.1 hf S4.2.1 V4.1 V4.2 ho
  exact me_val (ext := ext) D X hr S hf hn (am_up (c161_12 (ext := ext) D X (mt_Q hf hk (by omega) S hJ h45) hkd (c165_10 (ext := ext) D X r5)) (by omega)) V5 F on
theorem mt_4 {p : tr_P} {B Ba Bb Bv Bz : Nat} {A A' V Z : tr_T} {x y v z : ev_R} (hw : w ≤ 20) (hd : 6 ≤ d) (ha : Ba + 1 ≤ B) (hb : Bb + 1 ≤ B) (hv : Bv + 1 ≤ B) (hz : Bz + 1 ≤ B) (a1 : 1 ≤ Ba) (b1 : 1 ≤ Bb) (v1 : 1 ≤ Bv) (z1 : 1 ≤ Bz) (hkd : p.2.1 = 12 ∨ p.2.1 = 13) (hp : p.1 < 192) (h45 : J 45 p.1 = nI p.2.1) (h47 : J 47 p.1 = nI (tr_rt A)) (h48 : J 48 p.1 = nI (tr_rt A')) (h49 : J 49 p.1 = nI (tr_rt V)) (h50 : J 50 p.1 = nI (tr_rt Z)) (GA : me_G ext d D X J w A x a b Ba) (GB : me_G ext d D X J w A' y a b Bb) (GV : me_G ext d D X J w V v a b Bv) (GZ : me_G ext d D X J w Z z a b Bz) (hx : gd w x.1) (hy : gd w y.1) (hgv : gd w v.1) (hgz : gd w z.1) : me_G ext d D X J w (tr_4 p A A' V Z) (ev_4 w p x y v z) a b B := by
  have le : x.2 + y.2 + 1 ≤ (ev_4 w p x y v z).2 := by
    unfold ev_4
    split
    · split
      · simp only; omega
      · split
        · simp only; omega
        · simp only; omega
    · simp only; omega
  refine ⟨by omega, fun f u I L P hf hJ S hu on ab => ?_⟩
  have S1 := me_1_S S
  obtain ⟨I2, L2, r, C⟩ := c150 (ext := ext) (d := 0) D X (I := me_1 I f 0) (L := L) S1.1 (by omega) S1.2.2.1 hu (nI (tr_rt A)) a b
  refine me_par (ext := ext) D X S hu (am_up (c161_12 (ext := ext) D X (mt_Q (by omega) hp (by omega) S hJ h45) hkd (c165_0 (ext := ext) D X (show f < 128 by omega) hp (by rw [me_1_at (by omega), hJ 47 p.1 (by omega) (by omega), h47, S.2.2.2.2.2.1, S.2.2.2.2.2.2]; exact r))) (by omega)) S1 (me_1_fr f 0 I L) GA (by omega) hJ C (fun h I3 L3 F S3 V3 => ?_) (fun h I3 L3 F h49 => ab (by omega) I3 L3 F h49)
  have F3 := me_fr_t (me_1_fr f 0 I L) F (by omega)
  have hJ3 := me_J_fr hJ F3
  have S4 := me_1_S S3
  have V4 := me_v_1 (f := f) (s := 1) V3
  obtain ⟨I5, L5, r5, K5⟩ := c160 (ext := ext) (d := 0) D X (I := me_1 I3 f 1) (L := L3) (show f < 128 by omega) (me_v01 V4)
  have S5 := me_K_S S4 K5
  have F5 := me_fr_t (me_1_fr f 1 I3 L3) (me_K_fr K5) (Nat.le_refl _)
  have hJ5 := me_J_fr hJ3 F5
  obtain ⟨I6, L6, r6, Cb⟩ := c150 (ext := ext) (d := 0) D X (I := I5) (L := L5) S5.1 (by omega) S5.2.2.1 h (nI (tr_rt A')) a b
  refine me_par (ext := ext) D X S3 h (am_up (c161_12 (ext := ext) D X (mt_Q (by omega) hp (by omega) S3 hJ3 h45) hkd (c165_1 (ext := ext) D X (show f < 128 by omega) hp r5 (by rw [hJ5 48 p.1 (by omega) (by omega), h48, S5.2.2.2.2.2.1, S5.2.2.2.2.2.2]; exact r6))) (by omega)) S5 F5 GB (by omega) hJ3 Cb (fun h' I7 L7 F7 S7 V7 => ?_) (fun h' I7 L7 F7 h49 => ab (by omega) I7 L7 (me_fr_t F3 F7 (by omega)) h49)
  have F8 := me_fr_t F3 (me_fr_t F5 F7 (by omega)) (by omega)
  have hJ7 := me_J_fr hJ F8
  have S8 := me_1_S S7
  have V8 := me_v_1 (f := f) (s := 2) V7
  have e65 : me_1 I7 f 2 65 f = if x.1 = none then 0 else 1 := by rw [me_1_at (by omega), F7.1 65 f (by omega) (by omega), K5.1]; exact V4.1
  have e63 : ∀ q, x.1 = some q → L7 63 f = q.1 ∧ L7 64 f = q.2 := fun q hq => by rw [F7.2 63 f (by omega) (by omega), F7.2 64 f (by omega) (by omega), K5.2.1, K5.2.2.1]; exact V4.2 q hq
  have no : (x.1 = none ∨ y.1 = none) → ev_4 w p x y v z = (none, x.2 + y.2 + 1) → me_hd ext d D X I7 L7 P := by
    intro ho er
    rw [show u + 1 + x.2 + y.2 = u + (x.2 + y.2 + 1) by omega] at S7 h'
    obtain ⟨I9, L9, r9, V9⟩ := c165_2n (ext := ext) (d := 0) (k := p.1) D X (I := me_1 I7 f 2) (L := L7) (show f < 128 by omega) S8.1 (by omega) e65 V8 ho
    exact me_val (ext := ext) D X er S7 (by omega) h' (am_up (c161_12 (ext := ext) D X (mt_Q (by omega) hp (by omega) S7 hJ7 h45) hkd r9) (by omega)) V9 F8 on
  cases ex : x.1 with
  | none => exact no (Or.inl ex) (by unfold ev_4; rw [ex])
  | some q =>
    cases ey : y.1 with
    | none => exact no (Or.inr ey) (by unfold ev_4; rw [ex, ey])
    | some s =>
      have er : ev_4 w p x y v z = if sp_ch p.2.1 q s = 1 then (v.1, x.2 + y.2 + 1 + v.2) else if sp_ch p.2.1 q s = 2 then (z.1, x.2 + y.2 + 1 + z.2) else (sp_j w v.1 z.1, x.2 + y.2 + 1 + v.2 + z.2) := by unfold ev_4; rw [ex, ey]
      rw [ex, if_neg (by intro q; cases q)] at e65
      rw [ey] at V8
      have gq := hx q ex
      have gs := hy s ey
      have c3 : sp_ch p.2.1 q s = 1 ∨ sp_ch p.2.1 q s = 2 ∨ sp_ch p.2.1 q s = 3 := by
        unfold sp_ch
        split
        · split
          · exact Or.inl rfl
          · split
            · exact Or.inr (Or.inl rfl)
            · exact Or.inr (Or.inr rfl)
        · split
          · exact Or.inl rfl
          · split
            · exact Or.inr (Or.inl rfl)
            · exact Or.inr (Or.inr rfl)
      -- a choice is laid
      have lay : ∀ (T : tr_T) (kn : Nat), (if sp_ch p.2.1 q s = 2 then J 50 p.1 else J 49 p.1) = nI (tr_rt T) → (if sp_ch p.2.1 q s = 3 then 3 else 10) = kn → ∃ I9 L9, am_Rn ext d 161 [.ref 42, .int (nI f)] (I7, L7, D, am_rf X) (none, (I9, L9, D, am_rf X)) ∧ me_C (f + 1) (u + 1 + x.2 + y.2) (nI (tr_rt T)) a b (am_uI (me_1 I7 f 2) 60 f (nI kn)) L7 I9 L9 := by
        intro T kn hT hn
        have S9 := me_u_S (n := kn) S8
        obtain ⟨I9, L9, r9, Cc⟩ := c150 (ext := ext) (d := 0) D X (I := am_uI (me_1 I7 f 2) 60 f (nI kn)) (L := L7) S9.1 (by omega) S9.2.2.1 h' (nI (tr_rt T)) a b
        refine ⟨I9, L9, am_up (c161_12 (ext := ext) D X (mt_Q (by omega) hp (by omega) S7 hJ7 h45) hkd (c165_2 (ext := ext) (d := 1) D X hkd (show f < 128 by omega) hp (by rw [me_1_at (by omega), hJ7 45 p.1 (by omega) (by omega)]; exact h45) e65 (e63 q ex) V8 gq gs ?_)) (by omega), Cc⟩
        rw [me_1_at (by omega), me_1_at (by omega), hJ7 50 p.1 (by omega) (by omega), hJ7 49 p.1 (by omega) (by omega), hT, hn, S7.2.2.2.2.2.1, S7.2.2.2.2.2.2]
        exact r9
      have F9 := fun (kn : Nat) => me_fr_t (me_1_fr f 2 I7 L7) (me_u_fr f kn (me_1 I7 f 2) L7) (Nat.le_refl _)
      rcases c3 with c | c | c
      · rw [c, if_pos rfl] at er
        rw [er] at on ab
        obtain ⟨I9, L9, r9, Cc⟩ := lay V 10 (by rw [c, if_neg (by omega)]; exact h49) (by rw [c, if_neg (by omega)])
        refine me_par (ext := ext) D X S7 h' r9 (me_u_S (n := 10) S8) (F9 10) GV (by omega) hJ7 Cc (fun hq Ia La Fa Sa Va => ?_) (fun hq Ia La Fa h49 => ab (by simp only; omega) Ia La (me_fr_t F8 Fa (by omega)) h49)
        rw [show u + 1 + x.2 + y.2 + v.2 = u + (x.2 + y.2 + 1 + v.2) by omega] at Sa hq
        have Fb := me_fr_t F8 (me_fr_t (F9 10) Fa (by omega)) (Nat.le_refl _)
        exact mt_4e (ext := ext) D X hw hd hkd hp rfl Sa (by omega) hq (me_J_fr hJ Fb) h45 Va hgv Fb on
      · rw [c, if_neg (by omega), if_pos rfl] at er
        rw [er] at on ab
        obtain ⟨I9, L9, r9, Cc⟩ := lay Z 10 (by rw [c, if_pos rfl]; exact h50) (by rw [c, if_neg (by omega)])
        refine me_par (ext := ext) D X S7 h' r9 (me_u_S (n := 10) S8) (F9 10) GZ (by omega) hJ7 Cc (fun hq Ia La Fa Sa Va => ?_) (fun hq Ia La Fa h49 => ab (by simp only; omega) Ia La (me_fr_t F8 Fa (by omega)) h49)
        rw [show u + 1 + x.2 + y.2 + z.2 = u + (x.2 + y.2 + 1 + z.2) by omega] at Sa hq
        have Fb := me_fr_t F8 (me_fr_t (F9 10) Fa (by omega)) (Nat.le_refl _)
        exact mt_4e (ext := ext) D X hw hd hkd hp rfl Sa (by omega) hq (me_J_fr hJ Fb) h45 Va hgz Fb on
      · rw [c, if_neg (by omega), if_neg (by omega)] at er
        rw [er] at on ab
        obtain ⟨I9, L9, r9, Cc⟩ := lay V 3 (by rw [c, if_neg (by omega)]; exact h49) (by rw [c, if_pos rfl])
        refine me_par (ext := ext) D X S7 h' r9 (me_u_S (n := 3) S8) (F9 3) GV (by omega) hJ7 Cc (fun hq Ia La Fa Sa Va => ?_) (fun hq Ia La Fa h49 => ab (by simp only; omega) Ia La (me_fr_t F8 Fa (by omega)) h49)
        have Fb := me_fr_t F8 (me_fr_t (F9 3) Fa (by omega)) (Nat.le_refl _)
        have hJa := me_J_fr hJ Fb
        have Sb := me_1_S Sa
        have Vb := me_v_1 (f := f) (s := 3) Va
        obtain ⟨Ic, Lc, rc, Kc⟩ := c160 (ext := ext) (d := 0) D X (I := me_1 Ia f 3) (L := La) (show f < 128 by omega) (me_v01 Vb)
        have Sc := me_K_S Sb Kc
        have Fc := me_fr_t (me_1_fr f 3 Ia La) (me_K_fr Kc) (Nat.le_refl _)
        have hJc := me_J_fr hJa Fc
        obtain ⟨Id, Ld, rd, Cd⟩ := c150 (ext := ext) (d := 0) D X (I := Ic) (L := Lc) Sc.1 (by omega) Sc.2.2.1 hq (nI (tr_rt Z)) a b
        refine me_par (ext := ext) D X Sa hq (am_up (c161_12 (ext := ext) D X (mt_Q (by omega) hp (by omega) Sa hJa h45) hkd (c165_3 (ext := ext) D X (show f < 128 by omega) hp rc (by rw [hJc 50 p.1 (by omega) (by omega), h50, Sc.2.2.2.2.2.1, Sc.2.2.2.2.2.2]; exact rd))) (by omega)) Sc Fc GZ (by omega) hJa Cd (fun hr Ie Le Fe Se Ve => ?_) (fun hr Ie Le Fe h49 => ab (by simp only; omega) Ie Le (me_fr_t Fb Fe (by omega)) h49)
        rw [show u + 1 + x.2 + y.2 + v.2 + z.2 = u + (x.2 + y.2 + 1 + v.2 + z.2) by omega] at Se hr
        have Ff := me_fr_t Fb (me_fr_t Fc Fe (by omega)) (Nat.le_refl _)
        have hJe := me_J_fr hJ Ff
        have Sf := me_1_S Se
        have g65 : me_1 Ie f 4 65 f = if v.1 = none then 0 else 1 := by rw [me_1_at (by omega), Fe.1 65 f (by omega) (by omega), Kc.1]; exact Vb.1
        have g63 : ∀ q, v.1 = some q → Le 63 f = q.1 ∧ Le 64 f = q.2 := fun q hq => by rw [Fe.2 63 f (by omega) (by omega), Fe.2 64 f (by omega) (by omega), Kc.2.1, Kc.2.2.1]; exact Vb.2 q hq
        obtain ⟨Ig, Lg, rg, Vg⟩ := c165_4 (ext := ext) (d := 0) (k := p.1) D X (I := me_1 Ie f 4) (L := Le) (show f < 128 by omega) Sf.1 (by omega) Sf.2.1 g65 g63 (me_v_1 Ve)
        exact me_val (ext := ext) D X rfl Se (by omega) hr (am_up (c161_12 (ext := ext) D X (mt_Q (by omega) hp (by omega) Se hJe h45) hkd rg) (by omega)) Vg Ff on
/-- a function's call: its part first -/
theorem mt_14 {p : tr_P} {B Ba Bf l : Nat} {A T' : tr_T} {x : ev_R} {E : Nat → Int64 → Int64 → ev_R} (hw : w ≤ 20) (hd : 6 ≤ d) (hB : Ba + 1 ≤ B) (hBf : Bf + 1 ≤ B) (a1 : 1 ≤ Ba) (hkd : p.2.1 = 14) (hp : p.1 < 192) (h45 : J 45 p.1 = nI 14) (h46 : J 46 p.1 = nI l) (hl : l < 26) (h47 : J 47 p.1 = nI (tr_rt A)) (h52 : J 52 l = nI (tr_rt T')) (G : me_G ext d D X J w A x a b Ba) (hx : gd w x.1) (GE : ∀ c e, gd2 w c e → me_G ext d D X J w T' (E p.2.2.2.1 c e) c e Bf) (gE : ∀ c e, gd2 w c e → gd w (E p.2.2.2.1 c e).1) : me_G ext d D X J w (tr_1 p A) (ev_1 w E p x) a b B := by
  have hbk : am_inb (nI p.1) 192 = true := ni_inb hp (by omega)
  have ek : (nI p.1).toNatClampNeg = p.1 := ni_nat (by omega)
  have el : (nI l).toNatClampNeg = l := ni_nat (by omega)
  have le : x.2 + 1 ≤ (ev_1 w E p x).2 := by
    unfold ev_1
    split
    · exact Nat.le_refl _
    · rw [if_pos hkd]; simp only; omega
  refine ⟨by omega, fun f u I L P hf hJ S hu on ab => ?_⟩
  have hbf : am_inb (nI f) 128 = true := ni_inb (by omega) (by omega)
  have ef : (nI f).toNatClampNeg = f := ni_nat (by omega)
  have S1 := me_1_S S
  obtain ⟨I2, L2, r, C⟩ := c150 (ext := ext) (d := 0) D X (I := me_1 I f 0) (L := L) S1.1 (by omega) S1.2.2.1 hu (nI (tr_rt A)) a b
  have r1 : am_Rn ext 2 166 [.ref 42, .int (nI f), .int (nI p.1), .int (nI 0)] (me_1 I f 0, L, D, am_rf X) (none, (I2, L2, D, am_rf X)) := by
    refine am_rn_of mh_166 rfl (w166_0 _ L D X (nI f) (nI p.1) (nI 0) ⟨fun z => absurd rfl z, fun _ => ⟨hbk, hbf, hbf, I2, L2, D, ?_, rfl⟩⟩)
    rw [ef, ek, me_1_at (by omega), hJ 47 p.1 (by omega) (by omega), h47, S.2.2.2.2.2.1, S.2.2.2.2.2.2]
    exact r
  refine me_par (ext := ext) D X S hu (am_up (c161_14 (ext := ext) D X (mt_Q (by omega) hp (by omega) S hJ h45) r1) (by omega)) S1 (me_1_fr f 0 I L) G (by omega) hJ C (fun h I3 L3 F S3 V3 => ?_) (fun h I3 L3 F h49 => ab (by omega) I3 L3 F h49)
  have F3 := me_fr_t (me_1_fr f 0 I L) F (by omega)
  have hJ3 := me_J_fr hJ F3
  have S4 := me_1_S S3
  have V4 := me_v_1 (f := f) (s := 1) V3
  cases ex : x.1 with
  | none =>
    have er : ev_1 w E p x = (none, x.2 + 1) := by unfold ev_1; rw [ex]
    rw [ex] at V4
    rw [show u + 1 + x.2 = u + (x.2 + 1) by omega] at S3 h
    obtain ⟨I5, L5, r5, V5⟩ := c151_0 (ext := ext) (d := 0) D X (I := me_1 I3 f 1) (L := L3) S4.1 (by omega) (L3 42 51) (L3 42 52)
    have r6 : am_Rn ext 2 166 [.ref 42, .int (nI f), .int (nI p.1), .int (nI 1)] (me_1 I3 f 1, L3, D, am_rf X) (none, (I5, L5, D, am_rf X)) := am_rn_of mh_166 rfl (w166_0 _ L3 D X (nI f) (nI p.1) (nI 1) ⟨fun _ => ⟨fun z => absurd rfl z, fun _ => ⟨fun _ => w166_67 _ L3 D X (nI 1) ⟨fun _ => ⟨I5, L5, D, r5, rfl⟩, fun z => absurd (by decide) z⟩, fun z => absurd (me_v0 V4) z⟩⟩, fun z => absurd z (by decide)⟩)
    exact me_val (ext := ext) D X er S3 (by omega) h (am_up (c161_14 (ext := ext) D X (mt_Q (by omega) hp (by omega) S3 hJ3 h45) r6) (by omega)) V5 F3 on
  | some q =>
    have er : ev_1 w E p x = ((E p.2.2.2.1 q.1 q.2).1, x.2 + 1 + (E p.2.2.2.1 q.1 q.2).2) := by unfold ev_1; rw [ex]; simp only; rw [if_pos hkd]
    rw [er] at on ab
    have gq := hx q ex
    rw [ex] at V4
    obtain ⟨v0, v1, v2⟩ := me_v1 V4
    obtain ⟨I5, L5, r5, Cb⟩ := c150 (ext := ext) (d := 0) D X (I := me_1 I3 f 1) (L := L3) S4.1 (by omega) S4.2.2.1 h (nI (tr_rt T')) q.1 q.2
    have r6 : am_Rn ext 2 166 [.ref 42, .int (nI f), .int (nI p.1), .int (nI 1)] (me_1 I3 f 1, L3, D, am_rf X) (none, (I5, L5, D, am_rf X)) := by
      refine am_rn_of mh_166 rfl (w166_0 _ L3 D X (nI f) (nI p.1) (nI 1) ⟨fun _ => ⟨fun z => absurd rfl z, fun _ => ⟨fun z => ?_, fun _ => ?_⟩⟩, fun z => absurd z (by decide)⟩)
      · rw [v0] at z; exact absurd z (by decide)
      · rw [ek, me_1_at (by omega), hJ3 46 p.1 (by omega) (by omega), h46, el, me_1_at (by omega), hJ3 52 l (by omega) (by omega), h52, v1, v2]
        exact ⟨hbk, ni_inb (by omega) (by omega), I5, L5, D, r5, rfl⟩
    refine me_par (ext := ext) D X S3 h (am_up (c161_14 (ext := ext) D X (mt_Q (by omega) hp (by omega) S3 hJ3 h45) r6) (by omega)) S4 (me_1_fr f 1 I3 L3) (GE q.1 q.2 gq) (by omega) hJ3 Cb (fun h' I7 L7 F7 S7 V7 => ?_) (fun h' I7 L7 F7 h49 => ab (by simp only; omega) I7 L7 (me_fr_t F3 F7 (by omega)) h49)
    rw [show u + 1 + x.2 + (E p.2.2.2.1 q.1 q.2).2 = u + (x.2 + 1 + (E p.2.2.2.1 q.1 q.2).2) by omega] at S7 h'
    have F8 := me_fr_t F3 (me_fr_t (me_1_fr f 1 I3 L3) F7 (by omega)) (Nat.le_refl _)
    have hJ7 := me_J_fr hJ F8
    have S8 := me_1_S S7
    have V8 := me_v_1 (f := f) (s := 2) V7
    obtain ⟨I9, L9, r9, V9⟩ := c151_v (ext := ext) (d := 0) D X (I := me_1 I7 f 2) (L := L7) (i50 := me_1 I7 f 2 42 50) (l51 := L7 42 51) (l52 := L7 42 52) hw S8.1 (by omega) S8.2.1 V8.1 V8.2 (gE q.1 q.2 gq)
    have r10 : am_Rn ext 2 166 [.ref 42, .int (nI f), .int (nI p.1), .int (nI 2)] (me_1 I7 f 2, L7, D, am_rf X) (none, (I9, L9, D, am_rf X)) := by
      refine am_rn_of mh_166 rfl (w166_0 _ L7 D X (nI f) (nI p.1) (nI 2) ⟨fun _ => ⟨fun _ => w166_67 _ L7 D X (nI 2) ⟨fun z => absurd z (by decide), fun _ => ⟨fun z => ⟨I9, L9, D, ?_, rfl⟩, fun z => ⟨I9, L9, D, ?_, rfl⟩⟩⟩, fun z => absurd z (by decide)⟩, fun z => absurd z (by decide)⟩)
      · rw [z] at r9; exact r9
      · rcases me_v01 V8 with y | y
        · exact absurd y z
        · rw [y] at r9; exact r9
    exact me_val (ext := ext) D X rfl S7 (by omega) h' (am_up (c161_14 (ext := ext) D X (mt_Q (by omega) hp (by omega) S7 hJ7 h45) r10) (by omega)) V9 F8 on
end MCALL
