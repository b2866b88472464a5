/-! ===== the class asks: leaves over a span ===== -/
theorem w4_e : ∀ w : Fin 21, (nI w.val / 4 = nI (w.val / 4)) ∧ ((1 : Int32) <<< ((nI w.val / 4) &&& 31) = nI (2 ^ (w.val / 4))) := by decide
theorem p4_le {w : Nat} (hw : w ≤ 20) : (1 : Nat) ≤ 2 ^ (w / 4) ∧ 2 ^ (w / 4) ≤ 32 := by
  have h1 : (1 : Nat) ≤ 2 ^ (w / 4) := Nat.one_le_two_pow
  have h2 : (2 : Nat) ^ (w / 4) ≤ 2 ^ 5 := Nat.pow_le_pow_right (by omega) (by omega)
  omega
theorem i32_of {i : Int} (h1 : -1000 ≤ i) (h2 : i ≤ 1000) : (Int32.ofInt i).toInt = i := by
  rw [Int32.toInt_ofInt]
  show Int.bmod i 4294967296 = i
  rw [Int.bmod_eq_of_le (by omega) (by omega)]
theorem i64_of {i : Int} (h1 : -1000 ≤ i) (h2 : i ≤ 1000) : (Int32.toInt64 (Int32.ofInt i)).toInt = i := by
  rw [Int32.toInt_toInt64, i32_of h1 h2]
theorem pe_i {w k : Nat} {i j : Int} (hw : w ≤ 20) (h1 : -64 ≤ i) (h2 : i < j) (h3 : j ≤ 64) (hk : k ≤ 2 ^ (w / 4)) : (sp_pe w i j k).toInt = i * 2 ^ w + ((j - i) * k * 2 ^ w) / 2 ^ (w / 4) := by
  obtain ⟨q1, q2⟩ := p4_le hw
  obtain ⟨p1, p2⟩ := p2_le hw
  have ed : (Int32.toInt64 (Int32.ofInt j - Int32.ofInt i)).toInt = j - i := by
    rw [Int32.toInt_toInt64, Int32.toInt_sub, i32_of (by omega) (by omega), i32_of (by omega) (by omega), Int.bmod_eq_of_le (by omega) (by omega)]
  have ek : (Int32.toInt64 (nI k)).toInt = k := by rw [Int32.toInt_toInt64, nI_toInt (by omega)]
  have b1 : 0 ≤ (j - i) * (k : Int) := Int.mul_nonneg (by omega) (by omega)
  have b2 : (j - i) * (k : Int) ≤ 128 * 32 := Int.mul_le_mul (by omega) (by omega) (by omega) (by omega)
  have em : ((Int32.toInt64 (Int32.ofInt j - Int32.ofInt i)) * (Int32.toInt64 (nI k))).toInt = (j - i) * k := by rw [i64_mul (by rw [ed, ek]; omega) (by rw [ed, ek]; omega), ed, ek]
  have es : (sp_l w ((Int32.toInt64 (Int32.ofInt j - Int32.ofInt i)) * (Int32.toInt64 (nI k)))).toInt = (j - i) * k * 2 ^ w := by rw [sp_l_i _ hw (by rw [em]; omega) (by rw [em]; omega), em]
  have e1 : (sp_l w (Int32.toInt64 (Int32.ofInt i))).toInt = i * 2 ^ w := by
    have := i64_of (i := i) (by omega) (by omega)
    rw [sp_l_i _ hw (by rw [this]; omega) (by rw [this]; omega), this]
  have e4 := (w4_e ⟨w, by omega⟩).1
  simp only at e4
  have e : sp_pe w i j k = sp_l w (Int32.toInt64 (Int32.ofInt i)) + (sp_l w ((Int32.toInt64 (Int32.ofInt j - Int32.ofInt i)) * (Int32.toInt64 (nI k)))) >>> sp_sh (w / 4) := by
    unfold sp_pe sp_l sp_sh
    rw [e4]
  have er := sh_r (sp_l w ((Int32.toInt64 (Int32.ofInt j - Int32.ofInt i)) * (Int32.toInt64 (nI k)))) (w := w / 4) (by omega)
  rw [es] at er
  have c1 : 0 ≤ (j - i) * k * 2 ^ w := Int.mul_nonneg b1 (by omega)
  have c2 : (j - i) * k * 2 ^ w ≤ 128 * 32 * 1048576 := Int.mul_le_mul b2 p2 (by omega) (by omega)
  have q3 : (0 : Int) < 2 ^ (w / 4) := Int.pow_pos (by omega)
  have d1 : 0 ≤ ((j - i) * k * 2 ^ w) / 2 ^ (w / 4) := Int.ediv_nonneg c1 (by omega)
  have d2 : ((j - i) * k * 2 ^ w) / 2 ^ (w / 4) ≤ (j - i) * k * 2 ^ w := Int.ediv_le_self _ c1
  have f1 : -64 * 2 ^ w ≤ i * 2 ^ w := Int.mul_le_mul_of_nonneg_right h1 (by omega)
  have f2 : i * 2 ^ w ≤ 64 * 2 ^ w := Int.mul_le_mul_of_nonneg_right (by omega) (by omega)
  rw [e, i64_add (by rw [e1, er]; omega) (by rw [e1, er]; omega), e1, er]
theorem pe_gd {w k : Nat} {i j : Int} (hw : w ≤ 20) (h1 : -64 ≤ i) (h2 : i < j) (h3 : j ≤ 64) (hk : k < 2 ^ (w / 4)) : gd2 w (sp_pe w i j k) (sp_pe w i j (k + 1)) := by
  obtain ⟨p1, p2⟩ := p2_le hw
  have q3 : (0 : Int) < 2 ^ (w / 4) := Int.pow_pos (by omega)
  have hk' : ((k : Nat) : Int) + 1 ≤ 2 ^ (w / 4) := by
    have : ((2 ^ (w / 4) : Nat) : Int) = (2 : Int) ^ (w / 4) := by rw [Int.natCast_pow]; rfl
    omega
  have f1 : -64 * 2 ^ w ≤ i * 2 ^ w := Int.mul_le_mul_of_nonneg_right h1 (by omega)
  have f2 : j * 2 ^ w ≤ 64 * 2 ^ w := Int.mul_le_mul_of_nonneg_right h3 (by omega)
  have c1 : 0 ≤ (j - i) * k * 2 ^ w := Int.mul_nonneg (Int.mul_nonneg (by omega) (by omega)) (by omega)
  have d1 : 0 ≤ ((j - i) * k * 2 ^ w) / 2 ^ (w / 4) := Int.ediv_nonneg c1 (by omega)
  have d2 : ((j - i) * k * 2 ^ w) / 2 ^ (w / 4) ≤ ((j - i) * ((k + 1 : Nat) : Int) * 2 ^ w) / 2 ^ (w / 4) := Int.ediv_le_ediv q3 (Int.mul_le_mul_of_nonneg_right (Int.mul_le_mul_of_nonneg_left (by omega) (by omega)) (by omega))
  have d3 : ((j - i) * ((k + 1 : Nat) : Int) * 2 ^ w) / 2 ^ (w / 4) ≤ (j - i) * 2 ^ w := by
    refine Int.ediv_le_of_le_mul q3 ?_
    rw [Int.mul_assoc, Int.mul_assoc, Int.mul_comm ((k + 1 : Nat) : Int) (2 ^ w)]
    refine Int.mul_le_mul_of_nonneg_left (Int.mul_le_mul_of_nonneg_left (by omega) (by omega)) (by omega)
  have d4 : (j - i) * 2 ^ w = j * 2 ^ w - i * 2 ^ w := Int.sub_mul ..
  unfold gd2
  rw [pe_i hw h1 h2 h3 (by omega), pe_i hw h1 h2 h3 (by omega)]
  refine ⟨by omega, by omega, by omega⟩
section CLEAF
variable {ext : Nat → List Value → am_M → Option am_R} {d : Nat} (D : Nat → Nat → UInt64) (xt xs xi xu xc : Nat) {w : Nat} {ls : pt_L} {n m : Nat} {fn : Bool} {a b : Int64} {dd vB cB en : Nat}
theorem ce_over (hw : w ≤ 20) (hd : 8 ≤ d) (hen : en ≤ pt_cs ls) (hcs : pt_cs ls ≤ 288) (hmn : m ≤ n) (hml : m ≤ ls.length) (hdd : dd + m ≤ 18) (H : ce_H ext (d - 3) D xt xs xi xu xc w ls n) (hgE : ∀ i a b, i < n → i < ls.length → gd2 w a b → gd w (ev_L w ls n i a b).1) (p : tr_P) (hk0 : tr_k0 (pt_ev (ls.take m) fn) p) (h15 : 15 ≤ p.2.1) : ce_G ext d D xt xs xi xu xc w ls n m a b dd vB cB en (.leaf p) := by
  intro s top ch u I L P hcc hse hL hS hu hto hch hok hab
  simp only [tr_cz, tr_sz] at hse hto hch hok
  obtain ⟨c7, c8, c9, c10⟩ := hcc
  obtain ⟨k15, k18, hl26, htl, hix, b1, b2, b3⟩ : 15 ≤ p.2.1 ∧ p.2.1 ≤ 18 ∧ p.2.2.1 < 26 ∧ pt_tl (ls.take m) p.2.2.1 = 2 ∧ p.2.2.2.1 = pt_ix (ls.take m) p.2.2.1 ∧ -64 ≤ p.2.2.2.2.1 ∧ p.2.2.2.2.1 < p.2.2.2.2.2 ∧ p.2.2.2.2.2 ≤ 64 := by
    rcases hk0 with ⟨h, _⟩ | ⟨h, _⟩ | ⟨h, _⟩ | h
    · omega
    · omega
    · omega
    · exact h
  have hln : p.2.2.2.1 < m ∧ p.2.2.2.1 < ls.length := by
    obtain ⟨_, _, _, _, h⟩ := pt_ix_at (ls.take m) p.2.2.1 (by rw [htl]; omega)
    rw [List.length_take] at h
    omega
  have hm : pt_ks (ls.take (p.2.2.2.1 + 1)) ≤ pt_ks (ls.take m) := pt_ks_mono ls (by omega)
  have ddi : nI dd + 1 = nI (dd + 1) := by rw [show (1 : Int32) = nI 1 from rfl, ni_add (by omega)]
  have J8 : (am_uI I 25 8 (nI (u + 1))) 2 8 = nI (pt_cs ls) := by rw [am_uI_at, if_neg (by omega)]; exact hL.2.2.2.1
  have r39 := c39 (ext := ext) (d := 0) (L := L) (I := am_uI I 25 8 (nI (u + 1))) D (xt, xs, xi, 2, xu, xc) J8 hcs (show s < pt_cs ls by omega)
  have e8s : (am_uI I 25 8 (nI (u + 1))) 8 s = nI p.2.2.2.1 := by
    rw [am_uI_at, if_neg (by omega), c8]
    unfold tr_ar
    rw [if_neg (by omega), if_pos (Or.inr (by omega))]
  rw [e8s] at r39
  have SJ := ce_S_w hS
  have LJ : rd_L 2 ls (am_uI I 25 8 (nI (u + 1))) := rd_L2_fr hL (ce_fr_w top ch I L (nI (u + 1)))
  have j9 : (am_uI I 25 8 (nI (u + 1))) 9 s = Int32.ofInt p.2.2.2.2.1 := by rw [am_uI_at, if_neg (by omega)]; exact c9
  have j10 : (am_uI I 25 8 (nI (u + 1))) 10 s = Int32.ofInt p.2.2.2.2.2 := by rw [am_uI_at, if_neg (by omega)]; exact c10
  have hg : ∀ a b, gd2 w a b → gd w (ev_L w ls n p.2.2.2.1 a b).1 := fun a b h => hgE _ a b (by omega) hln.2 h
  -- behind it
  have done : ∀ {I' : Nat → Nat → Int32} {L' : Nat → Nat → Int64} {W : Nat} {op : Int32}, tr_op p = op → ¬ op = 1 → ¬ op = 19 → ¬ op = 20 → am_Rn ext d 63 [.ref 25, .int op, .int (nI s), .int (nI dd)] (am_uI I 25 8 (nI (u + 1)), L, D, am_rf (xt, xs, xi, 2, xu, xc)) (some (.int (nI s)), (I', L', D, am_rf (xt, xs, xi, 2, xu, xc))) → (ev_T w (ev_L w ls n) (.leaf p) a b).2 = W + 1 → ce_fr top ch (am_uI I 25 8 (nI (u + 1))) L I' L' → ce_S w (ca_u (u + 1) W) (top + 1) ch I' L' → (u + 1 + W ≤ 20000 → st_v (ev_T w (ev_L w ls n) (.leaf p) a b).1 top L') → ce_hd ext d D xt xs xi xu xc a b dd vB cB en (nI s) I L P := by
    intro I' L' W op hop o1 o19 o20 r63 hW F S' V
    have F1 := ce_fr_t (ce_fr_w top ch I L (nI (u + 1))) F (Nat.le_refl _) (Nat.le_refl _)
    refine ce_step (ext := ext) D xt xs xi xu xc (by omega) (by omega) (by omega) hu hS (c7.trans hop) o1 o19 o20 (Nat.le_refl s) (by omega) r63 ?_
    by_cases h20 : u + 1 + W ≤ 20000
    · have eu : ca_u (u + 1) W = u + (ev_T w (ev_L w ls n) (.leaf p) a b).2 := by unfold ca_u; rw [if_pos h20, hW]; omega
      rw [eu] at S'
      exact hok (by omega) I' L' F1 S' (V h20)
    · have eu : ca_u (u + 1) W = 20001 := by unfold ca_u; rw [if_neg h20]
      rw [eu] at S'
      exact hab (by omega) I' L' _ F1 S'.1 S'.2.1 S'.2.2.2.2
  by_cases hk : p.2.1 = 15
  · have hop : tr_op p = 4 := by unfold tr_op; rw [hk]; rfl
    have eT : ev_T w (ev_L w ls n) (.leaf p) a b = ev_n w (ev_L w ls n p.2.2.2.1) (sp_l w (Int32.toInt64 (Int32.ofInt p.2.2.2.2.1))) (sp_l w (Int32.toInt64 (Int32.ofInt p.2.2.2.2.2))) := by
      show ev_0 w (ev_L w ls n) p a b = _
      unfold ev_0
      rw [if_neg (by omega), if_neg (by omega), if_neg (by omega), if_pos hk]
    have gE : gd2 w (sp_l w (Int32.toInt64 (Int32.ofInt p.2.2.2.2.1))) (sp_l w (Int32.toInt64 (Int32.ofInt p.2.2.2.2.2))) := by
      obtain ⟨p1, p2⟩ := p2_le hw
      have x1 := i64_of (i := p.2.2.2.2.1) (by omega) (by omega)
      have x2 := i64_of (i := p.2.2.2.2.2) (by omega) (by omega)
      unfold gd2
      rw [sp_l_i _ hw (by rw [x1]; omega) (by rw [x1]; omega), sp_l_i _ hw (by rw [x2]; omega) (by rw [x2]; omega), x1, x2]
      have f1 : -64 * 2 ^ w ≤ p.2.2.2.2.1 * 2 ^ w := Int.mul_le_mul_of_nonneg_right b1 (by omega)
      have f2 : p.2.2.2.2.2 * 2 ^ w ≤ 64 * 2 ^ w := Int.mul_le_mul_of_nonneg_right b3 (by omega)
      have f3 : p.2.2.2.2.1 * 2 ^ w ≤ p.2.2.2.2.2 * 2 ^ w := Int.mul_le_mul_of_nonneg_right (by omega) (by omega)
      exact ⟨f3, by omega, by omega⟩
    obtain ⟨I', L', W, r79, hW, F, S', V⟩ := c79 (ext := ext) (dp := d - 3) (dd := dd + 1) D xt xs xi xu xc hw H (by omega) (show p.2.2.2.1 < n by omega) hln.2 (show top + 1 + _ ≤ 100 by omega) (by omega) (by omega) hg (show s < 288 by omega) (show u + 1 ≤ 20001 by omega) j9 j10 gE LJ SJ
    have r63 : am_Rn ext d 63 [.ref 25, .int 4, .int (nI s), .int (nI dd)] (am_uI I 25 8 (nI (u + 1)), L, D, am_rf (xt, xs, xi, 2, xu, xc)) (some (.int (nI s)), (I', L', D, am_rf (xt, xs, xi, 2, xu, xc))) := by
      have := am_rn_of (ext := ext) (d := d - 1) (as := [.ref 25, .int 4, .int (nI s), .int (nI dd)]) (r := (some (.int (nI s)), (I', L', D, am_rf (xt, xs, xi, 2, xu, xc)))) mh_63 rfl (w63_0 _ L D xc xi xs xt xu 4 (nI s) (nI dd) ⟨_, _, L, D, am_up r39 (by omega), fun z => absurd z (by decide), fun z => absurd z (by decide), fun z => absurd z (by decide), fun _ => ⟨I', L', D, by rw [ddi]; exact am_up r79 (by omega), rfl⟩, fun z => absurd z (by decide), fun z => absurd z (by decide), fun z => absurd z (by decide), fun z => absurd rfl z.2.2.2.1⟩)
      rwa [show d - 1 + 1 = d by omega] at this
    exact done hop (by decide) (by decide) (by decide) r63 (by rw [eT]; exact hW) F S' (by rw [eT]; exact V)
  · have eT : ev_T w (ev_L w ls n) (.leaf p) a b = ev_pl w (ev_L w ls n p.2.2.2.1) p.2.1 (sp_pe w p.2.2.2.2.1 p.2.2.2.2.2) (2 ^ (w / 4)) 0 0 0 0 := by
      show ev_0 w (ev_L w ls n) p a b = _
      unfold ev_0
      rw [if_neg (by omega), if_neg (by omega), if_neg (by omega), if_neg hk]
    obtain ⟨op, hop, hop3⟩ : ∃ op : Int32, tr_op p = op ∧ (p.2.1 = 16 ∧ op = 5 ∨ p.2.1 = 17 ∧ op = 6 ∨ p.2.1 = 18 ∧ op = 7) := by
      have : p.2.1 = 16 ∨ p.2.1 = 17 ∨ p.2.1 = 18 := by omega
      rcases this with h | h | h
      · exact ⟨5, by unfold tr_op; rw [h]; rfl, Or.inl ⟨h, rfl⟩⟩
      · exact ⟨6, by unfold tr_op; rw [h]; rfl, Or.inr (Or.inl ⟨h, rfl⟩)⟩
      · exact ⟨7, by unfold tr_op; rw [h]; rfl, Or.inr (Or.inr ⟨h, rfl⟩)⟩
    have hop' : op = 5 ∨ op = 6 ∨ op = 7 := by
      rcases hop3 with h | h | h
      · exact Or.inl h.2
      · exact Or.inr (Or.inl h.2)
      · exact Or.inr (Or.inr h.2)
    have r81 : ∃ I' L' W, am_Rn ext (d - 2) 81 [.ref 25, .int op, .int (nI p.2.2.2.1), .int (nI s), .int (nI (dd + 1))] (am_uI I 25 8 (nI (u + 1)), L, D, am_rf (xt, xs, xi, 2, xu, xc)) (none, (I', L', D, am_rf (xt, xs, xi, 2, xu, xc))) ∧ (ev_T w (ev_L w ls n) (.leaf p) a b).2 = W + 1 ∧ ce_fr top ch (am_uI I 25 8 (nI (u + 1))) L I' L' ∧ ce_S w (ca_u (u + 1) W) (top + 1) ch I' L' ∧ (u + 1 + W ≤ 20000 → st_v (ev_T w (ev_L w ls n) (.leaf p) a b).1 top L') := by
      have loop := c81_l (ext := ext) (dp := d - 3) (dd := dd + 1) D xt xs xi xu xc H (by omega) (show p.2.2.2.1 < n by omega) hln.2 (show top + 1 + _ ≤ 100 by omega) (show ch + _ ≤ 96 by omega) (by omega) hg (show s < 288 by omega) (show 2 ^ (w / 4) ≤ 1000 by have := p4_le hw; omega) hop3 (fun k hk => pe_gd hw b1 b2 b3 hk) (2 ^ (w / 4)) 0 0 0 (u + 1) _ L (fun q => ∃ I' L' W, q = (none, (I', L', D, am_rf (xt, xs, xi, 2, xu, xc))) ∧ (ev_T w (ev_L w ls n) (.leaf p) a b).2 = W + 1 ∧ ce_fr top ch (am_uI I 25 8 (nI (u + 1))) L I' L' ∧ ce_S w (ca_u (u + 1) W) (top + 1) ch I' L' ∧ (u + 1 + W ≤ 20000 → st_v (ev_T w (ev_L w ls n) (.leaf p) a b).1 top L')) (by omega) (by omega) j9 j10 LJ SJ (fun I' L' W hW F S V => by
        have sh := ev_pl_sh w (ev_L w ls n p.2.2.2.1) p.2.1 (sp_pe w p.2.2.2.2.1 p.2.2.2.2.2) (u + 1) (2 ^ (w / 4)) 0 0 0 0
        rw [Nat.add_zero] at sh
        rw [sh] at hW V
        rw [eT]
        have ge := ev_pl_u w (ev_L w ls n p.2.2.2.1) p.2.1 (sp_pe w p.2.2.2.2.1 p.2.2.2.2.2) (2 ^ (w / 4)) 0 0 0 0
        simp only at hW V
        generalize ev_pl w (ev_L w ls n p.2.2.2.1) p.2.1 (sp_pe w p.2.2.2.2.1 p.2.2.2.2.2) (2 ^ (w / 4)) 0 0 0 0 = r0 at *
        have eW : W = u + 1 + (r0.2 - 1) := by omega
        subst eW
        refine ⟨I', L', r0.2 - 1, rfl, by omega, F, ?_, V⟩
        have e0 : ca_u (u + 1) (r0.2 - 1) = ca_u 0 (u + 1 + (r0.2 - 1)) := by unfold ca_u; rw [Nat.zero_add]
        rw [e0]; exact S)
      have e4 := (w4_e ⟨w, by omega⟩).2
      simp only at e4
      rw [← e4, ← SJ.1] at loop
      obtain ⟨q, rq, I', L', W, eq, h1, h2, h3, h4⟩ := am_of_wp (ext := ext) (d := d - 3) (as := [.ref 25, .int op, .int (nI p.2.2.2.1), .int (nI s), .int (nI (dd + 1))]) mh_81 rfl (w81_0 (am_uI I 25 8 (nI (u + 1))) L D xc xi xs xt xu op (nI p.2.2.2.1) (nI s) (nI (dd + 1)) loop)
      rw [eq] at rq
      rw [show d - 3 + 1 = d - 2 by omega] at rq
      exact ⟨I', L', W, rq, h1, h2, h3, h4⟩
    obtain ⟨I', L', W, r, hW, F, S', V⟩ := r81
    have no : ∀ k : Int32, (k = 5 ∨ k = 6 ∨ k = 7 → False) → ¬ op = k := fun k h z => h (by rw [← z]; exact hop')
    have r63 : am_Rn ext d 63 [.ref 25, .int op, .int (nI s), .int (nI dd)] (am_uI I 25 8 (nI (u + 1)), L, D, am_rf (xt, xs, xi, 2, xu, xc)) (some (.int (nI s)), (I', L', D, am_rf (xt, xs, xi, 2, xu, xc))) := by
      have := am_rn_of (ext := ext) (d := d - 1) (as := [.ref 25, .int op, .int (nI s), .int (nI dd)]) (r := (some (.int (nI s)), (I', L', D, am_rf (xt, xs, xi, 2, xu, xc)))) mh_63 rfl (w63_0 _ L D xc xi xs xt xu op (nI s) (nI dd) ⟨_, _, L, D, am_up r39 (by omega), fun z => absurd z (no 0 (by decide)), fun z => absurd z (no 2 (by decide)), fun z => absurd z (no 3 (by decide)), fun z => absurd z (no 4 (by decide)), fun _ => ⟨I', L', D, by rw [ddi]; exact am_up r (by omega), rfl⟩, fun z => absurd z (fun q => q.elim (no 8 (by decide)) (fun q => q.elim (no 9 (by decide)) (no 10 (by decide)))), fun z => absurd z (fun q => q.elim (no 17 (by decide)) (no 18 (by decide))), fun z => absurd hop' (fun q => q.elim z.2.2.2.2.1 (fun q => q.elim z.2.2.2.2.2.1 z.2.2.2.2.2.2.1))⟩)
      rwa [show d - 1 + 1 = d by omega] at this
    exact done hop (no 1 (by decide)) (no 19 (by decide)) (no 20 (by decide)) r63 hW F S' V
end CLEAF
