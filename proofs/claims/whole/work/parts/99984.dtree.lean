/-! ===== the class's doubles: perform, a tree ===== -/
theorem op8 {k : Nat} (hk : k < 100) : (nI k = 0 ↔ k = 0) ∧ (nI k = 2 ↔ k = 2) ∧ (nI k = 3 ↔ k = 3) ∧ ((nI k = 4 ∨ nI k = 5 ∨ nI k = 6 ∨ nI k = 7) ↔ 4 ≤ k ∧ k ≤ 7) ∧ ((nI k = 8 ∨ nI k = 9 ∨ nI k = 10) ↔ 8 ≤ k ∧ k ≤ 10) ∧ ((nI k = 17 ∨ nI k = 18) ↔ 17 ≤ k ∧ k ≤ 18) ∧ (nI k = 19 ↔ k = 19) ∧ (nI k = 20 ↔ k = 20) ∧ (nI k = 1 ↔ k = 1) := by
  have e : ∀ c : Nat, c < 100 → (nI k = nI c ↔ k = c) := fun c hc => ni_eq (by omega) (by omega)
  have e4 := e 4 (by omega)
  have e5 := e 5 (by omega)
  have e6 := e 6 (by omega)
  have e7 := e 7 (by omega)
  have e8 := e 8 (by omega)
  have e9 := e 9 (by omega)
  have e10 := e 10 (by omega)
  have e17 := e 17 (by omega)
  have e18 := e 18 (by omega)
  refine ⟨e 0 (by omega), e 2 (by omega), e 3 (by omega), ?_, ?_, ?_, e 19 (by omega), e 20 (by omega), e 1 (by omega)⟩
  · show (nI k = nI 4 ∨ nI k = nI 5 ∨ nI k = nI 6 ∨ nI k = nI 7) ↔ _
    rw [e4, e5, e6, e7]; omega
  · show (nI k = nI 8 ∨ nI k = nI 9 ∨ nI k = nI 10) ↔ _
    rw [e8, e9, e10]; omega
  · show (nI k = nI 17 ∨ nI k = nI 18) ↔ _
    rw [e17, e18]; omega
section DTREE
variable {ext : Nat → List Value → am_M → Option am_R} {d : Nat} (L : Nat → Nat → Int64) (xt xs xi xp xc : Nat) {ls : pt_L}
def de_G (ext : Nat → List Value → am_M → Option am_R) (d : Nat) (L : Nat → Nat → Int64) (xt xs xi xp xc : Nat) (ls : pt_L) (m : Nat) (v : UInt64) (t : Option UInt64) (dd en : Nat) (T : tr_T) : Prop := ∀ (s top : Nat) (I : Nat → Nat → Int32) (D : Nat → Nat → UInt64) (P : am_R → Prop), tr_cc (I 7) (I 8) (I 9) (I 10) T s → s + tr_cz T ≤ en → rd_L 2 ls I → I 34 4 = nI top → dm_M ls I D → top + tr_sz T + pt_ks (ls.take m) ≤ 100 →
  (∀ I' D', de_fr top I D I' D' → I' 34 4 = nI (top + 1) → st_d (de_T (de_S ls) t T) top I' D' → dm_M ls I' D' → de_hd ext d L xt xs xi xp xc v t dd en (nI (s + tr_cz T)) I' D' P) → de_hd ext d L xt xs xi xp xc v t dd en (nI s) I D P
theorem rd_L2_de {t : Nat} {I I' : Nat → Nat → Int32} {D D' : Nat → Nat → UInt64} (hL : rd_L 2 ls I) (F : de_fr t I D I' D') : rd_L 2 ls I' := rd_L2_of hL (fun a ha => de_fr_I F a (by omega))
theorem de_tree {n m : Nat} {fn : Bool} {v : UInt64} {t : Option UInt64} {dd en : Nat} (hd : 2 ≤ d) (hwf : pt_wf ls) (h18 : ls.length ≤ 18) (hen : en ≤ pt_cs ls) (hcs : pt_cs ls ≤ 288) (hmn : m ≤ n) (hdd : dd + m ≤ 18) (ht : og t) (hv : ∀ a, t = some a → v = a) (H : de_H ext d L xt xs xi xp xc ls n) :
    ∀ (T : tr_T) (q : Nat), tr_ok (pt_ev (ls.take m) fn) T q → de_G ext (d + 4) L xt xs xi xp xc ls m v t dd en T := by
  have mono : ∀ i, i < m → pt_ks (ls.take (i + 1)) ≤ pt_ks (ls.take m) := fun i hi => pt_ks_mono ls (by omega)
  have ddi : nI dd + 1 = nI (dd + 1) := by rw [show (1 : Int32) = nI 1 from rfl, ni_add (by omega)]
  have ogT : ∀ (T : tr_T) (q : Nat), tr_ok (pt_ev (ls.take m) fn) T q → og (de_T (de_S ls) t T) := fun T q hT => de_T_og ht (fun l x _ hx => de_S_og hwf _ x hx) T q hT
  have R39 : ∀ (s : Nat) (I : Nat → Nat → Int32) (D : Nat → Nat → UInt64), rd_L 2 ls I → s < en → am_Rn ext (d + 3) 39 [.ref 2, .int (nI s)] (I, L, D, am_rf (xt, xs, xi, xp, 2, xc)) (some (.int (I 8 s)), (I, L, D, am_rf (xt, xs, xi, xp, 2, xc))) := fun s I D hL hs => am_up (c39 (ext := ext) (d := 0) (L := L) D (xt, xs, xi, xp, 2, xc) hL.2.2.2.1 hcs (by omega)) (by omega)
  have letter : ∀ l : Nat, ¬ pt_tl (ls.take m) l = 0 → ∃ b T, ls[pt_ix (ls.take m) l]? = some (l, b, T) ∧ pt_tl (ls.take m) l = (if b = true then 2 else 1) ∧ pt_ix (ls.take m) l < m ∧ pt_ix (ls.take m) l < ls.length := by
    intro l hl
    obtain ⟨b, T, g1, g2, g3⟩ := pt_ix_at (ls.take m) l hl
    rw [List.length_take] at g3
    rw [List.getElem?_take_of_lt (by omega)] at g1
    exact ⟨b, T, g1, g2, by omega, by omega⟩
  have two : ∀ (p : tr_P) (A B : tr_T) (qA qB : Nat), 6 ≤ p.2.1 → p.2.1 ≤ 11 → tr_ok (pt_ev (ls.take m) fn) A qA → tr_ok (pt_ev (ls.take m) fn) B qB → de_G ext (d + 4) L xt xs xi xp xc ls m v t dd en A → de_G ext (d + 4) L xt xs xi xp xc ls m v t dd en B → de_G ext (d + 4) L xt xs xi xp xc ls m v t dd en (tr_2 p A B) := by
    intro p A B qA qB k1 k2 hA hB iha ihb s top I D P hcc hse hL h4 hM hto K
    simp only [tr_cc] at hcc
    obtain ⟨cA, cB, o1⟩ := hcc
    have zA := tr_pos A
    have cz : tr_cz (tr_2 p A B) = tr_cz A + tr_cz B + 1 := by simp [tr_cz]; omega
    have sz : tr_sz (tr_2 p A B) = tr_sz A + tr_sz B + 1 := by simp [tr_sz]; omega
    rw [cz] at hse K
    rw [sz] at hto
    have eT : de_T (de_S ls) t (tr_2 p A B) = de_2k p.2.1 (de_T (de_S ls) t A) (de_T (de_S ls) t B) := rfl
    rw [eT] at K
    refine iha s top I D P cA (by omega) hL h4 hM (by omega) (fun I1 D1 F1 t1 v1 M1 => ?_)
    have hL1 := rd_L2_de hL F1
    refine ihb (s + tr_cz A) (top + 1) I1 D1 P (by rw [de_fr_I F1 7 (by omega), de_fr_I F1 8 (by omega), de_fr_I F1 9 (by omega), de_fr_I F1 10 (by omega)]; exact cB) (by omega) hL1 t1 M1 (by omega) (fun I2 D2 F2 t2 v2 M2 => ?_)
    have F12 := de_fr_t F1 F2 (by omega)
    have hL2 := rd_L2_de hL F12
    have e7 : I2 7 = I 7 := de_fr_I F12 7 (by omega)
    have r39 := R39 (s + tr_cz A + tr_cz B) I2 D2 hL2 (by omega)
    have gA := ogT A _ hA
    have gB := ogT B _ hB
    have eo : tr_op p = nI (p.2.1 + 5) := by
      unfold tr_op
      have kk : p.2.1 = 6 ∨ p.2.1 = 7 ∨ p.2.1 = 8 ∨ p.2.1 = 9 ∨ p.2.1 = 10 ∨ p.2.1 = 11 := by omega
      rcases kk with k | k | k | k | k | k <;> rw [k] <;> rfl
    obtain ⟨I', D', r, g⟩ := c15 (ext := ext) (d := d - 1) (D := D2) L (xt, xs, xi, xp, 2, xc) t2 (by omega) (st_d_of v1 F2 (by omega)) v2 gA gB (show 6 ≤ p.2.1 ∧ p.2.1 ≤ 11 by omega)
    have F3 := de_fr_t F12 (de_fr_t (de_fr_u top I2 D2 (nI top)) (de_fr_p g) (Nat.le_refl _)) (Nat.le_refl _)
    have M3 := dm_M_p (dm_M_of M2 (I' := am_uI I2 34 4 (nI top)) (D' := D2) (fun b => by rw [am_uI_at, if_neg (by omega)]) (fun _ => rfl)) g
    have := K I' D' F3 g.1 g.2.1 M3
    rw [show s + (tr_cz A + tr_cz B + 1) = s + tr_cz A + tr_cz B + 1 by omega] at this
    have op1 : I2 7 (s + tr_cz A + tr_cz B) = nI (p.2.1 + 5) := by rw [e7, o1, eo]
    obtain ⟨n0, n2, n3, n47, n810, nif, n19, n20, n1⟩ := op8 (k := p.2.1 + 5) (by omega)
    exact de_step (ext := ext) L xt xs xi xp xc (to := s + tr_cz A + tr_cz B) (by omega) (by omega) (by omega) op1 (fun z => by rw [n1] at z; omega) (Nat.le_refl _) (by omega) (am_rn_of mh_8 rfl (w8_0 I2 L D2 xc xi xp xs xt _ _ (nI dd) ⟨_, I2, L, D2, r39, fun z => by rw [n0] at z; omega, fun z => by rw [n2] at z; omega, fun z => by rw [n3] at z; omega, fun z => by rw [n47] at z; omega, fun z => by rw [n810] at z; omega, fun z => by rw [nif] at z; omega, fun z => by rw [n19] at z; omega, fun z => by rw [n20] at z; omega, fun _ => ⟨I', L, D', am_up r (by omega), rfl⟩⟩)) this
  refine tr_ind ?_ ?_ ?_ ?_ ?_
  · intro p q _ hk s top I D P hcc hse hL h4 hM hto K
    simp only [tr_cc] at hcc
    simp only [tr_cz] at hse K
    simp only [tr_sz] at hto
    obtain ⟨o1, o2, _, _⟩ := hcc
    have r39 := R39 s I D hL (by omega)
    rcases hk with ⟨k, h9⟩ | ⟨k, _⟩ | ⟨k, h26, htl, hli⟩ | ⟨k1, k2, _⟩
    · have eo : tr_op p = 0 := by unfold tr_op; rw [k]; rfl
      have ea : tr_ar p = nI p.2.2.1 := by unfold tr_ar; rw [if_pos k]
      have eT : de_T (de_S ls) t (.leaf p) = some (FP.i2d (nI p.2.2.1)) := by simp only [de_T]; rw [if_pos k]
      rw [eT] at K
      obtain ⟨I', D', r, g⟩ := c9 (ext := ext) (d := d + 1) (D := D) L (xt, xs, xi, xp, 2, xc) h4 (by omega) (FP.i2d (nI p.2.2.1))
      rw [o2, ea] at r39
      exact de_step (ext := ext) L xt xs xi xp xc (to := s) (by omega) (by omega) (by omega) (o1.trans eo) (by decide) (Nat.le_refl _) (by omega) (am_rn_of mh_8 rfl (w8_0 I L D xc xi xp xs xt 0 (nI s) (nI dd) ⟨_, I, L, D, r39, fun _ => ⟨I', L, D', r, rfl⟩, fun z => absurd z (by decide), fun z => absurd z (by decide), fun z => by rcases z with z | z | z | z <;> exact absurd z (by decide), fun z => by rcases z with z | z | z <;> exact absurd z (by decide), fun z => by rcases z with z | z <;> exact absurd z (by decide), fun z => absurd z (by decide), fun z => absurd z (by decide), fun z => absurd rfl z.1⟩)) (K I' D' (de_fr_p g) g.1 g.2.1 (dm_M_p hM g))
    · have eo : tr_op p = 1 := by unfold tr_op; rw [k]; rfl
      have eT : de_T (de_S ls) t (.leaf p) = t := by simp only [de_T]; rw [if_neg (by omega), if_pos k]
      rw [eT] at K
      exact de_t (ext := ext) L xt xs xi xp xc (by omega) (by omega) (by omega) hv (o1.trans eo) h4 (by omega) (fun I' D' g => K I' D' (de_fr_p g) g.1 g.2.1 (dm_M_p hM g))
    · have htl' : pt_tl (ls.take m) p.2.2.1 = 1 := htl
      have hli' : p.2.2.2.1 = pt_ix (ls.take m) p.2.2.1 := hli
      obtain ⟨b, T', g1, g2, g3, g4⟩ := letter p.2.2.1 (by omega)
      have hb : b = false := by
        cases b with
        | false => rfl
        | true => rw [htl'] at g2; exact absurd g2 (by decide)
      rw [← hli'] at g1 g3 g4
      have eo : tr_op p = 2 := by unfold tr_op; rw [k]; rfl
      have ea : tr_ar p = nI p.2.2.2.1 := by unfold tr_ar; rw [if_neg (by omega), if_pos (by omega)]
      have eT : de_T (de_S ls) t (.leaf p) = de_S ls p.2.2.2.1 (some d_0) := by simp only [de_T]; rw [if_neg (by omega), if_neg (by omega), if_pos k]
      rw [eT] at K
      have mo := mono p.2.2.2.1 g3
      obtain ⟨I', D', r, F, t1, v1, M1⟩ := c5 (ext := ext) (d := d) L xt xs xi xp xc H hd (dd := dd + 1) (D := D) g1 hb (by omega) h18 (by omega) (by omega) (by omega) hL h4 hM
      rw [o2, ea] at r39
      exact de_step (ext := ext) L xt xs xi xp xc (to := s) (by omega) (by omega) (by omega) (o1.trans eo) (by decide) (Nat.le_refl _) (by omega) (am_rn_of mh_8 rfl (w8_0 I L D xc xi xp xs xt 2 (nI s) (nI dd) ⟨_, I, L, D, r39, fun z => absurd z (by decide), fun _ => ⟨I', L, D', by rw [ddi]; exact am_up r (by omega), rfl⟩, fun z => absurd z (by decide), fun z => by rcases z with z | z | z | z <;> exact absurd z (by decide), fun z => by rcases z with z | z | z <;> exact absurd z (by decide), fun z => by rcases z with z | z <;> exact absurd z (by decide), fun z => absurd z (by decide), fun z => absurd z (by decide), fun z => absurd rfl z.2.1⟩)) (K I' D' F t1 v1 M1)
    · have eT : de_T (de_S ls) t (.leaf p) = none := by simp only [de_T]; rw [if_neg (by omega), if_neg (by omega), if_neg (by omega)]
      rw [eT] at K
      obtain ⟨I', D', r, g⟩ := c10 (ext := ext) (d := d + 1) (D := D) L (xt, xs, xi, xp, 2, xc) h4 (by omega)
      have kk : p.2.1 = 15 ∨ p.2.1 = 16 ∨ p.2.1 = 17 ∨ p.2.1 = 18 := by omega
      have go : ∀ op : Int32, tr_op p = op → (op = 4 ∨ op = 5 ∨ op = 6 ∨ op = 7) → ¬ op = 1 → (¬ op = 0 ∧ ¬ op = 2 ∧ ¬ op = 3 ∧ ¬ (op = 8 ∨ op = 9 ∨ op = 10) ∧ ¬ (op = 17 ∨ op = 18) ∧ ¬ op = 19 ∧ ¬ op = 20) → de_hd ext (d + 4) L xt xs xi xp xc v t dd en (nI s) I D P := fun op eo h47 n1 nn' =>
        de_step (ext := ext) L xt xs xi xp xc (to := s) (by omega) (by omega) (by omega) (o1.trans eo) n1 (Nat.le_refl _) (by omega) (am_rn_of mh_8 rfl (w8_0 I L D xc xi xp xs xt op (nI s) (nI dd) ⟨_, I, L, D, r39, fun z => absurd z nn'.1, fun z => absurd z nn'.2.1, fun z => absurd z nn'.2.2.1, fun _ => ⟨I', L, D', r, rfl⟩, fun z => absurd z nn'.2.2.2.1, fun z => absurd z nn'.2.2.2.2.1, fun z => absurd z nn'.2.2.2.2.2.1, fun z => absurd z nn'.2.2.2.2.2.2, fun z => by obtain ⟨_, _, _, q1, q2, q3, q4, _⟩ := z; rcases h47 with h | h | h | h <;> contradiction⟩)) (K I' D' (de_fr_p g) g.1 g.2.1 (dm_M_p hM g))
      rcases kk with k | k | k | k
      · exact go 4 (by unfold tr_op; rw [k]; rfl) (by decide) (by decide) (by decide)
      · exact go 5 (by unfold tr_op; rw [k]; rfl) (by decide) (by decide) (by decide)
      · exact go 6 (by unfold tr_op; rw [k]; rfl) (by decide) (by decide) (by decide)
      · exact go 7 (by unfold tr_op; rw [k]; rfl) (by decide) (by decide) (by decide)
  · intro p A q _ hk hA ih s top I D P hcc hse hL h4 hM hto K
    simp only [tr_cc] at hcc
    obtain ⟨cA, o1, o2⟩ := hcc
    have cz : tr_cz (tr_1 p A) = tr_cz A + 1 := by simp [tr_cz]; omega
    have sz : tr_sz (tr_1 p A) = tr_sz A + 1 := by simp [tr_sz]; omega
    rw [cz] at hse K
    rw [sz] at hto
    refine ih s top I D P cA (by omega) hL h4 hM (by omega) (fun I1 D1 F1 t1 v1 M1 => ?_)
    have hL1 := rd_L2_de hL F1
    have r39 := R39 (s + tr_cz A) I1 D1 hL1 (by omega)
    have e7 : I1 7 = I 7 := de_fr_I F1 7 (by omega)
    have e8 : I1 8 = I 8 := de_fr_I F1 8 (by omega)
    have gA := ogT A _ hA
    by_cases k14 : p.2.1 = 14
    · rcases hk with k | k | k | ⟨k, h26, htl, hli⟩
      · omega
      · omega
      · omega
      · have htl' : pt_tl (ls.take m) p.2.2.1 = 2 := htl
        have hli' : p.2.2.2.1 = pt_ix (ls.take m) p.2.2.1 := hli
        obtain ⟨b, T', g1, g2, g3, g4⟩ := letter p.2.2.1 (by omega)
        rw [← hli'] at g1 g3 g4
        have mo := mono p.2.2.2.1 g3
        have eo : tr_op p = 3 := by unfold tr_op; rw [k]; rfl
        have ea : tr_ar p = nI p.2.2.2.1 := by unfold tr_ar; rw [if_neg (by omega), if_pos (by omega)]
        have eT : de_T (de_S ls) t (tr_1 p A) = de_S ls p.2.2.2.1 (de_T (de_S ls) t A) := by simp only [de_T]; rw [if_pos k]
        rw [eT] at K
        rw [e8, o2, ea] at r39
        have e1 : I1 34 4 - 1 = nI top := by rw [t1, show (1 : Int32) = nI 1 from rfl, ni_sub (by omega) (by omega)]; rfl
        have et : (nI top).toNatClampNeg = top := ni_nat (by omega)
        have hbt : am_inb (nI top) 100 = true := ni_inb (by omega) (by omega)
        have lt1 : ¬ I1 34 4 < 1 := by
          rw [t1]
          intro z
          have := (ni_lt (b := 1) (by omega) (by omega)).mp z
          omega
        obtain ⟨I', D', r, F, t2, v2, M2⟩ := H p.2.2.2.1 top (dd + 1) (de_T (de_S ls) t A) (D1 37 top) (am_uI I1 34 4 (nI top)) D1 (by omega) g4 (by omega) (by omega) gA v1.2 (rd_L2_de hL1 (de_fr_u top I1 D1 _)) (by rw [am_uI_at, if_pos ⟨rfl, rfl⟩]) (dm_M_of M1 (fun b => by rw [am_uI_at, if_neg (by omega)]) (fun _ => rfl))
        have r12 : am_Rn ext (d + 1) 12 [.ref 34, .int (nI p.2.2.2.1), .int (nI (dd + 1))] (I1, L, D1, am_rf (xt, xs, xi, xp, 2, xc)) (none, (I', L, D', am_rf (xt, xs, xi, xp, 2, xc))) := by
          refine am_rn_of mh_12 rfl (w12_0 I1 L D1 _ _ _ ⟨fun z => absurd z lt1, fun _ => ?_⟩)
          rw [e1, et, v1.1]
          exact ⟨hbt, hbt, I', L, D', r, rfl⟩
        have := K I' D' (de_fr_t F1 (de_fr_t (de_fr_u top I1 D1 (nI top)) F (Nat.le_refl _)) (Nat.le_refl _)) t2 v2 M2
        rw [show s + (tr_cz A + 1) = s + tr_cz A + 1 by omega] at this
        exact de_step (ext := ext) L xt xs xi xp xc (to := s + tr_cz A) (by omega) (by omega) (by omega) (show I1 7 (s + tr_cz A) = 3 by rw [e7, o1, eo]) (by decide) (Nat.le_refl _) (by omega) (am_rn_of mh_8 rfl (w8_0 I1 L D1 xc xi xp xs xt 3 _ (nI dd) ⟨_, I1, L, D1, r39, fun z => absurd z (by decide), fun z => absurd z (by decide), fun _ => ⟨I', L, D', by rw [ddi]; exact am_up r12 (by omega), rfl⟩, fun z => by rcases z with z | z | z | z <;> exact absurd z (by decide), fun z => by rcases z with z | z | z <;> exact absurd z (by decide), fun z => by rcases z with z | z <;> exact absurd z (by decide), fun z => absurd z (by decide), fun z => absurd z (by decide), fun z => absurd rfl z.2.2.1⟩)) this
    · have kk : p.2.1 = 3 ∨ p.2.1 = 4 ∨ p.2.1 = 5 := by rcases hk with k | k | k | ⟨k, _⟩ <;> omega
      have eT : de_T (de_S ls) t (tr_1 p A) = de_1k p.2.1 (de_T (de_S ls) t A) := by simp only [de_T]; rw [if_neg k14]; rfl
      rw [eT] at K
      have eo : tr_op p = nI (p.2.1 + 5) := by
        unfold tr_op
        rcases kk with k | k | k <;> rw [k] <;> rfl
      obtain ⟨I', D', r, g⟩ := c14 (ext := ext) (d := d - 1) (D := D1) L (xt, xs, xi, xp, 2, xc) t1 (by omega) v1 gA (show 3 ≤ p.2.1 ∧ p.2.1 ≤ 5 by omega)
      have F2 := de_fr_t F1 (de_fr_t (de_fr_u top I1 D1 (nI top)) (de_fr_p g) (Nat.le_refl _)) (Nat.le_refl _)
      have M2 := dm_M_p (dm_M_of M1 (I' := am_uI I1 34 4 (nI top)) (D' := D1) (fun b => by rw [am_uI_at, if_neg (by omega)]) (fun _ => rfl)) g
      have := K I' D' F2 g.1 g.2.1 M2
      rw [show s + (tr_cz A + 1) = s + tr_cz A + 1 by omega] at this
      have op1 : I1 7 (s + tr_cz A) = nI (p.2.1 + 5) := by rw [e7, o1, eo]
      obtain ⟨n0, n2, n3, n47, n810, nif, n19, n20, n1⟩ := op8 (k := p.2.1 + 5) (by omega)
      refine de_step (ext := ext) L xt xs xi xp xc (to := s + tr_cz A) (by omega) (by omega) (by omega) op1 (fun z => by rw [n1] at z; omega) (Nat.le_refl _) (by omega) (am_rn_of mh_8 rfl (w8_0 I1 L D1 xc xi xp xs xt _ _ (nI dd) ⟨_, I1, L, D1, r39, fun z => by rw [n0] at z; omega, fun z => by rw [n2] at z; omega, fun z => by rw [n3] at z; omega, fun z => by rw [n47] at z; omega, fun _ => ⟨I', L, D', am_up r (by omega), rfl⟩, fun z => by rw [nif] at z; omega, fun z => by rw [n19] at z; omega, fun z => by rw [n20] at z; omega, fun z => ?_⟩)) this
      have h := n810.mpr (by omega)
      rcases h with h | h | h
      · exact absurd h z.2.2.2.2.2.2.2.1
      · exact absurd h z.2.2.2.2.2.2.2.2.1
      · exact absurd h z.2.2.2.2.2.2.2.2.2.1
  · intro p A B q k1 k2 _ hA hB iha ihb
    exact two p A B _ _ k1 (by omega) hA hB iha ihb
  · intro p A B q k1 _ hA hB iha ihb
    exact two p A B _ _ (by omega) (by omega) hA hB iha ihb
  · intro p A B V W q k _ hA hB hV hW iha ihb ihv ihw s top I D P hcc hse hL h4 hM hto K
    simp only [tr_cc] at hcc
    obtain ⟨cA, cB, o1, a1, cV, o2, a2, cW, o3⟩ := hcc
    have zA := tr_pos A
    have zB := tr_pos B
    have cz : tr_cz (tr_4 p A B V W) = tr_cz A + tr_cz B + 1 + tr_cz V + 1 + tr_cz W + 1 := by simp [tr_cz]; omega
    have sz : tr_sz (tr_4 p A B V W) = tr_sz A + tr_sz B + tr_sz V + tr_sz W + 1 := by simp [tr_sz]; omega
    rw [cz] at hse K
    rw [sz] at hto
    refine iha s top I D P cA (by omega) hL h4 hM (by omega) (fun I1 D1 F1 t1 v1 M1 => ?_)
    have hL1 := rd_L2_de hL F1
    refine ihb (s + tr_cz A) (top + 1) I1 D1 P (by rw [de_fr_I F1 7 (by omega), de_fr_I F1 8 (by omega), de_fr_I F1 9 (by omega), de_fr_I F1 10 (by omega)]; exact cB) (by omega) hL1 t1 M1 (by omega) (fun I2 D2 F2 t2 v2 M2 => ?_)
    have F12 := de_fr_t F1 F2 (by omega)
    have hL2 := rd_L2_de hL F12
    have e7 : I2 7 = I 7 := de_fr_I F12 7 (by omega)
    have e8 : I2 8 = I 8 := de_fr_I F12 8 (by omega)
    have e9 : I2 9 = I 9 := de_fr_I F12 9 (by omega)
    have e10 : I2 10 = I 10 := de_fr_I F12 10 (by omega)
    have r39 := R39 (s + tr_cz A + tr_cz B) I2 D2 hL2 (by omega)
    rw [e8, a1] at r39
    have gA := ogT A _ hA
    have gB := ogT B _ hB
    have eo : tr_op p = nI (p.2.1 + 5) := by
      unfold tr_op
      rcases k with k | k <;> rw [k] <;> rfl
    have op1 : I2 7 (s + tr_cz A + tr_cz B) = nI (p.2.1 + 5) := by rw [e7, o1, eo]
    obtain ⟨n0, n2, n3, n47, n810, nif, n19, n20, n1⟩ := op8 (k := p.2.1 + 5) (by omega)
    have r13 := am_up (c13 (ext := ext) (d := 0) (D := D2) L (xt, xs, xi, xp, 2, xc) t2 (by omega) (st_d_of v1 F2 (by omega)) v2 gA gB k) (show 1 ≤ d + 3 by omega)
    have F3 := de_fr_t F12 (de_fr_u top I2 D2 (nI top)) (Nat.le_refl _)
    have M3 : dm_M ls (am_uI I2 34 4 (nI top)) D2 := dm_M_of M2 (fun b => by rw [am_uI_at, if_neg (by omega)]) (fun _ => rfl)
    have hL3 := rd_L2_de hL F3
    have u7 : ∀ a, a ≤ 33 → am_uI I2 34 4 (nI top) a = I a := fun a ha => de_fr_I F3 a ha
    have t3 : am_uI I2 34 4 (nI top) 34 4 = nI top := by rw [am_uI_at, if_pos ⟨rfl, rfl⟩]
    have ifr : ∀ (to : Nat), (∀ Q : am_R → Prop, True) → am_Rn ext (d + 4) 8 [.ref 34, .int (nI (p.2.1 + 5)), .int (nI (s + tr_cz A + tr_cz B)), .int (nI dd)] (I2, L, D2, am_rf (xt, xs, xi, xp, 2, xc)) (some (.int (if de_ik p.2.1 (de_T (de_S ls) t A) (de_T (de_S ls) t B) = true then nI (s + tr_cz A + tr_cz B) else nI (s + tr_cz A + tr_cz B + 1 + tr_cz V))), (am_uI I2 34 4 (nI top), L, D2, am_rf (xt, xs, xi, xp, 2, xc))) := by
      intro _ _
      refine am_rn_of mh_8 rfl (w8_0 I2 L D2 xc xi xp xs xt _ _ (nI dd) ⟨_, I2, L, D2, r39, fun z => by rw [n0] at z; omega, fun z => by rw [n2] at z; omega, fun z => by rw [n3] at z; omega, fun z => by rw [n47] at z; omega, fun z => by rw [n810] at z; omega, fun _ => ⟨_, _, L, D2, r13, fun z => ?_, fun z => ?_⟩, fun z => by rw [n19] at z; omega, fun z => by rw [n20] at z; omega, fun z => ?_⟩)
      · cases hb : de_ik p.2.1 (de_T (de_S ls) t A) (de_T (de_S ls) t B) with
        | true => rw [hb] at z; exact absurd z (by decide)
        | false => rfl
      · cases hb : de_ik p.2.1 (de_T (de_S ls) t A) (de_T (de_S ls) t B) with
        | true => rfl
        | false => rw [hb] at z; exact absurd rfl z
      · have h := nif.mpr (by omega)
        rcases h with h | h
        · exact absurd h z.2.2.2.2.2.2.2.2.2.2.1
        · exact absurd h z.2.2.2.2.2.2.2.2.2.2.2.1
    have r8 := ifr 0 (fun _ => trivial)
    have joinS : ∀ (I4 : Nat → Nat → Int32) (D4 : Nat → Nat → UInt64), rd_L 2 ls I4 → I4 7 = I 7 → I4 8 = I 8 → de_hd ext (d + 4) L xt xs xi xp xc v t dd en (nI (s + (tr_cz A + tr_cz B + 1 + tr_cz V + 1 + tr_cz W + 1))) I4 D4 P → de_hd ext (d + 4) L xt xs xi xp xc v t dd en (nI (s + tr_cz A + tr_cz B + 1 + tr_cz V + 1 + tr_cz W)) I4 D4 P := by
      intro I4 D4 hL4 q7 q8 h
      have r39' := R39 (s + tr_cz A + tr_cz B + 1 + tr_cz V + 1 + tr_cz W) I4 D4 hL4 (by omega)
      rw [show s + (tr_cz A + tr_cz B + 1 + tr_cz V + 1 + tr_cz W + 1) = s + tr_cz A + tr_cz B + 1 + tr_cz V + 1 + tr_cz W + 1 by omega] at h
      exact de_step (ext := ext) L xt xs xi xp xc (to := s + tr_cz A + tr_cz B + 1 + tr_cz V + 1 + tr_cz W) (by omega) (by omega) (by omega) (show I4 7 _ = 20 by rw [q7, o3]) (by decide) (Nat.le_refl _) (by omega) (am_rn_of mh_8 rfl (w8_0 I4 L D4 xc xi xp xs xt 20 _ (nI dd) ⟨_, I4, L, D4, r39', fun z => absurd z (by decide), fun z => absurd z (by decide), fun z => absurd z (by decide), fun z => by rcases z with z | z | z | z <;> exact absurd z (by decide), fun z => by rcases z with z | z | z <;> exact absurd z (by decide), fun z => by rcases z with z | z <;> exact absurd z (by decide), fun z => absurd z (by decide), fun _ => rfl, fun z => absurd rfl z.2.2.2.2.2.2.2.2.2.2.2.2.2⟩)) h
    cases hb : de_ik p.2.1 (de_T (de_S ls) t A) (de_T (de_S ls) t B) with
    | true =>
      have eT : de_T (de_S ls) t (tr_4 p A B V W) = de_T (de_S ls) t V := by
        simp only [de_T]
        exact if_pos hb
      rw [eT] at K
      rw [hb, if_pos rfl] at r8
      refine de_step (ext := ext) L xt xs xi xp xc (to := s + tr_cz A + tr_cz B) (by omega) (by omega) (by omega) op1 (fun z => by rw [n1] at z; omega) (Nat.le_refl _) (by omega) r8 ?_
      refine ihv (s + tr_cz A + tr_cz B + 1) top _ D2 P (by rw [u7 7 (by omega), u7 8 (by omega), u7 9 (by omega), u7 10 (by omega)]; exact cV) (by omega) hL3 t3 M3 (by omega) (fun I4 D4 F4 t4 v4 M4 => ?_)
      have F34 := de_fr_t F3 F4 (Nat.le_refl _)
      have hL4 := rd_L2_de hL F34
      have q7 : I4 7 = I 7 := de_fr_I F34 7 (by omega)
      have q8 : I4 8 = I 8 := de_fr_I F34 8 (by omega)
      have r39' := R39 (s + tr_cz A + tr_cz B + 1 + tr_cz V) I4 D4 hL4 (by omega)
      rw [q8, a2] at r39'
      have kk := K I4 D4 F34 t4 v4 M4
      rw [show s + (tr_cz A + tr_cz B + 1 + tr_cz V + 1 + tr_cz W + 1) = s + tr_cz A + tr_cz B + 1 + tr_cz V + 1 + tr_cz W + 1 by omega] at kk
      exact de_step (ext := ext) L xt xs xi xp xc (to := s + tr_cz A + tr_cz B + 1 + tr_cz V + 1 + tr_cz W) (by omega) (by omega) (by omega) (show I4 7 _ = 19 by rw [q7, o2]) (by decide) (by omega) (by omega) (am_rn_of mh_8 rfl (w8_0 I4 L D4 xc xi xp xs xt 19 _ (nI dd) ⟨_, I4, L, D4, r39', fun z => absurd z (by decide), fun z => absurd z (by decide), fun z => absurd z (by decide), fun z => by rcases z with z | z | z | z <;> exact absurd z (by decide), fun z => by rcases z with z | z | z <;> exact absurd z (by decide), fun z => by rcases z with z | z <;> exact absurd z (by decide), fun _ => rfl, fun z => absurd z (by decide), fun z => absurd rfl z.2.2.2.2.2.2.2.2.2.2.2.2.1⟩)) kk
    | false =>
      have eT : de_T (de_S ls) t (tr_4 p A B V W) = de_T (de_S ls) t W := by
        simp only [de_T]
        exact if_neg (by show ¬ de_ik p.2.1 _ _ = true; rw [hb]; decide)
      rw [eT] at K
      rw [hb, if_neg (by decide)] at r8
      refine de_step (ext := ext) L xt xs xi xp xc (to := s + tr_cz A + tr_cz B + 1 + tr_cz V) (by omega) (by omega) (by omega) op1 (fun z => by rw [n1] at z; omega) (by omega) (by omega) r8 ?_
      refine ihw (s + tr_cz A + tr_cz B + 1 + tr_cz V + 1) top _ D2 P (by rw [u7 7 (by omega), u7 8 (by omega), u7 9 (by omega), u7 10 (by omega)]; exact cW) (by omega) hL3 t3 M3 (by omega) (fun I4 D4 F4 t4 v4 M4 => ?_)
      have F34 := de_fr_t F3 F4 (Nat.le_refl _)
      exact joinS I4 D4 (rd_L2_de hL F34) (de_fr_I F34 7 (by omega)) (de_fr_I F34 8 (by omega)) (K I4 D4 F34 t4 v4 M4)
end DTREE
