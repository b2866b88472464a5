/-! ===== the class's fractions: a tree's code ===== -/
section FTREE
variable {ext : Nat → List Value → am_M → Option am_R} {d : Nat} (D : Nat → Nat → UInt64) (X : am_Rf)
theorem xp_I {t : Nat} {I I' : Nat → Nat → Int32} {L L' : Nat → Nat → Int64} (F : xp_fr t I L I' L') (a : Nat) (ha : ¬ a = 29) : I' a = I a := funext fun b => F.1 a b (by omega)
theorem xl_fr {E : Nat → Option (Int64 × Int64)} {m t : Nat} {I I' : Nat → Nat → Int32} {L L' : Nat → Nat → Int64} (h : xl E m L) (F : xp_fr t I L I' L') : xl E m L' := by
  intro i hi
  rw [F.2 30 i (by omega), F.2 31 i (by omega)]
  exact h i hi
theorem x_tree {E : Nat → Option (Int64 × Int64)} {ls : pt_L} {m en sz : Nat} {fn : Bool} (hd : 6 ≤ d) (hsz : sz ≤ 288) (hen : en ≤ sz) (hm : m ≤ 18) : ∀ (T : tr_T) (q : Nat), tr_ok (pt_ev (ls.take m) fn) T q → ∀ (s t : Nat) (I : Nat → Nat → Int32) (L : Nat → Nat → Int64) (P : am_R → Prop), tr_cc (I 16) (I 17) (I 18) (I 19) T s → s + tr_cz T ≤ en → t + tr_sz T ≤ 100 → I 29 4 = nI t → xl E m L → I 11 8 = nI sz →
    (∀ q, ex_T E T = some q → ∀ I' L', xp_fr t I L I' L' → xp_v t q I' L' → xh ext d D X en I' L' (s + tr_cz T) P) → (ex_T E T = none → ∀ I' L', xp_fr t I L I' L' → P (some (.int 0), (I', L', D, am_rf X))) → xh ext d D X en I L s P := by
  -- one step whose answer is told by o
  have step : ∀ (o : Option (Int64 × Int64)) (s t : Nat) (I I' : Nat → Nat → Int32) (L L' : Nat → Nat → Int64) (P : am_R → Prop), s < en → I 11 8 = nI sz → am_Rn ext 5 27 [.ref 29, .int (I 16 s), .int (I 17 s)] (I, L, D, am_rf X) (some (.int (if o = none then 0 else 1)), (I', L', D, am_rf X)) → (∀ q, o = some q → xh ext d D X en I' L' (s + 1) P) → (o = none → P (some (.int 0), (I', L', D, am_rf X))) → xh ext d D X en I L s P := by
    intro o s t I I' L L' P hs h8 r on ab
    cases o with
    | none => exact x_no (ext := ext) D X (by omega) h8 hsz hs hen (am_up r (by omega)) (ab rfl)
    | some q => exact x_ok (ext := ext) D X (by omega) h8 hsz hs hen (am_up r (by omega)) (on q rfl)
  -- a step that is never exact
  have bad : ∀ (v : Int32) (s : Nat) (I : Nat → Nat → Int32) (L : Nat → Nat → Int64) (P : am_R → Prop), s < en → I 11 8 = nI sz → I 16 s = v → (¬ v = 0 ∧ ¬ v = 2 ∧ ¬ v = 8 ∧ ¬ v = 11 ∧ ¬ v = 12 ∧ ¬ v = 13 ∧ ¬ v = 14) → P (some (.int 0), (I, L, D, am_rf X)) → xh ext d D X en I L s P := by
    intro v s I L P hs h8 hv hn h
    exact x_no (ext := ext) D X (by omega) h8 hsz hs hen (am_up (c27_no (ext := ext) (d := 0) D X (I 17 s) (by rw [hv]; exact hn)) (by omega)) h
  refine tr_ind ?_ ?_ ?_ ?_ ?_
  · intro p q _ hk s t I L P hcc hs ht h4 hE h8 on ab
    simp only [tr_cc] at hcc
    simp only [tr_cz] at hs on
    simp only [tr_sz] at ht
    obtain ⟨o1, o2, _, _⟩ := hcc
    have eT : ex_T E (.leaf p) = ex_0 E p := rfl
    rw [eT] at on ab
    rcases hk with ⟨k, h⟩ | ⟨k, h⟩ | ⟨k, h0, h, hli⟩ | ⟨k1, k2, _⟩
    · have e : ex_0 E p = xq (Int32.toInt64 (nI p.2.2.1)) 1 := by unfold ex_0; rw [if_pos k]
      have eo : tr_op p = 0 := by unfold tr_op; rw [k]; rfl
      have ea : tr_ar p = nI p.2.2.1 := by unfold tr_ar; rw [if_pos k]
      rw [e] at on ab
      obtain ⟨I', L', r, F, V⟩ := c27_0 (ext := ext) (d := 1) D X (L := L) h4 (by omega) p.2.2.1
      exact step _ s t I I' L L' P (by omega) h8 (by rw [o1, o2, eo, ea]; exact r) (fun q hq => on q hq I' L' F (V q hq)) (fun hq => ab hq I' L' F)
    · have e : ex_0 E p = none := by unfold ex_0; rw [if_neg (by omega), if_neg (by omega)]
      have eo : tr_op p = 1 := by unfold tr_op; rw [k]; rfl
      exact bad 1 s I L P (by omega) h8 (by rw [o1, eo]) (by decide) (ab e I L (xp_fr_0 t I L))
    · have htl : pt_tl (ls.take m) p.2.2.1 = 1 := h
      have hli' : p.2.2.2.1 = pt_ix (ls.take m) p.2.2.1 := hli
      obtain ⟨_, _, _, _, hlt⟩ := pt_ix_at (ls.take m) p.2.2.1 (by omega)
      rw [List.length_take, ← hli'] at hlt
      have e : ex_0 E p = xm (E p.2.2.2.1) := by unfold ex_0; rw [if_neg (by omega), if_pos k]
      have eo : tr_op p = 2 := by unfold tr_op; rw [k]; rfl
      have ea : tr_ar p = nI p.2.2.2.1 := by unfold tr_ar; rw [if_neg (by omega), if_pos (by omega)]
      rw [e] at on ab
      obtain ⟨I', L', r, F, V⟩ := c27_2 (ext := ext) (d := 1) D X (L := L) h4 (by omega) (show p.2.2.2.1 < 18 by omega) (hE _ (by omega)).1 (hE _ (by omega)).2
      exact step _ s t I I' L L' P (by omega) h8 (by rw [o1, o2, eo, ea]; exact r) (fun q hq => on q hq I' L' F (V q hq)) (fun hq => ab hq I' L' F)
    · have e : ex_0 E p = none := by unfold ex_0; rw [if_neg (by omega), if_neg (by omega)]
      have k : p.2.1 = 15 ∨ p.2.1 = 16 ∨ p.2.1 = 17 ∨ p.2.1 = 18 := by omega
      have eo : ∃ v : Int32, tr_op p = v ∧ (¬ v = 0 ∧ ¬ v = 2 ∧ ¬ v = 8 ∧ ¬ v = 11 ∧ ¬ v = 12 ∧ ¬ v = 13 ∧ ¬ v = 14) := by
        unfold tr_op
        rcases k with k | k | k | k <;> rw [k]
        · exact ⟨4, rfl, by decide⟩
        · exact ⟨5, rfl, by decide⟩
        · exact ⟨6, rfl, by decide⟩
        · exact ⟨7, rfl, by decide⟩
      obtain ⟨v, ev, hv⟩ := eo
      exact bad v s I L P (by omega) h8 (by rw [o1, ev]) hv (ab e I L (xp_fr_0 t I L))
  · intro p A q _ hk hA ih s t I L P hcc hs ht h4 hE h8 on ab
    simp only [tr_cc] at hcc
    obtain ⟨cA, o1, o2⟩ := hcc
    have cz : tr_cz (tr_1 p A) = tr_cz A + 1 := by simp [tr_cz]; omega
    have sz' : tr_sz (tr_1 p A) = tr_sz A + 1 := by simp [tr_sz]; omega
    rw [cz] at hs on
    rw [sz'] at ht
    have eT : ex_T E (tr_1 p A) = ex_1 p (ex_T E A) := rfl
    rw [eT] at on ab
    refine ih s t I L P cA (by omega) (by omega) h4 hE h8 (fun q hq I1 L1 F1 V1 => ?_) (fun hn I1 L1 F1 => ab (by rw [hn]; unfold ex_1; split <;> rfl) I1 L1 F1)
    have e16 := xp_I F1 16 (by omega)
    have e17 := xp_I F1 17 (by omega)
    have e11 : I1 11 8 = nI sz := by rw [xp_I F1 11 (by omega)]; exact h8
    rw [hq] at on ab
    have bd : ∀ v : Int32, tr_op p = v → (¬ v = 0 ∧ ¬ v = 2 ∧ ¬ v = 8 ∧ ¬ v = 11 ∧ ¬ v = 12 ∧ ¬ v = 13 ∧ ¬ v = 14) → ¬ p.2.1 = 3 → xh ext d D X en I1 L1 (s + tr_cz A) P := fun v ev hv h3 => bad v (s + tr_cz A) I1 L1 P (by omega) e11 (by rw [e16, o1, ev]) hv (ab (by unfold ex_1; rw [if_neg h3]) I1 L1 F1)
    rcases hk with k | k | k | ⟨k, _⟩
    · have e : ex_1 p (some q) = xq (-q.1) q.2 := by unfold ex_1; rw [if_pos k]
      have eo : tr_op p = 8 := by unfold tr_op; rw [k]; rfl
      rw [e] at on ab
      obtain ⟨I', L', r, F, V⟩ := c27_8 (ext := ext) (d := 1) D X V1 (by omega) (I1 17 (s + tr_cz A))
      have F' := xp_fr_t F1 F (Nat.le_refl _)
      refine step _ (s + tr_cz A) t I1 I' L1 L' P (by omega) e11 (by rw [e16, o1, eo]; exact r) (fun q hq => ?_) (fun hq => ab hq I' L' F')
      exact on q hq I' L' F' (V q hq)
    · exact bd 9 (by unfold tr_op; rw [k]; rfl) (by decide) (by omega)
    · exact bd 10 (by unfold tr_op; rw [k]; rfl) (by decide) (by omega)
    · exact bd 3 (by unfold tr_op; rw [k]; rfl) (by decide) (by omega)
  · intro p A B q k1 k2 _ hA hB iha ihb s t I L P hcc hs ht h4 hE h8 on ab
    simp only [tr_cc] at hcc
    obtain ⟨cA, cB, o1⟩ := hcc
    have zA := tr_pos A
    have cz : tr_cz (tr_2 p A B) = tr_cz A + tr_cz B + 1 := by simp [tr_cz]; omega
    have sz' : tr_sz (tr_2 p A B) = tr_sz A + tr_sz B + 1 := by simp [tr_sz]; omega
    rw [cz] at hs on
    rw [sz'] at ht
    have zB := tr_pos B
    have eT : ex_T E (tr_2 p A B) = ex_2 p (ex_T E A) (ex_T E B) := rfl
    rw [eT] at on ab
    refine iha s t I L P cA (by omega) (by omega) h4 hE h8 (fun q hq I1 L1 F1 V1 => ?_) (fun hn I1 L1 F1 => ab (by rw [hn]; unfold ex_2; split <;> rfl) I1 L1 F1)
    rw [hq] at on ab
    refine ihb (s + tr_cz A) (t + 1) I1 L1 P (by rw [xp_I F1 16 (by omega), xp_I F1 17 (by omega), xp_I F1 18 (by omega), xp_I F1 19 (by omega)]; exact cB) (by omega) (by omega) V1.1 (xl_fr hE F1) (by rw [xp_I F1 11 (by omega)]; exact h8) (fun r hr I2 L2 F2 V2 => ?_) (fun hn I2 L2 F2 => ab (by rw [hn]; unfold ex_2; split <;> rfl) I2 L2 (xp_fr_t F1 F2 (by omega)))
    rw [hr] at on ab
    have F12 := xp_fr_t F1 F2 (by omega)
    have e16 := xp_I F12 16 (by omega)
    have e11 : I2 11 8 = nI sz := by rw [xp_I F12 11 (by omega)]; exact h8
    have e : ex_2 p (some q) (some r) = xo p.2.1 q r := by unfold ex_2; rw [if_pos k2]
    rw [e] at on ab
    obtain ⟨I', L', rr, F, V⟩ := c28 (ext := ext) (d := 0) D X (I := I2) (L := L2) ⟨k1, k2⟩ (by rw [F2.2 32 t (by omega)]; exact V1.2.1) (by rw [F2.2 33 t (by omega)]; exact V1.2.2) V2 (by omega)
    have F' := xp_fr_t F12 F (Nat.le_refl _)
    have eo : tr_op p = nI (p.2.1 + 5) := by
      unfold tr_op
      have k : p.2.1 = 6 ∨ p.2.1 = 7 ∨ p.2.1 = 8 ∨ p.2.1 = 9 := by omega
      rcases k with k | k | k | k <;> rw [k] <;> rfl
    have r27 : am_Rn ext 5 27 [.ref 29, .int (I2 16 (s + tr_cz A + tr_cz B)), .int (I2 17 (s + tr_cz A + tr_cz B))] (I2, L2, D, am_rf X) (some (.int (if xo p.2.1 q r = none then 0 else 1)), (I', L', D, am_rf X)) := by
      rw [e16, o1, eo]
      refine am_rn_of mh_27 rfl (w27_0 I2 L2 D X _ _ ⟨fun z => ?_, fun z => ?_, fun z => ?_, fun _ => ⟨_, I', L', D, rr, in01, rfl⟩, fun z => ?_⟩)
      · have := (ni_eq (b := 0) (by omega) (by omega)).mp z; omega
      · have := (ni_eq (b := 2) (by omega) (by omega)).mp z; omega
      · have := (ni_eq (b := 8) (by omega) (by omega)).mp z; omega
      · obtain ⟨_, _, _, h1, h2, h3, h4⟩ := z
        have k : p.2.1 = 6 ∨ p.2.1 = 7 ∨ p.2.1 = 8 ∨ p.2.1 = 9 := by omega
        rcases k with k | k | k | k
        · exact absurd (by rw [k]; rfl) h1
        · exact absurd (by rw [k]; rfl) h2
        · exact absurd (by rw [k]; rfl) h3
        · exact absurd (by rw [k]; rfl) h4
    refine step _ (s + tr_cz A + tr_cz B) t I2 I' L2 L' P (by omega) e11 r27 (fun q hq => ?_) (fun hq => ab hq I' L' F')
    have := on q hq I' L' F' (V q hq)
    rwa [show s + (tr_cz A + tr_cz B + 1) = s + tr_cz A + tr_cz B + 1 by omega] at this
  · intro p A B q k _ hA hB iha ihb s t I L P hcc hs ht h4 hE h8 on ab
    simp only [tr_cc] at hcc
    obtain ⟨cA, cB, o1⟩ := hcc
    have zA := tr_pos A
    have zB := tr_pos B
    have cz : tr_cz (tr_2 p A B) = tr_cz A + tr_cz B + 1 := by simp [tr_cz]; omega
    have sz' : tr_sz (tr_2 p A B) = tr_sz A + tr_sz B + 1 := by simp [tr_sz]; omega
    rw [cz] at hs
    rw [sz'] at ht
    have eT : ex_T E (tr_2 p A B) = none := by show ex_2 p (ex_T E A) (ex_T E B) = none; unfold ex_2; rw [if_neg (by omega)]
    refine iha s t I L P cA (by omega) (by omega) h4 hE h8 (fun q hq I1 L1 F1 V1 => ?_) (fun hn I1 L1 F1 => ab eT I1 L1 F1)
    refine ihb (s + tr_cz A) (t + 1) I1 L1 P (by rw [xp_I F1 16 (by omega), xp_I F1 17 (by omega), xp_I F1 18 (by omega), xp_I F1 19 (by omega)]; exact cB) (by omega) (by omega) V1.1 (xl_fr hE F1) (by rw [xp_I F1 11 (by omega)]; exact h8) (fun r hr I2 L2 F2 V2 => ?_) (fun hn I2 L2 F2 => ab eT I2 L2 (xp_fr_t F1 F2 (by omega)))
    have F12 := xp_fr_t F1 F2 (by omega)
    have e16 := xp_I F12 16 (by omega)
    have e11 : I2 11 8 = nI sz := by rw [xp_I F12 11 (by omega)]; exact h8
    rcases k with k | k
    · exact bad 15 _ I2 L2 P (by omega) e11 (by rw [e16, o1]; unfold tr_op; rw [k]; rfl) (by decide) (ab eT I2 L2 F12)
    · exact bad 16 _ I2 L2 P (by omega) e11 (by rw [e16, o1]; unfold tr_op; rw [k]; rfl) (by decide) (ab eT I2 L2 F12)
  · intro p A B V W q k _ hA hB hV hW iha ihb _ _ s t I L P hcc hs ht h4 hE h8 on ab
    simp only [tr_cc] at hcc
    obtain ⟨cA, cB, o1, _⟩ := hcc
    have zA := tr_pos A
    have zB := tr_pos B
    have cz : tr_cz A + tr_cz B + 1 ≤ tr_cz (tr_4 p A B V W) := by simp [tr_cz]; omega
    have sz' : tr_sz A + tr_sz B + 1 ≤ tr_sz (tr_4 p A B V W) := by simp [tr_sz]; omega
    have eT : ex_T E (tr_4 p A B V W) = none := rfl
    refine iha s t I L P cA (by omega) (by omega) h4 hE h8 (fun q hq I1 L1 F1 V1 => ?_) (fun hn I1 L1 F1 => ab eT I1 L1 F1)
    refine ihb (s + tr_cz A) (t + 1) I1 L1 P (by rw [xp_I F1 16 (by omega), xp_I F1 17 (by omega), xp_I F1 18 (by omega), xp_I F1 19 (by omega)]; exact cB) (by omega) (by omega) V1.1 (xl_fr hE F1) (by rw [xp_I F1 11 (by omega)]; exact h8) (fun r hr I2 L2 F2 V2 => ?_) (fun hn I2 L2 F2 => ab eT I2 L2 (xp_fr_t F1 F2 (by omega)))
    have F12 := xp_fr_t F1 F2 (by omega)
    have e16 := xp_I F12 16 (by omega)
    have e11 : I2 11 8 = nI sz := by rw [xp_I F12 11 (by omega)]; exact h8
    rcases k with k | k
    · exact bad 17 _ I2 L2 P (by omega) e11 (by rw [e16, o1]; unfold tr_op; rw [k]; rfl) (by decide) (ab eT I2 L2 F12)
    · exact bad 18 _ I2 L2 P (by omega) e11 (by rw [e16, o1]; unfold tr_op; rw [k]; rfl) (by decide) (ab eT I2 L2 F12)
end FTREE
