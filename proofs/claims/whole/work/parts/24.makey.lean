theorem an_go_shB {Cd : Nat → Option am_Q} {call : am_Sh → Nat → List Value → am_M → Option am_R} {con : Nat → List Value → am_Sh → am_M → Option an_R} (hcon : ∀ j as sh m r, con j as sh m = some r → am_shB sh = true → am_shB r.1 = true) {r : an_R} :
    ∀ (n : Nat) (c : an_C), an_go Cd call con n c = some r → am_shB c.2.2.2.1 = true → am_shB r.1 = true := by
  intro n
  induction n with
  | zero => intro c h; cases h
  | succ n ih =>
    intro c h hs
    simp only [an_go] at h
    split at h
    · cases h
    · next q hq =>
      split at h
      · split at h
        · cases h; exact hs
        · cases h
      · split at h
        · next ci rs heq =>
          cases hb : (an_wf c.2.2.2.1 c.2.2.2.2 c.2.1 c.2.2.1 && Nat.ble (ci + 1) 9) with
          | false => rw [hb] at h; cases h
          | true =>
            rw [hb] at h
            rw [Bool.and_eq_true] at hb
            have h2 := ih _ h (am_shB_app hs (Nat.le_of_ble_eq_true hb.2))
            exact h2
        · cases h
      · split at h
        · next k rs v r2 e1 e2 =>
          cases hb : (an_wf c.2.2.2.1 c.2.2.2.2 c.2.1 c.2.2.1 && !(decide (v < 0)) && Nat.ble v.toNatClampNeg 1000 && an_nak k) with
          | false => rw [hb] at h; cases h
          | true =>
            rw [hb] at h
            have h2 := ih _ h (am_shB_apr hs _)
            exact h2
        · cases h
      · split at h
        · next j nn rs heq =>
          cases hb : (an_wf c.2.2.2.1 c.2.2.2.2 c.2.1 c.2.2.1 && Nat.ble nn c.2.2.1.length && Nat.ble (((c.2.2.1.drop nn).map fun v => v.category).sum) 8 && an_hd (c.2.2.1.take nn).reverse) with
          | false => rw [hb] at h; cases h
          | true =>
            rw [hb] at h
            simp only [cond_true] at h
            split at h
            · next r2 hr2 =>
              have h2 := ih _ h (hcon _ _ _ _ _ hr2 hs)
              exact h2
            · cases h
        · split at h
          · next a r2 heq =>
            cases hb : Nat.ble ((r2.map fun v => v.category).sum) 8 with
            | false => rw [hb] at h; cases h
            | true =>
              rw [hb] at h
              have h2 := ih _ h hs
              exact h2
          · cases h
      · split at h
        · have h2 := ih _ h hs
          exact h2
        · cases h
      · split at h
        · have h2 := ih _ h hs
          exact h2
        · cases h
theorem an_ex_mono {Yc : Nat → Option an_Y} {Ys : Nat → Option am_Y} {n : Nat} : ∀ (d j : Nat) (as : List Value) (sh : am_Sh) (m : am_M) (r : an_R), an_ex Yc Ys n d j as sh m = some r → sh.length ≤ r.1.length ∧ am_sz sh ≤ am_sz r.1 := by
  intro d
  induction d with
  | zero => intro j as sh m r h; cases h
  | succ d ih =>
    intro j as sh m r h
    simp only [an_ex] at h
    split at h
    · cases h
    · next y hy =>
      cases hb : Nat.ble (am_ent as).length y.2 with
      | false => rw [hb] at h; cases h
      | true =>
        rw [hb] at h
        have h2 := an_go_mono ih n _ h
        exact h2
theorem an_ex_shB {Yc : Nat → Option an_Y} {Ys : Nat → Option am_Y} {n : Nat} : ∀ (d j : Nat) (as : List Value) (sh : am_Sh) (m : am_M) (r : an_R), an_ex Yc Ys n d j as sh m = some r → am_shB sh = true → am_shB r.1 = true := by
  intro d
  induction d with
  | zero => intro j as sh m r h; cases h
  | succ d ih =>
    intro j as sh m r h hs
    simp only [an_ex] at h
    split at h
    · cases h
    · next y hy =>
      cases hb : Nat.ble (am_ent as).length y.2 with
      | false => rw [hb] at h; cases h
      | true =>
        rw [hb] at h
        have h2 := an_go_shB ih n _ h hs
        exact h2
/-- the tables of constructors are right -/
def an_yk (UW : List Cond) (Nc Nm : Nat → Option am_N) (Yc : Nat → Option an_Y) : Prop := ∀ j y, Yc j = some y → ∃ nm, Nc j = some nm ∧ nm.2.2.1 = y.2 ∧ nm.2.2.2 = none ∧ nm.1.name = "<init>" ∧ ∀ pc q, y.1 pc = some q → decode nm.2.1 pc = .ok (q.1, q.2.1) ∧ an_lk nm.1.cls UW pc q ∧ am_ck nm.1.cls am_cl UW Nm q ∧ an_ck nm.1.cls UW Nc q
set_option maxHeartbeats 4000000 in
set_option maxRecDepth 100000 in
/-- constructors: what the small machine makes, the machine makes -/
theorem an_exW {l : Launch} {D : va_G} {cy : Nat → ClassId} {UW : List Cond} {Nc Nm : Nat → Option am_N} (hu : am_uw UW) (hcl : am_cls am_cl UW) (hnk : ∀ j nm, Nm j = some nm → am_nk UW nm) (hnc : ∀ j nm, Nc j = some nm → am_nk UW nm) {Ys : Nat → Option am_Y} (hyk : am_yk am_cl UW Nm Ys) {Yc : Nat → Option an_Y} (hyc : an_yk UW Nc Nm Yc) (n : Nat) :
    ∀ (d j : Nat) (as : List Value) (sh : am_Sh) (mem : am_M) (r : an_R) (nm : am_N), am_shB sh = true → an_ex Yc Ys n d j as sh mem = some r → Nc j = some nm → an_Mt l D cy UW nm d as sh mem r := by
  intro d
  induction d with
  | zero => intro j as sh mem r nm _ h; cases h
  | succ d ih =>
    intro j as sh mem r nm hsb h hnm
    simp only [an_ex] at h
    split at h
    · cases h
    · next y hy =>
      cases hb : Nat.ble (am_ent as).length y.2 with
      | false => rw [hb] at h; cases h
      | true =>
        rw [hb] at h
        simp only [cond_true] at h
        obtain ⟨nm2, hnm2, hmx, hret, hnam, hCd⟩ := hyc j y hy
        cases hnm.symm.trans hnm2
        obtain ⟨hpl, -, -, -, -, -⟩ := hnc j nm hnm
        intro ad sz
        refine am_ofW (cc := nm.2.1) (maxL := nm.2.2.1) (ret := nm.2.2.2) hpl rfl ?_
        intro p e s m args below meth c s₁ B hml hv
        obtain ⟨rfl, hsz, hP, hK, hD⟩ := hv
        subst hsz
        have hts := atoms_spec (ws := am_ws UW nm) B.pre
        have hle : (am_ent as).length ≤ nm.2.2.1 := by rw [hmx]; exact Nat.le_of_ble_eq_true hb
        have hle2 : (lg_sl (as.map (am_cv ad))).length ≤ nm.2.2.1 := by rw [am_ent_len]; exact hle
        have hl := lv_entry (as.map (am_cv ad)) (n := nm.2.2.1) hle2
        have hmn : meth.name = "<init>" := (name_of_methodNamed B.named B.method).1.trans hnam
        rw [lg_entry_eq]
        have hW := an_goW (e := e) (R := an_rm (d + 1) (r.1.length - sh.length) (am_sz r.1 - am_sz sh)) (below := below) (args := (as.map (am_cv ad)).toArray) (A := am_A ad sh.length s.heap.size) (ad0 := ad) (sh0 := sh) B.exec B.bytes hml (findClass_of_methodNamed B.named) (fun w hw => hts w (List.mem_cons_of_mem _ hw)) hu hK hcl hmn B.notSynchronized (B.returns.trans hret) rfl hnk hnc (fun sh j as mem r nm ad hsb hh hn => am_exW (ad := ad) (Ex := fun _ => True) hu (fun _ _ _ _ _ _ => trivial) hcl (am_shk_of hsb) hnk hyk (ext := fun _ _ _ => none) (fun _ _ _ _ _ _ _ hz _ => by cases hz) n d j as mem r nm hh hn) (fun j as sh mem r nm => ih j as sh mem r nm) (an_ex_mono d) (an_ex_shB d) hCd (Nat.le_refl _) (Nat.le_refl _) rfl rfl n (0, am_loc y.2 as, [], sh, mem) h hsb (Nat.le_refl _) (Nat.le_refl _)
        have hll : (am_loc y.2 as).length = nm.2.2.1 := by
          unfold am_loc
          rw [List.length_append, List.length_replicate]
          omega
        have k := hW ad s.heap [] _ (fun _ _ => rfl) hP hD va_S.rf (by rw [← hmx]; exact am_loc_has hl) hll
        simp only [Nat.sub_self] at k
        exact k
