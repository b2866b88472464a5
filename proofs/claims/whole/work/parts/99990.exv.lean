/-! ===== the small machine is right, outside calls wanting more room ===== -/
section EXV
variable {p : Program} {l : Launch} {e : Env} {s : State} {m : MethodId} {args : Array Value} {below : List Frame} {meth : Method} {c : Code} {cc : ByteArray} {nL : Nat} {D : va_G} {cl : List vw_C} {cy : Nat → ClassId} {A : Nat → Prop} {ad : Nat → Nat} {sh : am_Sh} {own : String} {UW : List Cond} {Ex : State → Prop} {Nm : Nat → Option am_N}
set_option maxHeartbeats 4000000 in
set_option maxRecDepth 100000 in
/-- as am_exW, what comes from outside wanting kk frames more -/
theorem am_exV (kk : Nat) (hu : am_uw UW) (hE : am_Exk ad sh.length Ex) (hcl : am_cls cl UW) (hsk : am_shk cl sh) (hnk : ∀ j nm, Nm j = some nm → am_nk UW nm) {Ys : Nat → Option am_Y} (hyk : am_yk cl UW Nm Ys)
    {ext : Nat → List Value → am_M → Option am_R} (hext : ∀ d j as mem r nm, Ys j = none → ext j as mem = some r → Nm j = some nm → am_Mt l D cl cy ad sh Ex UW nm (kk + d + 1) as mem r) (n : Nat) :
    ∀ (d j : Nat) (as : List Value) (mem : am_M) (r : am_R) (nm : am_N), am_ex Ys ext sh n d j as mem = some r → Nm j = some nm → am_Mt l D cl cy ad sh Ex UW nm (kk + d) as mem r := by
  intro d
  induction d with
  | zero => intro j as mem r nm h; cases h
  | succ d ih =>
    intro j as mem r nm h hnm
    simp only [am_ex] at h
    cases hy : Ys j with
    | none =>
      rw [hy] at h
      exact hext d j as mem r nm hy h hnm
    | some y =>
      rw [hy] at h
      simp only at h
      cases hb : Nat.ble (am_ent as).length y.2.1 with
      | false => rw [hb] at h; cases h
      | true =>
        rw [hb] at h
        simp only [cond_true] at h
        obtain ⟨nm2, hnm2, hmx, hrk, hCd⟩ := hyk j y hy
        cases hnm.symm.trans hnm2
        obtain ⟨hpl, -, -, -, -, -⟩ := hnk j nm hnm
        intro sz
        refine am_ofW (cc := nm.2.1) (maxL := nm.2.2.1) (ret := nm.2.2.2) hpl rfl ?_
        intro p e s m args below meth c s₁ B hml hv
        obtain ⟨rfl, hsz, hP, hK, hD, hEs⟩ := hv
        subst hsz
        have hts := atoms_spec (ws := am_ws UW nm) B.pre
        have hle : (am_ent as).length ≤ nm.2.2.1 := by rw [hmx]; exact Nat.le_of_ble_eq_true hb
        have hle2 : (lg_sl (as.map (am_cv ad))).length ≤ nm.2.2.1 := by rw [am_ent_len]; exact hle
        have hl := lv_entry (as.map (am_cv ad)) (n := nm.2.2.1) hle2
        rw [lg_entry_eq]
        have hW := am_goW (e := e) (below := below) (args := (as.map (am_cv ad)).toArray) (A := am_A ad sh.length s.heap.size) B.exec B.bytes hml (findClass_of_methodNamed B.named) (fun w hw => hts w (List.mem_cons_of_mem _ hw)) hu hK hE hEs rfl hcl hsk B.notSynchronized hnk B.returns hrk (fun j as mem r nm => ih j as mem r nm) hCd n (0, am_loc y.2.1 as, [], mem) h
        have hll : (am_loc y.2.1 as).length = nm.2.2.1 := by
          unfold am_loc
          rw [List.length_append, List.length_replicate]
          omega
        exact hW s.heap [] _ hP hD va_S.rf (by rw [← hmx]; exact am_loc_has hl) hll
end EXV
