/-! ===== the law by the small machine, what was made counted by N, M ===== -/
section LAW
variable {p : Program} {l : Launch} {e : Env} {s : State} {m : MethodId} {below : List Frame} {meth : Method} {c : Code} {Q : State → Prop} {D : va_G} {cy : Nat → ClassId} {ad : Nat → Nat} {b Ln : Nat} {xs : Nat → Int32}
def ln_W (N M : Nat) (p : Program) (l : Launch) (e : Env) (s : State) (m : MethodId) (b : Nat) (below : List Frame) (meth : Method) (c : Code) (Q : State → Prop) (D : va_G) (cy : Nat → ClassId) (ad : Nat → Nat) (x : am_C) : Prop :=
  am_Ws p l e room_1 s m #[Value.ref b] below meth c N M Q 8 D am_cl cy (fun q => s.heap.size ≤ q) s.heap ad am_SH x
variable {N M : Nat}
theorem ln_blk {Cd : Nat → Option am_Q} (hx : p.tables.exec = Jvm.exec) (hb : c.code = code) (hown : s.vm.findClass "SureSumsLaw" = some m.cls) (hts : ∀ w ∈ am_U, w.before #[Value.ref b] s = true) (hK : va_K D am_cl (am_tys cy) s) (hCd : ∀ pc q, Cd pc = some q → decode code pc = .ok (q.1, q.2.1) ∧ am_lk "SureSumsLaw" am_cl am_U pc q) {x' : am_C} :
    ∀ (k : Nat) {x : am_C}, am_run Cd k x = some x' → ln_W N M p l e s m b below meth c Q D cy ad x' → ln_W N M p l e s m b below meth c Q D cy ad x := by
  intro k
  induction k with
  | zero =>
    intro x h g
    cases h
    exact g
  | succ k ih =>
    intro x h g
    simp only [am_run] at h
    split at h
    · cases h
    · next q hq =>
      cases hp : am_pl q.1 with
      | false => rw [hp] at h; cases h
      | true =>
        rw [hp] at h
        simp only [cond_true] at h
        split at h
        · next c1 hc1 =>
          obtain ⟨h1, h2⟩ := hCd _ _ hq
          exact am_stepW hx hb hown hts hK am_cl_ok (am_shk_of am_SH_ok) h1 h2 hc1 (ih h g)
        · cases h
theorem ln_sld (hx : p.tables.exec = Jvm.exec) (hb : c.code = code) (hX : va_X b Ln xs s s.heap) (hbl : b < s.heap.size) (had : ad 82 = b) {pc : Nat} {i : Int32} {ls : List (Option Value)} {st : List Value} {mem : am_M} (hd : decode code pc = .ok (.iaload, 1)) (hi : vp_in i Ln)
    (k : ln_W N M p l e s m b below meth c Q D cy ad (pc + 1, ls, .int (xs i.toNatClampNeg) :: st, mem)) : ln_W N M p l e s m b below meth c Q D cy ad (pc, ls, .int i :: .ref 82 :: st, mem) := by
  intro H locs L hP hD hS hl hn
  have k2 := k H locs L hP hD hS hl hn
  have e1 : (Value.int i :: Value.ref 82 :: st).map (am_cv ad) = .int i :: .ref b :: st.map (am_cv ad) := by simp [am_cv, had]
  show W p l e room_1 s m #[Value.ref b] below meth c H locs N M Q (F0 m pc L ((Value.int i :: Value.ref 82 :: st).map (am_cv ad)))
  rw [e1]
  exact va_sld hx hb hX hbl (Nat.not_le.mpr hbl) hS hi hd k2
theorem ln_slen (hx : p.tables.exec = Jvm.exec) (hb : c.code = code) (hX : va_X b Ln xs s s.heap) (hbl : b < s.heap.size) (had : ad 82 = b) {pc : Nat} {ls : List (Option Value)} {st : List Value} {mem : am_M} (hd : decode code pc = .ok (.arraylength, 1))
    (k : ln_W N M p l e s m b below meth c Q D cy ad (pc + 1, ls, .int (Int32.ofNat Ln) :: st, mem)) : ln_W N M p l e s m b below meth c Q D cy ad (pc, ls, .ref 82 :: st, mem) := by
  intro H locs L hP hD hS hl hn
  have k2 := k H locs L hP hD hS hl hn
  have e1 : (Value.ref 82 :: st).map (am_cv ad) = .ref b :: st.map (am_cv ad) := by simp [am_cv, had]
  show W p l e room_1 s m #[Value.ref b] below meth c H locs N M Q (F0 m pc L ((Value.ref 82 :: st).map (am_cv ad)))
  rw [e1]
  exact va_slen hx hb hX hbl (Nat.not_le.mpr hbl) hS hd k2
/-- a call of the class or of the reference -/
theorem ln_call (hNM : N ≤ 601024 ∧ M ≤ 7293034) {ext : Nat → List Value → am_M → Option am_R} {Ex : State → Prop} (hx : p.tables.exec = Jvm.exec) (hb : c.code = code) (hml : c.maxLocals = 8) (hown : s.vm.findClass "SureSumsLaw" = some m.cls) (hts : ∀ w ∈ am_U, w.before #[Value.ref b] s = true) (hK : va_K D am_cl (am_tys cy) s) (hE : am_Exh ad am_SH.length Ex) (hEs : Ex s)
    (hext : ∀ d j as mem r nm, am_Ys j = none → ext j as mem = some r → am_Nm j = some nm → am_Mt l D am_cl cy ad am_SH Ex am_U nm (5 + d + 1) as mem r)
    {pc : Nat} {q : am_Q} {ls : List (Option Value)} {st : List Value} {mem : am_M} {r : am_R} {i j n vi ci : Nat} {rs : List Nat} {as : List Value} (hd : decode code pc = .ok (q.1, q.2.1)) (hck : am_ck "SureSumsLaw" am_cl am_U am_Nm q) (hi : q.1 = .invokevirtual i) (hq : q.2.2 = j :: n :: vi :: ci :: rs) (has : (st.take n).reverse = as) (hc : (Nat.ble n st.length && Nat.ble (((st.drop n).map fun v => v.category).sum) 8 && am_rc am_SH vi ci as) = true)
    (hR : am_Rn ext 400 j as mem r) (hnA : ∀ k, k < am_SH.length → s.heap.size ≤ ad k)
    (k : ln_W N M p l e s m b below meth c Q D cy ad (pc + 3, ls, r.1.toList ++ st.drop n, r.2)) : ln_W N M p l e s m b below meth c Q D cy ad (pc, ls, st, mem) := by
  obtain ⟨n0, h0⟩ := hR
  have hinv : am_inv am_SH (am_ex am_Ys ext am_SH n0 400) q (pc, ls, st, mem) = some (pc + 3, ls, r.1.toList ++ st.drop n, r.2) := by
    subst has
    simp only [am_inv, hq, hc, cond_true, h0 n0 (Nat.le_refl _)]
  refine an_invH (Ex := Ex) (d0 := 405) (R := room_1) hx hb hml hown hts am_U_uw hK hE hEs (by decide) (by decide) hNM.1 hNM.2 ?_ (fun q h => h) am_nk_ok (fun j as mem r nm hh hn => am_exV 5 am_U_uw hE am_cl_ok (am_shk_of am_SH_ok) am_nk_ok am_yk_ok hext n0 400 j as mem r nm hh hn) hd hck (Or.inl ⟨i, hi⟩) hinv k
  intro q h1 h2 h3
  exact absurd h3 (Nat.not_le.mpr h1)
end LAW
