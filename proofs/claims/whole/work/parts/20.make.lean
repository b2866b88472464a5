/-! ===== making objects: the small machine with a growing shape ===== -/
abbrev an_C : Type := Nat × List (Option Value) × List Value × am_Sh × am_M
abbrev an_R : Type := am_Sh × am_M
def am_new (m : am_M) (k : Nat) : am_M := (fun a b => bif a == k then 0 else m.1 a b, fun a b => bif a == k then 0 else m.2.1 a b, fun a b => bif a == k then 0 else m.2.2.1 a b, fun a b => bif a == k then none else m.2.2.2 a b)
def an_rb (n : Nat) (v : Value) : Bool := match v with
  | .ref r => Nat.ble (r + 1) n
  | _ => true
def an_lb (n : Nat) (v : Option Value) : Bool := match v with
  | some v => an_rb n v
  | none => true
def an_cb (n : Nat) (m : am_M) (k : Nat) (x : am_S1) : Bool := match x with
  | .inl o => (List.range o.2.length).all (fun j => match am_rv m k j (o.2.getD j 0) with | .ref r => Nat.ble (r + 1) n | _ => true)
  | _ => true
/-- no reference points beyond the shape -/
def an_wf (sh : am_Sh) (m : am_M) (ls : List (Option Value)) (st : List Value) : Bool :=
  (List.range sh.length).all (fun k => an_cb sh.length m k (sh.getD k (.inr (0, 0)))) && ls.all (an_lb sh.length) && st.all (an_rb sh.length)
def an_s1 (x : am_S1) : Nat := match x with
  | .inl o => o.2.length
  | .inr kn => kn.2
def am_sz (sh : am_Sh) : Nat := (sh.map an_s1).sum
def an_nak (k : Nat) : Bool := k == 0 || k == 1 || k == 2 || k == 4
def an_hd (vs : List Value) : Bool := match vs with
  | .ref _ :: _ => true
  | _ => false
def an_go (Cd : Nat → Option am_Q) (call : am_Sh → Nat → List Value → am_M → Option am_R) (con : Nat → List Value → am_Sh → am_M → Option an_R) : Nat → an_C → Option an_R
  | 0, _ => none
  | n + 1, c => match Cd c.1 with
    | none => none
    | some q => match q.1 with
      | .return_ => (match c.2.2.1 with | [] => some (c.2.2.2.1, c.2.2.2.2) | _ => none)
      | .new _ => (match q.2.2 with
        | ci :: _ => bif an_wf c.2.2.2.1 c.2.2.2.2 c.2.1 c.2.2.1 && Nat.ble (ci + 1) 9 then an_go Cd call con n (c.1 + 3, c.2.1, .ref c.2.2.2.1.length :: c.2.2.1, c.2.2.2.1 ++ [.inl (ci, am_ks ci)], am_new c.2.2.2.2 c.2.2.2.1.length) else none
        | _ => none)
      | .newarray _ => (match q.2.2, c.2.2.1 with
        | k :: _, .int v :: r => bif an_wf c.2.2.2.1 c.2.2.2.2 c.2.1 c.2.2.1 && !(decide (v < 0)) && Nat.ble v.toNatClampNeg 1000 && an_nak k then an_go Cd call con n (c.1 + 2, c.2.1, .ref c.2.2.2.1.length :: r, c.2.2.2.1 ++ [.inr (k, v.toNatClampNeg)], am_new c.2.2.2.2 c.2.2.2.1.length) else none
        | _, _ => none)
      | .invokespecial _ => (match q.2.2 with
        | j :: nn :: _ => bif an_wf c.2.2.2.1 c.2.2.2.2 c.2.1 c.2.2.1 && Nat.ble nn c.2.2.1.length && Nat.ble (((c.2.2.1.drop nn).map fun v => v.category).sum) 8 && an_hd (c.2.2.1.take nn).reverse then
            (match con j (c.2.2.1.take nn).reverse c.2.2.2.1 c.2.2.2.2 with
              | some r => an_go Cd call con n (c.1 + 3, c.2.1, c.2.2.1.drop nn, r.1, r.2)
              | none => none)
          else none
        | _ => (match c.2.2.1 with
          | .ref _ :: r => bif Nat.ble ((r.map fun v => v.category).sum) 8 then an_go Cd call con n (c.1 + 3, c.2.1, r, c.2.2.2.1, c.2.2.2.2) else none
          | _ => none))
      | .invokevirtual _ => (match am_inv c.2.2.2.1 (call c.2.2.2.1) q (c.1, c.2.1, c.2.2.1, c.2.2.2.2) with
        | some x => an_go Cd call con n (x.1, x.2.1, x.2.2.1, c.2.2.2.1, x.2.2.2)
        | none => none)
      | _ => (match am_step c.2.2.2.1 q (c.1, c.2.1, c.2.2.1, c.2.2.2.2) with
        | some x => an_go Cd call con n (x.1, x.2.1, x.2.2.1, c.2.2.2.1, x.2.2.2)
        | none => none)
/-- constructors: code and locals -/
abbrev an_Y : Type := (Nat → Option am_Q) × Nat
def an_ex (Yc : Nat → Option an_Y) (Ys : Nat → Option am_Y) (n : Nat) : Nat → Nat → List Value → am_Sh → am_M → Option an_R
  | 0, _, _, _, _ => none
  | d + 1, j, as, sh, m => match Yc j with
    | none => none
    | some y => bif Nat.ble (am_ent as).length y.2 then an_go y.1 (fun sh => am_ex Ys (fun _ _ _ => none) sh n d) (an_ex Yc Ys n d) n (0, am_loc y.2 as, [], sh, m) else none
theorem am_sz_app (sh : am_Sh) (x : am_S1) : am_sz (sh ++ [x]) = am_sz sh + an_s1 x := by
  simp [am_sz]
/-- the shape only grows -/
theorem an_go_mono {Cd : Nat → Option am_Q} {call : am_Sh → Nat → List Value → am_M → Option am_R} {con : Nat → List Value → am_Sh → am_M → Option an_R} (hcon : ∀ j as sh m r, con j as sh m = some r → sh.length ≤ r.1.length ∧ am_sz sh ≤ am_sz r.1) {r : an_R} :
    ∀ (n : Nat) (c : an_C), an_go Cd call con n c = some r → c.2.2.2.1.length ≤ r.1.length ∧ am_sz c.2.2.2.1 ≤ am_sz r.1 := by
  intro n
  induction n with
  | zero => intro c h; cases h
  | succ n ih =>
    intro c h
    simp only [an_go] at h
    split at h
    · cases h
    · next q hq =>
      split at h
      · split at h
        · cases h; exact ⟨Nat.le_refl _, Nat.le_refl _⟩
        · cases h
      · split at h
        · next ci rs heq =>
          cases hb : (an_wf c.2.2.2.1 c.2.2.2.2 c.2.1 c.2.2.1 && Nat.ble (ci + 1) 9) with
          | false => rw [hb] at h; cases h
          | true =>
            rw [hb] at h
            have := ih _ h
            simp only [List.length_append, List.length_cons, List.length_nil, am_sz_app] at this
            omega
        · cases h
      · split at h
        · next k rs v r2 e1 e2 =>
          cases hb : (an_wf c.2.2.2.1 c.2.2.2.2 c.2.1 c.2.2.1 && !(decide (v < 0)) && Nat.ble v.toNatClampNeg 1000 && an_nak k) with
          | false => rw [hb] at h; cases h
          | true =>
            rw [hb] at h
            have := ih _ h
            simp only [List.length_append, List.length_cons, List.length_nil, am_sz_app] at this
            omega
        · cases h
      · split at h
        · next j nn rs heq =>
          cases hb : (an_wf c.2.2.2.1 c.2.2.2.2 c.2.1 c.2.2.1 && Nat.ble nn c.2.2.1.length && Nat.ble (((c.2.2.1.drop nn).map fun v => v.category).sum) 8 && an_hd (c.2.2.1.take nn).reverse) with
          | false => rw [hb] at h; cases h
          | true =>
            rw [hb] at h
            simp only [cond_true] at h
            split at h
            · next r2 hr2 =>
              have h1 := hcon _ _ _ _ _ hr2
              have h2 := ih _ h
              simp only at h2
              omega
            · cases h
        · split at h
          · next a r2 heq =>
            cases hb : Nat.ble ((r2.map fun v => v.category).sum) 8 with
            | false => rw [hb] at h; cases h
            | true =>
              rw [hb] at h
              have h2 := ih _ h
              exact h2
          · cases h
      · split at h
        · have h2 := ih _ h
          exact h2
        · cases h
      · split at h
        · have h2 := ih _ h
          exact h2
        · cases h
/-! the world with one cell more -/
def an_up (ad : Nat → Nat) (n q : Nat) : Nat → Nat := fun k => bif k == n then q else ad k
theorem an_up_off {ad : Nat → Nat} {n q k : Nat} (h : k < n) : an_up ad n q k = ad k := by
  have hb : (k == n) = false := by simpa using Nat.ne_of_lt h
  simp [an_up, hb]
theorem an_up_on {ad : Nat → Nat} {n q : Nat} : an_up ad n q n = q := by simp [an_up]
theorem an_cv_same {ad ad' : Nat → Nat} {n : Nat} (h : ∀ k, k < n → ad' k = ad k) {v : Value} (hv : an_rb n v = true) : am_cv ad' v = am_cv ad v := by
  cases v <;> simp [am_cv]
  next r => exact h r (Nat.le_of_ble_eq_true hv)
theorem an_cell_same {cy : Nat → ClassId} {ad ad' : Nat → Nat} {n k : Nat} {m : am_M} {x : am_S1} (h : ∀ k, k < n → ad' k = ad k) (hc : an_cb n m k x = true) : am_cell cy ad' m k x = am_cell cy ad m k x := by
  unfold am_cell
  split
  · next o =>
    congr 2
    apply List.map_congr_left
    intro j hj
    have h1 := List.all_eq_true.mp hc j hj
    unfold am_fv
    refine an_cv_same h (n := n) ?_
    unfold an_rb
    cases hv : am_rv m k j (o.2.getD j 0) <;> rw [hv] at h1 <;> first | rfl | exact h1
  all_goals rfl
theorem am_new_off {m : am_M} {n a : Nat} (h : a ≠ n) : (am_new m n).1 a = m.1 a ∧ (am_new m n).2.1 a = m.2.1 a ∧ (am_new m n).2.2.1 a = m.2.2.1 a ∧ (am_new m n).2.2.2 a = m.2.2.2 a := by
  have hb : (a == n) = false := by simpa using h
  simp [am_new, hb]
theorem an_W_ext {cy : Nat → ClassId} {ad : Nat → Nat} {sh : am_Sh} {m : am_M} {x : am_S1} {q : Nat} (hw : (List.range sh.length).all (fun k => an_cb sh.length m k (sh.getD k (.inr (0, 0)))) = true) :
    am_W cy (an_up ad sh.length q) (sh ++ [x]) (am_new m sh.length) = am_W cy ad sh m ++ [(q, am_cell cy (an_up ad sh.length q) (am_new m sh.length) sh.length x)] := by
  unfold am_W
  rw [List.length_append, List.length_singleton, List.range_succ, List.map_append]
  congr 1
  · apply List.map_congr_left
    intro k hk
    have hk' : k < sh.length := List.mem_range.mp hk
    have h1 := List.all_eq_true.mp hw k hk
    have hne : k ≠ sh.length := Nat.ne_of_lt hk'
    obtain ⟨a1, a2, a3, a4⟩ := am_new_off (m := m) hne
    have hg : (sh ++ [x]).getD k (.inr (0, 0)) = sh.getD k (.inr (0, 0)) := by
      simp [List.getD, List.getElem?_append_left hk']
    rw [an_up_off hk', hg, am_cell_congr (m := m) a1 a2 a3 a4, an_cell_same (n := sh.length) (fun k h => an_up_off h) h1]
  · simp [an_up_on, List.getD]
theorem an_W_grow {cy : Nat → ClassId} {ad ad' : Nat → Nat} {sh : am_Sh} {m : am_M} (h : ∀ k, k < sh.length → ad' k = ad k) (hw : (List.range sh.length).all (fun k => an_cb sh.length m k (sh.getD k (.inr (0, 0)))) = true) : am_W cy ad' sh m = am_W cy ad sh m := by
  unfold am_W
  apply List.map_congr_left
  intro k hk
  have hk' : k < sh.length := List.mem_range.mp hk
  rw [h k hk', an_cell_same h (List.all_eq_true.mp hw k hk)]
theorem an_st_same {ad ad' : Nat → Nat} {n : Nat} (h : ∀ k, k < n → ad' k = ad k) {st : List Value} (hs : st.all (an_rb n) = true) : st.map (am_cv ad') = st.map (am_cv ad) := by
  apply List.map_congr_left
  intro v hv
  exact an_cv_same h (List.all_eq_true.mp hs v hv)
theorem an_ls_same {ad ad' : Nat → Nat} {n : Nat} (h : ∀ k, k < n → ad' k = ad k) {ls : List (Option Value)} (hs : ls.all (an_lb n) = true) : am_lv ad' ls = am_lv ad ls := by
  unfold am_lv
  congr 1
  funext i
  cases hv : ls[i]? with
  | none => rfl
  | some o =>
    cases o with
    | none => rfl
    | some v =>
      have h1 := List.all_eq_true.mp hs _ (List.mem_of_getElem? hv)
      simp only
      rw [an_cv_same h h1]
theorem an_wf3 {sh : am_Sh} {m : am_M} {ls : List (Option Value)} {st : List Value} (h : an_wf sh m ls st = true) : (List.range sh.length).all (fun k => an_cb sh.length m k (sh.getD k (.inr (0, 0)))) = true ∧ ls.all (an_lb sh.length) = true ∧ st.all (an_rb sh.length) = true := by
  unfold an_wf at h
  rw [Bool.and_eq_true, Bool.and_eq_true] at h
  exact ⟨h.1.1, h.1.2, h.2⟩
