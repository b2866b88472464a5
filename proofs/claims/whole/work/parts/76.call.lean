/-! ===== the class asks: all lines ===== -/
theorem gd2_0 (w : Nat) : gd2 w 0 0 := by
  have h : (1 : Nat) ≤ 2 ^ w := Nat.one_le_two_pow
  have e : ((2 ^ w : Nat) : Int) = (2 : Int) ^ w := by rw [Int.natCast_pow]; rfl
  have z : (0 : Int64).toInt = 0 := rfl
  unfold gd2
  rw [z]
  generalize (2 : Int) ^ w = k at *
  omega
/-- what is found is LOW, HIGH in order, within the limit -/
def gd_all (w : Nat) (ls : pt_L) : Prop := ∀ n m fn T q a b, gd2 w a b → tr_ok (pt_ev (ls.take m) fn) T q → gd w (ev_T w (ev_L w ls n) T a b).1
theorem gd_all_L {w : Nat} {ls : pt_L} (hwf : pt_wf ls) (h : gd_all w ls) (n i : Nat) (a b : Int64) (hab : gd2 w a b) : gd w (ev_L w ls n i a b).1 := by
  cases n with
  | zero => intro p hp; cases hp
  | succ n =>
    cases hx : ls[i]? with
    | none =>
      have e : ev_L w ls (n + 1) i a b = (none, 0) := by
        show (match ls[i]? with | some x => ev_T w (ev_L w ls n) x.2.2 a b | none => (none, 0)) = _
        rw [hx]
      rw [e]
      intro p hp; cases hp
    | some x =>
      have e : ev_L w ls (n + 1) i a b = ev_T w (ev_L w ls n) x.2.2 a b := by
        show (match ls[i]? with | some x => ev_T w (ev_L w ls n) x.2.2 a b | none => (none, 0)) = _
        rw [hx]
      rw [e]
      exact h n i x.2.1 x.2.2 _ a b hab (hwf i x hx).2.2.2
section CALL
variable {ext : Nat → List Value → am_M → Option am_R} (D : Nat → Nat → UInt64) (xt xs xi xu xc : Nat) {w : Nat} {ls : pt_L}
theorem ce_H_up {d d' n : Nat} (h : ce_H ext d D xt xs xi xu xc w ls n) (hd : d ≤ d') : ce_H ext d' D xt xs xi xu xc w ls n := by
  intro i top ch u dd a b I L h1 h2 h3 h4 h5 h6 h7 h8 h9
  obtain ⟨I', L', r, g⟩ := h i top ch u dd a b I L h1 h2 h3 h4 h5 h6 h7 h8 h9
  exact ⟨I', L', am_up r hd, g⟩
theorem ce_all (hw : w ≤ 20) (hwf : pt_wf ls) (hlen : ls.length ≤ 18) (hcs : pt_cs ls ≤ 288) (hg : gd_all w ls) : ∀ n, ce_H ext (9 + 4 * n) D xt xs xi xu xc w ls n := by
  intro n
  induction n with
  | zero => intro i top ch u dd a b I L h1; omega
  | succ n ih =>
    intro i top ch u dd a b I L h1 h2 h3 h4 h5 h6 h7 h8 h9
    have hx : ls[i]? = some ls[i] := List.getElem?_eq_getElem h2
    have hE : ∀ i a b, i < n → i < ls.length → gd2 w a b → gd w (ev_L w ls n i a b).1 := fun i a b _ _ h => gd_all_L hwf hg n i a b h
    have G := ce_tree (ext := ext) (d := 12 + 4 * n) (n := n) (m := i) (fn := ls[i].2.1) (a := a) (b := b) (dd := dd) (vB := top) (cB := ch) (en := pt_cs (ls.take i) + tr_cz ls[i].2.2) D xt xs xi xu xc (by omega) (pt_cs_le hx) hcs (by omega) (by omega) h5 h7 (gd2_0 w) (ce_H_up D xt xs xi xu xc ih (by omega)) hE (fun T q hT => hg n i _ T q a b h7 hT)
      (fun p hp h15 => ce_over (ext := ext) D xt xs xi xu xc hw (by omega) (pt_cs_le hx) hcs (by omega) (by omega) h5 (ce_H_up D xt xs xi xu xc ih (by omega)) hE p hp h15) ls[i].2.2 _ (hwf i _ hx).2.2.2
    have := c62_of (ext := ext) (d := 12 + 4 * n) D xt xs xi xu xc (by omega) hx hlen hcs h3 h4 h5 h6 h8 h9 G
    rwa [show 12 + 4 * n + 1 = 9 + 4 * (n + 1) by omega] at this
end CALL
