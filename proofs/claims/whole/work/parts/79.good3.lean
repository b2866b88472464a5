/-! ===== what is found is in order: nought ===== -/
theorem ev_n_gd {w : Nat} (hw : w ≤ 20) (E : Int64 → Int64 → ev_R) {l r : Int64} (h : gd2 w l r) : gd w (ev_n w E l r).1 := by
  unfold ev_n
  split
  · rename_i hx
    obtain ⟨_, _, x3⟩ := sp_sg_x hx
    exact sp_k_gd hw (ev_nl_gd hw E _ _ x3 64 l r _ h).1
  · intro p hp; cases hp
/-- most, least -/
theorem ev_pl_gd_m {w : Nat} (hw : w ≤ 20) (E : Int64 → Int64 → ev_R) (kd : Nat) (pe : Nat → Int64) (hkd : ¬ kd = 16) (N : Nat) (hE : ∀ k, k < N → gd w (E (pe k) (pe (k + 1))).1) : ∀ (m k : Nat) (lo hi : Int64) (u : Nat), k + m = N → lo.toInt ≤ hi.toInt → gd w (ev_pl w E kd pe m k lo hi u).1
  | 0, k, lo, hi, u, _, h => sp_k_gd hw h
  | m + 1, k, lo, hi, u, hk, h => by
    have hEk := hE k (by omega)
    cases hq : (E (pe k) (pe (k + 1))).1 with
    | none =>
      rw [ev_pl, hq]
      intro p hp; cases hp
    | some p =>
      have hb := gd_b hw (hEk p hq)
      rw [ev_pl_s hq]
      refine ev_pl_gd_m hw E kd pe hkd N hE m (k + 1) _ _ _ (by omega) ?_
      unfold pl_lo pl_hi
      rw [if_neg hkd, if_neg hkd]
      split
      · omega
      · split
        · have q1 := mx_i lo p.1
          have q2 := mx_i hi p.2
          omega
        · have q1 := mn_i lo p.1
          have q2 := mn_i hi p.2
          omega
