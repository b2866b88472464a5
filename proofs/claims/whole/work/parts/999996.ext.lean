/-! ===== what stands of the start through the run, wordKind from outside ===== -/
theorem ni_back {s : Int32} (h : am_inb s 501 = true) : s = nI s.toNatClampNeg ∧ s.toNatClampNeg ≤ 500 := by
  simp only [am_inb, Bool.and_eq_true, Bool.not_eq_true', decide_eq_false_iff_not, decide_eq_true_eq] at h
  refine ⟨?_, by omega⟩
  rw [← Int32.toInt_inj, nI_toInt (by omega)]
  have h0 : ¬ s.toInt < 0 := fun q => h.1 (Int32.lt_iff_toInt_lt.mpr q)
  have : s.toNatClampNeg = s.toInt.toNat := rfl
  omega
def xf (z : Nat) (aS adV : Nat → Nat) (U : State) : Prop :=
  z ≤ U.heap.size ∧ (∀ i, i < 11 → st1 z (aS i) (adV i) (wd_at i).length (fun j => (wd_at i).getD j 0) U ∧ vk_R "SureSums$Tokens" (wd_ix i) (wd_tx i) (aS i) U) ∧ (∃ a, vk_R "SureSums" 169 "no such letter" a U) ∧ (∃ a, vk_R "SureSums" 176 "no number of that letter" a U) ∧
  vx_Zq Bundle.tN "UNASSIGNED_STACK" Bundle.steD (fun q => z ≤ q) U U.heap ∧ vx_Zq Bundle.tN "SUPPRESSED_SENTINEL" Bundle.listD (fun q => z ≤ q) U U.heap
theorem st1_go {z a b n : Nat} {f : Nat → Int32} {s U : State} (h : st1 z a b n f s) (hW : s.vm.Alike U.vm) (hq : ∀ q : Nat, q < s.heap.size → ¬ (fun q : Nat => z ≤ q) q → U.heap[q]? = s.heap[q]?) : st1 z a b n f U :=
  ⟨(va_O.moved hW h.1).kept hq, (va_OF.moved hW h.2.1).kept hq, (va_OF.moved hW h.2.2.1).kept hq, (va_T.moved hW h.2.2.2.1).kept hq, (va_Z.moved hW h.2.2.2.2.1).kept hq, (va_Zq.moved hW h.2.2.2.2.2).kept hq⟩
section EXT
variable {l : Launch} {D : va_G} {cy : Nat → ClassId} {ad aS adV : Nat → Nat} {z : Nat}
theorem xf_k (hz : ∀ j, j < am_SH.length → z ≤ ad j) : am_Exh ad am_SH.length (xf z aS adV) := by
  intro s U h hW hsz hq
  have hq' : ∀ q : Nat, q < s.heap.size → ¬ (fun q : Nat => z ≤ q) q → U.heap[q]? = s.heap[q]? := fun q h1 h2 => hq q h1 (fun h3 => by
    rcases h3 with ⟨k, hk, rfl⟩ | h3
    · exact h2 (hz k hk)
    · exact absurd h1 (Nat.not_lt.mpr h3))
  obtain ⟨h1, h2, ⟨a3, h3⟩, ⟨a4, h4⟩, h5, h6⟩ := h
  exact ⟨Nat.le_trans h1 hsz, fun i hi => ⟨st1_go (h2 i hi).1 hW.alike hq', (h2 i hi).2.warm hW⟩, ⟨a3, h3.warm hW⟩, ⟨a4, h4.warm hW⟩, (vx_Zq.moved hW.alike h5).kept hq', (vx_Zq.moved hW.alike h6).kept hq'⟩
theorem hx_ext (hz : ∀ j, j < am_SH.length → z ≤ ad j) (hPa : ∀ i, i < 11 → ad (100 + i) = aS i) : ∀ d j as mem r nm, am_Ys j = none → am_ext j as mem = some r → am_Nm j = some nm → am_Mt l D am_cl cy ad am_SH (xf z aS adV) am_U nm (5 + d + 1) as mem r := by
  intro d j as mem r nm _ h hn
  unfold am_ext at h
  split at h
  · next s0 e0 =>
    cases hb : (j == 87 && am_inb s0 501 && am_inb e0 501 && decide (s0.toNatClampNeg ≤ e0.toNatClampNeg)) with
    | false => rw [hb] at h; cases h
    | true =>
      rw [hb] at h
      simp only [cond_true, Option.some.injEq] at h
      subst h
      simp only [Bool.and_eq_true, beq_iff_eq, decide_eq_true_eq] at hb
      obtain ⟨⟨⟨hj, h2⟩, h3⟩, h4⟩ := hb
      subst hj
      have en : nm = nX_wdk := (Option.some.inj (hn.symm.trans (show am_Nm 87 = some nX_wdk from rfl)))
      subst en
      obtain ⟨es, -⟩ := ni_back h2
      obtain ⟨ee, he⟩ := ni_back h3
      obtain ⟨I, L, D0, X⟩ := mem
      have M := m_wdk (l := l) (D := D) (cy := cy) (adV := adV) (xf_k (aS := aS) (adV := adV) hz) hz (fun U h => ⟨h.1, fun i hi => by rw [hPa i hi]; exact h.2.1 i hi⟩) d h4 he I L D0 X
      rw [← es, ← ee] at M
      rw [show 5 + d + 1 = d + 6 from by omega]
      exact M
  · cases h
end EXT
