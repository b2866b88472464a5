/-! ===== what holds at the loop's beginning ===== -/
def sh_z (x : Option am_S1) : Nat := match x with
  | some (.inl o) => o.2.length
  | some (.inr q) => q.2
  | none => 0
theorem sh_600 : ∀ k, k < 82 → sh_z am_SH[k]? ≤ 600 := by decide +kernel
theorem arrV_lo {cI : ClassId} {n : Nat} {f g : Nat → Value} (h : ∀ j, j < n → f j = g j) : arrV cI n f = arrV cI n g := by
  unfold arrV
  congr 2
  funext j
  exact h j.val j.isLt
/-- what lies beyond the cells' slots doesn't count -/
theorem am_P_lo {D : va_G} {cy : Nat → ClassId} {ad : Nat → Nat} {m m' : am_M} {H : Heap} (h1 : ∀ a b, b < 600 → m'.1 a b = m.1 a b) (h2 : m'.2 = m.2) (h : va_P D am_cl (am_W cy ad am_SH m) H) : va_P D am_cl (am_W cy ad am_SH m') H := by
  intro k q hq
  have hk : k < am_SH.length := by
    have := (List.getElem?_eq_some_iff.mp hq).1
    simpa [am_W] using this
  have hk2 : k < 82 := hk
  obtain ⟨x, hx⟩ : ∃ x, am_SH[k]? = some x := ⟨_, List.getElem?_eq_getElem hk⟩
  have hle := sh_600 k hk2
  rw [hx] at hle
  rw [am_W_at hx] at hq
  have hq' := Option.some.inj hq
  subst hq'
  have h3 := h k _ (am_W_at hx)
  match x, hle, h3 with
  | .inl o, hle, h3 =>
    have e : am_cell cy ad m' k (.inl o) = am_cell cy ad m k (.inl o) := by
      simp only [am_cell]
      congr 2
      apply List.map_congr_left
      intro j hj
      have hj2 : j < 600 := Nat.lt_of_lt_of_le (List.mem_range.mp hj) hle
      unfold am_fv
      congr 1
      unfold am_rv
      split
      · rw [h1 k j hj2]
      · rw [h2]
      · rw [h2]
      · rw [h2]
      · rw [h1 k j hj2]
    rw [e]
    exact h3
  | .inr (0, n), hle, h3 =>
    have h4 : H[ad k]? = some (vp_cell (cy 0) (n, .inl (m.1 k))) := h3
    show H[ad k]? = some (vp_cell (cy 0) (n, .inl (m'.1 k)))
    rw [h4, vp_cell_i, vp_cell_i]
    exact congrArg some (arrV_lo (fun j hj => by rw [h1 k j (Nat.lt_of_lt_of_le hj hle)]))
  | .inr (1, n), hle, h3 =>
    have h4 : H[ad k]? = some (vp_cell (cy 1) (n, .inr (.inl (m.2.1 k)))) := h3
    show H[ad k]? = some (vp_cell (cy 1) (n, .inr (.inl (m'.2.1 k))))
    rw [h4, h2]
  | .inr (2, n), hle, h3 =>
    have h4 : H[ad k]? = some (vp_cell (cy 2) (n, .inr (.inr (.inr (.inl (m.2.2.1 k)))))) := h3
    show H[ad k]? = some (vp_cell (cy 2) (n, .inr (.inr (.inr (.inl (m'.2.2.1 k))))))
    rw [h4, h2]
  | .inr (i + 3, n), hle, h3 =>
    have h4 : H[ad k]? = some (vp_cell (cy 4) (n, .inl (m.1 k))) := h3
    show H[ad k]? = some (vp_cell (cy 4) (n, .inl (m'.1 k)))
    rw [h4, vp_cell_i, vp_cell_i]
    exact congrArg some (arrV_lo (fun j hj => by rw [h1 k j (Nat.lt_of_lt_of_le hj hle)]))
theorem am_D_lo {cy : Nat → ClassId} {ad : Nat → Nat} {A : Nat → Prop} {m m' : am_M} (h : va_D A (am_W cy ad am_SH m)) : va_D A (am_W cy ad am_SH m') := by
  have at' : ∀ (k : Nat) (q : Nat × va_E), (am_W cy ad am_SH m')[k]? = some q → ∃ q', (am_W cy ad am_SH m)[k]? = some q' ∧ q'.1 = q.1 := by
    intro k q hq
    have hk : k < am_SH.length := by
      have := (List.getElem?_eq_some_iff.mp hq).1
      simpa [am_W] using this
    obtain ⟨x, hx⟩ : ∃ x, am_SH[k]? = some x := ⟨_, List.getElem?_eq_getElem hk⟩
    rw [am_W_at hx] at hq
    have hq' := Option.some.inj hq
    subst hq'
    exact ⟨_, am_W_at hx, rfl⟩
  refine ⟨fun i j p q hp hq e => ?_, fun k q hq => ?_⟩
  · obtain ⟨p', h1, h2⟩ := at' i p hp
    obtain ⟨q', h3, h4⟩ := at' j q hq
    exact h.1 i j p' q' h1 h3 (by rw [h2, h4, e])
  · obtain ⟨q', h1, h2⟩ := at' k q hq
    rw [← h2]
    exact h.2 k q' h1
def am_lo (m : am_M) : am_M := (fun a b => bif Nat.blt b 600 then m.1 a b else 0, m.2)
theorem am_lo_l {m : am_M} {a b : Nat} (h : b < 600) : (am_lo m).1 a b = m.1 a b := by
  have e : Nat.blt b 600 = true := by rw [Nat.blt_eq]; exact h
  show (bif Nat.blt b 600 then m.1 a b else 0) = _
  rw [e, cond_true]
theorem am_lo_h {m : am_M} {a b : Nat} (h : ¬ b < 600) : (am_lo m).1 a b = 0 := by
  have e : Nat.blt b 600 = false := by
    cases hb : Nat.blt b 600 with
    | false => rfl
    | true => rw [Nat.blt_eq] at hb; exact absurd hb h
  show (bif Nat.blt b 600 then m.1 a b else 0) = _
  rw [e, cond_false]
/-- a memory as the constructors leave it -/
def ini_ok (m : am_M) : Prop := (m.1 0 8 = 0 ∧ m.1 42 1 = 0 ∧ m.1 0 9 = m.1 42 4 ∧ m.1 0 10 = m.1 42 5 ∧ m.1 2 9 = 0 ∧ m.1 2 10 = 0 ∧ m.1 2 11 = 0 ∧ m.1 2 8 = 0 ∧ m.1 2 12 = 0 ∧ m.1 42 24 = 0 ∧ m.1 42 25 = 0 ∧ m.1 42 21 = 0 ∧ m.1 42 17 = 0 ∧ m.1 42 59 = 0 ∧ m.1 42 60 = 0) ∧ (∀ i, i < 600 → m.1 1 i = m.1 43 i) ∧ (∀ i, i < 51 → m.1 44 i = (pu_flat pu_words).getD i 0) ∧ (∀ i, i < 26 → m.1 3 i = -1 ∧ m.1 51 i = 0) ∧ (∀ i, i < 18 → m.2.1 31 i = 0)
theorem iv_ini {m : am_M} {xi xp xc : Nat} (h : ini_ok m) (hr : m.2.2.2 = am_rf (2, 11, xi, xp, 2, xc)) : iv (Cc2 Cm) (am_lo m) := by
  obtain ⟨⟨s1, s2, s3, s4, s5, s6, s7, s8, s9, s10, s11, s12, s13, s14, s15⟩, t1, w1, p1, x1⟩ := h
  have lo : ∀ a b, b < 600 → (am_lo m).1 a b = m.1 a b := fun a b h => am_lo_l h
  refine ⟨(am_lo m).1, m.2.1, m.2.2.1, xi, xp, xc, [], by rw [← hr]; rfl, ⟨0, by omega, ?_, ?_, fun i => ?_, ?_, ?_, fun i hi => ?_⟩, ⟨⟨?_, ?_, ?_, ?_, ?_, fun l hl => ?_, fun i x hx => by simp at hx⟩, ⟨?_, ?_, ?_, ?_, fun l hl => ?_, fun i x hx => by simp at hx, fun k x hx => by simp [pt_lets] at hx⟩, fun i x hx => by simp at hx, by simp, by decide, by decide, by decide⟩, ⟨fun i hi => ?_, Or.inl ?_⟩, ⟨fun i x hx => by simp at hx, Or.inl ?_⟩⟩
  · rw [lo _ _ (by omega)]; exact s1
  · rw [lo _ _ (by omega)]; exact s2
  · by_cases h : i < 600
    · rw [lo _ _ h, lo _ _ h]; exact t1 i h
    · rw [am_lo_h h, am_lo_h h]
  · rw [lo _ _ (by omega), lo _ _ (by omega)]; exact s3
  · rw [lo _ _ (by omega), lo _ _ (by omega)]; exact s4
  · rw [lo _ _ (by omega)]; exact w1 i hi
  · rw [lo _ _ (by omega)]; exact s5
  · rw [lo _ _ (by omega)]; exact s6
  · rw [lo _ _ (by omega)]; exact s7
  · rw [lo _ _ (by omega)]; exact s8
  · rw [lo _ _ (by omega)]; exact s9
  · show (am_lo m).1 3 l = _
    rw [lo _ _ (by omega), (p1 l hl).1]
    rfl
  · rw [lo _ _ (by omega)]; exact s10
  · rw [lo _ _ (by omega)]; exact s11
  · rw [lo _ _ (by omega)]; exact s12
  · rw [lo _ _ (by omega)]; exact s13
  · rw [lo _ _ (by omega), (p1 l hl).2]
    rfl
  · have e : xE ([] : pt_L) i = none := by unfold xE; simp [ex_L]
    exact ⟨fun _ => x1 i hi, fun q hq => by rw [e] at hq; cases hq⟩
  · rw [lo _ _ (by omega)]; exact s14
  · rw [lo _ _ (by omega)]; exact s15
