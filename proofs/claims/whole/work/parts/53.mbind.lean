/-! ===== the reference's reader: knots that stand for a tree; what bind does ===== -/
def tr_rt : tr_T → Nat
  | .leaf p => p.1
  | .branch _ l _ => tr_rt l
/-- the rows K (45 knot, 46 number, 47 .. 50 the parts) from o on hold the tree; rd: while it is read -/
def rf_rp (o : Nat) (rd : Bool) (K : Nat → Nat → Int32) : tr_T → Prop
  | .leaf p => (p.2.1 < 15 → K 45 (o + p.1) = nI p.2.1 ∧ (¬ p.2.1 = 1 → K 46 (o + p.1) = nI p.2.2.1)) ∧ (15 ≤ p.2.1 → K 45 (o + p.1) = 15 ∧ K 46 (o + p.1) = nI (p.2.1 - 15) ∧ K 47 (o + p.1) = nI p.2.2.1 ∧ K 48 (o + p.1) = Int32.ofInt p.2.2.2.2.1 ∧ K 49 (o + p.1) = Int32.ofInt p.2.2.2.2.2)
  | .branch 1 (.leaf p) A => K 45 (o + p.1) = nI p.2.1 ∧ (p.2.1 = 14 → K 46 (o + p.1) = nI p.2.2.1) ∧ K 47 (o + p.1) = nI (o + tr_rt A) ∧ rf_rp o rd K A
  | .branch 2 (.leaf p) (.branch 0 A B) => K 45 (o + p.1) = nI p.2.1 ∧ K 47 (o + p.1) = nI (o + tr_rt A) ∧ K 48 (o + p.1) = nI (o + tr_rt B) ∧ rf_rp o rd K A ∧ rf_rp o rd K B
  | .branch 4 (.leaf p) (.branch 0 (.branch 0 A B) (.branch 0 V W)) => (if rd = true then K 45 (o + p.1) = 12 ∧ K 46 (o + p.1) = (if p.2.1 = 13 then 1 else 0) else K 45 (o + p.1) = nI p.2.1) ∧ K 47 (o + p.1) = nI (o + tr_rt A) ∧ K 48 (o + p.1) = nI (o + tr_rt B) ∧ K 49 (o + p.1) = nI (o + tr_rt V) ∧ K 50 (o + p.1) = nI (o + tr_rt W) ∧ rf_rp o rd K A ∧ rf_rp o rd K B ∧ rf_rp o rd K V ∧ rf_rp o rd K W
  | _ => False
theorem tr_rt_rg {e : pt_E} : ∀ (T : tr_T) (s : Nat), tr_ok e T s → s ≤ tr_rt T ∧ tr_rt T < s + tr_sz T := by
  refine tr_ind ?_ ?_ ?_ ?_ ?_
  · intro p s h _; simp only [tr_rt, tr_sz]; omega
  · intro p A s h _ _ _; simp only [tr_rt, tr_sz]; omega
  · intro p A B s _ _ h _ _ _ _; simp only [tr_rt, tr_sz]; omega
  · intro p A B s _ h _ _ _ _; simp only [tr_rt, tr_sz]; omega
  · intro p A B V W s _ h _ _ _ _ _ _ _ _; simp only [tr_rt, tr_sz]; omega
theorem rf_rp_of {e : pt_E} {o : Nat} {rd : Bool} {K K' : Nat → Nat → Int32} : ∀ (T : tr_T) (s : Nat), tr_ok e T s → rf_rp o rd K T → (∀ a i, 45 ≤ a → a ≤ 50 → o + s ≤ i → i < o + s + tr_sz T → K' a i = K a i) → rf_rp o rd K' T := by
  refine tr_ind ?_ ?_ ?_ ?_ ?_
  · intro p s h _ g k
    simp only [rf_rp, tr_sz] at g k ⊢
    rw [k 45 _ (by omega) (by omega) (by omega) (by omega), k 46 _ (by omega) (by omega) (by omega) (by omega), k 47 _ (by omega) (by omega) (by omega) (by omega), k 48 _ (by omega) (by omega) (by omega) (by omega), k 49 _ (by omega) (by omega) (by omega) (by omega)]
    exact g
  · intro p A s h _ hA ih g k
    simp only [rf_rp, tr_sz] at g k ⊢
    rw [k 45 _ (by omega) (by omega) (by omega) (by omega), k 46 _ (by omega) (by omega) (by omega) (by omega), k 47 _ (by omega) (by omega) (by omega) (by omega)]
    exact ⟨g.1, g.2.1, g.2.2.1, ih g.2.2.2 (fun a i h1 h2 h3 h4 => k a i h1 h2 (by omega) (by omega))⟩
  · intro p A B s _ _ h hA hB ih1 ih2 g k
    simp only [rf_rp, tr_sz] at g k ⊢
    rw [k 45 _ (by omega) (by omega) (by omega) (by omega), k 47 _ (by omega) (by omega) (by omega) (by omega), k 48 _ (by omega) (by omega) (by omega) (by omega)]
    exact ⟨g.1, g.2.1, g.2.2.1, ih1 g.2.2.2.1 (fun a i h1 h2 h3 h4 => k a i h1 h2 (by omega) (by omega)), ih2 g.2.2.2.2 (fun a i h1 h2 h3 h4 => k a i h1 h2 (by omega) (by omega))⟩
  · intro p A B s _ h hA hB ih1 ih2 g k
    simp only [rf_rp, tr_sz] at g k ⊢
    rw [k 45 _ (by omega) (by omega) (by omega) (by omega), k 47 _ (by omega) (by omega) (by omega) (by omega), k 48 _ (by omega) (by omega) (by omega) (by omega)]
    exact ⟨g.1, g.2.1, g.2.2.1, ih1 g.2.2.2.1 (fun a i h1 h2 h3 h4 => k a i h1 h2 (by omega) (by omega)), ih2 g.2.2.2.2 (fun a i h1 h2 h3 h4 => k a i h1 h2 (by omega) (by omega))⟩
  · intro p A B V W s _ h hA hB hV hW ih1 ih2 ih3 ih4 g k
    simp only [rf_rp, tr_sz] at g k ⊢
    rw [k 45 _ (by omega) (by omega) (by omega) (by omega), k 46 _ (by omega) (by omega) (by omega) (by omega), k 47 _ (by omega) (by omega) (by omega) (by omega), k 48 _ (by omega) (by omega) (by omega) (by omega), k 49 _ (by omega) (by omega) (by omega) (by omega), k 50 _ (by omega) (by omega) (by omega) (by omega)]
    obtain ⟨g1, g2, g3, g4, g5, g6, g7, g8, g9⟩ := g
    exact ⟨g1, g2, g3, g4, g5, ih1 g6 (fun a i h1 h2 h3 h4 => k a i h1 h2 (by omega) (by omega)), ih2 g7 (fun a i h1 h2 h3 h4 => k a i h1 h2 (by omega) (by omega)), ih3 g8 (fun a i h1 h2 h3 h4 => k a i h1 h2 (by omega) (by omega)), ih4 g9 (fun a i h1 h2 h3 h4 => k a i h1 h2 (by omega) (by omega))⟩
section BIND
variable {ext : Nat → List Value → am_M → Option am_R} {d : Nat} (L : Nat → Nat → Int64) (D : Nat → Nat → UInt64) (X : am_Rf)
/-- the bind loop's head with least v -/
def rf_bw (ext : Nat → List Value → am_M → Option am_R) (d : Nat) (L : Nat → Nat → Int64) (D : Nat → Nat → UInt64) (X : am_Rf) (v : Nat) (J : Nat → Nat → Int32) (P : am_R → Prop) : Prop := am_wp ext (d + 1) mz_130 (0, [some (.ref 42), some (.int (nI v)), none], [], (J, L, D, am_rf X)) P
theorem c130_end {J : Nat → Nat → Int32} {v nw : Nat} {P : am_R → Prop} (hw : J 42 31 = nI nw) (hn : nw < 120) (hv : v ≤ 3) (h : nw = 0 ∨ rf_w (J 55 (nw - 1)) < v) (hP : P (none, (J, L, D, am_rf X))) : rf_bw ext d L D X v J P := by
  by_cases h0 : nw = 0
  · subst h0
    exact w130_0 J L D X (nI v) ⟨fun _ => hP, fun z => absurd (by rw [hw]; decide) z⟩
  · have h1 := h.resolve_left h0
    have e1 : J 42 31 - 1 = nI (nw - 1) := by rw [hw, show (1 : Int32) = nI 1 from rfl, ni_sub (by omega) (by omega)]
    refine w130_0 J L D X (nI v) ⟨fun z => absurd z ?_, fun _ => ⟨by rw [e1]; exact ni_inb (by omega) (by omega), _, J, L, D, c127 (ext := ext) (d := d) L D X _, fun _ => hP, fun z => absurd ?_ z⟩⟩
    · rw [hw, show (0 : Int32) = nI 0 from rfl, ni_le (by omega) (by omega)]
      omega
    · rw [e1, ni_nat (by omega), ni_lt (by omega) (by omega)]
      exact h1
/-- a sign ahead is bound -/
theorem c130_less {J : Nat → Nat → Int32} {v nw nh k : Nat} (hw : J 42 31 = nI (nw + 1)) (hn : nw < 120) (hh : J 42 33 = nI (nh + 1)) (hh2 : nh < 120) (hv : v ≤ rf_w (J 55 nw)) (h56 : J 56 nw = nI (96 + k)) (hk : k < 96) (h45 : J 45 (96 + k) = 3) : ∃ J', (∀ P, rf_bw ext d L D X v J' P → rf_bw ext d L D X v J P) ∧ J' 42 31 = nI nw ∧ J' 42 33 = nI (nh + 1) ∧ J' 58 nh = nI (96 + k) ∧ J' 47 (96 + k) = J 58 nh ∧ (∀ a b, ¬ (a = 42 ∧ (b = 31 ∨ b = 33)) → ¬ (a = 58 ∧ b = nh) → ¬ (a = 47 ∧ b = 96 + k) → J' a b = J a b) := by
  have e1 : J 42 31 - 1 = nI nw := by rw [hw, show (1 : Int32) = nI 1 from rfl, ni_sub (by omega) (by omega)]; rfl
  have e2 : (nI nw).toNatClampNeg = nw := ni_nat (by omega)
  have e3 : (nI (96 + k)).toNatClampNeg = 96 + k := ni_nat (by omega)
  have hw3 : rf_w (J 55 nw) ≤ 3 := by unfold rf_w; split <;> (try split) <;> (try split) <;> omega
  have hb : am_inb (nI (96 + k)) 192 = true := ni_inb (by omega) (by omega)
  have r1 := c128 (ext := ext) (d := d) L D X (I := am_uI J 42 31 (nI nw)) (k := nh) (by simp [am_uI_at, hh]) hh2
  have r2 := c129 (ext := ext) (d := d) L D X (I := am_uI (am_uI (am_uI J 42 31 (nI nw)) 42 33 (nI nh)) 47 (96 + k) ((am_uI J 42 31 (nI nw)) 58 nh)) (k := nh) (by simp [am_uI_at]) hh2 (nI (96 + k))
  refine ⟨am_uI (am_uI (am_uI (am_uI (am_uI J 42 31 (nI nw)) 42 33 (nI nh)) 47 (96 + k) ((am_uI J 42 31 (nI nw)) 58 nh)) 58 nh (nI (96 + k))) 42 33 (nI (nh + 1)), fun P w => ?_, ?_, ?_, ?_, ?_, ?_⟩
  · refine w130_0 J L D X (nI v) ⟨fun z => absurd z ?_, fun _ => ⟨by rw [e1]; exact ni_inb hn (by omega), _, J, L, D, c127 (ext := ext) (d := d) L D X _, fun z => absurd z ?_, fun _ => ⟨by rw [e1]; exact ni_inb hn (by omega), ?_, fun _ => ?_, fun z => absurd ?_ z⟩⟩⟩
    · rw [hw, show (0 : Int32) = nI 0 from rfl, ni_le (by omega) (by omega)]; omega
    · rw [e1, e2, ni_lt (by omega) (by omega)]; omega
    · rw [e1, e2, h56]; exact hb
    · rw [e1, e2, h56, e3]
      exact ⟨_, _, L, D, r1, hb, _, L, D, r2, w⟩
    · rw [e1, e2, h56, e3]; exact h45
  · simp [am_uI_at]
  · simp [am_uI_at]
  · simp [am_uI_at]
  · simp [am_uI_at]
  · intro a b h1 h2 h3
    simp only [am_uI_at]
    rw [if_neg (by omega), if_neg (by omega), if_neg (by omega), if_neg (by omega), if_neg (by omega)]
/-- an operator is bound -/
theorem c130_two {J : Nat → Nat → Int32} {v nw nh k : Nat} (hw : J 42 31 = nI (nw + 1)) (hn : nw < 120) (hh : J 42 33 = nI (nh + 1 + 1)) (hh2 : nh + 1 < 120) (hv : v ≤ rf_w (J 55 nw)) (h56 : J 56 nw = nI (96 + k)) (hk : k < 96) (h45 : ¬ J 45 (96 + k) = 3) : ∃ J', (∀ P, rf_bw ext d L D X v J' P → rf_bw ext d L D X v J P) ∧ J' 42 31 = nI nw ∧ J' 42 33 = nI (nh + 1) ∧ J' 58 nh = nI (96 + k) ∧ J' 47 (96 + k) = J 58 nh ∧ J' 48 (96 + k) = J 58 (nh + 1) ∧ (∀ a b, ¬ (a = 42 ∧ (b = 31 ∨ b = 33)) → ¬ (a = 58 ∧ b = nh) → ¬ ((a = 47 ∨ a = 48) ∧ b = 96 + k) → J' a b = J a b) := by
  have e1 : J 42 31 - 1 = nI nw := by rw [hw, show (1 : Int32) = nI 1 from rfl, ni_sub (by omega) (by omega)]; rfl
  have e2 : (nI nw).toNatClampNeg = nw := ni_nat (by omega)
  have e3 : (nI (96 + k)).toNatClampNeg = 96 + k := ni_nat (by omega)
  have hw3 : rf_w (J 55 nw) ≤ 3 := by unfold rf_w; split <;> (try split) <;> (try split) <;> omega
  have hb : am_inb (nI (96 + k)) 192 = true := ni_inb (by omega) (by omega)
  have r1 := c128 (ext := ext) (d := d) L D X (I := am_uI J 42 31 (nI nw)) (k := nh + 1) (by simp [am_uI_at, hh]) (by omega)
  have r2 := c128 (ext := ext) (d := d) L D X (I := am_uI (am_uI (am_uI J 42 31 (nI nw)) 42 33 (nI (nh + 1))) 48 (96 + k) ((am_uI J 42 31 (nI nw)) 58 (nh + 1))) (k := nh) (by simp [am_uI_at]) (by omega)
  have r3 := c129 (ext := ext) (d := d) L D X (I := am_uI (am_uI (am_uI (am_uI (am_uI J 42 31 (nI nw)) 42 33 (nI (nh + 1))) 48 (96 + k) ((am_uI J 42 31 (nI nw)) 58 (nh + 1))) 42 33 (nI nh)) 47 (96 + k) ((am_uI (am_uI (am_uI J 42 31 (nI nw)) 42 33 (nI (nh + 1))) 48 (96 + k) ((am_uI J 42 31 (nI nw)) 58 (nh + 1))) 58 nh)) (k := nh) (by simp [am_uI_at]) (by omega) (nI (96 + k))
  refine ⟨am_uI (am_uI (am_uI (am_uI (am_uI (am_uI (am_uI J 42 31 (nI nw)) 42 33 (nI (nh + 1))) 48 (96 + k) ((am_uI J 42 31 (nI nw)) 58 (nh + 1))) 42 33 (nI nh)) 47 (96 + k) ((am_uI (am_uI (am_uI J 42 31 (nI nw)) 42 33 (nI (nh + 1))) 48 (96 + k) ((am_uI J 42 31 (nI nw)) 58 (nh + 1))) 58 nh)) 58 nh (nI (96 + k))) 42 33 (nI (nh + 1)), fun P w => ?_, ?_, ?_, ?_, ?_, ?_, ?_⟩
  · refine w130_0 J L D X (nI v) ⟨fun z => absurd z ?_, fun _ => ⟨by rw [e1]; exact ni_inb hn (by omega), _, J, L, D, c127 (ext := ext) (d := d) L D X _, fun z => absurd z ?_, fun _ => ⟨by rw [e1]; exact ni_inb hn (by omega), ?_, fun z => absurd z ?_, fun _ => ?_⟩⟩⟩
    · rw [hw, show (0 : Int32) = nI 0 from rfl, ni_le (by omega) (by omega)]; omega
    · rw [e1, e2, ni_lt (by omega) (by omega)]; omega
    · rw [e1, e2, h56]; exact hb
    · rw [e1, e2, h56, e3]; exact h45
    · rw [e1, e2, h56, e3]
      exact ⟨_, _, L, D, r1, hb, _, _, L, D, r2, hb, _, L, D, r3, w⟩
  · simp [am_uI_at]
  · simp [am_uI_at]
  · simp [am_uI_at]
  · simp [am_uI_at]
  · simp [am_uI_at]
  · intro a b h1 h2 h3
    simp only [am_uI_at]
    rw [if_neg (by omega), if_neg (by omega), if_neg (by omega), if_neg (by omega), if_neg (by omega), if_neg (by omega), if_neg (by omega)]
/-- when bind comes with least at most lvl, the tree gets bound: held on top of nh, nothing waiting above nw -/
def rf_C (ext : Nat → List Value → am_M → Option am_R) (d : Nat) (L : Nat → Nat → Int64) (D : Nat → Nat → UInt64) (X : am_Rf) (lvl : Nat) (T : tr_T) (lb nw nh : Nat) (I : Nat → Nat → Int32) : Prop := ∀ (J : Nat → Nat → Int32) (v : Nat), 1 ≤ v → v ≤ lvl → J 42 31 = I 42 31 → J 42 33 = I 42 33 → (∀ i, nw ≤ i → J 55 i = I 55 i ∧ J 56 i = I 56 i) → (∀ i, nh ≤ i → J 58 i = I 58 i) → (∀ a i, 45 ≤ a → a ≤ 50 → 96 + lb ≤ i → i < 96 + lb + tr_sz T → J a i = I a i) →
  ∃ J', (∀ P, rf_bw ext d L D X v J' P → rf_bw ext d L D X v J P) ∧ J' 42 31 = nI nw ∧ J' 42 33 = nI (nh + 1) ∧ J' 58 nh = nI (96 + tr_rt T) ∧ rf_rp 96 true J' T ∧ (∀ a b, ¬ ((a = 42 ∧ (b = 31 ∨ b = 33)) ∨ (a = 58 ∧ nh ≤ b) ∨ (45 ≤ a ∧ a ≤ 50 ∧ 96 + lb ≤ b ∧ b < 96 + lb + tr_sz T)) → J' a b = J a b)
theorem rf_C_le {lvl lvl' : Nat} {T : tr_T} {lb nw nh : Nat} {I : Nat → Nat → Int32} (h : rf_C ext d L D X lvl T lb nw nh I) (hl : lvl' ≤ lvl) : rf_C ext d L D X lvl' T lb nw nh I := fun J v h1 h2 => h J v h1 (by omega)
/-- what is bound already -/
theorem rf_C_0 {e : pt_E} {T : tr_T} {lb nw nh : Nat} {I : Nat → Nat → Int32} (hT : tr_ok e T lb) (h31 : I 42 31 = nI nw) (h33 : I 42 33 = nI (nh + 1)) (h58 : I 58 nh = nI (96 + tr_rt T)) (hrp : rf_rp 96 true I T) : rf_C ext d L D X 3 T lb nw nh I := by
  intro J v _ _ g1 g2 g3 g4 g5
  exact ⟨J, fun P w => w, g1.trans h31, g2.trans h33, (g4 nh (Nat.le_refl _)).trans h58, rf_rp_of T lb hT hrp g5, fun _ _ _ => rfl⟩
theorem rf_C_neg {e : pt_E} {A : tr_T} {lb nw nh : Nat} {I : Nat → Nat → Int32} {p : tr_P} (hA : tr_ok e A (lb + 1)) (hp : p.1 = lb) (hp3 : p.2.1 = 3) (hlb : lb < 96) (hn : nw < 120) (hh : nh < 120) (h : rf_C ext d L D X 3 A (lb + 1) (nw + 1) nh I) (h55 : I 55 nw = 3) (h56 : I 56 nw = nI (96 + lb)) (h45 : I 45 (96 + lb) = 3) : rf_C ext d L D X 3 (tr_1 p A) lb nw nh I := by
  intro J v v1 v2 g1 g2 g3 g4 g5
  have hsz : tr_sz (tr_1 p A) = tr_sz A + 1 := by simp only [tr_sz]; omega
  have hsp := tr_pos A
  obtain ⟨J1, w1, a1, a2, a3, a4, a5⟩ := h J v v1 v2 g1 g2 (fun i hi => g3 i (by omega)) g4 (fun a i h1 h2 h3 h4 => g5 a i h1 h2 (by omega) (by omega))
  have b55 : J1 55 nw = 3 := by rw [a5 55 nw (by omega), (g3 nw (Nat.le_refl _)).1, h55]
  have b56 : J1 56 nw = nI (96 + lb) := by rw [a5 56 nw (by omega), (g3 nw (Nat.le_refl _)).2, h56]
  have b45 : J1 45 (96 + lb) = 3 := by rw [a5 45 _ (by omega), g5 45 _ (by omega) (by omega) (by omega) (by omega), h45]
  obtain ⟨J2, w2, c1, c2, c3, c4, c5⟩ := c130_less (ext := ext) (d := d) L D X a1 hn a2 hh (v := v) (by rw [b55]; exact v2) b56 hlb b45
  refine ⟨J2, fun P w => w1 P (w2 P w), c1, c2, ?_, ?_, ?_⟩
  · rw [c3]; show nI (96 + lb) = nI (96 + p.1); rw [hp]
  · refine ⟨?_, fun z => by omega, ?_, ?_⟩
    · rw [hp, hp3, c5 45 _ (by omega) (by omega) (by omega)]; exact b45
    · rw [hp, c4, a3]
    · refine rf_rp_of A _ hA a4 (fun a i h1 h2 h3 h4 => c5 a i (by omega) (by omega) (by omega))
  · intro a b hab
    rw [c5 a b (by omega) (by omega) (by omega), a5 a b (by omega)]
theorem rf_C_two {e : pt_E} {A B : tr_T} {lb nw nh w : Nat} {I : Nat → Nat → Int32} {p : tr_P} (hA : tr_ok e A lb) (hB : tr_ok e B (lb + tr_sz A + 1)) (hp : p.1 = lb + tr_sz A) (hkd : 6 ≤ p.2.1 ∧ p.2.1 ≤ 9) (hlb : lb + tr_sz A < 96) (hn : nw < 120) (hh : nh + 1 < 120) (hw : w ≤ rf_w (nI p.2.1)) (h : rf_C ext d L D X w B (lb + tr_sz A + 1) (nw + 1) (nh + 1) I) (h55 : I 55 nw = nI p.2.1) (h56 : I 56 nw = nI (96 + p.1)) (h45 : I 45 (96 + p.1) = nI p.2.1) (h58 : I 58 nh = nI (96 + tr_rt A)) (hrA : rf_rp 96 true I A) : rf_C ext d L D X w (tr_2 p A B) lb nw nh I := by
  intro J v v1 v2 g1 g2 g3 g4 g5
  have hsz : tr_sz (tr_2 p A B) = tr_sz A + tr_sz B + 1 := by simp only [tr_sz]; omega
  obtain ⟨J1, w1, a1, a2, a3, a4, a5⟩ := h J v v1 v2 g1 g2 (fun i hi => g3 i (by omega)) (fun i hi => g4 i (by omega)) (fun a i h1 h2 h3 h4 => g5 a i h1 h2 (by omega) (by omega))
  have b55 : J1 55 nw = nI p.2.1 := by rw [a5 55 nw (by omega), (g3 nw (Nat.le_refl _)).1, h55]
  have b56 : J1 56 nw = nI (96 + p.1) := by rw [a5 56 nw (by omega), (g3 nw (Nat.le_refl _)).2, h56]
  have b45 : J1 45 (96 + p.1) = nI p.2.1 := by rw [a5 45 _ (by omega), g5 45 _ (by omega) (by omega) (by omega) (by omega), h45]
  have b58 : J1 58 nh = nI (96 + tr_rt A) := by rw [a5 58 nh (by omega), g4 nh (Nat.le_refl _), h58]
  have n3 : ¬ nI p.2.1 = 3 := by rw [show (3 : Int32) = nI 3 from rfl, ni_eq (by omega) (by omega)]; omega
  obtain ⟨J2, w2, c1, c2, c3, c4, c4', c5⟩ := c130_two (ext := ext) (d := d) L D X a1 hn a2 hh (v := v) (by rw [b55]; omega) b56 (by omega) (by rw [b45]; exact n3)
  refine ⟨J2, fun P w => w1 P (w2 P w), c1, c2, c3, ?_, ?_⟩
  · refine ⟨?_, ?_, ?_, ?_, ?_⟩
    · rw [c5 45 _ (by omega) (by omega) (by omega)]; exact b45
    · rw [c4, b58]
    · rw [c4', a3]
    · refine rf_rp_of A _ hA hrA (fun a i h1 h2 h3 h4 => ?_)
      rw [c5 a i (by omega) (by omega) (by omega), a5 a i (by omega)]
      exact g5 a i h1 h2 (by omega) (by omega)
    · refine rf_rp_of B _ hB a4 (fun a i h1 h2 h3 h4 => c5 a i (by omega) (by omega) (by omega))
  · intro a b hab
    rw [c5 a b (by omega) (by omega) (by omega), a5 a b (by omega)]
end BIND
