/-! ===== the reference's reader: state, small methods ===== -/
/-- at token c -/
def rf_T (f : Nat → Int32) (n c : Nat) (I : Nat → Nat → Int32) : Prop := mt_F f n I ∧ rf_wd I ∧ ∃ x rest, (pu_toks f n n 0).drop c = x :: rest ∧ rf_tok x (I 42 8) (I 42 9) (I 42 10) ∧ ((x.1 = 0 ∧ rest = [] ∧ I 42 7 = nI n) ∨ (¬ x.1 = 0 ∧ rf_P f n rest I))
theorem rf_T_tok {f : Nat → Int32} {n c : Nat} {I : Nat → Nat → Int32} (h : rf_T f n c I) : rf_tok (pt_k (pt_tape f n) c, pt_p (pt_tape f n) c, pt_v (pt_tape f n) c) (I 42 8) (I 42 9) (I 42 10) := by
  obtain ⟨_, _, x, rest, h1, h2, _⟩ := h
  have e : (pt_tape f n).1 c = x := by
    show (pu_toks f n n 0).getD c (0, 0, 0) = x
    rw [List.getD_eq_getElem?_getD]
    have := congrArg (fun l => l[0]?) h1
    simp only [List.getElem?_drop, Nat.add_zero, List.getElem?_cons_zero] at this
    rw [this]
    rfl
  unfold pt_k pt_p pt_v
  rw [e]
  exact h2
/-- the token's part of the memory -/
theorem rf_T_of {f : Nat → Int32} {n c : Nat} {I I' : Nat → Nat → Int32} (h : rf_T f n c I) (h6 : ∀ b, 6 ≤ b → b ≤ 10 → I' 42 b = I 42 b) (h43 : ∀ b, I' 43 b = I 43 b) (h44 : ∀ b, I' 44 b = I 44 b) : rf_T f n c I' := by
  obtain ⟨⟨g1, g2, g3⟩, g4, x, rest, g5, g6, g7⟩ := h
  refine ⟨⟨by rw [h6 6 (by omega) (by omega)]; exact g1, g2, fun i hi => by rw [h43]; exact g3 i hi⟩, fun i hi => by rw [h44]; exact g4 i hi, x, rest, g5, by rw [h6 8 (by omega) (by omega), h6 9 (by omega) (by omega), h6 10 (by omega) (by omega)]; exact g6, ?_⟩
  rcases g7 with ⟨a, b, c⟩ | ⟨a, p, m, b, c⟩
  · exact Or.inl ⟨a, b, by rw [h6 7 (by omega) (by omega)]; exact c⟩
  · exact Or.inr ⟨a, p, m, by rw [h6 7 (by omega) (by omega)]; exact b, c⟩
section MREAD
variable {ext : Nat → List Value → am_M → Option am_R} {d : Nat} (L : Nat → Nat → Int64) (D : Nat → Nat → UInt64) (X : am_Rf) {f : Nat → Int32} {n c : Nat} {I : Nat → Nat → Int32}
/-- take goes to the next token -/
theorem c123t (hc : c < (pt_tape f n).2) (h : rf_T f n c I) : ∃ I', am_Rn ext (d + 2) 123 [.ref 42] (I, L, D, am_rf X) (none, (I', L, D, am_rf X)) ∧ rf_T f n (pt_adv (pt_tape f n) c) I' ∧ rf_tf I I' := by
  obtain ⟨hF, hW, x, rest, h1, h2, h3⟩ := h
  have hlen : (pt_tape f n).2 = (pu_toks f n n 0).length := rfl
  have hl : ((pu_toks f n n 0).drop c).length = rest.length + 1 := by rw [h1]; rfl
  rw [List.length_drop] at hl
  rcases h3 with ⟨a, rfl, b⟩ | ⟨a, b⟩
  · obtain ⟨I', x', rest', r, e1, e2, e3, e4⟩ := c123 (ext := ext) (d := d) L D X hF hW (l := [(0, nI n, 0)]) ⟨n, 0, b, Nat.le_refl _, by omega, rfl⟩
    cases e1
    have ea : pt_adv (pt_tape f n) c = c := by
      unfold pt_adv
      rw [if_neg (by rw [hlen]; simp at hl; omega)]
    have ex : x = (0, nI n, 0) := by
      obtain ⟨l, g1, g2⟩ := pu_toks_ok f n n 0
      have g3 : (pu_toks f n n 0).take c ++ [x] = l ++ [(0, nI n, 0)] := by rw [← g1, ← h1, List.take_append_drop]
      have := (List.append_inj' g3 rfl).2
      simpa using this
    refine ⟨I', r, ?_, e4⟩
    rw [ea]
    refine ⟨mt_F_tf hF e4, rf_wd_tf hW e4, x, [], h1, by rw [ex]; exact e2, Or.inl ⟨by rw [ex], rfl, ?_⟩⟩
    rcases e3 with ⟨_, _, e3⟩ | ⟨e3, _⟩
    · exact e3
    · exact absurd rfl e3
  · obtain ⟨I', x', rest', r, e1, e2, e3, e4⟩ := c123 (ext := ext) (d := d) L D X hF hW b
    have ea : pt_adv (pt_tape f n) c = c + 1 := by
      unfold pt_adv
      rw [if_pos (by rw [hlen]; rw [e1] at hl; simp at hl; omega)]
    refine ⟨I', r, ?_, e4⟩
    rw [ea]
    refine ⟨mt_F_tf hF e4, rf_wd_tf hW e4, x', rest', ?_, e2, e3⟩
    rw [← List.tail_drop, h1]
    exact e1
theorem rf_sgn {x k w p y : Int32} {pl vl : Int32} (h : rf_tok (x, pl, vl) k w p) (hy : pu_sgn y = true) : (k = 4 ∧ w = y) ↔ x = y := by
  obtain ⟨_, h⟩ := h
  have hy' := of_decide_eq_true hy
  constructor
  · rintro ⟨rfl, rfl⟩
    rcases h with ⟨_, h⟩ | ⟨_, h⟩ | ⟨_, h, _⟩ | ⟨_, h, _⟩ | ⟨j, _, _, h, _⟩ | ⟨_, _, h⟩
    · exact absurd h (by decide)
    · exact absurd h (by decide)
    · exact absurd h (by decide)
    · exact absurd h (by decide)
    · exact absurd h (by decide)
    · exact h.symm
  · intro hx
    subst hx
    rcases h with ⟨h, _⟩ | ⟨h, _⟩ | ⟨h, _⟩ | ⟨h, _⟩ | ⟨j, h0, h, _⟩ | ⟨_, h1, h2⟩
    · have h : x = 0 := h
      rw [h] at hy; exact absurd hy (by decide)
    · have h : x = 1 := h
      rw [h] at hy; exact absurd hy (by decide)
    · have h : x = 2 := h
      rw [h] at hy; exact absurd hy (by decide)
    · have h : x = 3 := h
      rw [h] at hy; exact absurd hy (by decide)
    · have h : x = nI (4 + j) := h
      rw [h] at hy
      have key : ∀ j, j < 11 → pu_sgn (nI (4 + j)) = false := by decide
      rw [key j h0] at hy
      cases hy
    · exact ⟨h1, h2⟩
/-- isSign -/
theorem c124 (h : rf_T f n c I) {w : Int32} (hw : pu_sgn w = true) : am_Rn ext (d + 1) 124 [.ref 42, .int w] (I, L, D, am_rf X) (some (.int (if pt_k (pt_tape f n) c = w then 1 else 0)), (I, L, D, am_rf X)) := by
  have hs := rf_sgn (rf_T_tok h) hw
  refine am_rn_of mh_124 rfl (w124_0 I L D X w ⟨fun z => ?_, fun z => ⟨fun y => ?_, fun y => ?_⟩⟩)
  · rw [if_neg (fun q => z (hs.mpr q).1)]
  · rw [if_neg (fun q => y (hs.mpr q).2)]
  · rw [if_pos (hs.mp ⟨z, y⟩)]
theorem rf_pl (h : rf_T f n c I) : I 42 10 = pt_p (pt_tape f n) c := (rf_T_tok h).1
/-- what reading an expression may write -/
def rf_x (kn nw nh a b : Nat) : Bool := (a == 42 && (b == 4 || b == 5 || b == 7 || b == 8 || b == 9 || b == 10 || b == 18 || b == 31 || b == 33 || b == 34 || b == 35)) || ((Nat.ble 45 a && Nat.ble a 50 && Nat.ble (96 + kn) b) || (((a == 55 || a == 56 || a == 57) && Nat.ble nw b) || (a == 58 && Nat.ble nh b)))
def rf_fr (kn nw nh : Nat) (I I' : Nat → Nat → Int32) : Prop := ∀ a b, rf_x kn nw nh a b = false → I' a b = I a b
theorem rf_x_iff {kn nw nh a b : Nat} : rf_x kn nw nh a b = false ↔ ¬ (a = 42 ∧ (b = 4 ∨ b = 5 ∨ b = 7 ∨ b = 8 ∨ b = 9 ∨ b = 10 ∨ b = 18 ∨ b = 31 ∨ b = 33 ∨ b = 34 ∨ b = 35)) ∧ ¬ (45 ≤ a ∧ a ≤ 50 ∧ 96 + kn ≤ b) ∧ ¬ ((a = 55 ∨ a = 56 ∨ a = 57) ∧ nw ≤ b) ∧ ¬ (a = 58 ∧ nh ≤ b) := by
  have hb : ∀ x y : Nat, Nat.ble x y = decide (x ≤ y) := fun x y => by
    cases h : Nat.ble x y with
    | true => exact (decide_eq_true (Nat.le_of_ble_eq_true h)).symm
    | false =>
      refine (decide_eq_false fun z => ?_).symm
      rw [Nat.ble_eq_true_of_le z] at h
      cases h
  unfold rf_x
  simp only [hb, Bool.or_eq_false_iff, Bool.and_eq_false_iff, beq_eq_false_iff_ne, decide_eq_false_iff_not]
  constructor
  · rintro ⟨h1, h2, h3, h4⟩
    refine ⟨?_, ?_, ?_, ?_⟩
    · rintro ⟨q1, q2⟩
      rcases h1 with h1 | h1
      · exact h1 q1
      · omega
    · omega
    · omega
    · omega
  · rintro ⟨h1, h2, h3, h4⟩
    refine ⟨?_, ?_, ?_, ?_⟩
    · by_cases h : a = 42
      · refine Or.inr ?_
        omega
      · exact Or.inl h
    · omega
    · omega
    · omega
theorem rf_fr_0 (kn nw nh : Nat) (I : Nat → Nat → Int32) : rf_fr kn nw nh I I := fun _ _ _ => rfl
theorem rf_fr_t {kn nw nh kn' nw' nh' : Nat} {I I1 I2 : Nat → Nat → Int32} (h1 : rf_fr kn nw nh I I1) (h2 : rf_fr kn' nw' nh' I1 I2) (a : kn ≤ kn') (b : nw ≤ nw') (c : nh ≤ nh') : rf_fr kn nw nh I I2 := by
  intro x y hx
  have hx' := rf_x_iff.mp hx
  have hy : rf_x kn' nw' nh' x y = false := rf_x_iff.mpr ⟨hx'.1, by omega, by omega, by omega⟩
  rw [h2 x y hy, h1 x y hx]
theorem rf_fr_u {kn nw nh k j : Nat} {x : Int32} {I I1 : Nat → Nat → Int32} (h : rf_fr kn nw nh I I1) (hx : (k = 42 ∧ (j = 4 ∨ j = 5 ∨ j = 7 ∨ j = 8 ∨ j = 9 ∨ j = 10 ∨ j = 18 ∨ j = 31 ∨ j = 33 ∨ j = 34 ∨ j = 35)) ∨ (45 ≤ k ∧ k ≤ 50 ∧ 96 + kn ≤ j) ∨ ((k = 55 ∨ k = 56 ∨ k = 57) ∧ nw ≤ j) ∨ (k = 58 ∧ nh ≤ j)) : rf_fr kn nw nh I (am_uI I1 k j x) := by
  intro a b hab
  have h' := rf_x_iff.mp hab
  rw [am_uI_at, if_neg (by omega)]
  exact h a b hab
theorem rf_fr_tf {kn nw nh : Nat} {I I' : Nat → Nat → Int32} (h : rf_tf I I') : rf_fr kn nw nh I I' := fun a b hab => h a b (by have := rf_x_iff.mp hab; omega)
/-- the reading of an expression stands at token c: knots, brackets, what waits, what is held -/
def rf_S (f : Nat → Int32) (n c kn op nw nh : Nat) (I : Nat → Nat → Int32) : Prop := rf_T f n c I ∧ I 42 18 = nI kn ∧ I 42 34 = nI op ∧ I 42 31 = nI nw ∧ I 42 33 = nI nh ∧ I 42 4 = 0 ∧ I 42 5 = -1
def rf_E (e : pt_E) (I : Nat → Nat → Int32) : Prop := I 42 36 = (if e.1 = true then 1 else 0) ∧ ∀ l, l < 26 → I 51 (26 + l) = nI (e.2.1 l)
theorem rf_E_fr {e : pt_E} {kn nw nh : Nat} {I I' : Nat → Nat → Int32} (h : rf_E e I) (hf : rf_fr kn nw nh I I') : rf_E e I' :=
  ⟨by rw [hf 42 36 (rf_x_iff.mpr ⟨by omega, by omega, by omega, by omega⟩)]; exact h.1, fun l hl => by rw [hf 51 _ (rf_x_iff.mpr ⟨by omega, by omega, by omega, by omega⟩)]; exact h.2 l hl⟩
def rf_F (q : Nat × Int32) (I : Nat → Nat → Int32) : Prop := I 42 4 = nI q.1 ∧ I 42 5 = q.2
variable {kn op nw nh : Nat}
/-- the token state behind a take -/
theorem rf_S_take (hc : c < (pt_tape f n).2) (h : rf_S f n c kn op nw nh I) : ∃ I', am_Rn ext (d + 2) 123 [.ref 42] (I, L, D, am_rf X) (none, (I', L, D, am_rf X)) ∧ rf_S f n (pt_adv (pt_tape f n) c) kn op nw nh I' ∧ rf_tf I I' := by
  obtain ⟨h0, h1, h2, h3, h4, h5, h6⟩ := h
  obtain ⟨I', r, t', hf⟩ := c123t (ext := ext) (d := d) L D X hc h0
  exact ⟨I', r, ⟨t', by rw [hf 42 18 (by omega)]; exact h1, by rw [hf 42 34 (by omega)]; exact h2, by rw [hf 42 31 (by omega)]; exact h3, by rw [hf 42 33 (by omega)]; exact h4, by rw [hf 42 4 (by omega)]; exact h5, by rw [hf 42 5 (by omega)]; exact h6⟩, hf⟩
/-- wrong -/
theorem c118t (h : rf_S f n c kn op nw nh I) (k : Nat) : ∃ I', am_Rn ext (d + 1) 118 [.ref 42, .int (nI k)] (I, L, D, am_rf X) (some (.int 0), (I', L, D, am_rf X)) ∧ rf_F (k, pt_p (pt_tape f n) c) I' ∧ ∀ kn nw nh, rf_fr kn nw nh I I' := by
  refine ⟨_, c118 L D X (nI k), ⟨by simp [am_uI_at], by simp [am_uI_at, rf_pl h.1]⟩, fun kn nw nh => rf_fr_u (rf_fr_u (rf_fr_0 _ _ _ _) (by omega)) (by omega)⟩
/-- comes -/
theorem c125 (hc : c < (pt_tape f n).2) (h : rf_S f n c kn op nw nh I) {w : Int32} (hw : pu_sgn w = true) :
    (pt_k (pt_tape f n) c = w → ∃ I', am_Rn ext (d + 3) 125 [.ref 42, .int w] (I, L, D, am_rf X) (some (.int 1), (I', L, D, am_rf X)) ∧ rf_S f n (pt_adv (pt_tape f n) c) kn op nw nh I' ∧ rf_tf I I') ∧
    (¬ pt_k (pt_tape f n) c = w → ∃ I', am_Rn ext (d + 3) 125 [.ref 42, .int w] (I, L, D, am_rf X) (some (.int 0), (I', L, D, am_rf X)) ∧ rf_F (1, pt_p (pt_tape f n) c) I' ∧ ∀ kn nw nh, rf_fr kn nw nh I I') := by
  have r0 := c124 (ext := ext) (d := d + 1) L D X h.1 hw
  constructor
  · intro hk
    rw [if_pos hk] at r0
    obtain ⟨I', r, g⟩ := rf_S_take (ext := ext) (d := d) L D X hc h
    exact ⟨I', am_rn_of mh_125 rfl (w125_0 I L D X w ⟨1, I, L, D, r0, fun _ => ⟨I', L, D, r, rfl⟩, fun z => absurd z (by decide)⟩), g⟩
  · intro hk
    rw [if_neg hk] at r0
    obtain ⟨I', r, g⟩ := c118t (ext := ext) (d := d + 1) L D X h 1
    exact ⟨I', am_rn_of mh_125 rfl (w125_0 I L D X w ⟨0, I, L, D, r0, fun z => absurd rfl z, fun _ => ⟨0, I', L, D, r, Or.inl rfl, rfl⟩⟩), g⟩
/-- grown -/
theorem c126 (h : rf_S f n c kn op nw nh I) (hk : kn ≤ 96) (a b : Int32) :
    (kn < 96 → am_Rn ext (d + 2) 126 [.ref 42, .int a, .int b] (I, L, D, am_rf X) (some (.int (nI (96 + kn))), (am_uI (am_uI (am_uI (am_uI (am_uI (am_uI (am_uI I 42 18 (nI (kn + 1))) 45 (96 + kn) a) 46 (96 + kn) b) 47 (96 + kn) (-1)) 48 (96 + kn) (-1)) 49 (96 + kn) (-1)) 50 (96 + kn) (-1), L, D, am_rf X))) ∧
    (¬ kn < 96 → ∃ I', am_Rn ext (d + 2) 126 [.ref 42, .int a, .int b] (I, L, D, am_rf X) (some (.int (-1)), (I', L, D, am_rf X)) ∧ rf_F (2, pt_p (pt_tape f n) c) I' ∧ ∀ kn nw nh, rf_fr kn nw nh I I') := by
  have e18 := h.2.1
  have e96 : I 42 18 = 96 ↔ kn = 96 := by rw [e18, show (96 : Int32) = nI 96 from rfl, ni_eq (by omega) (by omega)]
  constructor
  · intro hk9
    have e1 : 96 + I 42 18 = nI (96 + kn) := by rw [e18, show (96 : Int32) = nI 96 from rfl, ni_add (by omega)]
    have e2 : I 42 18 + 1 = nI (kn + 1) := by rw [e18, show (1 : Int32) = nI 1 from rfl, ni_add (by omega)]
    have e3 : (nI (96 + kn)).toNatClampNeg = 96 + kn := ni_nat (by omega)
    have hb : am_inb (96 + I 42 18) 192 = true := by rw [e1]; exact ni_inb (by omega) (by omega)
    refine am_rn_of mh_126 rfl (w126_0 I L D X a b ⟨fun _ => ⟨hb, hb, hb, hb, hb, hb, ?_⟩, fun z => absurd (e96.mp z) (by omega)⟩)
    rw [e1, e2, e3]
  · intro hk9
    obtain ⟨I', r, g⟩ := c118t (ext := ext) (d := d) L D X h 2
    exact ⟨I', am_rn_of mh_126 rfl (w126_0 I L D X a b ⟨fun z => absurd (e96.mpr (by omega)) z, fun _ => ⟨0, I', L, D, r, rfl⟩⟩), g⟩
/-- the state behind grown -/
theorem rf_S_grown (h : rf_S f n c kn op nw nh I) (a b : Int32) : rf_S f n c (kn + 1) op nw nh (am_uI (am_uI (am_uI (am_uI (am_uI (am_uI (am_uI I 42 18 (nI (kn + 1))) 45 (96 + kn) a) 46 (96 + kn) b) 47 (96 + kn) (-1)) 48 (96 + kn) (-1)) 49 (96 + kn) (-1)) 50 (96 + kn) (-1)) ∧ rf_fr kn nw nh I (am_uI (am_uI (am_uI (am_uI (am_uI (am_uI (am_uI I 42 18 (nI (kn + 1))) 45 (96 + kn) a) 46 (96 + kn) b) 47 (96 + kn) (-1)) 48 (96 + kn) (-1)) 49 (96 + kn) (-1)) 50 (96 + kn) (-1)) := by
  obtain ⟨h0, h1, h2, h3, h4, h5, h6⟩ := h
  refine ⟨⟨rf_T_of h0 (fun b h1 h2 => ?_) (fun b => ?_) (fun b => ?_), ?_, ?_, ?_, ?_, ?_, ?_⟩, ?_⟩
  · simp only [am_uI_at]
    rw [if_neg (by omega), if_neg (by omega), if_neg (by omega), if_neg (by omega), if_neg (by omega), if_neg (by omega), if_neg (by omega)]
  · simp [am_uI_at]
  · simp [am_uI_at]
  · simp [am_uI_at]
  · simp [am_uI_at, h2]
  · simp [am_uI_at, h3]
  · simp [am_uI_at, h4]
  · simp [am_uI_at, h5]
  · simp [am_uI_at, h6]
  · exact rf_fr_u (rf_fr_u (rf_fr_u (rf_fr_u (rf_fr_u (rf_fr_u (rf_fr_u (rf_fr_0 _ _ _ _) (by omega)) (by omega)) (by omega)) (by omega)) (by omega)) (by omega)) (by omega)
/-- weight -/
def rf_w (x : Int32) : Nat := if x < 100 then (if x = 3 then 3 else if x = 8 ∨ x = 9 then 2 else 1) else 0
theorem c127 (x : Int32) : am_Rn ext (d + 1) 127 [.int x] (I, L, D, am_rf X) (some (.int (nI (rf_w x))), (I, L, D, am_rf X)) := by
  refine am_rn_of mh_127 rfl (w127_0 I L D X x ⟨fun z => ⟨fun y => ⟨fun w => ?_, fun w => ⟨fun v => ?_, fun v => ?_⟩⟩, fun y => ?_⟩, fun z => ?_⟩)
  · simp [rf_w, z, y, w]; rfl
  · simp [rf_w, z, y, w, v]; rfl
  · simp [rf_w, z, y, w, v]; rfl
  · simp [rf_w, z, y]; rfl
  · simp [rf_w, z]; rfl
/-- drop, hold -/
theorem c128 {k : Nat} (h : I 42 33 = nI (k + 1)) (hk : k < 120) : am_Rn ext (d + 1) 128 [.ref 42] (I, L, D, am_rf X) (some (.int (I 58 k)), (am_uI I 42 33 (nI k), L, D, am_rf X)) := by
  have e1 : I 42 33 - 1 = nI k := by rw [h, show (1 : Int32) = nI 1 from rfl, ni_sub (by omega) (by omega)]; rfl
  refine am_rn_of mh_128 rfl (w128_0 I L D X ⟨by rw [e1]; exact ni_inb hk (by omega), ?_⟩)
  rw [e1, ni_nat (by omega)]
theorem c129 {k : Nat} (h : I 42 33 = nI k) (hk : k < 120) (x : Int32) : am_Rn ext (d + 1) 129 [.ref 42, .int x] (I, L, D, am_rf X) (none, (am_uI (am_uI I 58 k x) 42 33 (nI (k + 1)), L, D, am_rf X)) := by
  have e1 : I 42 33 + 1 = nI (k + 1) := by rw [h, show (1 : Int32) = nI 1 from rfl, ni_add (by omega)]
  refine am_rn_of mh_129 rfl (w129_0 I L D X x ⟨by rw [h]; exact ni_inb hk (by omega), ?_⟩)
  rw [h, ni_nat (by omega), show nI k + 1 = nI (k + 1) by rw [← h]; exact e1]
/-- waitFor -/
theorem c131 {k : Nat} (h : I 42 31 = nI k) (hk : k < 120) (x y : Int32) : am_Rn ext (d + 1) 131 [.ref 42, .int x, .int y] (I, L, D, am_rf X) (none, (am_uI (am_uI (am_uI (am_uI I 55 k x) 56 k y) 57 k 0) 42 31 (nI (k + 1)), L, D, am_rf X)) := by
  have e1 : nI k + 1 = nI (k + 1) := by rw [show (1 : Int32) = nI 1 from rfl, ni_add (by omega)]
  have hb : am_inb (I 42 31) 120 = true := by rw [h]; exact ni_inb hk (by omega)
  refine am_rn_of mh_131 rfl (w131_0 I L D X x y ⟨hb, hb, hb, ?_⟩)
  rw [h, ni_nat (by omega), e1]
theorem rf_S_wait (h : rf_S f n c kn op nw nh I) (x y : Int32) : rf_S f n c kn op (nw + 1) nh (am_uI (am_uI (am_uI (am_uI I 55 nw x) 56 nw y) 57 nw 0) 42 31 (nI (nw + 1))) ∧ rf_fr kn nw nh I (am_uI (am_uI (am_uI (am_uI I 55 nw x) 56 nw y) 57 nw 0) 42 31 (nI (nw + 1))) := by
  obtain ⟨h0, h1, h2, h3, h4, h5, h6⟩ := h
  refine ⟨⟨rf_T_of h0 (fun b h1 h2 => ?_) (fun b => ?_) (fun b => ?_), ?_, ?_, ?_, ?_, ?_, ?_⟩, ?_⟩
  · simp only [am_uI_at]
    rw [if_neg (by omega), if_neg (by omega), if_neg (by omega), if_neg (by omega)]
  · simp [am_uI_at]
  · simp [am_uI_at]
  · simp [am_uI_at, h1]
  · simp [am_uI_at, h2]
  · simp [am_uI_at]
  · simp [am_uI_at, h4]
  · simp [am_uI_at, h5]
  · simp [am_uI_at, h6]
  · exact rf_fr_u (rf_fr_u (rf_fr_u (rf_fr_u (rf_fr_0 _ _ _ _) (by omega)) (by omega)) (by omega)) (by omega)
/-- opens -/
theorem c132 (hc : c < (pt_tape f n).2) (ho : op ≤ 8) (hw : nw < 120) (h : rf_S f n c kn op nw nh I) (x : Int32) :
    (pt_k (pt_tape f n) c = 40 → op < 8 → ∃ I', am_Rn ext (d + 3) 132 [.ref 42, .int x] (I, L, D, am_rf X) (some (.int 1), (I', L, D, am_rf X)) ∧ rf_S f n (pt_adv (pt_tape f n) c) kn (op + 1) (nw + 1) nh I' ∧ rf_fr kn nw nh I I' ∧ I' 55 nw = 100 ∧ I' 56 nw = x ∧ I' 57 nw = 0 ∧ I' 42 35 = I 42 35 ∧ (∀ a b, 45 ≤ a → a ≤ 50 → I' a b = I a b)) ∧
    (∀ k : Nat, (k = 2 ∧ pt_k (pt_tape f n) c = 40 ∧ ¬ op < 8) ∨ (k = 1 ∧ ¬ pt_k (pt_tape f n) c = 40) → ∃ I', am_Rn ext (d + 3) 132 [.ref 42, .int x] (I, L, D, am_rf X) (some (.int 0), (I', L, D, am_rf X)) ∧ rf_F (k, pt_p (pt_tape f n) c) I' ∧ ∀ kn nw nh, rf_fr kn nw nh I I') := by
  have r0 := c124 (ext := ext) (d := d + 1) L D X h.1 (w := 40) (by decide)
  have e34 := h.2.2.1
  have e8 : I 42 34 = 8 ↔ op = 8 := by rw [e34, show (8 : Int32) = nI 8 from rfl, ni_eq (by omega) (by omega)]
  refine ⟨fun hk h8 => ?_, fun k hk => ?_⟩
  · rw [if_pos hk] at r0
    have h' : rf_S f n c kn (op + 1) nw nh (am_uI I 42 34 (I 42 34 + 1)) := by
      obtain ⟨h0, h1, h2, h3, h4, h5, h6⟩ := h
      refine ⟨rf_T_of h0 (fun b h1 h2 => by rw [am_uI_at, if_neg (by omega)]) (fun b => by simp [am_uI_at]) (fun b => by simp [am_uI_at]), by simp [am_uI_at, h1], ?_, by simp [am_uI_at, h3], by simp [am_uI_at, h4], by simp [am_uI_at, h5], by simp [am_uI_at, h6]⟩
      rw [am_uI_at, if_pos ⟨rfl, rfl⟩, e34, show (1 : Int32) = nI 1 from rfl, ni_add (by omega)]
    have r1 := c131 (ext := ext) (d := d + 1) L D X h'.2.2.2.1 hw 100 x
    obtain ⟨s2, f2⟩ := rf_S_wait h' 100 x
    have g55 : (am_uI (am_uI (am_uI (am_uI (am_uI I 42 34 (I 42 34 + 1)) 55 nw 100) 56 nw x) 57 nw 0) 42 31 (nI (nw + 1))) 55 nw = 100 := by simp [am_uI_at]
    have g56 : (am_uI (am_uI (am_uI (am_uI (am_uI I 42 34 (I 42 34 + 1)) 55 nw 100) 56 nw x) 57 nw 0) 42 31 (nI (nw + 1))) 56 nw = x := by simp [am_uI_at]
    have g57 : (am_uI (am_uI (am_uI (am_uI (am_uI I 42 34 (I 42 34 + 1)) 55 nw 100) 56 nw x) 57 nw 0) 42 31 (nI (nw + 1))) 57 nw = 0 := by simp [am_uI_at]
    have g35 : (am_uI (am_uI (am_uI (am_uI (am_uI I 42 34 (I 42 34 + 1)) 55 nw 100) 56 nw x) 57 nw 0) 42 31 (nI (nw + 1))) 42 35 = I 42 35 := by simp [am_uI_at]
    have gK : ∀ a b, 45 ≤ a → a ≤ 50 → (am_uI (am_uI (am_uI (am_uI (am_uI I 42 34 (I 42 34 + 1)) 55 nw 100) 56 nw x) 57 nw 0) 42 31 (nI (nw + 1))) a b = I a b := by
      intro a b h1 h2
      simp only [am_uI_at]
      rw [if_neg (by omega), if_neg (by omega), if_neg (by omega), if_neg (by omega), if_neg (by omega)]
    obtain ⟨I3, r3, s3, f3⟩ := rf_S_take (ext := ext) (d := d) L D X hc s2
    refine ⟨I3, am_rn_of mh_132 rfl (w132_0 I L D X x ⟨1, I, L, D, r0, fun _ => ⟨fun _ => ⟨_, L, D, r1, I3, L, D, r3, rfl⟩, fun z => absurd (e8.mp z) (by omega)⟩, fun z => absurd z (by decide)⟩), s3, rf_fr_t (rf_fr_t (rf_fr_u (rf_fr_0 _ _ _ _) (by omega)) f2 (Nat.le_refl _) (Nat.le_refl _) (Nat.le_refl _)) (rf_fr_tf f3) (Nat.le_refl _) (Nat.le_refl _) (Nat.le_refl _), ?_, ?_, ?_, ?_, ?_⟩
    · rw [f3 55 nw (by omega)]; exact g55
    · rw [f3 56 nw (by omega)]; exact g56
    · rw [f3 57 nw (by omega)]; exact g57
    · rw [f3 42 35 (by omega)]; exact g35
    · intro a b h1 h2
      rw [f3 a b (by omega)]; exact gK a b h1 h2
  · rcases hk with ⟨rfl, hk, h8⟩ | ⟨rfl, hk⟩
    · rw [if_pos hk] at r0
      obtain ⟨I', r, g⟩ := c118t (ext := ext) (d := d + 1) L D X h 2
      exact ⟨I', am_rn_of mh_132 rfl (w132_0 I L D X x ⟨1, I, L, D, r0, fun _ => ⟨fun z => absurd (e8.mpr (by omega)) z, fun _ => ⟨0, I', L, D, r, Or.inl rfl, rfl⟩⟩, fun z => absurd z (by decide)⟩), g⟩
    · rw [if_neg hk] at r0
      obtain ⟨I', r, g⟩ := c118t (ext := ext) (d := d + 1) L D X h 1
      exact ⟨I', am_rn_of mh_132 rfl (w132_0 I L D X x ⟨0, I, L, D, r0, fun z => absurd rfl z, fun _ => ⟨0, I', L, D, r, Or.inl rfl, rfl⟩⟩), g⟩
end MREAD
