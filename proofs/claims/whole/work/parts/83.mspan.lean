/-! ===== the reference asks: small methods ===== -/
/-- what is told: has, low, high -/
def me_v (o : Option (Int64 × Int64)) (I : Nat → Nat → Int32) (L : Nat → Nat → Int64) : Prop := I 42 50 = (if o = none then 0 else 1) ∧ ∀ p, o = some p → L 42 51 = p.1 ∧ L 42 52 = p.2
/-- a child is laid at place g -/
def me_C (g u : Nat) (k : Int32) (a b : Int64) (I : Nat → Nat → Int32) (L : Nat → Nat → Int64) (I' : Nat → Nat → Int32) (L' : Nat → Nat → Int64) : Prop := I' 42 47 = nI (g + 1) ∧ I' 42 49 = nI (u + 1) ∧ I' 59 g = k ∧ I' 60 g = 0 ∧ L' 61 g = a ∧ L' 62 g = b ∧ (∀ p q, ¬ (p = 42 ∧ (q = 47 ∨ q = 49)) → ¬ ((p = 59 ∨ p = 60) ∧ q = g) → I' p q = I p q) ∧ (∀ p q, ¬ ((p = 61 ∨ p = 62) ∧ q = g) → L' p q = L p q)
/-- a value is given, the frame g left -/
def me_V (g : Nat) (o : Option (Int64 × Int64)) (I : Nat → Nat → Int32) (L : Nat → Nat → Int64) (I' : Nat → Nat → Int32) (L' : Nat → Nat → Int64) : Prop := I' 42 47 = nI g ∧ me_v o I' L' ∧ (∀ p q, ¬ (p = 42 ∧ (q = 47 ∨ q = 50)) → I' p q = I p q) ∧ (∀ p q, ¬ (p = 42 ∧ (q = 51 ∨ q = 52)) → L' p q = L p q)
theorem xor_nn (a b : Int64) : 0 ≤ (a ^^^ b) ↔ (a < 0 ↔ b < 0) := by
  have h : ∀ x : Int64, x < 0 ↔ x.toBitVec.msb = true := by
    intro x
    rw [Int64.lt_iff_toInt_lt, show (0 : Int64).toInt = 0 from rfl]
    exact BitVec.msb_eq_toInt (x := x.toBitVec) ▸ (by simp)
  have h2 : 0 ≤ (a ^^^ b) ↔ ¬ (a ^^^ b) < 0 := by rw [Int64.le_iff_toInt_le, Int64.lt_iff_toInt_lt]; omega
  rw [h2, h, h, h, Int64.toBitVec_xor, BitVec.msb_xor]
  cases a.toBitVec.msb <;> cases b.toBitVec.msb <;> simp
section MSPAN
variable {ext : Nat → List Value → am_M → Option am_R} {d : Nat} (D : Nat → Nat → UInt64) (X : am_Rf) {I : Nat → Nat → Int32} {L : Nat → Nat → Int64}
theorem c150 {g u : Nat} (h47 : I 42 47 = nI g) (hg : g < 128) (h49 : I 42 49 = nI u) (hu : u ≤ 20000) (k : Int32) (a b : Int64) : ∃ I' L', am_Rn ext (d + 1) 150 [.ref 42, .int k, .long a, .long b] (I, L, D, am_rf X) (none, (I', L', D, am_rf X)) ∧ me_C g u k a b I L I' L' := by
  have hb : am_inb (I 42 47) 128 = true := by rw [h47]; exact ni_inb hg (by omega)
  have e : (I 42 47).toNatClampNeg = g := by rw [h47, ni_nat (by omega)]
  have e1 : I 42 47 + 1 = nI (g + 1) := by rw [h47, show (1 : Int32) = nI 1 from rfl, ni_add (by omega)]
  have e2 : I 42 49 + 1 = nI (u + 1) := by rw [h49, show (1 : Int32) = nI 1 from rfl, ni_add (by omega)]
  have r := am_rn_of (ext := ext) (d := d) (as := [.ref 42, .int k, .long a, .long b]) mh_150 rfl (w150_0 I L D X k a b ⟨hb, hb, hb, hb, rfl⟩)
  rw [e, e1, e2] at r
  refine ⟨_, _, r, ?_, ?_, ?_, ?_, ?_, ?_, fun p q h1 h2 => ?_, fun p q h1 => ?_⟩
  · rw [am_uI_at, if_pos ⟨rfl, rfl⟩]
  · rw [am_uI_at, if_neg (by omega), am_uI_at, if_neg (by omega), am_uI_at, if_neg (by omega), am_uI_at, if_pos ⟨rfl, rfl⟩]
  · rw [am_uI_at, if_neg (by omega), am_uI_at, if_neg (by omega), am_uI_at, if_pos ⟨rfl, rfl⟩]
  · rw [am_uI_at, if_neg (by omega), am_uI_at, if_pos ⟨rfl, rfl⟩]
  · rw [am_uL_at, if_neg (by omega), am_uL_at, if_pos ⟨rfl, rfl⟩]
  · rw [am_uL_at, if_pos ⟨rfl, rfl⟩]
  · rw [am_uI_at, if_neg (by omega), am_uI_at, if_neg (by omega), am_uI_at, if_neg (by omega), am_uI_at, if_neg (by omega)]
  · rw [am_uL_at, if_neg (by omega), am_uL_at, if_neg (by omega)]
/-- gives: no number -/
theorem c151_0 {g : Nat} (h47 : I 42 47 = nI (g + 1)) (hg : g < 128) (a b : Int64) : ∃ I' L', am_Rn ext (d + 1) 151 [.ref 42, .int 0, .long a, .long b] (I, L, D, am_rf X) (none, (I', L', D, am_rf X)) ∧ me_V g none I L I' L' := by
  have e1 : I 42 47 - 1 = nI g := by rw [h47, show (1 : Int32) = nI 1 from rfl, ni_sub (by omega) (by omega)]; rfl
  have r := am_rn_of (ext := ext) (d := d) (as := [.ref 42, .int 0, .long a, .long b]) mh_151 rfl (w151_0 I L D X 0 a b ⟨fun _ => w151_35 I L D X a b rfl, fun z => absurd rfl z⟩)
  rw [e1] at r
  refine ⟨_, _, r, ?_, ⟨?_, fun p hp => by cases hp⟩, fun p q h => ?_, fun p q h => ?_⟩
  · rw [am_uI_at, if_pos ⟨rfl, rfl⟩]
  · rw [am_uI_at, if_neg (by omega), am_uI_at, if_pos ⟨rfl, rfl⟩]; rfl
  · rw [am_uI_at, if_neg (by omega), am_uI_at, if_neg (by omega)]
  · rw [am_uL_at, if_neg (by omega), am_uL_at, if_neg (by omega)]
/-- gives: a span, if it is within the limit -/
theorem c151_1 {g w : Nat} (h47 : I 42 47 = nI (g + 1)) (hg : g < 128) (h48 : I 42 48 = nI w) (a b : Int64) : ∃ I' L', am_Rn ext (d + 1) 151 [.ref 42, .int 1, .long a, .long b] (I, L, D, am_rf X) (none, (I', L', D, am_rf X)) ∧ me_V g (sp_k w a b) I L I' L' := by
  have e1 : I 42 47 - 1 = nI g := by rw [h47, show (1 : Int32) = nI 1 from rfl, ni_sub (by omega) (by omega)]; rfl
  have el : (2048 : Int64) <<< ((Int32.toInt64 (I 42 48)) &&& 63) = sp_lim w := by rw [h48]; rfl
  have no : sp_k w a b = none → am_wp ext d mz_151 (0, [some (.ref 42), some (.int 1), some (.long a), none, some (.long b), none, none, none], [], (I, L, D, am_rf X)) (fun r => r = (none, (am_uI (am_uI I 42 50 0) 42 47 ((I 42 47) - 1), am_uL (am_uL L 42 51 a) 42 52 b, D, am_rf X))) := by
    intro hk
    refine w151_0 I L D X 1 a b ⟨fun z => absurd z (by decide), fun _ => ⟨fun _ => w151_35 I L D X a b rfl, fun z => ⟨fun _ => w151_35 I L D X a b rfl, fun y => ?_⟩⟩⟩
    rw [el] at z y
    unfold sp_k at hk
    rw [if_neg z, if_neg y] at hk
    cases hk
  have yes : sp_k w a b = some (a, b) → am_wp ext d mz_151 (0, [some (.ref 42), some (.int 1), some (.long a), none, some (.long b), none, none, none], [], (I, L, D, am_rf X)) (fun r => r = (none, (am_uI (am_uI I 42 50 1) 42 47 ((I 42 47) - 1), am_uL (am_uL L 42 51 a) 42 52 b, D, am_rf X))) := by
    intro hk
    unfold sp_k at hk
    refine w151_0 I L D X 1 a b ⟨fun z => absurd z (by decide), fun _ => ⟨fun z => ?_, fun z => ⟨fun y => ?_, fun y => rfl⟩⟩⟩
    · rw [el] at z
      rw [if_pos z] at hk; cases hk
    · rw [el] at z y
      rw [if_neg z, if_pos y] at hk; cases hk
  have two : sp_k w a b = none ∨ sp_k w a b = some (a, b) := by
    unfold sp_k
    split
    · exact Or.inl rfl
    · split
      · exact Or.inl rfl
      · exact Or.inr rfl
  rcases two with hk | hk
  · have r := am_rn_of (ext := ext) (d := d) (as := [.ref 42, .int 1, .long a, .long b]) mh_151 rfl (no hk)
    rw [e1] at r
    refine ⟨_, _, r, ?_, ⟨?_, fun p hp => by rw [hk] at hp; cases hp⟩, fun p q h => ?_, fun p q h => ?_⟩
    · rw [am_uI_at, if_pos ⟨rfl, rfl⟩]
    · rw [am_uI_at, if_neg (by omega), am_uI_at, if_pos ⟨rfl, rfl⟩, hk]; rfl
    · rw [am_uI_at, if_neg (by omega), am_uI_at, if_neg (by omega)]
    · rw [am_uL_at, if_neg (by omega), am_uL_at, if_neg (by omega)]
  · have r := am_rn_of (ext := ext) (d := d) (as := [.ref 42, .int 1, .long a, .long b]) mh_151 rfl (yes hk)
    rw [e1] at r
    refine ⟨_, _, r, ?_, ⟨?_, fun p hp => ?_⟩, fun p q h => ?_, fun p q h => ?_⟩
    · rw [am_uI_at, if_pos ⟨rfl, rfl⟩]
    · rw [am_uI_at, if_neg (by omega), am_uI_at, if_pos ⟨rfl, rfl⟩, hk]; rfl
    · rw [hk] at hp
      cases hp
      exact ⟨by rw [am_uL_at, if_neg (by omega), am_uL_at, if_pos ⟨rfl, rfl⟩], by rw [am_uL_at, if_pos ⟨rfl, rfl⟩]⟩
    · rw [am_uI_at, if_neg (by omega), am_uI_at, if_neg (by omega)]
    · rw [am_uL_at, if_neg (by omega), am_uL_at, if_neg (by omega)]
theorem c152 {g : Nat} (h47 : I 42 47 = nI (g + 1)) (hg : g < 128) : ∃ I' L', am_Rn ext (d + 2) 152 [.ref 42] (I, L, D, am_rf X) (none, (I', L', D, am_rf X)) ∧ me_V g none I L I' L' := by
  obtain ⟨I', L', r, g⟩ := c151_0 (ext := ext) (d := d) D X h47 hg 0 0
  exact ⟨I', L', am_rn_of mh_152 rfl (w152_0 I L D X ⟨I', L', D, r, rfl⟩), g⟩
theorem c154 {w : Nat} (h48 : I 42 48 = nI w) (a : Int64) : am_Rn ext (d + 1) 154 [.ref 42, .long a] (I, L, D, am_rf X) (some (.long (sp_up w a)), (I, L, D, am_rf X)) := am_rn_of mh_154 rfl (w154_0 I L D X a (by rw [h48]; rfl))
theorem c157 (a b : Int64) : am_Rn ext (d + 1) 157 [.long a, .long b] (I, L, D, am_rf X) (some (.long (sp_mn a b)), (I, L, D, am_rf X)) := by
  refine am_rn_of mh_157 rfl (w157_0 I L D X a b ⟨fun z => ?_, fun z => ?_⟩)
  · unfold sp_mn
    split
    · rfl
    · rename_i h
      have : a = b := by rw [← Int64.toInt_inj]; rw [Int64.le_iff_toInt_le] at z; rw [Int64.lt_iff_toInt_lt] at h; omega
      rw [this]
  · unfold sp_mn
    rw [if_neg (fun h => z (by rw [Int64.le_iff_toInt_le]; rw [Int64.lt_iff_toInt_lt] at h; omega))]
theorem c158 (a b : Int64) : am_Rn ext (d + 1) 158 [.long a, .long b] (I, L, D, am_rf X) (some (.long (sp_mx a b)), (I, L, D, am_rf X)) := by
  refine am_rn_of mh_158 rfl (w158_0 I L D X a b ⟨fun z => ?_, fun z => ?_⟩)
  · unfold sp_mx
    split
    · rfl
    · rename_i h
      have : a = b := by rw [← Int64.toInt_inj]; rw [Int64.le_iff_toInt_le] at z; rw [Int64.lt_iff_toInt_lt] at h; omega
      rw [this]
  · unfold sp_mx
    rw [if_neg (fun h => z (by rw [Int64.le_iff_toInt_le]; rw [Int64.lt_iff_toInt_lt] at h; omega))]
theorem c155 {a b : Int64} (hb : ¬ b = 0) : am_Rn ext (d + 1) 155 [.long a, .long b] (I, L, D, am_rf X) (some (.long (sp_fl a b)), (I, L, D, am_rf X)) := by
  have lt : ∀ x : Int64, 0 ≤ x ↔ ¬ x < 0 := fun x => by rw [Int64.le_iff_toInt_le, Int64.lt_iff_toInt_lt]; omega
  have s0 : a - a / b * b = 0 ↔ (a / b) * b = a := by
    constructor
    · intro h
      have := congrArg (fun x => x + a / b * b) h
      simp only [Int64.sub_add_cancel, Int64.zero_add] at this
      exact this.symm
    · intro h
      rw [h, Int64.sub_self]
  have hx := xor_nn a b
  have pos : (a < 0 ↔ b < 0) → sp_fl a b = a / b := fun h => by unfold sp_fl; rw [if_neg hb, if_pos (hx.mpr h)]
  have neg : ¬ (a < 0 ↔ b < 0) → ¬ a - a / b * b = 0 → sp_fl a b = a / b - 1 := fun h y => by unfold sp_fl; rw [if_neg hb, if_neg (fun z => h (hx.mp z)), if_neg (fun z => y (s0.mpr z))]
  have ze : a - a / b * b = 0 → sp_fl a b = a / b := fun h => by
    unfold sp_fl
    rw [if_neg hb, if_pos (s0.mp h)]
    split <;> rfl
  refine am_rn_of mh_155 rfl (w155_0 I L D X a b ⟨hb, hb, fun z => by rw [ze z], fun z => ⟨fun y => ⟨fun x => ⟨fun _ => ?_, fun q => absurd rfl q⟩, fun x => ⟨fun q => absurd q (by decide), fun _ => ?_⟩⟩, fun y => ⟨fun x => ⟨fun q => absurd q (by decide), fun _ => ?_⟩, fun x => ⟨fun _ => ?_, fun q => absurd rfl q⟩⟩⟩⟩)
  · rw [lt] at y x
    rw [pos ⟨fun q => absurd q y, fun q => absurd q x⟩]
  · rw [lt] at y x
    rw [neg (fun q => x (fun r => y (q.mpr r))) z]
  · rw [lt] at y x
    rw [neg (fun q => y (fun r => x (q.mp r))) z]
  · rw [lt, Decidable.not_not] at y x
    rw [pos ⟨fun _ => x, fun _ => y⟩]
theorem c156 {a b : Int64} (hb : ¬ b = 0) : am_Rn ext (d + 2) 156 [.long a, .long b] (I, L, D, am_rf X) (some (.long (sp_ce a b)), (I, L, D, am_rf X)) := by
  refine am_rn_of mh_156 rfl (w156_0 I L D X a b ⟨_, I, L, D, c155 (ext := ext) (d := d) D X hb, ?_⟩)
  unfold sp_ce
  rw [if_neg hb]
theorem c159 (n : Int64) : am_Rn ext (d + 1) 159 [.long n] (I, L, D, am_rf X) (some (.long (sp_rd n)), (I, L, D, am_rf X)) := by
  have key : ∀ (j : Nat) (r : Int64), j ≤ 27 → am_wp ext d mz_159 (7, [some (.long n), none, some (.long r), none, some (.long (if j = 0 then 0 else 1 <<< sp_sh (j - 1))), none], [], (I, L, D, am_rf X)) (fun q => q = (some (.long (sp_rt n j r)), (I, L, D, am_rf X))) := by
    have nx : ∀ j : Fin 27, (((1 : Int64) <<< sp_sh j.val) >>> ((Int32.toInt64 1) &&& 63)) = (if j.val = 0 then (0 : Int64) else (1 : Int64) <<< sp_sh (j.val - 1)) := by decide
    have ps : ∀ j : Fin 27, ¬ ((1 : Int64) <<< sp_sh j.val) ≤ 0 := by decide
    intro j
    induction j with
    | zero =>
      intro r _
      exact w159_7 I L D X n r _ ⟨fun _ => rfl, fun z => absurd (by decide) z⟩
    | succ j ih =>
      intro r hj
      have n1 : (((1 : Int64) <<< sp_sh j) >>> ((Int32.toInt64 1) &&& 63)) = (if j = 0 then (0 : Int64) else (1 : Int64) <<< sp_sh (j - 1)) := nx ⟨j, by omega⟩
      refine w159_7 I L D X n r _ ⟨fun z => absurd z (ps ⟨j, by omega⟩), fun _ => ⟨fun z => ?_, fun z => ?_⟩⟩
      · have z' : n < (r + (1 <<< sp_sh j)) * (r + (1 <<< sp_sh j)) := z
        simp only [sp_rt]
        rw [if_pos z', if_neg (by omega), show j + 1 - 1 = j from rfl, n1]
        exact ih r (by omega)
      · have z' : ¬ n < (r + (1 <<< sp_sh j)) * (r + (1 <<< sp_sh j)) := z
        simp only [sp_rt]
        rw [if_neg z', if_neg (by omega), show j + 1 - 1 = j from rfl, n1]
        exact ih (r + (1 <<< sp_sh j)) (by omega)
  exact am_rn_of mh_159 rfl (w159_0 I L D X n (key 27 0 (by omega)))
/-- what has come stands by -/
def me_K (f : Nat) (I : Nat → Nat → Int32) (L : Nat → Nat → Int64) (I' : Nat → Nat → Int32) (L' : Nat → Nat → Int64) : Prop := I' 65 f = I 42 50 ∧ L' 63 f = L 42 51 ∧ L' 64 f = L 42 52 ∧ (∀ p q, ¬ (p = 65 ∧ q = f) → I' p q = I p q) ∧ (∀ p q, ¬ ((p = 63 ∨ p = 64) ∧ q = f) → L' p q = L p q)
theorem c160 {f : Nat} (hf : f < 128) (h50 : I 42 50 = 0 ∨ I 42 50 = 1) : ∃ I' L', am_Rn ext (d + 1) 160 [.ref 42, .int (nI f)] (I, L, D, am_rf X) (none, (I', L', D, am_rf X)) ∧ me_K f I L I' L' := by
  have hb : am_inb (nI f) 128 = true := ni_inb hf (by omega)
  have r := am_rn_of (ext := ext) (d := d) (as := [.ref 42, .int (nI f)]) mh_160 rfl (w160_0 I L D X (nI f) ⟨hb, h50, hb, hb, rfl⟩)
  rw [ni_nat (by omega)] at r
  refine ⟨_, _, r, ?_, ?_, ?_, fun p q h => ?_, fun p q h => ?_⟩
  · rw [am_uI_at, if_pos ⟨rfl, rfl⟩]
  · rw [am_uL_at, if_neg (by omega), am_uL_at, if_pos ⟨rfl, rfl⟩]
  · rw [am_uL_at, if_pos ⟨rfl, rfl⟩]
  · rw [am_uI_at, if_neg (by omega)]
  · rw [am_uL_at, if_neg (by omega), am_uL_at, if_neg (by omega)]
end MSPAN
