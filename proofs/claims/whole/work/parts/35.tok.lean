/-! ===== tokens: the class ===== -/
def pu_dig (x : Int32) : Bool := decide (¬ x < 48 ∧ ¬ 57 < x)
def pu_sml (x : Int32) : Bool := decide (¬ x < 97 ∧ ¬ 122 < x)
def pu_sgn (x : Int32) : Bool := decide (x = 40 ∨ x = 41 ∨ x = 42 ∨ x = 43 ∨ x = 44 ∨ x = 45 ∨ x = 47 ∨ x = 59 ∨ x = 60 ∨ x = 61 ∨ x = 62)
/-- let fun sqrt abs max min if nought area most least -/
def pu_words : List (List Int32) := [[108, 101, 116], [102, 117, 110], [115, 113, 114, 116], [97, 98, 115], [109, 97, 120], [109, 105, 110], [105, 102], [110, 111, 117, 103, 104, 116], [97, 114, 101, 97], [109, 111, 115, 116], [108, 101, 97, 115, 116]]
def pu_isw (f : Nat → Int32) (s e : Nat) (w : List Int32) : Bool := decide (e = s + w.length) && (List.range w.length).all (fun i => decide (f (s + i) = w.getD i 0))
/-- the class's kind of the word from s to e: 4 and on, 1 for none -/
def pu_wk (f : Nat → Int32) (s e : Nat) : List (List Int32) → Nat → Nat
  | [], _ => 1
  | w :: ws, k => if pu_isw f s e w then k else pu_wk f s e ws (k + 1)
/-- what the small machine takes from outside: Tokens.wordKind -/
def am_ext (j : Nat) (as : List Value) (m : am_M) : Option am_R := match as with
  | [.ref 1, .int s, .int e] => bif j == 87 && am_inb s 501 && am_inb e 501 && decide (s.toNatClampNeg ≤ e.toNatClampNeg) then some (some (.int (nI (pu_wk (m.1 1) s.toNatClampNeg e.toNatClampNeg pu_words 4))), m) else none
  | _ => none
section TOK
variable {d : Nat} (L : Nat → Nat → Int64) (D : Nat → Nat → UInt64) (X : am_Rf)
theorem c87 (I : Nat → Nat → Int32) {s e : Nat} (hs : s ≤ e) (he : e ≤ 500) : am_Rn am_ext (d + 1) 87 [.ref 1, .int (nI s), .int (nI e)] (I, L, D, am_rf X) (some (.int (nI (pu_wk (I 1) s e pu_words 4))), (I, L, D, am_rf X)) := by
  refine ⟨0, fun n _ => ?_⟩
  have h1 : am_ex am_Ys am_ext am_SH n (d + 1) 87 [.ref 1, .int (nI s), .int (nI e)] (I, L, D, am_rf X) = am_ext 87 [.ref 1, .int (nI s), .int (nI e)] (I, L, D, am_rf X) := rfl
  rw [h1]
  unfold am_ext
  simp only [ni_inb (show s < 501 by omega) (by omega), ni_inb (show e < 501 by omega) (by omega), ni_nat (show s < 2 ^ 31 by omega), ni_nat (show e < 2 ^ 31 by omega), decide_eq_true hs]
  rfl
variable {ext : Nat → List Value → am_M → Option am_R}
theorem c88 (I : Nat → Nat → Int32) {p : Nat} (hp : p < 500) : am_Rn ext (d + 1) 88 [.ref 1, .int (nI p)] (I, L, D, am_rf X) (some (.int (I 1 p)), (I, L, D, am_rf X)) := by
  refine am_rn_of mh_88 rfl (w88_0 I L D X (nI p) ⟨fun h => absurd h (ni_nn (by omega)), fun _ => ⟨fun h => ?_, fun _ => ⟨ni_inb hp (by omega), ?_⟩⟩⟩)
  · rw [show (500 : Int32) = nI 500 from rfl, ni_le (by omega) (by omega)] at h
    omega
  · rw [ni_nat (by omega)]
theorem c89 (I : Nat → Nat → Int32) (x : Int32) : am_Rn ext (d + 1) 89 [.int x] (I, L, D, am_rf X) (some (.int (if pu_dig x then 1 else 0)), (I, L, D, am_rf X)) := by
  refine am_rn_of mh_89 rfl (w89_0 I L D X x ⟨fun h => ?_, fun h => ⟨fun h2 => ?_, fun h2 => ?_⟩⟩)
  · simp [pu_dig, h]
  · simp [pu_dig, h2]
  · simp [pu_dig, h, h2]
theorem c90 (I : Nat → Nat → Int32) (x : Int32) : am_Rn ext (d + 1) 90 [.int x] (I, L, D, am_rf X) (some (.int (if pu_sml x then 1 else 0)), (I, L, D, am_rf X)) := by
  refine am_rn_of mh_90 rfl (w90_0 I L D X x ⟨fun h => ?_, fun h => ⟨fun h2 => ?_, fun h2 => ?_⟩⟩)
  · simp [pu_sml, h]
  · simp [pu_sml, h2]
  · simp [pu_sml, h, h2]
theorem c91 (I : Nat → Nat → Int32) (x : Int32) : am_Rn ext (d + 1) 91 [.int x] (I, L, D, am_rf X) (some (.int (if pu_sgn x then 1 else 0)), (I, L, D, am_rf X)) := by
  refine am_rn_of mh_91 rfl (w91_0 I L D X x ⟨fun h => ?_, fun h => ?_⟩)
  · simp [pu_sgn, h]
  · simp [pu_sgn, h]
theorem c202 (I : Nat → Nat → Int32) (x z : Int32) : am_Rn ext (d + 1) 202 [.int x, .int z] (I, L, D, am_rf X) (some (.int (if x ≤ z then x else z)), (I, L, D, am_rf X)) := by
  refine am_rn_of mh_202 rfl (w202_0 I L D X x z ⟨fun h => ?_, fun h => ?_⟩)
  · rw [if_neg (fun q => by rw [Int32.le_iff_toInt_le] at q; rw [Int32.lt_iff_toInt_lt] at h; omega)]
  · rw [if_pos (by rw [Int32.lt_iff_toInt_lt] at h; rw [Int32.le_iff_toInt_le]; omega)]
/-- one token more -/
def pu_add (I : Nat → Nat → Int32) (k : Nat) (kd pl vl : Int32) : Nat → Nat → Int32 := am_uI (am_uI (am_uI (am_uI I 22 k kd) 23 k pl) 24 k vl) 21 3 (nI (k + 1))
theorem c84 (I : Nat → Nat → Int32) (kd pl vl : Int32) {k : Nat} (hk : I 21 3 = nI k) (h5 : k ≤ 500) : am_Rn ext (d + 1) 84 [.ref 21, .int kd, .int pl, .int vl] (I, L, D, am_rf X) (none, (pu_add I k kd pl vl, L, D, am_rf X)) := by
  have hb : am_inb (I 21 3) 501 = true := by rw [hk]; exact ni_inb (by omega) (by omega)
  refine am_rn_of mh_84 rfl (w84_0 I L D X kd pl vl ⟨fun h => ?_, fun _ => ⟨hb, hb, hb, ?_⟩⟩)
  · rw [hk, show (500 : Int32) = nI 500 from rfl, ni_lt (by omega) (by omega)] at h
    omega
  · rw [hk, ni_nat (by omega), show (1 : Int32) = nI 1 from rfl, ni_add (by omega)]
    rfl
/-- a number: where it ends, its value cut at 1000 -/
def pu_num (f : Nat → Int32) (n : Nat) : Nat → Nat → Nat → Nat × Nat
  | 0, p, v => (p, v)
  | k + 1, p, v => if p < n ∧ pu_dig (f p) = true then pu_num f n k (p + 1) (min (v * 10 + ((f p).toNatClampNeg - 48)) 1000) else (p, v)
theorem pu_dig_nat {x : Int32} (h : pu_dig x = true) : ∃ c : Nat, 48 ≤ c ∧ c ≤ 57 ∧ x = nI c := by
  have h1 := of_decide_eq_true h
  rw [Int32.lt_iff_toInt_lt, Int32.lt_iff_toInt_lt] at h1
  have e1 : (48 : Int32).toInt = 48 := rfl
  have e2 : (57 : Int32).toInt = 57 := rfl
  rw [e1, e2] at h1
  refine ⟨x.toInt.toNat, by omega, by omega, ?_⟩
  rw [← Int32.toInt_inj, nI_toInt (by omega)]
  omega
theorem c85 (I : Nat → Nat → Int32) {k n p : Nat} (hk : I 21 3 = nI k) (h5 : k ≤ 500) (hn : n ≤ 500) (hp : p ≤ n) :
    am_Rn ext (d + 2) 85 [.ref 21, .ref 1, .int (nI p), .int (nI n)] (I, L, D, am_rf X) (some (.int (nI (pu_num (I 1) n (n - p) p 0).1)), (pu_add I k 2 (nI p) (nI (pu_num (I 1) n (n - p) p 0).2), L, D, am_rf X)) := by
  have key : ∀ (g q v : Nat), q + g = n → v ≤ 1000 → am_wp ext (d + 1) mz_85 (6, [some (.ref 21), some (.ref 1), some (.int (nI p)), some (.int (nI n)), some (.int (nI v)), some (.int (nI q))], [], (I, L, D, am_rf X)) (fun r => r = (some (.int (nI (pu_num (I 1) n g q v).1)), (pu_add I k 2 (nI p) (nI (pu_num (I 1) n g q v).2), L, D, am_rf X))) := by
    intro g
    induction g with
    | zero =>
      intro q v hq hv
      refine w85_6 I L D X (nI p) (nI n) (nI v) (nI q) ⟨fun _ => ⟨_, L, D, c84 L D X I 2 (nI p) (nI v) hk h5, ?_⟩, fun h => absurd ((ni_le (by omega) (by omega)).mpr (by omega)) h⟩
      simp only [pu_num]
    | succ g ih =>
      intro q v hq hv
      refine w85_6 I L D X (nI p) (nI n) (nI v) (nI q) ⟨fun h => absurd ((ni_le (by omega) (by omega)).mp h) (by omega), fun _ => ⟨I 1 q, I, L, D, c88 L D X I (by omega), _, I, L, D, c89 L D X I (I 1 q), fun h0 => ?_, fun h0 => ?_⟩⟩
      · have hd : pu_dig (I 1 q) = false := by
          cases hz : pu_dig (I 1 q) with
          | false => rfl
          | true => rw [hz] at h0; exact absurd h0 (by decide)
        refine ⟨_, L, D, c84 L D X I 2 (nI p) (nI v) hk h5, ?_⟩
        simp only [pu_num]
        rw [if_neg (by rw [hd]; simp)]
      · have hd : pu_dig (I 1 q) = true := by
          cases hz : pu_dig (I 1 q) with
          | true => rfl
          | false => rw [hz] at h0; exact absurd rfl h0
        obtain ⟨c, c1, c2, hc⟩ := pu_dig_nat hd
        have e1 : nI v * 10 + I 1 q - 48 = nI (v * 10 + (c - 48)) := by
          rw [hc, show (10 : Int32) = nI 10 from rfl, show (48 : Int32) = nI 48 from rfl]
          rw [← Int32.toInt_inj, Int32.toInt_sub, Int32.toInt_add, Int32.toInt_mul, nI_toInt (show v < 2 ^ 31 by omega), nI_toInt (show 10 < 2 ^ 31 by omega), nI_toInt (show c < 2 ^ 31 by omega), nI_toInt (show 48 < 2 ^ 31 by omega), nI_toInt (by omega), Int.bmod_eq_of_le (n := (v : Int) * (10 : Nat)) (by omega) (by omega), Int.bmod_eq_of_le (n := (v : Int) * (10 : Nat) + c) (by omega) (by omega), Int.bmod_eq_of_le (by omega) (by omega)]
          omega
        have e2 : (if nI v * 10 + I 1 q - 48 ≤ 1000 then nI v * 10 + I 1 q - 48 else 1000) = nI (min (v * 10 + (c - 48)) 1000) := by
          rw [e1, show (1000 : Int32) = nI 1000 from rfl]
          by_cases h9 : v * 10 + (c - 48) ≤ 1000
          · rw [if_pos ((ni_le (by omega) (by omega)).mpr h9), Nat.min_eq_left h9]
          · rw [if_neg (fun q => h9 ((ni_le (by omega) (by omega)).mp q)), Nat.min_eq_right (by omega)]
        refine ⟨I 1 q, I, L, D, c88 L D X I (by omega), _, I, L, D, c202 L D X I _ _, ?_⟩
        rw [e2, show (1 : Int32) = nI 1 from rfl, ni_add (by omega)]
        have e3 : pu_num (I 1) n (g + 1) q v = pu_num (I 1) n g (q + 1) (min (v * 10 + (c - 48)) 1000) := by
          simp only [pu_num]
          rw [if_pos ⟨by omega, hd⟩, hc, ni_nat (by omega)]
        rw [e3]
        exact ih (q + 1) _ (by omega) (Nat.min_le_right _ _)
  exact am_rn_of mh_85 rfl (w85_0 I L D X (nI p) (nI n) (key (n - p) p 0 (by omega) (by omega)))
end TOK
