/-! ===== what the start gives ===== -/
def en_F : List Cond := flatC (Jvm.Cond.and given_1 narrow_1)
abbrev en_t (i : Nat) : Term := .string "SureSums$Tokens" (wd_ix i)
theorem en_ex : ∀ i, i < 11 → Cond.exactly (en_t i) "java/lang/String" ∈ en_F := by decide +kernel
theorem en_co : ∀ i, i < 11 → Cond.eq (.field (en_t i) "java/lang/String" "coder" "B") (.int 0) ∈ en_F := by decide +kernel
theorem en_ar : ∀ i, i < 11 → Cond.arrayOf (.field (en_t i) "java/lang/String" "value" "[B") .byte ∈ en_F := by decide +kernel
theorem en_le : ∀ i, i < 11 → Cond.eq (.length (.field (en_t i) "java/lang/String" "value" "[B")) (.int (Int32.ofNat (wd_at i).length)) ∈ en_F := by decide +kernel
theorem en_el : ∀ i, i < 11 → ∀ j, j < (wd_at i).length → Cond.eq (.elem (.field (en_t i) "java/lang/String" "value" "[B") (.int (Int32.ofNat j))) (.int ((wd_at i).getD j 0)) ∈ en_F := by decide +kernel
theorem en_rf : ∀ i, i < 11 → Cond.stringRef "SureSums$Tokens" (wd_ix i) (wd_tx i) ∈ tables_1 := by decide +kernel
theorem en_ll : ∀ i, i < 11 → (wd_at i).length < 2 ^ 31 := by decide +kernel
theorem en_str {args : Array Value} {s : State} (hF : ∀ w ∈ en_F, w.before args s = true) {z : Nat} (hA : ∀ a : Nat, a < s.heap.size → ¬ (fun q : Nat => z ≤ q) a) (i : Nat) (hi : i < 11) :
    ∃ q : Nat × Nat, va_O "java/lang/String" q.1 (fun q => z ≤ q) s s.heap ∧ va_OF "java/lang/String" "coder" "B" (.int 0) q.1 (fun q => z ≤ q) s s.heap ∧ va_OF "java/lang/String" "value" "[B" (.ref q.2) q.1 (fun q => z ≤ q) s s.heap ∧ va_T .byte q.2 (wd_at i).length (fun j => .int ((wd_at i).getD j 0)) (fun q => z ≤ q) s s.heap ∧ (en_t i).eval args s none [] s = some (.ref q.1) := by
  obtain ⟨aK, aV, hS, hT⟩ := vk_Sof (args := args) (s := s) (N := 1) (tm := fun _ => en_t i) (len := [(wd_at i).length]) (byt := [wd_at i]) (A := fun q => z ≤ q)
    (fun k hk => by
      have : k = 0 := by omega
      subst this
      exact en_ll i hi) (fun _ _ => hF _ (en_ex i hi)) (fun _ _ => hF _ (en_co i hi)) (fun _ _ => hF _ (en_ar i hi))
    (fun k hk => by
      have : k = 0 := by omega
      subst this
      exact hF _ (en_le i hi))
    (fun k hk j hj => by
      have : k = 0 := by omega
      subst this
      exact hF _ (en_el i hi j hj))
    (fun a b h1 h2 h3 => absurd (show a = b by omega) h3) hA
  obtain ⟨h1, h2, h3, h4⟩ := hS.1 0 (by decide)
  exact ⟨(aK 0, aV 0), h1, h2, h3, h4, hT 0 (by decide)⟩
theorem en_ref {args : Array Value} {s : State} {t : Term} {cls : String} (h : (Cond.exactly t cls).before args s = true) : ∃ a, t.eval args s none [] s = some (.ref a) := by
  obtain ⟨a, c, cA, kA, q1, -⟩ := Cond.exactly_spec (args := args) (first := s) (o := none) (s := s) (idx := []) (t := t) (cls := cls) h
  exact ⟨a, q1⟩
theorem xf_in {p : Program} {s : State} {m : MethodId} {meth : Method} {c : Code} {b L : Nat} {xs : Nat → Int32} (hAt : lw_At p s m meth c b L xs) : ∃ aS adV : Nat → Nat, xf s.heap.size aS adV s := by
  obtain ⟨hx, hb, hr, hml, hown, hts, hX, hbl, hlocks, hgv⟩ := hAt
  have hF : ∀ w ∈ en_F, w.before #[Value.ref b] s = true := flat_of_before _ hgv
  have hT : ∀ w ∈ tables_1, w.before #[Value.ref b] s = true := fun w h => hts w (List.mem_append_right _ h)
  have hA : ∀ a : Nat, a < s.heap.size → ¬ (fun q : Nat => s.heap.size ≤ q) a := fun a h1 h2 => absurd h1 (Nat.not_lt.mpr h2)
  have h0 : ∀ i : Nat, ∃ q : Nat × Nat, i < 11 → va_O "java/lang/String" q.1 (fun q => s.heap.size ≤ q) s s.heap ∧ va_OF "java/lang/String" "coder" "B" (.int 0) q.1 (fun q => s.heap.size ≤ q) s s.heap ∧ va_OF "java/lang/String" "value" "[B" (.ref q.2) q.1 (fun q => s.heap.size ≤ q) s s.heap ∧ va_T .byte q.2 (wd_at i).length (fun j => .int ((wd_at i).getD j 0)) (fun q => s.heap.size ≤ q) s s.heap ∧ (en_t i).eval #[Value.ref b] s none [] s = some (.ref q.1) := by
    intro i
    by_cases hi : i < 11
    · obtain ⟨q, h⟩ := en_str hF hA i hi
      exact ⟨q, fun _ => h⟩
    · exact ⟨(0, 0), fun h => absurd h hi⟩
  obtain ⟨ad, had⟩ := Classical.axiomOfChoice h0
  have c1 : va_Z "java/lang/String" "COMPACT_STRINGS" "Z" (.int 1) (fun q => s.heap.size ≤ q) s s.heap := va_Zof (hT _ (by decide +kernel)) (hT _ (by decide +kernel)) (va_eqt (hF (Cond.eq (.static "java/lang/String" "COMPACT_STRINGS" "Z") (.int 1)) (by decide +kernel))) hA
  have c2 : va_Zq "jdk/internal/util/Preconditions" "SIOOBE_FORMATTER" "Ljava/util/function/BiFunction;" (fun q => s.heap.size ≤ q) s s.heap := va_Zqof (hT _ (by decide +kernel)) (hT _ (by decide +kernel)) (hF _ (by decide +kernel)) hA
  obtain ⟨a1, e1⟩ := en_ref (hF (Cond.exactly (.string "SureSums" 169) "java/lang/String") (by decide +kernel))
  obtain ⟨a2, e2⟩ := en_ref (hF (Cond.exactly (.string "SureSums" 176) "java/lang/String") (by decide +kernel))
  refine ⟨fun i => (ad i).1, fun i => (ad i).2, Nat.le_refl _, fun i hi => ?_, ⟨a1, vk_R.of (hT _ (by decide +kernel)) e1⟩, ⟨a2, vk_R.of (hT _ (by decide +kernel)) e2⟩, vx_Zqof (hT _ (by decide +kernel)) (hT _ (by decide +kernel)) (hF _ (by decide +kernel)) hA, vx_Zqof (hT _ (by decide +kernel)) (hT _ (by decide +kernel)) (hF _ (by decide +kernel)) hA⟩
  obtain ⟨g1, g2, g3, g4, g5⟩ := had i hi
  exact ⟨⟨g1, g2, g3, g4, c1, c2⟩, vk_R.of (hT _ (en_rf i hi)) g5⟩
