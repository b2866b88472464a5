/-! ===== the reference's fractions: the trail of a tree's knots ===== -/
def tr_kd : tr_T → List tr_T
  | .branch 1 (.leaf _) A => [A]
  | .branch 2 (.leaf _) (.branch 0 A B) => [A, B]
  | .branch 4 (.leaf _) (.branch 0 (.branch 0 A B) (.branch 0 V W)) => [A, B, V, W]
  | _ => []
def tr_in (S : tr_T) : tr_T → Prop
  | .leaf p => S = .leaf p
  | .branch 1 (.leaf p) A => S = tr_1 p A ∨ tr_in S A
  | .branch 2 (.leaf p) (.branch 0 A B) => S = tr_2 p A B ∨ tr_in S A ∨ tr_in S B
  | .branch 4 (.leaf p) (.branch 0 (.branch 0 A B) (.branch 0 V W)) => S = tr_4 p A B V W ∨ tr_in S A ∨ tr_in S B ∨ tr_in S V ∨ tr_in S W
  | _ => False
theorem tr_in_rg {e : pt_E} : ∀ (T : tr_T) (s : Nat), tr_ok e T s → ∀ S, tr_in S T → ∃ s', tr_ok e S s' ∧ s ≤ s' ∧ s' + tr_sz S ≤ s + tr_sz T ∧ s ≤ tr_rt S ∧ tr_rt S < s + tr_sz T := by
  refine tr_ind ?_ ?_ ?_ ?_ ?_
  · intro p s h1 h2 S h
    have e : S = .leaf p := h
    subst e
    exact ⟨s, ⟨h1, h2⟩, by simp [tr_rt, tr_sz]; omega⟩
  · intro p A s h1 h2 h3 ih S h
    have ok : tr_ok e (tr_1 p A) s := ⟨h1, h2, h3⟩
    have sz : tr_sz (tr_1 p A) = tr_sz A + 1 := by simp [tr_sz]; omega
    have rt := tr_rt_rg _ _ ok
    rcases h with rfl | h
    · exact ⟨s, ok, by omega⟩
    · obtain ⟨s', g1, g2, g3, g4, g5⟩ := ih S h
      exact ⟨s', g1, by omega⟩
  · intro p A B s k1 k2 h1 hA hB iha ihb S h
    have ok : tr_ok e (tr_2 p A B) s := Or.inl ⟨k1, k2, hA, h1, hB⟩
    have sz : tr_sz (tr_2 p A B) = tr_sz A + tr_sz B + 1 := by simp [tr_sz]; omega
    have rt := tr_rt_rg _ _ ok
    rcases h with rfl | h | h
    · exact ⟨s, ok, by omega⟩
    · obtain ⟨s', g1, g2, g3, g4, g5⟩ := iha S h
      exact ⟨s', g1, by omega⟩
    · obtain ⟨s', g1, g2, g3, g4, g5⟩ := ihb S h
      exact ⟨s', g1, by omega⟩
  · intro p A B s k1 h1 hA hB iha ihb S h
    have ok : tr_ok e (tr_2 p A B) s := Or.inr ⟨k1, h1, hA, hB⟩
    have sz : tr_sz (tr_2 p A B) = tr_sz A + tr_sz B + 1 := by simp [tr_sz]; omega
    have rt := tr_rt_rg _ _ ok
    rcases h with rfl | h | h
    · exact ⟨s, ok, by omega⟩
    · obtain ⟨s', g1, g2, g3, g4, g5⟩ := iha S h
      exact ⟨s', g1, by omega⟩
    · obtain ⟨s', g1, g2, g3, g4, g5⟩ := ihb S h
      exact ⟨s', g1, by omega⟩
  · intro p A B V W s k1 h1 hA hB hV hW iha ihb ihv ihw S h
    have ok : tr_ok e (tr_4 p A B V W) s := ⟨k1, h1, hA, hB, hV, hW⟩
    have sz : tr_sz (tr_4 p A B V W) = tr_sz A + tr_sz B + tr_sz V + tr_sz W + 1 := by simp [tr_sz]; omega
    have rt := tr_rt_rg _ _ ok
    rcases h with rfl | h | h | h | h
    · exact ⟨s, ok, by omega⟩
    · obtain ⟨s', g1, g2, g3, g4, g5⟩ := iha S h
      exact ⟨s', g1, by omega⟩
    · obtain ⟨s', g1, g2, g3, g4, g5⟩ := ihb S h
      exact ⟨s', g1, by omega⟩
    · obtain ⟨s', g1, g2, g3, g4, g5⟩ := ihv S h
      exact ⟨s', g1, by omega⟩
    · obtain ⟨s', g1, g2, g3, g4, g5⟩ := ihw S h
      exact ⟨s', g1, by omega⟩
theorem tr_inj {e : pt_E} : ∀ (T : tr_T) (s : Nat), tr_ok e T s → ∀ S S', tr_in S T → tr_in S' T → tr_rt S = tr_rt S' → S = S' := by
  refine tr_ind ?_ ?_ ?_ ?_ ?_
  · intro p s h1 h2 S S' h h' _
    have e1 : S = .leaf p := h
    have e2 : S' = .leaf p := h'
    rw [e1, e2]
  · intro p A s h1 h2 h3 ih S S' h h' er
    have rA := fun S h => (tr_in_rg A _ h3 S h)
    have rp : tr_rt (tr_1 p A) = s := h1
    rcases h with rfl | h <;> rcases h' with rfl | h'
    · rfl
    · obtain ⟨_, _, _, _, _, _⟩ := rA _ h'; omega
    · obtain ⟨_, _, _, _, _, _⟩ := rA _ h; omega
    · exact ih S S' h h' er
  · intro p A B s k1 k2 h1 hA hB iha ihb S S' h h' er
    have rA := fun S h => (tr_in_rg A _ hA S h)
    have rB := fun S h => (tr_in_rg B _ hB S h)
    have rp : tr_rt (tr_2 p A B) = s + tr_sz A := h1
    rcases h with rfl | h | h <;> rcases h' with rfl | h' | h'
    · rfl
    · obtain ⟨_, _, _, _, _, _⟩ := rA _ h'; omega
    · obtain ⟨_, _, _, _, _, _⟩ := rB _ h'; omega
    · obtain ⟨_, _, _, _, _, _⟩ := rA _ h; omega
    · exact iha S S' h h' er
    · obtain ⟨_, _, _, _, _, _⟩ := rA _ h; obtain ⟨_, _, _, _, _, _⟩ := rB _ h'; omega
    · obtain ⟨_, _, _, _, _, _⟩ := rB _ h; omega
    · obtain ⟨_, _, _, _, _, _⟩ := rB _ h; obtain ⟨_, _, _, _, _, _⟩ := rA _ h'; omega
    · exact ihb S S' h h' er
  · intro p A B s k1 h1 hA hB iha ihb S S' h h' er
    have rA := fun S h => (tr_in_rg A _ hA S h)
    have rB := fun S h => (tr_in_rg B _ hB S h)
    have rp : tr_rt (tr_2 p A B) = s := h1
    rcases h with rfl | h | h <;> rcases h' with rfl | h' | h'
    · rfl
    · obtain ⟨_, _, _, _, _, _⟩ := rA _ h'; omega
    · obtain ⟨_, _, _, _, _, _⟩ := rB _ h'; omega
    · obtain ⟨_, _, _, _, _, _⟩ := rA _ h; omega
    · exact iha S S' h h' er
    · obtain ⟨_, _, _, _, _, _⟩ := rA _ h; obtain ⟨_, _, _, _, _, _⟩ := rB _ h'; omega
    · obtain ⟨_, _, _, _, _, _⟩ := rB _ h; omega
    · obtain ⟨_, _, _, _, _, _⟩ := rB _ h; obtain ⟨_, _, _, _, _, _⟩ := rA _ h'; omega
    · exact ihb S S' h h' er
  · intro p A B V W s k1 h1 hA hB hV hW iha ihb ihv ihw S S' h h' er
    have rp : tr_rt (tr_4 p A B V W) = s := h1
    have rr : ∀ S, (tr_in S A ∨ tr_in S B ∨ tr_in S V ∨ tr_in S W) → s < tr_rt S := fun S h => by
      rcases h with h | h | h | h
      · obtain ⟨_, _, _, _, _, _⟩ := tr_in_rg A _ hA S h; omega
      · obtain ⟨_, _, _, _, _, _⟩ := tr_in_rg B _ hB S h; omega
      · obtain ⟨_, _, _, _, _, _⟩ := tr_in_rg V _ hV S h; omega
      · obtain ⟨_, _, _, _, _, _⟩ := tr_in_rg W _ hW S h; omega
    rcases h with rfl | h
    · rcases h' with rfl | h'
      · rfl
      · have := rr _ h'; omega
    · rcases h' with rfl | h'
      · have := rr _ h; omega
      · rcases h with h | h | h | h <;> rcases h' with h' | h' | h' | h'
        · exact iha S S' h h' er
        · obtain ⟨_, _, _, _, _, _⟩ := tr_in_rg A _ hA S h; obtain ⟨_, _, _, _, _, _⟩ := tr_in_rg B _ hB S' h'; omega
        · obtain ⟨_, _, _, _, _, _⟩ := tr_in_rg A _ hA S h; obtain ⟨_, _, _, _, _, _⟩ := tr_in_rg V _ hV S' h'; omega
        · obtain ⟨_, _, _, _, _, _⟩ := tr_in_rg A _ hA S h; obtain ⟨_, _, _, _, _, _⟩ := tr_in_rg W _ hW S' h'; omega
        · obtain ⟨_, _, _, _, _, _⟩ := tr_in_rg B _ hB S h; obtain ⟨_, _, _, _, _, _⟩ := tr_in_rg A _ hA S' h'; omega
        · exact ihb S S' h h' er
        · obtain ⟨_, _, _, _, _, _⟩ := tr_in_rg B _ hB S h; obtain ⟨_, _, _, _, _, _⟩ := tr_in_rg V _ hV S' h'; omega
        · obtain ⟨_, _, _, _, _, _⟩ := tr_in_rg B _ hB S h; obtain ⟨_, _, _, _, _, _⟩ := tr_in_rg W _ hW S' h'; omega
        · obtain ⟨_, _, _, _, _, _⟩ := tr_in_rg V _ hV S h; obtain ⟨_, _, _, _, _, _⟩ := tr_in_rg A _ hA S' h'; omega
        · obtain ⟨_, _, _, _, _, _⟩ := tr_in_rg V _ hV S h; obtain ⟨_, _, _, _, _, _⟩ := tr_in_rg B _ hB S' h'; omega
        · exact ihv S S' h h' er
        · obtain ⟨_, _, _, _, _, _⟩ := tr_in_rg V _ hV S h; obtain ⟨_, _, _, _, _, _⟩ := tr_in_rg W _ hW S' h'; omega
        · obtain ⟨_, _, _, _, _, _⟩ := tr_in_rg W _ hW S h; obtain ⟨_, _, _, _, _, _⟩ := tr_in_rg A _ hA S' h'; omega
        · obtain ⟨_, _, _, _, _, _⟩ := tr_in_rg W _ hW S h; obtain ⟨_, _, _, _, _, _⟩ := tr_in_rg B _ hB S' h'; omega
        · obtain ⟨_, _, _, _, _, _⟩ := tr_in_rg W _ hW S h; obtain ⟨_, _, _, _, _, _⟩ := tr_in_rg V _ hV S' h'; omega
        · exact ihw S S' h h' er
theorem tr_in_self {e : pt_E} : ∀ (T : tr_T) (s : Nat), tr_ok e T s → tr_in T T := by
  refine tr_ind ?_ ?_ ?_ ?_ ?_
  · intros; exact rfl
  · intros; exact Or.inl rfl
  · intros; exact Or.inl rfl
  · intros; exact Or.inl rfl
  · intros; exact Or.inl rfl
/-- parts of parts are parts -/
theorem tr_in_kd {e : pt_E} : ∀ (T : tr_T) (s : Nat), tr_ok e T s → ∀ S, tr_in S T → ∀ A, A ∈ tr_kd S → tr_in A T := by
  refine tr_ind ?_ ?_ ?_ ?_ ?_
  · intro p s h1 h2 S h A hA
    have e1 : S = .leaf p := h
    subst e1
    exact absurd hA (by simp [tr_kd])
  · intro p A s h1 h2 h3 ih S h C hC
    rcases h with rfl | h
    · have : C = A := by simpa [tr_kd] using hC
      subst this
      exact Or.inr (tr_in_self _ _ h3)
    · exact Or.inr (ih S h C hC)
  · intro p A B s k1 k2 h1 hA hB iha ihb S h C hC
    rcases h with rfl | h | h
    · have : C = A ∨ C = B := by simpa [tr_kd] using hC
      rcases this with rfl | rfl
      · exact Or.inr (Or.inl (tr_in_self _ _ hA))
      · exact Or.inr (Or.inr (tr_in_self _ _ hB))
    · exact Or.inr (Or.inl (iha S h C hC))
    · exact Or.inr (Or.inr (ihb S h C hC))
  · intro p A B s k1 h1 hA hB iha ihb S h C hC
    rcases h with rfl | h | h
    · have : C = A ∨ C = B := by simpa [tr_kd] using hC
      rcases this with rfl | rfl
      · exact Or.inr (Or.inl (tr_in_self _ _ hA))
      · exact Or.inr (Or.inr (tr_in_self _ _ hB))
    · exact Or.inr (Or.inl (iha S h C hC))
    · exact Or.inr (Or.inr (ihb S h C hC))
  · intro p A B V W s k1 h1 hA hB hV hW iha ihb ihv ihw S h C hC
    rcases h with rfl | h | h | h | h
    · have : C = A ∨ C = B ∨ C = V ∨ C = W := by simpa [tr_kd] using hC
      rcases this with rfl | rfl | rfl | rfl
      · exact Or.inr (Or.inl (tr_in_self _ _ hA))
      · exact Or.inr (Or.inr (Or.inl (tr_in_self _ _ hB)))
      · exact Or.inr (Or.inr (Or.inr (Or.inl (tr_in_self _ _ hV))))
      · exact Or.inr (Or.inr (Or.inr (Or.inr (tr_in_self _ _ hW))))
    · exact Or.inr (Or.inl (iha S h C hC))
    · exact Or.inr (Or.inr (Or.inl (ihb S h C hC)))
    · exact Or.inr (Or.inr (Or.inr (Or.inl (ihv S h C hC))))
    · exact Or.inr (Or.inr (Or.inr (Or.inr (ihw S h C hC))))
/-- the rows hold every part -/
theorem tr_in_rp {e : pt_E} {I : Nat → Nat → Int32} : ∀ (T : tr_T) (s : Nat), tr_ok e T s → rf_rp 0 false I T → ∀ S, tr_in S T → rf_rp 0 false I S := by
  refine tr_ind ?_ ?_ ?_ ?_ ?_
  · intro p s h1 h2 g S h
    have e1 : S = .leaf p := h
    subst e1
    exact g
  · intro p A s h1 h2 h3 ih g S h
    rcases h with rfl | h
    · exact g
    · exact ih g.2.2.2 S h
  · intro p A B s k1 k2 h1 hA hB iha ihb g S h
    rcases h with rfl | h | h
    · exact g
    · exact iha g.2.2.2.1 S h
    · exact ihb g.2.2.2.2 S h
  · intro p A B s k1 h1 hA hB iha ihb g S h
    rcases h with rfl | h | h
    · exact g
    · exact iha g.2.2.2.1 S h
    · exact ihb g.2.2.2.2 S h
  · intro p A B V W s k1 h1 hA hB hV hW iha ihb ihv ihw g S h
    rcases h with rfl | h | h | h | h
    · exact g
    · exact iha g.2.2.2.2.2.1 S h
    · exact ihb g.2.2.2.2.2.2.1 S h
    · exact ihv g.2.2.2.2.2.2.2.1 S h
    · exact ihw g.2.2.2.2.2.2.2.2 S h
