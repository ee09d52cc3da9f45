theorem p_has {N : Nat} {P : PlanV} {A : APl} (hP : repP P A) (hA : WFP A) (x : Int32) : (∃ p, p < A.2.2.2.1 ∧ x = nI p ∧ MX3_has N P x = some 1) ∨ ((x < 0 ∨ nI A.2.2.2.1 ≤ x) ∧ MX3_has N P x = some 0) := by
  have h9 := hA.1
  unfold MX3_has MX3_has_j16
  rw [hP.2.1]
  by_cases h0 : x < 0
  · exact Or.inr ⟨Or.inl h0, by rw [if_pos h0]⟩
  · by_cases h1 : nI A.2.2.2.1 ≤ x
    · exact Or.inr ⟨Or.inr h1, by rw [if_neg h0, if_pos h1]⟩
    · left
      have hx : x ≤ nI A.2.2.2.1 := by
        rcases Int32.le_total x (nI A.2.2.2.1) with q | q
        · exact q
        · exact absurd q h1
      obtain ⟨j, hj, e⟩ := nI_of2 (M := nI A.2.2.2.1) (nI_toInt (by omega)) h0 hx
      subst e
      refine ⟨j, ?_, rfl, by rw [if_neg h0, if_neg h1]⟩
      rcases Nat.lt_or_ge j A.2.2.2.1 with q | q
      · exact q
      · exact absurd (nI_le q (by omega)) h1
