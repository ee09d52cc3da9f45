theorem p_isPerson {N : Nat} {P : PlanV} {A : APl} (hP : repP P A) (hA : WFP A) (x : Int32) : MX8_isPerson N (nI A.2.2.2.1) x = MX3_has N P x := by
  have h9 := hA.1
  have h1 := hA.2.1
  have e : nI A.2.2.2.1 - (1 : Int32) = nI (A.2.2.2.1 - 1) := pk_sub (b := 1) h1
  have hq : (nI (A.2.2.2.1 - 1) < x) = (nI A.2.2.2.1 ≤ x) := by
    apply propext
    rw [Int32.lt_iff_toInt_lt, Int32.le_iff_toInt_le, nI_toInt (by omega), nI_toInt (by omega)]
    omega
  have hi : MX8_in N x.toInt64 (0 : Int64) (nI (A.2.2.2.1 - 1)).toInt64 = some (if x < 0 ∨ nI (A.2.2.2.1 - 1) < x then 0 else 1) := p_in x 0 (nI (A.2.2.2.1 - 1))
  unfold MX8_isPerson MX3_has MX3_has_j16 MB
  rw [e, hi, hP.2.1]
  by_cases h0 : x < 0
  · rw [if_pos (show x < 0 ∨ nI (A.2.2.2.1 - 1) < x from Or.inl h0), if_pos h0]
    rfl
  · by_cases h2 : nI A.2.2.2.1 ≤ x
    · rw [if_pos (show x < 0 ∨ nI (A.2.2.2.1 - 1) < x from Or.inr (hq ▸ h2)), if_neg h0, if_pos h2]
      rfl
    · rw [if_neg (show ¬ (x < 0 ∨ nI (A.2.2.2.1 - 1) < x) from fun h => h.elim h0 (fun q => h2 (hq ▸ q))), if_neg h0, if_neg h2]
      rfl
