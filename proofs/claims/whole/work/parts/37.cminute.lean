theorem nI_ne {a b : Nat} (ha : a < 2 ^ 31) (hb : b < 2 ^ 31) (h : a ≠ b) : ¬ nI a = nI b := fun e => h ((nI_eq ha hb).mp e)
theorem bI_t : bI true = 1 := rfl
theorem bI_f : bI false = 0 := rfl
theorem p_givesIn {N : Nat} {P : PlanV} {A : APl} {m : Nat} (hP : repP P A) (hA : WFP A) (hm : m < 2 ^ 31) : MX3_givesIn N P (nI m) = some (bI (decide (m % A.2.2.2.2.1 = 0))) := by
  have h1 := hA.2.2.2.1
  have h2 := hA.2.2.2.2.1
  have hlt : m % A.2.2.2.2.1 < A.2.2.2.2.1 := Nat.mod_lt _ (by omega)
  unfold MX3_givesIn MX3_givesIn_j20 MD
  rw [hP.2.2.1, pk_rem hm (by omega) (by omega), if_neg (show ¬ nI A.2.2.2.2.1 ≤ (0 : Int32) from nI_nle (by omega) (by omega)), if_neg (show ¬ nI A.2.2.2.2.1 = (0 : Int32) from nI_ne (b := 0) (by omega) (by omega) (by omega))]
  by_cases g : m % A.2.2.2.2.1 = 0
  · rw [g, if_pos (by decide)]; rfl
  · rw [if_neg (show ¬ nI (m % A.2.2.2.2.1) = (0 : Int32) from nI_ne (b := 0) (by omega) (by omega) (by omega)), decide_eq_false g]; rfl
def rumAt (A : APl) (m : Nat) : Bool := decide (A.2.2.2.2.2.2 ≠ 0 ∧ m % A.2.2.2.2.2.2 = 0)
theorem p_rumourIn {N : Nat} {P : PlanV} {A : APl} {m : Nat} (hP : repP P A) (hA : WFP A) (hm : m < 2 ^ 31) : MX3_rumourIn N P (nI m) = some (bI (rumAt A m)) := by
  have h2 := hA.2.2.2.2.2.2
  unfold MX3_rumourIn MX3_rumourIn_j20 MD rumAt
  rw [hP.2.2.2.2]
  by_cases h0 : A.2.2.2.2.2.2 = 0
  · rw [h0, if_pos (by decide)]; rfl
  · have hlt : m % A.2.2.2.2.2.2 < A.2.2.2.2.2.2 := Nat.mod_lt _ (by omega)
    rw [pk_rem hm (by omega) (by omega), if_neg (show ¬ nI A.2.2.2.2.2.2 ≤ (0 : Int32) from nI_nle (by omega) (by omega)), if_neg (show ¬ nI A.2.2.2.2.2.2 = (0 : Int32) from nI_ne (b := 0) (by omega) (by omega) (by omega))]
    by_cases g : m % A.2.2.2.2.2.2 = 0
    · rw [decide_eq_true (show A.2.2.2.2.2.2 ≠ 0 ∧ m % A.2.2.2.2.2.2 = 0 from ⟨h0, g⟩), g, if_pos (by decide)]; rfl
    · rw [if_neg (show ¬ nI (m % A.2.2.2.2.2.2) = (0 : Int32) from nI_ne (b := 0) (by omega) (by omega) (by omega)), decide_eq_false (fun h => g h.2)]; rfl
theorem p_standOn {N : Nat} (hN : 100 ≤ N) {H : Nat} {L : LineV} {a : ASt} {n c : Nat} (hL : repL H L a) (hw : WF n c a) (hc : c ≤ 1000000) :
    ∃ g, MX1_standOn N L = some g ∧ repL H (L.1, L.2.1, g, L.2.2.2.1, L.2.2.2.2.1, L.2.2.2.2.2.1, L.2.2.2.2.2.2.1 + 1, L.2.2.2.2.2.2.2) (aStd a) := by
  obtain ⟨r1, r2, r3, r4, r5, r6, r7, r8⟩ := hL
  obtain ⟨g, h1, h2⟩ := p_stand_l hw hc r3 r4 N 0 L.2.2.1 (by omega) (by omega) (fun p hp => absurd hp (Nat.not_lt_zero p)) (fun p _ => rfl)
  refine ⟨g, h1, r1, r2, r3, fun p hp h => ?_, r5, ?_, r7, r8⟩
  · show g p = nI (if a.2.1 p = 1 then a.2.2.1 p + 1 else a.2.2.1 p)
    have h' : a.2.1 p = 1 := h
    rw [if_pos h']
    exact h2 p hp h'
  · show L.2.2.2.2.2.2.1 + 1 = nI (a.2.2.2.2.2.1 + 1)
    rw [r6, k1, nI_add]
