theorem nI_mul (a b : Nat) : nI a * nI b = nI (a * b) := (Int32.ofNat_mul a b).symm
theorem p_minds57 {N : Nat} (hN : 100 ≤ N) {w : Nat → Int32} {A : APl} {a : ASt} {us : List ASt} {c : Nat} (h9 : A.2.2.2.1 ≤ 9) (hK : repK 0 w A (mOf a)) (hw : WF A.2.2.2.1 c a) (hU : repU 264 w A us) (hWs : WFs A.2.2.2.1 c us) (hl : us.length < 8) : ∃ w', MX8_minds_j57 N w (nI us.length) = some (w', nI (us.length + 1)) ∧ repU 264 w' A (us ++ [a]) ∧ (∀ x, x < 264 → w' x = w x) := by
  have hlen := hw.len
  have e : nI 264 + nI 66 * nI us.length = nI (264 + 66 * us.length) := by rw [nI_mul, nI_add]
  obtain ⟨w', e1, c1, f1⟩ := p_mcopy hN (s := 0) (d := 264 + 66 * us.length) (w := w) (by omega) (by omega) (by omega)
  refine ⟨w', ?_, ?_, fun x hx => f1 x (by omega)⟩
  · unfold MX8_minds_j57
    simp only [k264, k66, k0, k1, nI_add, e]
    rw [e1]
    rfl
  · intro k b hb
    rw [List.getElem?_append] at hb
    by_cases hk : k < us.length
    · rw [if_pos hk] at hb
      have hbm : b ∈ us := List.mem_of_getElem? hb
      have hbl := (hWs b hbm).len
      exact (hU k b hb).fr f1 (by omega) (by show b.1.length ≤ 9; omega) h9
    · rw [if_neg hk] at hb
      have hk2 : k = us.length := by
        have := (List.getElem?_eq_some_iff.mp hb).1
        simp at this
        omega
      subst hk2
      rw [Nat.sub_self] at hb
      cases hb
      exact hK.cp c1 (by show a.1.length ≤ 9; omega) h9
theorem p_minds {N : Nat} (hN : 1000 ≤ N) {w : Nat → Int32} {A : APl} {a : ASt} {us : List ASt} {c : Nat} (h9 : A.2.2.2.1 ≤ 9) (hK : repK 0 w A (mOf a)) (hw : WF A.2.2.2.1 c a) (hU : repU 264 w A us) (hWs : WFs A.2.2.2.1 c us) (hl : us.length ≤ 8) : ∃ w', MX8_minds N w (nI us.length) = some (w', nI (aPush 8 us a).length) ∧ repU 264 w' A (aPush 8 us a) ∧ (∀ x, x < 264 → w' x = w x) := by
  have hlen := hw.len
  unfold MX8_minds aPush
  by_cases h8 : us.length = 8
  · rw [if_pos (show nI us.length = (8 : Int32) by rw [h8]; rfl), if_pos h8]
    obtain ⟨g, hg, g1, g2⟩ := p_minds_l (N := N) (T := nI us.length) (w := w) N 0 w (by omega) (by omega) (fun j hj => absurd hj (Nat.not_lt_zero j)) (fun _ _ => rfl)
    rw [k0, hg]
    unfold MX8_minds_j47
    have ht : us.tail.length = 7 := by rw [List.length_tail]; omega
    have hK' : repK 0 g A (mOf a) := hK.cp (fun j hj => g2 _ (by omega)) (by show a.1.length ≤ 9; omega) h9
    have hU' : repU 264 g A us.tail := by
      intro k b hb
      rw [List.getElem?_tail] at hb
      have hk : k + 1 < us.length := (List.getElem?_eq_some_iff.mp hb).1
      have hbl := (hWs b (List.mem_of_getElem? hb)).len
      refine (hU (k + 1) b hb).cp (fun j hj => ?_) (by show b.1.length ≤ 9; omega) h9
      have := g1 (66 * k + j) (by omega)
      rw [show 264 + 66 * k + j = 264 + (66 * k + j) by omega, this]
      congr 1
      omega
    have hW' : WFs A.2.2.2.1 c us.tail := fun b hb => hWs b (List.mem_of_mem_tail hb)
    obtain ⟨w', e1, q1, f1⟩ := p_minds57 (N := N) (by omega) h9 hK' hw hU' hW' (by omega)
    refine ⟨w', ?_, q1, fun x hx => (f1 x hx).trans (g2 x hx)⟩
    rw [show nI us.length - (1 : Int32) = nI us.tail.length by rw [h8, ht]; rfl, e1]
    simp [ht]
  · rw [if_neg (show ¬ nI us.length = (8 : Int32) from nI_ne (b := 8) (by omega) (by omega) h8), if_neg h8]
    obtain ⟨w', e1, q1, f1⟩ := p_minds57 (N := N) (by omega) h9 hK hw hU hWs (by omega)
    refine ⟨w', ?_, q1, f1⟩
    rw [e1]
    simp
