theorem p_mcopy_l {s d : Nat} (hs : s + 66 ≤ 792) (hd : d + 66 ≤ 792) (hsd : s + 66 ≤ d ∨ d + 66 ≤ s) {w : Nat → Int32} : ∀ (m i : Nat) (g : Nat → Int32), i ≤ 66 → 66 < m + i → (∀ j, j < i → g (d + j) = w (s + j)) → (∀ x, x < d ∨ d + 66 ≤ x → g x = w x) → ∃ g', MX8_copy_l2 (nI s) (nI d) m (nI i) g = some g' ∧ (∀ j, j < 66 → g' (d + j) = w (s + j)) ∧ frm d w g' := by
  intro m
  induction m with
  | zero => intro i g h1 h2; omega
  | succ m ih =>
    intro i g h1 h2 h3 h4
    rw [MX8_copy_l2]
    by_cases hi : i = 66
    · subst hi
      rw [if_pos (by decide)]
      exact ⟨g, rfl, h3, h4⟩
    · simp (disch := omega) only [k66, k1, nI_add, nI_clamp, MG_ok, nI_leI, if_neg]
      refine ih (i + 1) _ (by omega) (by omega) (fun j hj => ?_) (fun x hx => ?_)
      · by_cases e : j = i
        · subst e; rw [pk_us]; exact h4 _ (by omega)
        · rw [pk_un (by omega)]; exact h3 j (by omega)
      · rw [pk_un (by omega)]; exact h4 x hx
theorem p_mcopy {N : Nat} (hN : 100 ≤ N) {s d : Nat} (hs : s + 66 ≤ 792) (hd : d + 66 ≤ 792) (hsd : s + 66 ≤ d ∨ d + 66 ≤ s) {w : Nat → Int32} : ∃ w', MX8_copy N w (nI s) (nI d) = some w' ∧ (∀ j, j < 66 → w' (d + j) = w (s + j)) ∧ frm d w w' :=
  p_mcopy_l hs hd hsd N 0 w (by omega) (by omega) (fun j hj => absurd hj (Nat.not_lt_zero j)) (fun _ _ => rfl)
theorem repK.cp {s d : Nat} {w w' : Nat → Int32} {A : APl} {b : MSt} (h : repK s w A b) (hc : ∀ j, j < 66 → w' (d + j) = w (s + j)) (hl : b.1.length ≤ 9) (hn : A.2.2.2.1 ≤ 9) : repK d w' A b := by
  obtain ⟨r1, r2, r3, r4, r5, r6, r7, r8, r9⟩ := h
  have e : ∀ (k p : Nat), k + p < 66 → w' (d + k + p) = w (s + k + p) := by
    intro k p hk
    rw [Nat.add_assoc, hc _ hk, Nat.add_assoc]
  refine ⟨?_, ?_, ?_, ?_, ?_, ?_, ?_, ?_, ?_⟩
  · exact (hc 0 (by omega)).trans r1
  · exact (hc 1 (by omega)).trans r2
  · exact (hc 2 (by omega)).trans r3
  · intro i x hx
    have hil : i < b.1.length := (List.getElem?_eq_some_iff.mp hx).1
    exact (e 3 i (by omega)).trans (r4 i x hx)
  · intro p hp; exact (e 12 p (by omega)).trans (r5 p hp)
  · intro p hp; exact (e 21 p (by omega)).trans (r6 p hp)
  · intro p hp; exact (e 30 p (by omega)).trans (r7 p hp)
  · intro p hp; exact (e 39 p (by omega)).trans (r8 p hp)
  · intro p hp; exact ⟨(e 48 p (by omega)).trans (r9 p hp).1, (e 57 p (by omega)).trans (r9 p hp).2⟩
theorem repK.fr {s d : Nat} {w w' : Nat → Int32} {A : APl} {b : MSt} (h : repK s w A b) (hf : frm d w w') (hsd : s + 66 ≤ d ∨ d + 66 ≤ s) (hl : b.1.length ≤ 9) (hn : A.2.2.2.1 ≤ 9) : repK s w' A b :=
  h.cp (fun j hj => hf (s + j) (by omega)) hl hn
