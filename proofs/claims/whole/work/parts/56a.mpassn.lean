theorem p_mpass_l {N : Nat} (hN : 100 ≤ N) {F : Nat → Int32} {A : APl} {u : (Nat → Int32) × Int32} (hA : WFP A) (hF : rfF F A) : ∀ (m k i c : Nat) (w : Nat → Int32) (a : ASt), k < m → i + k < 1000000 → repK 0 w A (mOf a) → WF A.2.2.2.1 c a → c + 2 * k ≤ 999999 →
    ∃ w', MX8_pass_l20 N (nI A.2.2.2.1) F (nI A.2.2.2.2.1) (nI A.2.2.2.2.2.1) (nI A.2.2.2.2.2.2) (nI (i + k)) u m (nI i) w = MX8_pass_j36 N (nI A.2.2.2.1) u w' ∧ repK 0 w' A (mOf (aRun A k a)) ∧ frm 0 w w' := by
  intro m
  induction m with
  | zero => intro k i c w a h; omega
  | succ m ih =>
    intro k i c w a h1 h2 hK hw hc
    rw [MX8_pass_l20]
    cases k with
    | zero =>
      rw [if_pos (nI_le (by omega) (by omega))]
      exact ⟨_, rfl, hK, frm.rfl'⟩
    | succ k =>
      obtain ⟨w1, e1, q1, f1⟩ := p_mpasses hN (r := 0) (by omega) hA hF hK hw (by omega)
      have e1' : MX8_passes N w (nI A.2.2.2.1) F (nI A.2.2.2.2.1) (nI A.2.2.2.2.2.1) (nI A.2.2.2.2.2.2) (0 : Int32) = some w1 := e1
      rw [if_neg (show ¬ nI (i + (k + 1)) ≤ nI i from nI_ge (by omega) (by omega)), e1']
      simp only [Option.bind_some]
      rw [nI_1]
      obtain ⟨w2, e2, q2, f2⟩ := ih k (i + 1) (c + 2) w1 _ (by omega) (by omega) q1 (hw.min hA) (by omega)
      rw [show i + 1 + k = i + (k + 1) by omega] at e2
      exact ⟨w2, e2, q2, f1.tr f2⟩
