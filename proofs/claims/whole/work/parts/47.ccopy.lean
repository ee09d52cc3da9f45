theorem p_copyFrom {N : Nat} {H n c : Nat} {L L2 : LineV} {a : ASt} (hL : repL H L2 a) (hw : WF n c a) (h9 : n ≤ 9) : ∃ u, MX1_copyFrom N L L2 = some u ∧ repL H u a := by
  have hlen := hw.len
  obtain ⟨r1, r2, r3, r4, r5, r6⟩ := hL
  have e : ∀ (f g : Nat → Int32) (i : Nat), i < 9 → va_cpy f g 0 0 9 i = f i := by
    intro f g i hi
    unfold va_cpy
    rw [if_pos ⟨by omega, by omega⟩]
    congr 1
    omega
  refine ⟨_, rfl, r1, ?_, ?_, ?_, ?_, r6⟩
  · intro i x hx
    have hil : i < a.1.length := (List.getElem?_eq_some_iff.mp hx).1
    exact (e _ _ i (by omega)).trans (r2 i x hx)
  · intro p hp; exact (e _ _ p hp).trans (r3 p hp)
  · intro p hp h; exact (e _ _ p hp).trans (r4 p hp h)
  · intro p hp h; exact ⟨(e _ _ p hp).trans (r5 p hp h).1, (e _ _ p hp).trans (r5 p hp h).2⟩
def aZero : ASt := ([], (fun _ => 0), (fun _ => 0), (fun _ => 0), (fun _ => 0), 0, 0)
theorem WF.zero {n c : Nat} : WF n c aZero := ⟨List.nodup_nil, fun p => by simp [aZero], fun _ _ => rfl, fun _ => Nat.zero_le _, fun _ => Nat.zero_le _, fun _ => Nat.zero_le _, fun _ => Nat.zero_le _, Nat.zero_le _, Nat.zero_le _⟩
theorem p_clear_l {H : Nat} : ∀ (m i : Nat) (f0 f1 f2 f3 f4 : Nat → Int32), i ≤ 9 → 9 < m + i → (∀ p, p < i → f1 p = nI 0) → ∃ u, MX1_clear_l2 m (nI i) f0 f1 f2 f3 f4 = some u ∧ repL H u aZero := by
  intro m
  induction m with
  | zero => intro i f0 f1 f2 f3 f4 h1 h2; omega
  | succ m ih =>
    intro i f0 f1 f2 f3 f4 h1 h2 h3
    rw [MX1_clear_l2]
    by_cases hi : i = 9
    · subst hi
      rw [if_pos (by decide)]
      refine ⟨_, rfl, rfl, ?_, h3, ?_, ?_, rfl, rfl, rfl⟩
      · intro i x hx; simp [aZero] at hx
      · intro p hp h; exact absurd (show (0 : Nat) = 1 from h) (by decide)
      · intro p hp h; exact absurd (show (0 : Nat) = 3 from h) (by decide)
    · simp (disch := omega) only [k9, k1, k0, nI_leI, if_neg, nI_clamp, MG_ok, nI_add]
      refine ih (i + 1) _ _ _ _ _ (by omega) (by omega) (fun p hp => ?_)
      by_cases e : p = i
      · subst e; exact pk_us
      · rw [pk_un e]; exact h3 p (by omega)
theorem p_clear {N : Nat} (hN : 100 ≤ N) {H : Nat} {L : LineV} : ∃ u, MX1_clear N L = some u ∧ repL H u aZero :=
  p_clear_l N 0 _ _ _ _ _ (by omega) (by omega) (fun p hp => absurd hp (Nat.not_lt_zero p))
