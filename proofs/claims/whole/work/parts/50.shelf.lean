def rix (m t len k : Nat) : Nat := if len ≤ t + k then t + k - len else t + k + m - len
def repSh (m H : Nat) (S : ShelfV) (us : List ASt) : Prop := ∃ t, S.1 = nI t ∧ t < m ∧ S.2.1 = nI us.length ∧ us.length ≤ m ∧ ∀ k b, us[k]? = some b → repL H (S.2.2 (rix m t us.length k)) b
theorem p_push {N : Nat} {m H n c : Nat} (hm : 0 < m) (hm9 : m ≤ 9) (h9 : n ≤ 9) {S : ShelfV} {us : List ASt} {L : LineV} {a : ASt} (hS : repSh m H S us) (hL : repL H L a) (hw : WF n c a) : ∃ S', MX5_push N S m L = some S' ∧ repSh m H S' (aPush m us a) := by
  obtain ⟨t, h1, h2, h3, h4, h5⟩ := hS
  obtain ⟨u, e, q⟩ := p_copyFrom (N := N) (L := S.2.2 t) hL hw h9
  have hm' : Int32.ofNat m = nI m := rfl
  unfold MX5_push MX5_push_j70
  rw [h1, h3, hm']
  simp (disch := omega) only [k0, k1, nI_add, nI_ltI, nI_leI, if_neg, if_pos, nI_clamp, MG_ok]
  rw [e]
  simp only [Option.bind_some]
  have hlen := aPush_len (us := us) (a := a) hm
  have key : ∀ t', (t' = if m ≤ t + 1 then 0 else t + 1) → repSh m H (nI t', nI (if us.length = m then m else us.length + 1), va_up S.2.2 t u) (aPush m us a) := by
    intro t' ht'
    refine ⟨t', rfl, by split at ht' <;> omega, by rw [hlen], by rw [hlen]; split <;> omega, fun k b hb => ?_⟩
    rw [hlen]
    show repL H (va_up S.2.2 t u _) b
    unfold aPush at hb
    rw [List.getElem?_append] at hb
    by_cases hf : us.length = m
    · rw [if_pos hf] at hb ⊢
      rw [List.length_tail] at hb
      by_cases hk : k < us.length - 1
      · rw [if_pos hk, List.getElem?_tail] at hb
        have := h5 (k + 1) b hb
        have e1 : rix m t' m k = rix m t us.length (k + 1) := by
          unfold rix
          rw [hf]
          by_cases ht : m ≤ t + 1
          · rw [if_pos ht] at ht'; split <;> split <;> omega
          · rw [if_neg ht] at ht'; split <;> split <;> omega
        have e2 : rix m t us.length (k + 1) ≠ t := by unfold rix; split <;> omega
        rw [e1, va_up_ne _ _ e2]
        exact this
      · rw [if_neg hk] at hb
        have hk2 : k = us.length - 1 := by
          have := (List.getElem?_eq_some_iff.mp hb).1
          simp at this
          omega
        subst hk2
        rw [Nat.sub_self] at hb
        cases hb
        have e1 : rix m t' m (us.length - 1) = t := by
          unfold rix
          by_cases ht : m ≤ t + 1
          · rw [if_pos ht] at ht'; split <;> omega
          · rw [if_neg ht] at ht'; split <;> omega
        rw [e1, va_up_self]
        exact q
    · rw [if_neg hf] at hb ⊢
      by_cases hk : k < us.length
      · rw [if_pos hk] at hb
        have := h5 k b hb
        have e1 : rix m t' (us.length + 1) k = rix m t us.length k := by
          unfold rix
          by_cases ht : m ≤ t + 1
          · rw [if_pos ht] at ht'; split <;> split <;> omega
          · rw [if_neg ht] at ht'; split <;> split <;> omega
        have e2 : rix m t us.length k ≠ t := by unfold rix; split <;> omega
        rw [e1, va_up_ne _ _ e2]
        exact this
      · rw [if_neg hk] at hb
        have hk2 : k = us.length := by
          have := (List.getElem?_eq_some_iff.mp hb).1
          simp at this
          omega
        subst hk2
        rw [Nat.sub_self] at hb
        cases hb
        have e1 : rix m t' (us.length + 1) us.length = t := by
          unfold rix
          by_cases ht : m ≤ t + 1
          · rw [if_pos ht] at ht'; split <;> omega
          · rw [if_neg ht] at ht'; split <;> omega
        rw [e1, va_up_self]
        exact q
  have hh : (if m < us.length + 1 then nI m else nI (us.length + 1)) = nI (if us.length = m then m else us.length + 1) := by
    by_cases hf : us.length = m
    · rw [if_pos hf, if_pos (by omega)]
    · rw [if_neg hf, if_neg (by omega)]
  rw [hh]
  by_cases ht : m ≤ t + 1
  · rw [if_pos ht]
    exact ⟨_, rfl, key 0 (by rw [if_pos ht])⟩
  · rw [if_neg ht]
    exact ⟨_, rfl, key (t + 1) (by rw [if_neg ht])⟩
