theorem p_pop0 {N : Nat} {m H : Nat} {S : ShelfV} {L : LineV} (hS : repSh m H S []) : MX5_popInto N S m L = some (0, S.1, S.2.1, L.1, L.2.1, L.2.2.1, L.2.2.2.1, L.2.2.2.2.1, L.2.2.2.2.2.1, L.2.2.2.2.2.2.1, L.2.2.2.2.2.2.2.1, L.2.2.2.2.2.2.2.2) := by
  obtain ⟨t, h1, h2, h3, h4, h5⟩ := hS
  unfold MX5_popInto
  rw [if_neg (show ¬ (1 : Int32) ≤ S.2.1 by rw [h3]; decide)]
theorem p_pop {N : Nat} {m H n c : Nat} (hm : 0 < m) (hm9 : m ≤ 9) (h9 : n ≤ 9) {S : ShelfV} {us : List ASt} {L : LineV} {a : ASt} (hS : repSh m H S (us ++ [a])) (hw : WF n c a) : ∃ u, MX5_popInto N S m L = some u ∧ u.1 = 1 ∧ u.2.2.1 = nI us.length ∧ repSh m H (u.2.1, u.2.2.1, S.2.2) us ∧ repL H u.2.2.2 a := by
  obtain ⟨t, h1, h2, h3, h4, h5⟩ := hS
  rw [List.length_append] at h3 h4 h5
  simp only [List.length_cons, List.length_nil, Nat.zero_add] at h3 h4 h5
  have hm' : Int32.ofNat m = nI m := rfl
  have key : ∀ t', t' < m → (t' = if t = 0 then m - 1 else t - 1) → ∃ u, MX5_popInto_j33 N m S L (nI t') = some u ∧ u.1 = 1 ∧ u.2.2.1 = nI us.length ∧ repSh m H (u.2.1, u.2.2.1, S.2.2) us ∧ repL H u.2.2.2 a := by
    intro t' hlt ht'
    have hix : rix m t (us.length + 1) us.length = t' := by
      unfold rix
      by_cases ht : t = 0
      · rw [if_pos ht] at ht'; split <;> omega
      · rw [if_neg ht] at ht'; split <;> omega
    have hr := h5 us.length a (by rw [List.getElem?_append_right (Nat.le_refl _), Nat.sub_self]; rfl)
    rw [hix] at hr
    obtain ⟨u, e, q⟩ := p_copyFrom (N := N) (L := L) hr hw h9
    have e0 : nI (us.length + 1) - nI 1 = nI us.length := pk_sub (by omega)
    unfold MX5_popInto_j33
    rw [hm', h3]
    simp (disch := omega) only [k0, k1, nI_ltI, nI_leI, if_neg, if_pos, nI_clamp, MG_ok, e0]
    rw [e]
    refine ⟨_, rfl, rfl, rfl, ⟨t', rfl, hlt, rfl, by omega, fun k b hb => ?_⟩, q⟩
    have hk : k < us.length := (List.getElem?_eq_some_iff.mp hb).1
    have := h5 k b (by rw [List.getElem?_append_left hk]; exact hb)
    have e1 : rix m t' us.length k = rix m t (us.length + 1) k := by
      unfold rix
      by_cases ht : t = 0
      · rw [if_pos ht] at ht'; split <;> split <;> omega
      · rw [if_neg ht] at ht'; split <;> split <;> omega
    rw [e1]
    exact this
  have e1 : nI m - nI 1 = nI (m - 1) := pk_sub (by omega)
  unfold MX5_popInto
  rw [if_pos (show (1 : Int32) ≤ S.2.1 by rw [h3]; exact nI_le (a := 1) (by omega) (by omega)), h1, hm', k1, e1]
  by_cases ht : t = 0
  · subst ht
    rw [if_pos (by decide)]
    exact key (m - 1) (by omega) (by rw [if_pos rfl])
  · rw [if_neg (show ¬ nI t ≤ (0 : Int32) from nI_nle (by omega) (by omega)), pk_sub (show 1 ≤ t by omega)]
    exact key (t - 1) (by omega) (by rw [if_neg ht])
theorem p_mundo {N : Nat} (hN : 100 ≤ N) {w : Nat → Int32} {A : APl} {a : ASt} {us : List ASt} {c s : Nat} (hs : s = 264 ∨ s = 132) (h9 : A.2.2.2.1 ≤ 9) (hw : WF A.2.2.2.1 c a) (hU : repU s w A (us ++ [a])) (hl : s + 66 * (us.length + 1) ≤ 792) : ∃ w', MX8_copy N w (nI (s + 66 * us.length)) (nI 0) = some w' ∧ repK 0 w' A (mOf a) ∧ (∀ x, 66 ≤ x → w' x = w x) := by
  have hlen := hw.len
  obtain ⟨w', e1, c1, f1⟩ := p_mcopy hN (s := s + 66 * us.length) (d := 0) (w := w) (by omega) (by omega) (by omega)
  have hr := hU us.length a (by rw [List.getElem?_append_right (Nat.le_refl _), Nat.sub_self]; rfl)
  exact ⟨w', e1, hr.cp c1 (by show a.1.length ≤ 9; omega) h9, fun x hx => f1 x (by omega)⟩
