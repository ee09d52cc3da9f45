theorem p_mcanUp {N : Nat} (hN : 100 ≤ N) {r n c : Nat} (hr : r + 66 ≤ 792) {A : APl} {a : ASt} {w : Nat → Int32} (h9 : n ≤ 9) (hK : repK r w A (mOf a)) (hw : WF n c a) {p : Nat} (hp : p < 9) : MX8_canGiveUp N w (nI r) (nI p) = some (if p ∈ a.1 ∧ a.1.idxOf p + 1 < a.1.length then nI 1 else nI 0) := by
  have hlen := hw.len
  have r3 : w (r + 2) = nI a.1.length := hK.2.2.1
  have hq : MX8_isWhere N w (nI r) (nI p) (1 : Int32) = some (bI (decide (a.2.1 p = 1))) := p_misWhere (v := 1) hr hK hp (hw.2.2.2.1 p) (by omega)
  have hpl : MX8_placeOf N w (nI r) (nI p) = some (if p ∈ a.1 then nI (a.1.idxOf p) else -4) := p_mplaceOf hN hr hK (by show a.1.length ≤ 9; omega) (fun x hx => by have := hw.q9 hx; omega) (by omega)
  unfold MX8_canGiveUp MX8_canGiveUp_j33
  rw [hq, hpl]
  simp only [Option.bind_some]
  by_cases hm : p ∈ a.1
  · have hi : a.1.idxOf p < a.1.length := List.idxOf_lt_length_of_mem hm
    have e0 : nI a.1.length - nI 1 = nI (a.1.length - 1) := pk_sub (by omega)
    rw [decide_eq_true ((hw.2.1 p).mp hm), if_neg (by decide), if_pos hm]
    simp (disch := omega) only [k1, k2, k0, nI_add, nI_clamp, MG_ok, r3, e0, nI_leI]
    by_cases hc : a.1.idxOf p + 1 < a.1.length
    · rw [if_neg (by omega), if_pos ⟨hm, hc⟩]
    · rw [if_pos (by omega), if_neg (fun h => hc h.2)]
  · rw [decide_eq_false (fun h => hm ((hw.2.1 p).mpr h)), if_pos (by rfl), if_neg (fun h => hm h.1)]
    rfl
theorem p_mgivesUp {N : Nat} (hN : 100 ≤ N) {r n c : Nat} (hr : r + 66 ≤ 792) {A : APl} {a : ASt} {w : Nat → Int32} (h9 : n ≤ 9) (hA9 : A.2.2.2.1 ≤ 9) (hK : repK r w A (mOf a)) (hw : WF n c a) {p : Nat} (hm : p ∈ a.1) (hk : a.1.idxOf p + 1 < a.1.length) : ∃ w', MX8_givesUp N w (nI r) (nI p) = some w' ∧ repK r w' A (mOf (aYld a p)) ∧ frm r w w' := by
  have hlen := hw.len
  have hp9 := hw.q9 hm
  have hpl : MX8_placeOf N w (nI r) (nI p) = some (if p ∈ a.1 then nI (a.1.idxOf p) else -4) := p_mplaceOf hN hr hK (by show a.1.length ≤ 9; omega) (fun x hx => by have := hw.q9 hx; omega) (by omega)
  rw [if_pos hm] at hpl
  obtain ⟨r1, r2, r3, r4, r5, r6, r7, r8, r9⟩ := hK
  have key := rep_yld (f := fun j => w (r + 3 + j)) (p := p) r4 hk
  unfold MX8_givesUp
  rw [hpl]
  simp (disch := omega) only [Option.bind_some, k1, k3, nI_add, nI_clamp, MG_ok]
  refine ⟨_, rfl, ⟨?_, ?_, ?_, ?_, ?_, ?_, ?_, ?_, ?_⟩, ?_⟩
  · rw [pk_un (by omega), pk_un (by omega)]; exact r1
  · rw [pk_un (by omega), pk_un (by omega)]; exact r2
  · rw [pk_un (by omega), pk_un (by omega)]
    show _ = nI ((a.1.set (a.1.idxOf p) (a.1.getD (a.1.idxOf p + 1) 0)).set (a.1.idxOf p + 1) p).length
    rw [List.length_set, List.length_set]
    exact r3
  · intro i x hx
    have := key i x hx
    by_cases e1 : i = a.1.idxOf p + 1
    · subst e1
      rw [pk_us] at this
      rw [show r + 3 + (a.1.idxOf p + 1) = r + 3 + a.1.idxOf p + 1 by omega, pk_us]
      exact this
    · rw [pk_un e1] at this
      rw [pk_un (by omega)]
      by_cases e2 : i = a.1.idxOf p
      · subst e2
        rw [pk_us] at this
        rw [pk_us]
        exact this
      · rw [pk_un e2] at this
        rw [pk_un (by omega)]
        exact this
  · intro x hx
    rw [pk_un (by omega), pk_un (by omega)]; exact r5 x hx
  · intro x hx
    rw [pk_un (by omega), pk_un (by omega)]; exact r6 x hx
  · intro x hx
    rw [pk_un (by omega), pk_un (by omega)]; exact r7 x hx
  · intro x hx
    rw [pk_un (by omega), pk_un (by omega)]; exact r8 x hx
  · intro x hx
    rw [pk_un (by omega), pk_un (by omega), pk_un (by omega), pk_un (by omega)]; exact r9 x hx
  · intro i hi
    rw [pk_un (by omega), pk_un (by omega)]
