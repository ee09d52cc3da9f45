theorem p_whereIs {N : Nat} {H : Nat} {L : LineV} {a : ASt} (hL : repL H L a) {p : Nat} (hp : p < 9) : MX1_whereIs N L (nI p) = some (nI (a.2.1 p)) := by
  unfold MX1_whereIs
  simp (disch := omega) only [k0, k9, nI_leI, nI_ltI, nI_clamp, MG_ok, if_neg, hL.2.2.1 p hp]
theorem p_stoodOf {N : Nat} {H n c : Nat} {L : LineV} {a : ASt} (hL : repL H L a) (hw : WF n c a) {p : Nat} (hp : p < 9) : MX1_stoodOf N L (nI p) = some (nI (if a.2.1 p = 1 then a.2.2.1 p else 0)) := by
  have hwi := hw.2.2.2.1 p
  unfold MX1_stoodOf MX1_stoodOf_j29
  simp (disch := omega) only [k0, k1, k9, nI_leI, nI_ltI, nI_clamp, MG_ok, if_neg, hL.2.2.1 p hp, nI_eq]
  by_cases e : a.2.1 p = 1
  · rw [if_pos e, if_pos e, hL.2.2.2.1 p hp e]
  · rw [if_neg e, if_neg e]
theorem p_ateInOf {N : Nat} {H n c : Nat} {L : LineV} {a : ASt} (hL : repL H L a) (hw : WF n c a) {p : Nat} (hp : p < 9) : MX1_ateInOf N L (nI p) = some (if a.2.1 p = 3 then nI (a.2.2.2.1 p) else -4) := by
  have hwi := hw.2.2.2.1 p
  unfold MX1_ateInOf MX1_ateInOf_j29
  simp (disch := omega) only [k0, k3, k9, nI_leI, nI_ltI, nI_clamp, MG_ok, if_neg, hL.2.2.1 p hp, nI_eq]
  by_cases e : a.2.1 p = 3
  · rw [if_pos e, if_pos e, (hL.2.2.2.2.1 p hp e).1]
  · rw [if_neg e, if_neg e]
theorem p_warmOf {N : Nat} {H n c : Nat} {L : LineV} {a : ASt} (hL : repL H L a) (hw : WF n c a) {p : Nat} (hp : p < 9) : MX1_warmOf N L (nI p) = some (if a.2.1 p = 3 then nI (a.2.2.2.2.1 p) else -4) := by
  have hwi := hw.2.2.2.1 p
  unfold MX1_warmOf MX1_warmOf_j29
  simp (disch := omega) only [k0, k3, k9, nI_leI, nI_ltI, nI_clamp, MG_ok, if_neg, hL.2.2.1 p hp, nI_eq]
  by_cases e : a.2.1 p = 3
  · rw [if_pos e, if_pos e, (hL.2.2.2.2.1 p hp e).2]
  · rw [if_neg e, if_neg e]
def cnt (f : Nat → Nat) (v : Nat) : Nat → Nat
  | 0 => 0
  | k + 1 => cnt f v k + if f k = v then 1 else 0
theorem cnt_le {f : Nat → Nat} {v : Nat} : ∀ k, cnt f v k ≤ k := by
  intro k
  induction k with
  | zero => exact Nat.le_refl _
  | succ k ih => rw [cnt]; split <;> omega
theorem p_howMany_l {H n c : Nat} {L : LineV} {a : ASt} (hL : repL H L a) (hw : WF n c a) {v : Nat} (hv : v ≤ 3) : ∀ (m i : Nat), i ≤ 9 → 9 < m + i → MX1_howMany_l4 L (nI v) m (nI (cnt a.2.1 v i)) (nI i) = some (nI (cnt a.2.1 v 9)) := by
  intro m
  induction m with
  | zero => intro i h1 h2; omega
  | succ m ih =>
    intro i h1 h2
    rw [MX1_howMany_l4]
    by_cases hi : i = 9
    · subst hi
      rw [if_pos (by decide)]
      rfl
    · have hwi := hw.2.2.2.1 i
      have r3 := hL.2.2.1 i (by omega)
      simp (disch := omega) only [k1, k9, nI_leI, nI_add, nI_clamp, MG_ok, if_neg, r3, nI_eq, MX1_howMany_j23]
      have := ih (i + 1) (by omega) (by omega)
      rw [cnt] at this
      by_cases e : a.2.1 i = v
      · rw [if_pos e]; rw [if_pos e] at this; exact this
      · rw [if_neg e]; rw [if_neg e] at this; exact this
theorem p_howMany {N : Nat} (hN : 100 ≤ N) {H n c : Nat} {L : LineV} {a : ASt} (hL : repL H L a) (hw : WF n c a) {v : Nat} (hv : v ≤ 3) : MX1_howMany N L (nI v) = some (nI (cnt a.2.1 v 9)) :=
  p_howMany_l hL hw hv N 0 (by omega) (by omega)
theorem cnt_up {f : Nat → Nat} {v n : Nat} (hv : v ≠ 0) (h : ∀ p, n ≤ p → f p = 0) : ∀ k, n ≤ k → cnt f v k = cnt f v n := by
  intro k
  induction k with
  | zero => intro hk; rw [show n = 0 by omega]
  | succ k ih =>
    intro hk
    by_cases e : n = k + 1
    · rw [e]
    · rw [cnt, ih (by omega), h k (by omega), if_neg (fun q => hv q.symm)]
      rfl
