theorem p_misWhere {N : Nat} {r : Nat} (hr : r + 66 ≤ 792) {A : APl} {b : MSt} {w : Nat → Int32} (hK : repK r w A b) {p v : Nat} (hp : p < 9) (hb : b.2.1 p ≤ 3) (hv : v ≤ 3) : MX8_isWhere N w (nI r) (nI p) (nI v) = some (bI (decide (b.2.1 p = v))) := by
  have r5 := hK.2.2.2.2.1 p hp
  unfold MX8_isWhere
  simp (disch := omega) only [k12, nI_add, nI_clamp, MG_ok, r5, nI_eq]
  by_cases e : b.2.1 p = v
  · rw [if_pos e, decide_eq_true e]; rfl
  · rw [if_neg e, decide_eq_false e]; rfl
theorem p_manyWhere_l {N : Nat} {A : APl} {b : MSt} {w : Nat → Int32} (hK : repK 0 w A b) (h9 : A.2.2.2.1 ≤ 9) (hb : ∀ p, b.2.1 p ≤ 3) {v : Nat} (hv : v ≤ 3) : ∀ (m i : Nat), i ≤ A.2.2.2.1 → A.2.2.2.1 < m + i → MX8_manyWhere_l4 N w (nI A.2.2.2.1) (nI v) m (nI (cnt b.2.1 v i)) (nI i) = some (nI (cnt b.2.1 v A.2.2.2.1)) := by
  intro m
  induction m with
  | zero => intro i h1 h2; omega
  | succ m ih =>
    intro i h1 h2
    rw [MX8_manyWhere_l4]
    by_cases hi : i = A.2.2.2.1
    · rw [if_pos (by rw [hi]; exact nI_le (Nat.le_refl _) (by omega)), hi]
      rfl
    · have hq : MX8_isWhere N w (0 : Int32) (nI i) (nI v) = some (bI (decide (b.2.1 i = v))) := p_misWhere (r := 0) (by omega) hK (by omega) (hb i) hv
      rw [if_neg (nI_ge (by omega) (by omega)), hq]
      simp only [Option.bind_some]
      unfold MX8_manyWhere_j28 MLet
      have := ih (i + 1) (by omega) (by omega)
      rw [cnt] at this
      by_cases e : b.2.1 i = v
      · rw [decide_eq_true e, if_neg (by decide)]
        rw [if_pos e] at this
        simp only [k1, nI_add]
        exact this
      · rw [decide_eq_false e, if_pos (by rfl)]
        rw [if_neg e] at this
        simp only [k1, k0, nI_add]
        exact this
theorem p_manyWhere {N : Nat} (hN : 100 ≤ N) {A : APl} {b : MSt} {w : Nat → Int32} (hK : repK 0 w A b) (h9 : A.2.2.2.1 ≤ 9) (hb : ∀ p, b.2.1 p ≤ 3) {v : Nat} (hv : v ≤ 3) : MX8_manyWhere N w (nI A.2.2.2.1) (nI v) = some (nI (cnt b.2.1 v A.2.2.2.1)) :=
  p_manyWhere_l hK h9 hb hv N 0 (by omega) (by omega)
def aPush (m : Nat) (us : List ASt) (a : ASt) : List ASt := (if us.length = m then us.tail else us) ++ [a]
theorem aPush_len {m : Nat} {us : List ASt} {a : ASt} (hm : 0 < m) : (aPush m us a).length = if us.length = m then m else us.length + 1 := by
  unfold aPush
  split
  · simp; omega
  · simp
theorem p_minds_l {N : Nat} {T : Int32} {w : Nat → Int32} : ∀ (m i : Nat) (g : Nat → Int32), i ≤ 462 → 462 < m + i → (∀ j, j < i → g (264 + j) = w (264 + j + 66)) → (∀ x, x < 264 ∨ 264 + i ≤ x → g x = w x) → ∃ g', MX8_minds_l11 N T m (nI i) g = MX8_minds_j47 N T g' ∧ (∀ j, j < 462 → g' (264 + j) = w (264 + j + 66)) ∧ (∀ x, x < 264 → g' x = w x) := by
  intro m
  induction m with
  | zero => intro i g h1 h2; omega
  | succ m ih =>
    intro i g h1 h2 h3 h4
    rw [MX8_minds_l11]
    by_cases hi : i = 462
    · subst hi
      rw [if_pos (by decide)]
      exact ⟨g, rfl, h3, fun x hx => h4 x (by omega)⟩
    · simp (disch := omega) only [k462, k264, k66, k1, nI_add, nI_clamp, MG_ok, nI_leI, if_neg]
      refine ih (i + 1) _ (by omega) (by omega) (fun j hj => ?_) (fun x hx => ?_)
      · by_cases e : j = i
        · subst e; rw [pk_us]; exact h4 _ (by omega)
        · rw [pk_un (by omega)]; exact h3 j (by omega)
      · rw [pk_un (by omega)]; exact h4 x (by omega)
def repU (s : Nat) (w : Nat → Int32) (A : APl) (us : List ASt) : Prop := ∀ k b, us[k]? = some b → repK (s + 66 * k) w A (mOf b)
def WFs (n c : Nat) (us : List ASt) : Prop := ∀ b, b ∈ us → WF n c b
