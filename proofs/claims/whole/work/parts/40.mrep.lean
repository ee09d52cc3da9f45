abbrev MSt : Type := List Nat × (Nat → Nat) × (Nat → Nat) × Nat × Nat × (Nat → Int32) × (Nat → Int32)
def repK (r : Nat) (w : Nat → Int32) (A : APl) (b : MSt) : Prop := w r = nI b.2.2.2.1 ∧ w (r + 1) = nI b.2.2.2.2.1 ∧ w (r + 2) = nI b.1.length ∧ (∀ i x, b.1[i]? = some x → w (r + 3 + i) = nI x) ∧ (∀ p, p < 9 → w (r + 12 + p) = nI (b.2.1 p)) ∧ (∀ p, p < 9 → w (r + 21 + p) = nI (b.2.2.1 p)) ∧ (∀ p, p < A.2.2.2.1 → w (r + 30 + p) = b.2.2.2.2.2.1 p) ∧ (∀ p, p < A.2.2.2.1 → w (r + 39 + p) = b.2.2.2.2.2.2 p) ∧ (∀ p, p < A.2.2.2.1 → w (r + 48 + p) = nI (A.2.1 p) ∧ w (r + 57 + p) = nI (A.1 p))
def frm (r : Nat) (w w' : Nat → Int32) : Prop := ∀ i, i < r ∨ r + 66 ≤ i → w' i = w i
theorem frm.rfl' {r : Nat} {w : Nat → Int32} : frm r w w := fun _ _ => rfl
theorem frm.tr {r : Nat} {w w' w'' : Nat → Int32} (h : frm r w w') (h' : frm r w' w'') : frm r w w'' := fun i hi => (h' i hi).trans (h i hi)
theorem p_mplaceOf_l {r : Nat} (hr : r + 66 ≤ 792) {w : Nat → Int32} {q : List Nat} (hs : w (r + 2) = nI q.length) (ho : ∀ i x, q[i]? = some x → w (r + 3 + i) = nI x) (hl : q.length ≤ 9) (hq : ∀ x ∈ q, x < 9) {p : Nat} (hp : p < 2 ^ 31) : ∀ (n i : Nat), q.length < n + i → i ≤ q.length → MX8_placeOf_l2 w (nI r) (nI p) n (nI i) = some (plcF (q.drop i) i p) := by
  intro n
  induction n with
  | zero => intro i h1 h2; omega
  | succ n ih =>
    intro i h1 h2
    rw [MX8_placeOf_l2]
    by_cases hi : i = q.length
    · subst hi
      simp (disch := omega) only [k2, nI_add, nI_clamp, MG_ok, hs, nI_leI, Nat.le_refl, if_true, List.drop_length, plcF]
    · have hi : i < q.length := by omega
      have hx := ho i _ (List.getElem?_eq_getElem hi)
      have hx9 := hq _ (List.getElem_mem hi)
      simp (disch := omega) only [k1, k2, k3, nI_add, nI_clamp, MG_ok, hs, nI_leI, if_neg, hx, nI_eq]
      rw [List.drop_eq_getElem_cons hi, plcF]
      by_cases e : q[i] = p
      · rw [if_pos e, if_pos e]
      · rw [if_neg e, if_neg e]
        exact ih (i + 1) (by omega) (by omega)
theorem p_mplaceOf {N : Nat} (hN : 100 ≤ N) {r : Nat} (hr : r + 66 ≤ 792) {w : Nat → Int32} {A : APl} {b : MSt} (hK : repK r w A b) (hl : b.1.length ≤ 9) (hq : ∀ x ∈ b.1, x < 9) {p : Nat} (hp : p < 2 ^ 31) : MX8_placeOf N w (nI r) (nI p) = some (if p ∈ b.1 then nI (b.1.idxOf p) else -4) := by
  have h := p_mplaceOf_l hr hK.2.2.1 hK.2.2.2.1 hl hq hp N 0 (by omega) (by omega)
  rw [plcF_eq] at h
  rw [Nat.zero_add] at h
  exact h
theorem p_mstands_l {r : Nat} (hr : r + 66 ≤ 792) {f : Nat → Int32} {p : Int32} {t len : Nat} (hl : len ≤ 8) : ∀ (n x : Nat) (g : Nat → Int32), t ≤ x → x ≤ len → x < n + t → (∀ j, j < x → g (r + 3 + j) = f (r + 3 + j)) → (∀ j, x < j → j ≤ len → g (r + 3 + j) = f (r + 3 + (j - 1))) → (∀ i, i < r + 3 ∨ r + 12 ≤ i → g i = f i) → ∃ g', MX8_stands_l10 (nI r) p (nI t) n (nI x) g = MX8_stands_j46 (nI r) p (nI t) g' ∧ (∀ j, j < t → g' (r + 3 + j) = f (r + 3 + j)) ∧ (∀ j, t < j → j ≤ len → g' (r + 3 + j) = f (r + 3 + (j - 1))) ∧ (∀ i, i < r + 3 ∨ r + 12 ≤ i → g' i = f i) := by
  intro n
  induction n with
  | zero => intro x g h1 h2 h3; omega
  | succ n ih =>
    intro x g h1 h2 h3 h4 h5 h6
    rw [MX8_stands_l10]
    by_cases hx : x = t
    · subst hx
      exact ⟨g, by simp (disch := omega) only [nI_leI, Nat.le_refl, if_true], h4, h5, h6⟩
    · have e1 : nI (r + 3 + x) - nI 1 = nI (r + 3 + (x - 1)) := by rw [pk_sub (by omega)]; congr 1; omega
      have e2 : nI x + (-nI 1) = nI (x - 1) := nI_m1 (by omega)
      simp (disch := omega) only [k1, k3, nI_add, nI_leI, if_neg, e1, e2, nI_clamp, MG_ok]
      refine ih (x - 1) _ (by omega) (by omega) (by omega) (fun j hj => ?_) (fun j hj hj2 => ?_) (fun i hi => ?_)
      · rw [pk_un (by omega)]; exact h4 j (by omega)
      · by_cases hjx : j = x
        · subst hjx; rw [pk_us]; exact h4 (j - 1) (by omega)
        · rw [pk_un (by omega)]; exact h5 j (by omega) hj2
      · rw [pk_un (by omega)]; exact h6 i hi
def mStand (b : MSt) (p t : Nat) : MSt := (b.1.insertIdx t p, fset b.2.1 p 1, fset b.2.2.1 p 0, b.2.2.2)
theorem p_mstands {N : Nat} (hN : 100 ≤ N) {r : Nat} (hr : r + 66 ≤ 792) {w : Nat → Int32} {A : APl} {b : MSt} (hA9 : A.2.2.2.1 ≤ 9) (hK : repK r w A b) (hl : b.1.length ≤ 8) {p t : Nat} (hp : p < 9) (ht : t ≤ b.1.length) : ∃ w', MX8_stands N w (nI r) (nI p) (nI t) = some w' ∧ repK r w' A (mStand b p t) ∧ frm r w w' := by
  obtain ⟨r1, r2, r3, r4, r5, r6, r7, r8, r9⟩ := hK
  obtain ⟨g, hg, g1, g2, g3⟩ := p_mstands_l hr (f := w) (p := nI p) (t := t) (len := b.1.length) hl N b.1.length w ht (Nat.le_refl _) (by omega) (fun _ _ => rfl) (fun j h h' => by omega) (fun _ _ => rfl)
  have hg2 : g (r + 2) = nI b.1.length := by rw [g3 _ (by omega), r3]
  unfold MX8_stands MLet
  simp (disch := omega) only [k2, nI_add, nI_clamp, MG_ok, r3]
  rw [hg]
  unfold MX8_stands_j46
  have hu : upd g (r + 3 + t) (nI p) (r + 2) = nI b.1.length := by rw [pk_un (by omega)]; exact hg2
  simp (disch := omega) only [k0, k1, k2, k3, k12, k21, nI_add, nI_clamp, MG_ok, hu]
  refine ⟨_, rfl, ⟨?_, ?_, ?_, ?_, ?_, ?_, ?_, ?_, ?_⟩, ?_⟩
  · rw [pk_un (by omega), pk_un (by omega), pk_un (by omega), pk_un (by omega), g3 _ (by omega)]; exact r1
  · rw [pk_un (by omega), pk_un (by omega), pk_un (by omega), pk_un (by omega), g3 _ (by omega)]; exact r2
  · rw [pk_un (by omega), pk_un (by omega), pk_us]
    show nI (b.1.length + 1) = nI (b.1.insertIdx t p).length
    rw [List.length_insertIdx_of_le_length ht]
  · intro i x hx
    have hx : (b.1.insertIdx t p)[i]? = some x := hx
    have hil : i < (b.1.insertIdx t p).length := (List.getElem?_eq_some_iff.mp hx).1
    rw [List.length_insertIdx_of_le_length ht] at hil
    have key := rep_ins (f := fun j => w (r + 3 + j)) (g := fun j => g (r + 3 + j)) (p := p) r4 ht g1 g2 i x hx
    rw [pk_un (by omega), pk_un (by omega), pk_un (by omega)]
    by_cases e : i = t
    · subst e
      rw [pk_us] at key
      rw [pk_us]
      exact key
    · rw [pk_un e] at key
      rw [pk_un (by omega)]
      exact key
  · intro x hx
    show _ = nI (fset b.2.1 p 1 x)
    rw [pk_un (by omega)]
    by_cases e : x = p
    · subst e; rw [pk_us, fset_s]
    · rw [pk_un (by omega), pk_un (by omega), pk_un (by omega), g3 _ (by omega), fset_n e]; exact r5 x hx
  · intro x hx
    show _ = nI (fset b.2.2.1 p 0 x)
    by_cases e : x = p
    · subst e; rw [pk_us, fset_s]
    · rw [pk_un (by omega), pk_un (by omega), pk_un (by omega), pk_un (by omega), g3 _ (by omega), fset_n e]; exact r6 x hx
  · intro x hx
    rw [pk_un (by omega), pk_un (by omega), pk_un (by omega), pk_un (by omega), g3 _ (by omega)]; exact r7 x hx
  · intro x hx
    rw [pk_un (by omega), pk_un (by omega), pk_un (by omega), pk_un (by omega), g3 _ (by omega)]; exact r8 x hx
  · intro x hx
    rw [pk_un (by omega), pk_un (by omega), pk_un (by omega), pk_un (by omega), g3 _ (by omega), pk_un (by omega), pk_un (by omega), pk_un (by omega), pk_un (by omega), g3 _ (by omega)]; exact r9 x hx
  · intro i hi
    rw [pk_un (by omega), pk_un (by omega), pk_un (by omega), pk_un (by omega), g3 _ (by omega)]
