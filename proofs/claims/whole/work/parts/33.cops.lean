theorem rep_del {f g : Nat → Int32} {q : List Nat} {t : Nat} (h : repq f q) (ht : t < q.length) (h1 : ∀ j, j < t → g j = f j) (h2 : ∀ j, t ≤ j → j + 1 < q.length → g j = f (j + 1)) : repq g (q.eraseIdx t) := by
  intro i x hx
  rw [List.getElem?_eraseIdx] at hx
  by_cases c1 : i < t
  · rw [if_pos c1] at hx
    rw [h1 i c1]
    exact h i x hx
  · rw [if_neg c1] at hx
    have hl : i + 1 < q.length := (List.getElem?_eq_some_iff.mp hx).1
    rw [h2 i (by omega) hl]
    exact h _ x hx
theorem p_takeOut_l {L : LineV} {f : Nat → Int32} {t len : Nat} (hl : len ≤ 9) (h0 : 0 < len) (hs : L.2.2.2.2.2.1 = nI len) : ∀ (n i : Nat) (g : Nat → Int32), t ≤ i → i + 1 ≤ len → len < n + i + 1 → (∀ j, j < t → g j = f j) → (∀ j, t ≤ j → j < i → g j = f (j + 1)) → (∀ j, i ≤ j → g j = f j) → ∃ g', MX1_takeOut_l34 L n (nI i) g = MX1_takeOut_j62 L g' ∧ (∀ j, j < t → g' j = f j) ∧ (∀ j, t ≤ j → j + 1 < len → g' j = f (j + 1)) := by
  intro n
  have e0 : nI len - nI 1 = nI (len - 1) := pk_sub (by omega)
  induction n with
  | zero => intro i g h1 h2 h3; omega
  | succ n ih =>
    intro i g h1 h2 h3 h4 h5 h6
    rw [MX1_takeOut_l34, hs]
    by_cases hx : i + 1 = len
    · refine ⟨g, ?_, h4, fun j hj hj2 => h5 j hj (by omega)⟩
      simp (disch := omega) only [k1, e0, nI_leI, if_pos]
    · simp (disch := omega) only [k1, e0, nI_leI, if_neg, nI_add, nI_clamp, MG_ok]
      refine ih (i + 1) _ (by omega) (by omega) (by omega) (fun j hj => ?_) (fun j hj hj2 => ?_) (fun j hj => ?_)
      · rw [pk_un (by omega)]; exact h4 j hj
      · by_cases hjx : j = i
        · subst hjx; rw [pk_us]; exact h6 (j + 1) (by omega)
        · rw [pk_un hjx]; exact h5 j hj (by omega)
      · rw [pk_un (by omega)]; exact h6 j (by omega)
theorem p_takeOut {N : Nat} (hN : 100 ≤ N) {L : LineV} {q : List Nat} {t : Nat} (hs : L.2.2.2.2.2.1 = nI q.length) (ho : repq L.1 q) (hl : q.length ≤ 9) (ht : t < q.length) : ∃ u, MX1_takeOut N L (nI t) = some u ∧ repq u.1 (q.eraseIdx t) ∧ u.2 = nI (q.eraseIdx t).length := by
  obtain ⟨g, hg, g1, g2⟩ := p_takeOut_l (L := L) (f := L.1) (t := t) hl (by omega) hs N t L.1 (Nat.le_refl _) (by omega) (by omega) (fun _ _ => rfl) (fun j h h' => by omega) (fun _ _ => rfl)
  unfold MX1_takeOut
  rw [hs]
  simp (disch := omega) only [k0, k9, nI_leI, nI_ltI, if_neg, if_pos, hg]
  unfold MX1_takeOut_j62
  refine ⟨_, rfl, rep_del ho ht g1 g2, ?_⟩
  show L.2.2.2.2.2.1 - (1 : Int32) = _
  rw [hs, k1, pk_sub (by omega), List.length_eraseIdx_of_lt ht]
theorem p_head_l {L : LineV} {p : Int32} {f : Nat → Int32} {t len : Nat} (hl : len ≤ 9) (h0 : 0 < len) (hs : L.2.2.2.2.2.1 = nI len) : ∀ (n i : Nat) (g : Nat → Int32), t ≤ i → i + 1 ≤ len → len < n + i + 1 → (∀ j, j < t → g j = f j) → (∀ j, t ≤ j → j < i → g j = f (j + 1)) → (∀ j, i ≤ j → g j = f j) → ∃ g', MX1_goToHead_l32 L p n (nI i) g = MX1_goToHead_j62 L p g' ∧ (∀ j, j < t → g' j = f j) ∧ (∀ j, t ≤ j → j + 1 < len → g' j = f (j + 1)) := by
  intro n
  have e0 : nI len - nI 1 = nI (len - 1) := pk_sub (by omega)
  induction n with
  | zero => intro i g h1 h2 h3; omega
  | succ n ih =>
    intro i g h1 h2 h3 h4 h5 h6
    rw [MX1_goToHead_l32, hs]
    by_cases hx : i + 1 = len
    · refine ⟨g, ?_, h4, fun j hj hj2 => h5 j hj (by omega)⟩
      simp (disch := omega) only [k1, e0, nI_leI, if_pos]
    · simp (disch := omega) only [k1, e0, nI_leI, if_neg, nI_add, nI_clamp, MG_ok]
      refine ih (i + 1) _ (by omega) (by omega) (by omega) (fun j hj => ?_) (fun j hj hj2 => ?_) (fun j hj => ?_)
      · rw [pk_un (by omega)]; exact h4 j hj
      · by_cases hjx : j = i
        · subst hjx; rw [pk_us]; exact h6 (j + 1) (by omega)
        · rw [pk_un hjx]; exact h5 j hj (by omega)
      · rw [pk_un (by omega)]; exact h6 j (by omega)
theorem erase_idx {q : List Nat} {p : Nat} (hm : p ∈ q) : q.erase p = q.eraseIdx (q.idxOf p) := List.erase_eq_eraseIdx_of_idxOf rfl
theorem rep_snoc {f : Nat → Int32} {q : List Nat} {p : Nat} (h : repq f q) : repq (upd f q.length (nI p)) (q ++ [p]) := by
  intro i x hx
  rw [List.getElem?_append] at hx
  by_cases c : i < q.length
  · rw [if_pos c] at hx
    rw [pk_un (by omega)]
    exact h i x hx
  · rw [if_neg c] at hx
    have hl : i - q.length < 1 := (List.getElem?_eq_some_iff.mp hx).1
    have e : i = q.length := by omega
    subst e
    simp at hx
    subst hx
    exact pk_us
theorem p_goToHead {N : Nat} (hN : 100 ≤ N) {H : Nat} {L : LineV} {a : ASt} {n c p : Nat} (h9 : n ≤ 9) (hL : repL H L a) (hw : WF n c a) (hwp : a.2.1 p = 1) : ∃ u, MX1_goToHead N L (nI p) = some u ∧ repL H (u.1, L.2.1, u.2, L.2.2.2) (aSnz a p) := by
  obtain ⟨r1, r2, r3, r4, r5, r6⟩ := hL
  have hm : p ∈ a.1 := (hw.2.1 p).mpr hwp
  have hpn := hw.q9 hm
  have hlen := hw.len
  have hi : a.1.idxOf p < a.1.length := List.idxOf_lt_length_of_mem hm
  obtain ⟨g, hg, g1, g2⟩ := p_head_l (L := L) (p := nI p) (f := L.1) (t := a.1.idxOf p) (len := a.1.length) (by omega) (by omega) r1 N (a.1.idxOf p) L.1 (Nat.le_refl _) (by omega) (by omega) (fun _ _ => rfl) (fun j h h' => by omega) (fun _ _ => rfl)
  unfold MX1_goToHead
  rw [p_placeOf hN r1 r2 (by omega) (fun x hx => by have := hw.q9 hx; omega) (by omega), if_pos hm, r1]
  simp only [Option.bind_some]
  simp (disch := omega) only [k0, k9, nI_leI, nI_ltI, if_neg, if_pos, hg]
  unfold MX1_goToHead_j62
  have e0 : nI a.1.length - nI 1 = nI (a.1.length - 1) := pk_sub (by omega)
  simp (disch := omega) only [r1, k1, k0, e0, nI_clamp, MG_ok]
  have hel : (a.1.erase p).length = a.1.length - 1 := List.length_erase_of_mem hm
  refine ⟨_, rfl, ?_, ?_, r3, ?_, r5, r6⟩
  · show L.2.2.2.2.2.1 = nI (a.1.erase p ++ [p]).length
    rw [r1, List.length_append, hel]
    congr 1
    simp
    omega
  · show repq (upd g (a.1.length - 1) (nI p)) (a.1.erase p ++ [p])
    rw [← hel]
    refine rep_snoc ?_
    rw [erase_idx hm]
    exact rep_del r2 hi g1 g2
  · intro x hx hx1
    show upd L.2.2.1 p (nI 0) x = nI (fset a.2.2.1 p 0 x)
    by_cases e : x = p
    · subst e; rw [pk_us, fset_s]
    · rw [pk_un e, fset_n e]; exact r4 x hx hx1
theorem p_goAway {N : Nat} (hN : 100 ≤ N) {H : Nat} {L : LineV} {a : ASt} {n c p : Nat} (h9 : n ≤ 9) (hL : repL H L a) (hw : WF n c a) (hwp : a.2.1 p = 1) : ∃ u, MX1_goAway N L (nI p) = some u ∧ repL H (u.1, u.2.1, L.2.2.1, L.2.2.2.1, L.2.2.2.2.1, u.2.2, L.2.2.2.2.2.2) (aGo a p 2) := by
  obtain ⟨r1, r2, r3, r4, r5, r6⟩ := hL
  have hm : p ∈ a.1 := (hw.2.1 p).mpr hwp
  have hpn := hw.q9 hm
  have hlen := hw.len
  have hi : a.1.idxOf p < a.1.length := List.idxOf_lt_length_of_mem hm
  obtain ⟨v, hv, v1, v2⟩ := p_takeOut hN r1 r2 (by omega) hi
  unfold MX1_goAway
  rw [p_placeOf hN r1 r2 (by omega) (fun x hx => by have := hw.q9 hx; omega) (by omega), if_pos hm]
  simp only [Option.bind_some]
  simp (disch := omega) only [k0, k9, nI_leI, nI_ltI, if_neg, if_pos, hv, Option.bind_some, nI_clamp, MG_ok]
  rw [← erase_idx hm] at v1 v2
  refine ⟨_, rfl, v2, v1, ?_, ?_, ?_, r6⟩
  · intro x hx
    show upd L.2.1 p (2 : Int32) x = nI (fset a.2.1 p 2 x)
    by_cases e : x = p
    · subst e; rw [pk_us, fset_s]; rfl
    · rw [pk_un e, fset_n e]; exact r3 x hx
  · intro x hx hx1
    have hx1 : fset a.2.1 p 2 x = 1 := hx1
    have e : x ≠ p := by
      intro e; subst e; rw [fset_s] at hx1; omega
    rw [fset_n e] at hx1
    exact r4 x hx hx1
  · intro x hx hx1
    have hx1 : fset a.2.1 p 2 x = 3 := hx1
    have e : x ≠ p := by
      intro e; subst e; rw [fset_s] at hx1; omega
    rw [fset_n e] at hx1
    exact r5 x hx hx1
