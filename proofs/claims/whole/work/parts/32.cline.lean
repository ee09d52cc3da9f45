theorem n10 : (nI 1 = nI 0) = False := eq_false (by decide)
theorem p_letsPass {N : Nat} {P : PlanV} {A : APl} (hP : repP P A) (hA : WFP A) {t p : Nat} (ht : t < A.2.2.2.1) (hp : p < A.2.2.2.1) : MX3_letsPass N P (nI t) (nI p) = some (if A.1 t = 1 ∧ (A.2.2.1 t = 0 ∨ A.2.2.1 t ≠ A.2.2.1 p) then nI 1 else nI 0) := by
  have h9 := hA.1
  obtain ⟨a1, a2, a3⟩ := hP.1 t ht
  obtain ⟨b1, b2, b3⟩ := hP.1 p hp
  obtain ⟨c1, c2, c3⟩ := hA.2.2.1 t ht
  obtain ⟨d1, d2, d3⟩ := hA.2.2.1 p hp
  unfold MX3_letsPass MX3_letsPass_j56
  simp (disch := omega) only [k0, k1, k9, nI_leI, nI_ltI, nI_clamp, MG_ok, if_neg, if_pos, a1, a3, b3, nI_eq]
  by_cases g1 : A.1 t = 1
  · by_cases g2 : A.2.2.1 t = 0
    · simp [g1, g2]
    · by_cases g3 : A.2.2.1 t = A.2.2.1 p
      · rw [g3] at g2
        simp [g1, g2, g3]
      · simp [g1, g2, g3]
  · simp [g1]
theorem p_join_l {L : LineV} {f : Nat → Int32} {p : Int32} {t len : Nat} (hl : len ≤ 8) : ∀ (n x : Nat) (g : Nat → Int32), t ≤ x → x ≤ len → x < n + t → (∀ j, j < x → g j = f j) → (∀ j, x < j → j ≤ len → g j = f (j - 1)) → ∃ g', MX1_join_l60 L p (nI t) n (nI x) g = MX1_join_j88 L p (nI t) g' ∧ (∀ j, j < t → g' j = f j) ∧ (∀ j, t < j → j ≤ len → g' j = f (j - 1)) := by
  intro n
  induction n with
  | zero => intro x g h1 h2 h3; omega
  | succ n ih =>
    intro x g h1 h2 h3 h4 h5
    rw [MX1_join_l60]
    by_cases hx : x = t
    · subst hx
      exact ⟨g, by simp (disch := omega) only [nI_leI, Nat.le_refl, if_true], h4, h5⟩
    · have e1 : nI x - nI 1 = nI (x - 1) := pk_sub (by omega)
      have e2 : nI x + (-nI 1) = nI (x - 1) := nI_m1 (by omega)
      simp (disch := omega) only [k1, nI_leI, if_neg, e1, e2, nI_clamp, MG_ok]
      refine ih (x - 1) _ (by omega) (by omega) (by omega) (fun j hj => ?_) (fun j hj hj2 => ?_)
      · rw [pk_un (by omega)]; exact h4 j (by omega)
      · by_cases hjx : j = x
        · subst hjx; rw [pk_us]; exact h4 (j - 1) (by omega)
        · rw [pk_un hjx]; exact h5 j (by omega) hj2
theorem rep_ins {f g : Nat → Int32} {q : List Nat} {t p : Nat} (h : repq f q) (ht : t ≤ q.length) (h1 : ∀ j, j < t → g j = f j) (h2 : ∀ j, t < j → j ≤ q.length → g j = f (j - 1)) : repq (upd g t (nI p)) (q.insertIdx t p) := by
  intro i x hx
  rw [List.getElem?_insertIdx] at hx
  by_cases c1 : i < t
  · rw [if_pos c1] at hx
    rw [pk_un (by omega), h1 i c1]
    exact h i x hx
  · rw [if_neg c1] at hx
    by_cases c2 : i = t
    · subst c2
      rw [if_pos rfl, if_pos ht] at hx
      cases hx
      exact pk_us
    · rw [if_neg c2] at hx
      have hl : i - 1 < q.length := (List.getElem?_eq_some_iff.mp hx).1
      rw [pk_un c2, h2 i (by omega) (by omega)]
      exact h _ x hx
theorem p_join {N : Nat} (hN : 100 ≤ N) {H : Nat} {L : LineV} {P : PlanV} {A : APl} {a : ASt} {c p : Nat} (hP : repP P A) (hA : WFP A) (hL : repL H L a) (hw : WF A.2.2.2.1 c a) (hp : p < A.2.2.2.1) (hwp : a.2.1 p ≠ 1) :
    ∃ u, MX1_join N L P (nI p) = some u ∧ repL H (u.1, u.2.1, u.2.2.1, L.2.2.2.1, L.2.2.2.2.1, u.2.2.2, L.2.2.2.2.2.2) (aJoin A a p) := by
  have h9 := hA.1
  have hlen := hw.len2 hp hwp
  obtain ⟨r1, r2, r3, r4, r5, r6⟩ := hL
  have key : ∀ t, t ≤ 1 → t ≤ a.1.length → t = jpl A a.1 p → ∃ u, MX1_join_j53 N L (nI p) (nI t) = some u ∧ repL H (u.1, u.2.1, u.2.2.1, L.2.2.2.1, L.2.2.2.2.1, u.2.2.2, L.2.2.2.2.2.2) (aJoin A a p) := by
    intro t ht htl hj
    obtain ⟨g, hg, g1, g2⟩ := p_join_l (L := L) (f := L.1) (p := nI p) (t := t) (len := a.1.length) (by omega) N a.1.length L.1 htl (Nat.le_refl _) (by omega) (fun _ _ => rfl) (fun j h h' => by omega)
    unfold MX1_join_j53
    rw [r1, hg]
    unfold MX1_join_j88
    simp (disch := omega) only [nI_clamp, MG_ok, r1, k1, nI_add, k0]
    refine ⟨_, rfl, ?_⟩
    refine ⟨?_, ?_, ?_, ?_, ?_, r6⟩
    · show nI (a.1.length + 1) = nI (a.1.insertIdx (jpl A a.1 p) p).length
      rw [List.length_insertIdx_of_le_length jpl_le]
    · show repq (upd g t (nI p)) (a.1.insertIdx (jpl A a.1 p) p)
      rw [← hj]
      exact rep_ins r2 htl g1 g2
    · intro x hx
      show upd L.2.1 p (nI 1) x = nI (fset a.2.1 p 1 x)
      by_cases e : x = p
      · subst e; rw [pk_us, fset_s]
      · rw [pk_un e, fset_n e]; exact r3 x hx
    · intro x hx hx1
      show upd L.2.2.1 p (nI 0) x = nI (fset a.2.2.1 p 0 x)
      by_cases e : x = p
      · subst e; rw [pk_us, fset_s]
      · have hx1 : fset a.2.1 p 1 x = 1 := hx1
        rw [fset_n e] at hx1
        rw [pk_un e, fset_n e]; exact r4 x hx hx1
    · intro x hx hx3
      have hx3 : fset a.2.1 p 1 x = 3 := hx3
      have e : x ≠ p := by
        intro e
        subst e
        rw [fset_s] at hx3
        omega
      rw [fset_n e] at hx3
      exact r5 x hx hx3
  unfold MX1_join MX1_join_j52
  simp (disch := omega) only [k0, k9, nI_leI, nI_ltI, nI_clamp, MG_ok, if_neg, if_pos, r1]
  cases hq : a.1 with
  | nil =>
    simp only [List.length_nil, Nat.le_refl, if_true]
    exact key 0 (by omega) (by omega) (by rw [hq]; rfl)
  | cons t l =>
    have hm : t ∈ a.1 := by rw [hq]; exact List.mem_cons_self
    have ht := hw.q9 hm
    have h0 : L.1 0 = nI t := r2 0 t (by rw [hq]; rfl)
    rw [hq] at hlen
    simp only [List.length_cons] at hlen ⊢
    have hll : a.1.length = l.length + 1 := by rw [hq]; rfl
    simp (disch := omega) only [if_neg, h0, p_letsPass hP hA ht hp]
    by_cases hc : A.1 t = 1 ∧ (A.2.2.1 t = 0 ∨ A.2.2.1 t ≠ A.2.2.1 p)
    · rw [if_pos hc]
      simp only [Option.bind_some, n10, if_false, k1]
      exact key 1 (by omega) (by omega) (by rw [hq]; exact (if_pos hc).symm)
    · rw [if_neg hc]
      simp only [Option.bind_some, if_true]
      exact key 0 (by omega) (by omega) (by rw [hq]; exact (if_neg hc).symm)
