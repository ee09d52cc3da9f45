def mGo (b : MSt) (p k : Nat) : MSt := (b.1.erase p, fset b.2.1 p k, fset b.2.2.1 p 0, b.2.2.2)
theorem p_mgoes_l {r : Nat} (hr : r + 66 ≤ 792) {f : Nat → Int32} {p k : Int32} {t len : Nat} (hl : len ≤ 9) (h0 : 0 < len) (hs : f (r + 2) = nI len) : ∀ (n i : Nat) (g : Nat → Int32), t ≤ i → i + 1 ≤ len → len < n + i + 1 → (∀ j, j < t → g (r + 3 + j) = f (r + 3 + j)) → (∀ j, t ≤ j → j < i → g (r + 3 + j) = f (r + 3 + (j + 1))) → (∀ j, i ≤ j → g (r + 3 + j) = f (r + 3 + j)) → (∀ i, i < r + 3 ∨ r + 12 ≤ i → g i = f i) →
    ∃ g', MX8_goes_l8 (nI r) p k n (nI i) g = MX8_goes_j53 (nI r) p k g' ∧ (∀ j, j < t → g' (r + 3 + j) = f (r + 3 + j)) ∧ (∀ j, t ≤ j → j + 1 < len → g' (r + 3 + j) = f (r + 3 + (j + 1))) ∧ (∀ i, i < r + 3 ∨ r + 12 ≤ i → g' i = f i) := by
  intro n
  have e0 : nI len - nI 1 = nI (len - 1) := pk_sub (by omega)
  induction n with
  | zero => intro i g h1 h2 h3; omega
  | succ n ih =>
    intro i g h1 h2 h3 h4 h5 h6 h7
    rw [MX8_goes_l8]
    have hgs : g (r + 2) = nI len := by rw [h7 _ (by omega)]; exact hs
    by_cases hi : i + 1 = len
    · refine ⟨g, ?_, h4, fun j hj hj2 => h5 j hj (by omega), h7⟩
      simp (disch := omega) only [k1, k2, nI_add, nI_clamp, MG_ok, hgs, e0, nI_leI, if_pos]
    · simp (disch := omega) only [k1, k2, k3, nI_add, nI_clamp, MG_ok, hgs, e0, nI_leI, if_neg]
      refine ih (i + 1) _ (by omega) (by omega) (by omega) (fun j hj => ?_) (fun j hj hj2 => ?_) (fun j hj => ?_) (fun x hx => ?_)
      · rw [pk_un (by omega)]; exact h4 j hj
      · by_cases e : j = i
        · subst e; rw [pk_us]; exact h6 (j + 1) (by omega)
        · rw [pk_un (by omega)]; exact h5 j hj (by omega)
      · rw [pk_un (by omega)]; exact h6 j (by omega)
      · rw [pk_un (by omega)]; exact h7 x hx
theorem p_mgoes {N : Nat} (hN : 100 ≤ N) {r : Nat} (hr : r + 66 ≤ 792) {w : Nat → Int32} {A : APl} {b : MSt} (hA9 : A.2.2.2.1 ≤ 9) (hK : repK r w A b) (hl : b.1.length ≤ 9) (hq : ∀ x ∈ b.1, x < 9) {p k : Nat} (hp : p ∈ b.1) : ∃ w', MX8_goes N w (nI r) (nI p) (nI k) = some w' ∧ repK r w' A (mGo b p k) ∧ frm r w w' := by
  have hp9 := hq p hp
  have hpl := p_mplaceOf hN hr hK hl hq (p := p) (by omega)
  rw [if_pos hp] at hpl
  have hix : b.1.idxOf p < b.1.length := List.idxOf_lt_length_of_mem hp
  obtain ⟨r1, r2, r3, r4, r5, r6, r7, r8, r9⟩ := hK
  obtain ⟨g, hg, g1, g2, g3⟩ := p_mgoes_l hr (f := w) (p := nI p) (k := nI k) (t := b.1.idxOf p) hl (by omega) r3 N (b.1.idxOf p) w (Nat.le_refl _) (by omega) (by omega) (fun _ _ => rfl) (fun j h h' => by omega) (fun _ _ => rfl) (fun _ _ => rfl)
  have hg2 : g (r + 2) = nI b.1.length := by rw [g3 _ (by omega), r3]
  have e0 : nI b.1.length - nI 1 = nI (b.1.length - 1) := pk_sub (by omega)
  unfold MX8_goes
  rw [hpl]
  simp only [Option.bind_some]
  rw [hg]
  unfold MX8_goes_j53
  simp (disch := omega) only [k0, k1, k2, k12, k21, nI_add, nI_clamp, MG_ok, hg2, e0]
  refine ⟨_, rfl, ⟨?_, ?_, ?_, ?_, ?_, ?_, ?_, ?_, ?_⟩, ?_⟩
  · rw [pk_un (by omega), pk_un (by omega), pk_un (by omega), g3 _ (by omega)]; exact r1
  · rw [pk_un (by omega), pk_un (by omega), pk_un (by omega), g3 _ (by omega)]; exact r2
  · rw [pk_un (by omega), pk_un (by omega), pk_us]
    show nI (b.1.length - 1) = nI (b.1.erase p).length
    rw [List.length_erase_of_mem hp]
  · intro i x hx
    have hx : (b.1.erase p)[i]? = some x := hx
    have hil : i < (b.1.erase p).length := (List.getElem?_eq_some_iff.mp hx).1
    rw [List.length_erase_of_mem hp] at hil
    rw [erase_idx hp] at hx
    have key := rep_del (f := fun j => w (r + 3 + j)) (g := fun j => g (r + 3 + j)) r4 hix g1 g2 i x hx
    rw [pk_un (by omega), pk_un (by omega), pk_un (by omega)]
    exact key
  · intro x hx
    show _ = nI (fset b.2.1 p k x)
    rw [pk_un (by omega)]
    by_cases e : x = p
    · subst e; rw [pk_us, fset_s]
    · rw [pk_un (by omega), pk_un (by omega), g3 _ (by omega), fset_n e]; exact r5 x hx
  · intro x hx
    show _ = nI (fset b.2.2.1 p 0 x)
    by_cases e : x = p
    · subst e; rw [pk_us, fset_s]
    · rw [pk_un (by omega), pk_un (by omega), pk_un (by omega), g3 _ (by omega), fset_n e]; exact r6 x hx
  · intro x hx
    rw [pk_un (by omega), pk_un (by omega), pk_un (by omega), g3 _ (by omega)]; exact r7 x hx
  · intro x hx
    rw [pk_un (by omega), pk_un (by omega), pk_un (by omega), g3 _ (by omega)]; exact r8 x hx
  · intro x hx
    rw [pk_un (by omega), pk_un (by omega), pk_un (by omega), g3 _ (by omega), pk_un (by omega), pk_un (by omega), pk_un (by omega), g3 _ (by omega)]; exact r9 x hx
  · intro i hi
    rw [pk_un (by omega), pk_un (by omega), pk_un (by omega), g3 _ (by omega)]
def rfF (F : Nat → Int32) (A : APl) : Prop := ∀ p, p < A.2.2.2.1 → F p = nI (A.2.2.1 p)
theorem p_mjoins {N : Nat} (hN : 100 ≤ N) {r : Nat} (hr : r + 66 ≤ 792) {w F : Nat → Int32} {A : APl} {b : MSt} (hA : WFP A) (hF : rfF F A) (hK : repK r w A b) (hl : b.1.length ≤ 8) (hq : ∀ x ∈ b.1, x < A.2.2.2.1) {p : Nat} (hp : p < A.2.2.2.1) : ∃ w', MX8_joins N w F (nI r) (nI p) = some w' ∧ repK r w' A (mStand b p (jpl A b.1 p)) ∧ frm r w w' := by
  have h9 := hA.1
  have r3 := hK.2.2.1
  have key : ∀ t, t ≤ 1 → t ≤ b.1.length → t = jpl A b.1 p → ∃ w', MX8_joins_j90 N w (nI r) (nI p) (nI t) = some w' ∧ repK r w' A (mStand b p (jpl A b.1 p)) ∧ frm r w w' := by
    intro t ht htl hj
    obtain ⟨w', e, q1, q2⟩ := p_mstands hN hr h9 hK hl (p := p) (t := t) (by omega) htl
    refine ⟨w', ?_, hj ▸ q1, q2⟩
    unfold MX8_joins_j90
    rw [e]
    rfl
  unfold MX8_joins MX8_joins_j24 MX8_joins_j74 MX8_joins_j70 MX8_joins_j75
  simp (disch := omega) only [k0, k1, k2, k3, nI_add, nI_clamp, MG_ok, r3, nI_eq, if_true, Nat.one_ne_zero, if_false]
  cases hb : b.1 with
  | nil =>
    rw [if_pos (show ([] : List Nat).length = 0 from rfl)]
    have := key 0 (by omega) (by omega) (by rw [hb]; rfl)
    rwa [hb] at this
  | cons t l =>
    have hm : t ∈ b.1 := by rw [hb]; exact List.mem_cons_self
    have ht := hq t hm
    have hw3 : w (r + 3) = nI t := hK.2.2.2.1 0 t (by rw [hb]; rfl)
    obtain ⟨c1, c2⟩ := hK.2.2.2.2.2.2.2.2 t ht
    obtain ⟨d1, d2, d3⟩ := hA.2.2.1 t ht
    obtain ⟨f1, f2, f3⟩ := hA.2.2.1 p hp
    have hll : b.1.length = l.length + 1 := by rw [hb]; rfl
    have ne4 : ¬ (nI t = (-4 : Int32)) := by
      intro e
      have := nI_pos' (n := t) (by omega)
      rw [e] at this
      exact absurd this (by decide)
    rw [if_neg (show ¬ (t :: l).length = 0 by simp), hw3, if_neg ne4]
    simp (disch := omega) only [k57, k9, nI_add, nI_clamp, MG_ok, c2, nI_eq, hF p hp, hF t ht]
    rw [← hb]
    by_cases g1 : A.1 t = 1
    · rw [if_pos g1]
      by_cases g2 : A.2.2.1 p = 0
      · rw [if_pos g2]
        refine key 1 (by omega) (by omega) ?_
        rw [hb]
        refine (if_pos ⟨g1, ?_⟩).symm
        omega
      · rw [if_neg g2]
        by_cases g3 : A.2.2.1 p = A.2.2.1 t
        · rw [if_pos g3]
          refine key 0 (by omega) (by omega) ?_
          rw [hb]
          refine (if_neg ?_).symm
          omega
        · rw [if_neg g3]
          refine key 1 (by omega) (by omega) ?_
          rw [hb]
          refine (if_pos ⟨g1, ?_⟩).symm
          omega
    · rw [if_neg g1]
      refine key 0 (by omega) (by omega) ?_
      rw [hb]
      refine (if_neg ?_).symm
      omega
def mSnz (b : MSt) (p : Nat) : MSt := (b.1.erase p ++ [p], fset b.2.1 p 1, fset b.2.2.1 p 0, b.2.2.2)
theorem fset_fset {f : Nat → Nat} {p v v' : Nat} : fset (fset f p v) p v' = fset f p v' := by
  funext x
  by_cases e : x = p
  · subst e; rw [fset_s, fset_s]
  · rw [fset_n e, fset_n e, fset_n e]
theorem p_msneezes {N : Nat} (hN : 100 ≤ N) {r : Nat} (hr : r + 66 ≤ 792) {w : Nat → Int32} {A : APl} {b : MSt} (hA9 : A.2.2.2.1 ≤ 9) (hK : repK r w A b) (hl : b.1.length ≤ 9) (hq : ∀ x ∈ b.1, x < 9) {p : Nat} (hp : p ∈ b.1) : ∃ w', MX8_sneezes N w (nI r) (nI p) = some w' ∧ repK r w' A (mSnz b p) ∧ frm r w w' := by
  have hp9 := hq p hp
  have hle := List.length_erase_of_mem hp
  have hpos := List.length_pos_of_mem hp
  obtain ⟨w1, e1, q1, f1⟩ := p_mgoes hN hr hA9 hK hl hq (k := 1) hp
  have hs : w1 (r + 2) = nI (b.1.erase p).length := q1.2.2.1
  obtain ⟨w2, e2, q2, f2⟩ := p_mstands hN hr hA9 q1 (p := p) (t := (b.1.erase p).length) (by show (b.1.erase p).length ≤ 8; omega) hp9 (Nat.le_refl _)
  have e1' : MX8_goes N w (nI r) (nI p) (1 : Int32) = some w1 := e1
  refine ⟨w2, ?_, ?_, f1.tr f2⟩
  · unfold MX8_sneezes
    rw [e1']
    simp (disch := omega) only [Option.bind_some, k2, nI_add, nI_clamp, MG_ok, hs]
    rw [e2]
    rfl
  · have e : mStand (mGo b p 1) p (b.1.erase p).length = mSnz b p := by
      unfold mStand mGo mSnz
      simp only [fset_fset, List.insertIdx_length_self]
    rw [← e]
    exact q2
