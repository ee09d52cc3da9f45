def aLp (f : Nat → ASt → ASt) : Nat → Nat → ASt → ASt
  | 0, _, a => a
  | k + 1, i, a => aLp f k (i + 1) (f i a)
def stJ (A : APl) (p : Nat) (a : ASt) : ASt := if a.2.1 p = 0 ∧ A.2.1 p = a.2.2.2.2.2.1 then aJoin A a p else a
def stS (A : APl) (p : Nat) (a : ASt) : ASt := if A.1 p = 2 ∧ a.2.1 p = 1 ∧ 4 ≤ a.2.2.1 p then aSnz a p else a
def aStd (a : ASt) : ASt := (a.1, a.2.1, (fun p => if a.2.1 p = 1 then a.2.2.1 p + 1 else a.2.2.1 p), a.2.2.2.1, a.2.2.2.2.1, a.2.2.2.2.2.1 + 1, a.2.2.2.2.2.2)
def aBak (A : APl) (two rum : Bool) (b : ASt) : ASt := if b.2.2.2.2.2.1 % A.2.2.2.2.1 = 0 then (if two then aGive A (aGive A b rum) (!rum) else aGive A b rum) else b
def aMin (A : APl) (two rum : Bool) (a : ASt) : ASt := aStd (aBak A two rum (aLp (stS A) A.2.2.2.1 0 (aLp (stJ A) A.2.2.2.1 0 a)))
theorem WF.joins1 {A : APl} {n c p : Nat} {a : ASt} (h : WF n c a) (hp : p < n) : WF n c (stJ A p a) := by
  unfold stJ
  split
  · rename_i h1
    exact h.join hp (by omega)
  · exact h
theorem WF.snz1 {A : APl} {n c p : Nat} {a : ASt} (h : WF n c a) : WF n c (stS A p a) := by
  unfold stS
  split
  · rename_i h1
    exact h.snz h1.2.1
  · exact h
theorem WF.lp {n c : Nat} {f : Nat → ASt → ASt} (hf : ∀ p a, p < n → WF n c a → WF n c (f p a)) : ∀ (k i : Nat) (a : ASt), i + k ≤ n → WF n c a → WF n c (aLp f k i a) := by
  intro k
  induction k with
  | zero => intro i a _ h; exact h
  | succ k ih => intro i a hi h; exact ih (i + 1) _ (by omega) (hf i a (by omega) h)
theorem lp_mi {f : Nat → ASt → ASt} (hf : ∀ p a, (f p a).2.2.2 = a.2.2.2) : ∀ (k i : Nat) (a : ASt), (aLp f k i a).2.2.2 = a.2.2.2 := by
  intro k
  induction k with
  | zero => intro i a; rfl
  | succ k ih => intro i a; rw [aLp, ih, hf]
theorem stJ_mi {A : APl} {p : Nat} {a : ASt} : (stJ A p a).2.2.2 = a.2.2.2 := by unfold stJ; split <;> rfl
theorem stS_mi {A : APl} {p : Nat} {a : ASt} : (stS A p a).2.2.2 = a.2.2.2 := by unfold stS; split <;> rfl
theorem p_joinAll_l {N : Nat} (hN : 100 ≤ N) {H : Nat} {L : LineV} {P : PlanV} {A : APl} {c : Nat} (hP : repP P A) (hA : WFP A) (hc : c ≤ 1000000) : ∀ (m k i : Nat) (y0 y1 y2 : Nat → Int32) (y5 : Int32) (a : ASt), i + k = A.2.2.2.1 → k < m → repL H (y0, y1, y2, L.2.2.2.1, L.2.2.2.2.1, y5, L.2.2.2.2.2.2) a → WF A.2.2.2.1 c a →
    ∃ u, MX1_joinAll_l2 N L P m (nI i) y0 y1 y2 y5 = some u ∧ repL H (u.1, u.2.1, u.2.2.1, L.2.2.2.1, L.2.2.2.2.1, u.2.2.2, L.2.2.2.2.2.2) (aLp (stJ A) k i a) := by
  have h9 := hA.1
  intro m
  induction m with
  | zero => intro k i y0 y1 y2 y5 a h1 h2; omega
  | succ m ih =>
    intro k i y0 y1 y2 y5 a h1 h2 hL hw
    rw [MX1_joinAll_l2, hP.2.1]
    cases k with
    | zero =>
      rw [if_pos (nI_le (by omega) (by omega))]
      exact ⟨_, rfl, hL⟩
    | succ k =>
      have hi : i < A.2.2.2.1 := by omega
      obtain ⟨r1, r2, r3, r4, r5, r6, r7, r8⟩ := id hL
      have r3i : y1 i = nI (a.2.1 i) := r3 i (by omega)
      have r6' : L.2.2.2.2.2.2.1 = nI a.2.2.2.2.2.1 := r6
      have hwi := hw.2.2.2.1 i
      have hmi := hw.2.2.2.2.2.2.2.1
      obtain ⟨b1, b2, b3⟩ := hP.1 i hi
      obtain ⟨d1, d2, d3⟩ := hA.2.2.1 i hi
      simp (disch := omega) only [k9, k1, k0, nI_leI, if_neg, nI_clamp, MG_ok, r3i, b2, r6', nI_eq, MX1_joinAll_j44, nI_add]
      rw [aLp]
      unfold stJ
      by_cases g1 : a.2.1 i = 0
      · by_cases g2 : A.2.1 i = a.2.2.2.2.2.1
        · obtain ⟨u, hu, hu2⟩ := p_join hN hP hA hL hw hi (by omega)
          have hu' : MX1_join N (y0, y1, y2, L.2.2.2.1, L.2.2.2.2.1, y5, L.2.2.2.2.2.2) P (nI i) = some u := hu
          rw [if_pos g1, if_pos g2, if_pos ⟨g1, g2⟩, hu']
          exact ih k (i + 1) _ _ _ _ _ (by omega) (by omega) hu2 (hw.join hi (by omega))
        · rw [if_pos g1, if_neg g2, if_neg (fun h => g2 h.2)]
          exact ih k (i + 1) _ _ _ _ _ (by omega) (by omega) hL hw
      · rw [if_neg g1, if_neg (fun h => g1 h.1)]
        exact ih k (i + 1) _ _ _ _ _ (by omega) (by omega) hL hw
theorem p_snzAll_l {N : Nat} (hN : 100 ≤ N) {H : Nat} {L : LineV} {P : PlanV} {A : APl} {c : Nat} (hP : repP P A) (hA : WFP A) (hc : c ≤ 1000000) : ∀ (m k i : Nat) (y0 y2 : Nat → Int32) (a : ASt), i + k = A.2.2.2.1 → k < m → repL H (y0, L.2.1, y2, L.2.2.2) a → WF A.2.2.2.1 c a →
    ∃ u, MX1_sneezeAll_l2 N L P m (nI i) y0 y2 = some u ∧ repL H (u.1, L.2.1, u.2, L.2.2.2) (aLp (stS A) k i a) := by
  have h9 := hA.1
  intro m
  induction m with
  | zero => intro k i y0 y2 a h1 h2; omega
  | succ m ih =>
    intro k i y0 y2 a h1 h2 hL hw
    rw [MX1_sneezeAll_l2, hP.2.1]
    cases k with
    | zero =>
      rw [if_pos (nI_le (by omega) (by omega))]
      exact ⟨_, rfl, hL⟩
    | succ k =>
      have hi : i < A.2.2.2.1 := by omega
      obtain ⟨r1, r2, r3, r4, r5, r6, r7, r8⟩ := id hL
      have r3i : L.2.1 i = nI (a.2.1 i) := r3 i (by omega)
      have hwi := hw.2.2.2.1 i
      have hsi := hw.2.2.2.2.1 i
      obtain ⟨b1, b2, b3⟩ := hP.1 i hi
      obtain ⟨d1, d2, d3⟩ := hA.2.2.1 i hi
      simp (disch := omega) only [k9, k1, k2, nI_leI, if_neg, nI_clamp, MG_ok, r3i, b1, nI_eq, MX1_sneezeAll_j51, nI_add]
      rw [aLp]
      unfold stS
      by_cases g1 : a.2.1 i = 1
      · have r4i : y2 i = nI (a.2.2.1 i) := r4 i (by omega) g1
        by_cases g2 : A.1 i = 2
        · by_cases g3 : 4 ≤ a.2.2.1 i
          · obtain ⟨u, hu, hu2⟩ := p_goToHead hN h9 hL hw g1
            have hu' : MX1_goToHead N (y0, L.2.1, y2, L.2.2.2) (nI i) = some u := hu
            rw [if_pos g1, if_pos g2, r4i, if_neg (show ¬ nI (a.2.2.1 i) < (4 : Int32) from nI_nlt g3 (by omega)), if_pos (show A.1 i = 2 ∧ a.2.1 i = 1 ∧ 4 ≤ a.2.2.1 i from ⟨g2, g1, g3⟩), hu']
            exact ih k (i + 1) _ _ _ (by omega) (by omega) hu2 (hw.snz g1)
          · rw [if_pos g1, if_pos g2, r4i, if_pos (show nI (a.2.2.1 i) < (4 : Int32) from nI_lt (b := 4) (by omega) (by omega)), if_neg (show ¬ (A.1 i = 2 ∧ a.2.1 i = 1 ∧ 4 ≤ a.2.2.1 i) from fun h => g3 h.2.2)]
            exact ih k (i + 1) _ _ _ (by omega) (by omega) hL hw
        · rw [if_pos g1, if_neg g2, if_neg (fun h => g2 h.1)]
          exact ih k (i + 1) _ _ _ (by omega) (by omega) hL hw
      · rw [if_neg g1, if_neg (fun h => g1 h.2.1)]
        exact ih k (i + 1) _ _ _ (by omega) (by omega) hL hw
theorem p_stand_l {L : LineV} {a : ASt} {n c : Nat} (hw : WF n c a) (hc : c ≤ 1000000) (h3 : ∀ p, p < 9 → L.2.1 p = nI (a.2.1 p)) (h4 : ∀ p, p < 9 → a.2.1 p = 1 → L.2.2.1 p = nI (a.2.2.1 p)) : ∀ (m i : Nat) (g : Nat → Int32), i ≤ 9 → 9 < m + i → (∀ p, p < i → a.2.1 p = 1 → g p = nI (a.2.2.1 p + 1)) → (∀ p, i ≤ p → g p = L.2.2.1 p) → ∃ g', MX1_standOn_l2 L m (nI i) g = some g' ∧ ∀ p, p < 9 → a.2.1 p = 1 → g' p = nI (a.2.2.1 p + 1) := by
  intro m
  induction m with
  | zero => intro i g h1 h2; omega
  | succ m ih =>
    intro i g h1 h2 g1 g2
    rw [MX1_standOn_l2]
    by_cases hi : i = 9
    · subst hi
      rw [if_pos (by decide)]
      exact ⟨g, rfl, g1⟩
    · have hwi := hw.2.2.2.1 i
      have h3i := h3 i (by omega)
      simp (disch := omega) only [k9, k1, nI_leI, if_neg, nI_clamp, MG_ok, h3i, nI_eq, MX1_standOn_j28, nI_add]
      by_cases q1 : a.2.1 i = 1
      · rw [if_pos q1]
        refine ih (i + 1) _ (by omega) (by omega) (fun p hp hp1 => ?_) (fun p hp => ?_)
        · by_cases e : p = i
          · subst e; rw [pk_us, g2 p (Nat.le_refl _), h4 p (by omega) q1, nI_add]
          · rw [pk_un e]; exact g1 p (by omega) hp1
        · rw [pk_un (by omega)]; exact g2 p (by omega)
      · rw [if_neg q1]
        refine ih (i + 1) _ (by omega) (by omega) (fun p hp hp1 => ?_) (fun p hp => g2 p (by omega))
        exact g1 p (by rcases Nat.lt_or_ge p i with q | q; exact q; exact absurd (by rwa [show p = i by omega] at hp1) q1) hp1
theorem WF.mono {n c d : Nat} {a : ASt} (h : WF n c a) (hcd : c ≤ d) : WF n d a := by
  obtain ⟨h1, h2, h3, h4, h5, h6, h7, h8, h9⟩ := h
  exact ⟨h1, h2, h3, h4, fun p => Nat.le_trans (h5 p) hcd, fun p => Nat.le_trans (h6 p) hcd, h7, by omega, by omega⟩
theorem WF.std {n c : Nat} {a : ASt} (h : WF n c a) : WF n (c + 1) (aStd a) := by
  obtain ⟨h1, h2, h3, h4, h5, h6, h7, h8, h9⟩ := h
  refine ⟨h1, h2, h3, h4, fun p => ?_, fun p => Nat.le_trans (h6 p) (by omega), h7, ?_, ?_⟩
  · show (if a.2.1 p = 1 then a.2.2.1 p + 1 else a.2.2.1 p) ≤ c + 1
    have := h5 p
    split <;> omega
  · show a.2.2.2.2.2.1 + 1 ≤ c + 1
    omega
  · show a.2.2.2.2.2.2 ≤ 2 * (c + 1)
    omega
