theorem WF.bak {A : APl} {n c : Nat} {two rum : Bool} {a : ASt} (hH : A.2.2.2.2.2.1 ≤ 40) (h : WF n c a) : WF n (c + 1) (aBak A two rum a) := by
  have h9 := h.2.2.2.2.2.2.2.2
  have hg := (h.mono (d := c + 1) (by omega)).give (A := A) (head := rum) hH (by omega)
  have hl : (aGive A a rum).2.2.2.2.2.2 ≤ a.2.2.2.2.2.2 + 1 := by
    unfold aGive
    split
    · omega
    · exact Nat.le_refl _
  unfold aBak
  split
  · split
    · exact hg.give hH (by omega)
    · exact hg
  · exact h.mono (by omega)
theorem WF.min {A : APl} {c : Nat} {two rum : Bool} {a : ASt} (hA : WFP A) (h : WF A.2.2.2.1 c a) : WF A.2.2.2.1 (c + 2) (aMin A two rum a) := by
  have w1 := WF.lp (f := stJ A) (fun p a hp h => h.joins1 hp) A.2.2.2.1 0 a (by omega) h
  have w2 := WF.lp (f := stS A) (fun p a hp h => h.snz1) A.2.2.2.1 0 _ (by omega) w1
  exact (w2.bak hA.2.2.2.2.2.1).std
theorem p_goOn {N : Nat} (hN : 100 ≤ N) {L : LineV} {P : PlanV} {A : APl} {a : ASt} {c : Nat} {two rum : Bool} (hP : repP P A) (hA : WFP A) (hL : repL A.2.2.2.2.2.1 L a) (hw : WF A.2.2.2.1 c a) (hc : c ≤ 999999) :
    ∃ u, MX1_goOn N L P (bI rum) (bI two) = some u ∧ repL A.2.2.2.2.2.1 u (aMin A two rum a) := by
  have h9 := hA.1
  have hm := hw.2.2.2.2.2.2.2.1
  have hlo := hw.2.2.2.2.2.2.2.2
  have hH : A.2.2.2.2.2.1 ≤ 40 := hA.2.2.2.2.2.1
  have r6 : L.2.2.2.2.2.2.1 = nI a.2.2.2.2.2.1 := hL.2.2.2.2.2.1
  obtain ⟨u2, e2, q2⟩ := p_joinAll_l (L := L) hN hP hA (by omega) N A.2.2.2.1 0 L.1 L.2.1 L.2.2.1 L.2.2.2.2.2.1 a (by omega) (by omega) hL hw
  have e2' : MX1_joinAll N L P = some u2 := e2
  have w1 := WF.lp (f := stJ A) (fun p a hp h => h.joins1 hp) A.2.2.2.1 0 a (by omega) hw
  obtain ⟨u7, e7, q7⟩ := p_snzAll_l (L := (u2.1, u2.2.1, u2.2.2.1, L.2.2.2.1, L.2.2.2.2.1, u2.2.2.2, L.2.2.2.2.2.2)) hN hP hA (by omega) N A.2.2.2.1 0 u2.1 u2.2.2.1 _ (by omega) (by omega) q2 w1
  have e7' : MX1_sneezeAll N (u2.1, u2.2.1, u2.2.2.1, L.2.2.2.1, L.2.2.2.2.1, u2.2.2.2, L.2.2.2.2.2.2) P = some u7 := e7
  have w2 := WF.lp (f := stS A) (fun p a hp h => h.snz1) A.2.2.2.1 0 _ (by omega) w1
  have m2 : (aLp (stS A) A.2.2.2.1 0 (aLp (stJ A) A.2.2.2.1 0 a)).2.2.2.2.2.1 = a.2.2.2.2.2.1 := by
    rw [lp_mi (fun p a => stS_mi), lp_mi (fun p a => stJ_mi)]
  unfold MX1_goOn aMin
  rw [e2']
  simp only [Option.bind_some]
  rw [e7']
  simp only [Option.bind_some]
  rw [r6, p_givesIn hP hA (by omega)]
  simp only [Option.bind_some]
  have wb := w2.bak (A := A) (two := two) (rum := rum) hH
  generalize aLp (stS A) A.2.2.2.1 0 (aLp (stJ A) A.2.2.2.1 0 a) = b at *
  unfold aBak at *
  rw [m2] at *
  by_cases g : a.2.2.2.2.2.1 % A.2.2.2.2.1 = 0
  · rw [decide_eq_true g, if_neg (by decide)]
    rw [if_pos g] at *
    obtain ⟨u24, e24, q24⟩ := p_give (head := rum) hN hP hA q7 w2 (by omega)
    have e24' : MX1_giveLoaf N (u7.1, u2.2.1, u7.2, L.2.2.2.1, L.2.2.2.2.1, u2.2.2.2, L.2.2.2.2.2.2) P (bI rum) = some u24 := e24
    rw [e24']
    simp only [Option.bind_some]
    cases two with
    | false =>
      rw [if_pos bI_f, if_neg (by decide)]
      rw [if_neg (by decide)] at wb
      obtain ⟨g', hg1, hg2⟩ := p_standOn hN q24 wb (by omega)
      refine ⟨_, ?_, hg2⟩
      unfold MX1_goOn_j45
      have hg1' : MX1_standOn N (u24.1, u24.2.1, u7.2, u24.2.2.1, u24.2.2.2.1, u24.2.2.2.2.1, L.2.2.2.2.2.2.1, u24.2.2.2.2.2.1, u24.2.2.2.2.2.2) = some g' := hg1
      rw [hg1']
      rfl
    | true =>
      have hg := (w2.mono (d := c + 1) (by omega)).give (A := A) (head := rum) hH (by have := w2.2.2.2.2.2.2.2.2; omega)
      rw [if_neg (show ¬ bI true = 0 by decide), if_pos rfl]
      rw [if_pos rfl] at wb
      obtain ⟨u42, e42, q42⟩ := p_give (head := !rum) hN hP hA q24 hg (by omega)
      obtain ⟨g', hg1, hg2⟩ := p_standOn hN q42 wb (by omega)
      have hg1' : MX1_standOn N (u42.1, u42.2.1, u7.2, u42.2.2.1, u42.2.2.2.1, u42.2.2.2.2.1, L.2.2.2.2.2.2.1, u42.2.2.2.2.2.1, u42.2.2.2.2.2.2) = some g' := hg1
      have e42' : MX1_giveLoaf N (u24.1, u24.2.1, u7.2, u24.2.2.1, u24.2.2.2.1, u24.2.2.2.2.1, L.2.2.2.2.2.2.1, u24.2.2.2.2.2.1, u24.2.2.2.2.2.2) P (bI (!rum)) = some u42 := e42
      refine ⟨_, ?_, hg2⟩
      cases rum with
      | false =>
        rw [if_pos bI_f]
        unfold MX1_goOn_j42
        have e : MX1_giveLoaf N (u24.1, u24.2.1, u7.2, u24.2.2.1, u24.2.2.2.1, u24.2.2.2.2.1, L.2.2.2.2.2.2.1, u24.2.2.2.2.2.1, u24.2.2.2.2.2.2) P (1 : Int32) = some u42 := e42'
        rw [e]
        simp only [Option.bind_some]
        unfold MX1_goOn_j45
        rw [hg1']
        rfl
      | true =>
        rw [if_neg (show ¬ bI true = 0 by decide)]
        unfold MX1_goOn_j42
        have e : MX1_giveLoaf N (u24.1, u24.2.1, u7.2, u24.2.2.1, u24.2.2.2.1, u24.2.2.2.2.1, L.2.2.2.2.2.2.1, u24.2.2.2.2.2.1, u24.2.2.2.2.2.2) P (0 : Int32) = some u42 := e42'
        rw [e]
        simp only [Option.bind_some]
        unfold MX1_goOn_j45
        rw [hg1']
        rfl
  · rw [decide_eq_false g, if_pos bI_f]
    rw [if_neg g] at *
    obtain ⟨g', hg1, hg2⟩ := p_standOn hN q7 w2 (by omega)
    refine ⟨_, ?_, hg2⟩
    unfold MX1_goOn_j45
    have hg1' : MX1_standOn N (u7.1, u2.2.1, u7.2, L.2.2.2.1, L.2.2.2.2.1, u2.2.2.2, L.2.2.2.2.2.2.1, L.2.2.2.2.2.2.2.1, L.2.2.2.2.2.2.2.2) = some g' := hg1
    rw [hg1']
    rfl
def aRun (A : APl) : Nat → ASt → ASt
  | 0, a => a
  | k + 1, a => aRun A k (aMin A false (rumAt A a.2.2.2.2.2.1) a)
theorem WF.run {A : APl} (hA : WFP A) : ∀ (k c : Nat) (a : ASt), WF A.2.2.2.1 c a → WF A.2.2.2.1 (c + 2 * k) (aRun A k a) := by
  intro k
  induction k with
  | zero => intro c a h; exact h
  | succ k ih =>
    intro c a h
    have := ih (c + 2) _ (h.min (two := false) (rum := rumAt A a.2.2.2.2.2.1) hA)
    rwa [show c + 2 * (k + 1) = c + 2 + 2 * k by omega]
theorem p_run_l {N : Nat} (hN : 100 ≤ N) {P : PlanV} {A : APl} (hP : repP P A) (hA : WFP A) : ∀ (m k i c : Nat) (L : LineV) (a : ASt), k < m → i + k < 1000000 → repL A.2.2.2.2.2.1 L a → WF A.2.2.2.1 c a → c + 2 * k ≤ 999999 →
    ∃ u, MX1_run_l2 N P (nI (i + k)) m (nI i) L.1 L.2.1 L.2.2.1 L.2.2.2.1 L.2.2.2.2.1 L.2.2.2.2.2.1 L.2.2.2.2.2.2.1 L.2.2.2.2.2.2.2.1 L.2.2.2.2.2.2.2.2 = some u ∧ repL A.2.2.2.2.2.1 u (aRun A k a) := by
  intro m
  induction m with
  | zero => intro k i c L a h; omega
  | succ m ih =>
    intro k i c L a h1 h2 hL hw hc
    rw [MX1_run_l2]
    cases k with
    | zero =>
      rw [if_pos (nI_le (by omega) (by omega))]
      exact ⟨_, rfl, hL⟩
    | succ k =>
      have hm := hw.2.2.2.2.2.2.2.1
      have r6 : L.2.2.2.2.2.2.1 = nI a.2.2.2.2.2.1 := hL.2.2.2.2.2.1
      have hr : MX3_rumourIn N P L.2.2.2.2.2.2.1 = some (bI (rumAt A a.2.2.2.2.2.1)) := by rw [r6]; exact p_rumourIn hP hA (by omega)
      obtain ⟨u, e, q⟩ := p_goOn (two := false) (rum := rumAt A a.2.2.2.2.2.1) hN hP hA hL hw (by omega)
      have e' : MX1_goOn N (L.1, L.2.1, L.2.2.1, L.2.2.2.1, L.2.2.2.2.1, L.2.2.2.2.2.1, L.2.2.2.2.2.2.1, L.2.2.2.2.2.2.2.1, L.2.2.2.2.2.2.2.2) P (bI (rumAt A a.2.2.2.2.2.1)) 0 = some u := e
      rw [if_neg (show ¬ nI (i + (k + 1)) ≤ nI i from nI_ge (by omega) (by omega)), hr]
      simp only [Option.bind_some]
      rw [e']
      simp only [Option.bind_some]
      rw [nI_1]
      have := ih k (i + 1) (c + 2) u _ (by omega) (by omega) q (hw.min hA) (by omega)
      rwa [show i + 1 + k = i + (k + 1) by omega] at this
theorem p_run {N : Nat} (hN : 100 ≤ N) {P : PlanV} {A : APl} {k c : Nat} {L : LineV} {a : ASt} (hP : repP P A) (hA : WFP A) (hk : k < N) (hL : repL A.2.2.2.2.2.1 L a) (hw : WF A.2.2.2.1 c a) (hc : c + 2 * k ≤ 999999) : ∃ u, MX1_run N L P (nI k) = some u ∧ repL A.2.2.2.2.2.1 u (aRun A k a) := by
  have := p_run_l hN hP hA N k 0 c L a hk (by omega) hL hw hc
  rwa [Nat.zero_add] at this
