def gat (A : APl) (a : ASt) (f : Nat) : Nat → List Nat
  | 0 => []
  | i + 1 => if A.2.2.1 i = f ∧ a.2.1 i = 0 then gat A a f i ++ [i] else gat A a f i
theorem gat_mem {A : APl} {a : ASt} {f : Nat} : ∀ (i x : Nat), x ∈ gat A a f i → x < i ∧ a.2.1 x = 0 := by
  intro i
  induction i with
  | zero => intro x h; simp [gat] at h
  | succ i ih =>
    intro x h
    rw [gat] at h
    split at h
    · rename_i g
      rcases List.mem_append.mp h with q | q
      · have := ih x q
        exact ⟨by omega, this.2⟩
      · have := List.mem_singleton.mp q
        subst this
        exact ⟨by omega, g.2⟩
    · have := ih x h
      exact ⟨by omega, this.2⟩
theorem gat_len {A : APl} {a : ASt} {f : Nat} : ∀ (i : Nat), (gat A a f i).length ≤ cnt A.2.2.1 f i := by
  intro i
  induction i with
  | zero => exact Nat.le_refl _
  | succ i ih =>
    rw [gat, cnt]
    split
    · rename_i g
      rw [if_pos g.1, List.length_append]
      simp
      exact ih
    · split <;> omega
theorem gat_pre {A : APl} {a : ASt} {f i : Nat} : ∀ (k : Nat), ∃ r, gat A a f (i + k) = gat A a f i ++ r := by
  intro k
  induction k with
  | zero => exact ⟨[], by simp⟩
  | succ k ih =>
    obtain ⟨r, e⟩ := ih
    rw [show i + (k + 1) = i + k + 1 by omega, gat, e]
    split
    · exact ⟨r ++ [i + k], by simp⟩
    · exact ⟨r, rfl⟩
theorem gat_full {A : APl} {a : ASt} {f i n : Nat} (hi : i ≤ n) (h5 : (gat A a f n).length ≤ 5) (h : 5 ≤ (gat A a f i).length) : gat A a f n = gat A a f i := by
  obtain ⟨r, e⟩ := gat_pre (A := A) (a := a) (f := f) (i := i) (n - i)
  rw [show i + (n - i) = n by omega] at e
  rw [e, List.length_append] at h5
  have hr : r = [] := List.length_eq_zero_iff.mp (by omega)
  rw [e, hr, List.append_nil]
theorem gat_sort {A : APl} {a : ASt} {f : Nat} : ∀ (i : Nat), (gat A a f i).Pairwise (· < ·) := by
  intro i
  induction i with
  | zero => exact List.Pairwise.nil
  | succ i ih =>
    rw [gat]
    split
    · rw [List.pairwise_append]
      refine ⟨ih, List.pairwise_singleton _ _, fun x hx y hy => ?_⟩
      have h1 := (gat_mem i x hx).1
      have h2 := List.mem_singleton.mp hy
      omega
    · exact ih
theorem p_gather_l {N : Nat} {P : PlanV} {A : APl} {L : LineV} {a : ASt} {c f H : Nat} (hP : repP P A) (hA : WFP A) (hL : repL H L a) (hw : WF A.2.2.2.1 c a) (hf : f ≤ 4) (h5 : (gat A a f A.2.2.2.1).length ≤ 5) : ∀ (m k i : Nat) (O0 : Nat → Int32), i + k = A.2.2.2.1 → k < m → repq O0 (gat A a f i) →
    ∃ O1, MX2_gather_l8 N P L (nI f) m (nI i) O0 (nI (gat A a f i).length) = MX2_gather_j71 O1 (nI (gat A a f A.2.2.2.1).length) ∧ repq O1 (gat A a f A.2.2.2.1) := by
  have h9 := hA.1
  intro m
  induction m with
  | zero => intro k i O0 h1 h2; omega
  | succ m ih =>
    intro k i O0 h1 h2 hO
    rw [MX2_gather_l8, hP.2.1]
    cases k with
    | zero =>
      have e : i = A.2.2.2.1 := by omega
      subst e
      rw [if_pos (nI_le (by omega) (by omega))]
      exact ⟨_, rfl, hO⟩
    | succ k =>
      have hi : i < A.2.2.2.1 := by omega
      have hwi := hw.2.2.2.1 i
      obtain ⟨d1, d2, d3⟩ := hA.2.2.1 i hi
      have hl : (gat A a f i).length ≤ 5 := by
        obtain ⟨r, e⟩ := gat_pre (A := A) (a := a) (f := f) (i := i) (A.2.2.2.1 - i)
        rw [show i + (A.2.2.2.1 - i) = A.2.2.2.1 by omega] at e
        rw [e, List.length_append] at h5
        omega
      rw [if_neg (nI_ge hi (by omega))]
      by_cases g5 : 5 ≤ (gat A a f i).length
      · rw [if_pos (show (5 : Int32) ≤ nI (gat A a f i).length from nI_le (a := 5) g5 (by omega)), gat_full (by omega) h5 g5]
        exact ⟨_, rfl, hO⟩
      · rw [if_neg (show ¬ (5 : Int32) ≤ nI (gat A a f i).length from nI_ge (b := 5) (by omega) (by omega)), p_kinOf hP hA hi]
        simp only [Option.bind_some]
        rw [p_whereIs (N := N) hL (by omega)]
        simp only [Option.bind_some]
        unfold MX2_gather_j65
        rw [nI_1]
        by_cases g1 : A.2.2.1 i = f
        · by_cases g2 : a.2.1 i = 0
          · have eg : gat A a f (i + 1) = gat A a f i ++ [i] := by rw [gat, if_pos ⟨g1, g2⟩]
            rw [if_pos (show nI (A.2.2.1 i) = nI f by rw [g1]), if_pos (show nI (a.2.1 i) = (0 : Int32) by rw [g2]; rfl)]
            simp (disch := omega) only [MG_ok, nI_clamp]
            have := ih k (i + 1) (upd O0 (gat A a f i).length (nI i)) (by omega) (by omega) (by rw [eg]; exact rep_snoc hO)
            rw [eg, List.length_append] at this
            rw [nI_1]
            exact this
          · have eg : gat A a f (i + 1) = gat A a f i := by rw [gat, if_neg (fun q => g2 q.2)]
            rw [if_pos (show nI (A.2.2.1 i) = nI f by rw [g1]), if_neg (show ¬ nI (a.2.1 i) = (0 : Int32) from nI_ne (b := 0) (by omega) (by omega) g2)]
            have := ih k (i + 1) O0 (by omega) (by omega) (by rw [eg]; exact hO)
            rw [eg] at this
            exact this
        · have eg : gat A a f (i + 1) = gat A a f i := by rw [gat, if_neg (fun q => g1 q.1)]
          rw [if_neg (show ¬ nI (A.2.2.1 i) = nI f from nI_ne (by omega) (by omega) g1)]
          have := ih k (i + 1) O0 (by omega) (by omega) (by rw [eg]; exact hO)
          rw [eg] at this
          exact this
theorem p_mgather_l {N : Nat} {w F ord bst : Nat → Int32} {A : APl} {a : ASt} {c f : Nat} {G H R p2 : Int32} (hA : WFP A) (hF : rfF F A) (hK : repK 0 w A (mOf a)) (hw : WF A.2.2.2.1 c a) (hf : f ≤ 4) (h5 : (gat A a f A.2.2.2.1).length ≤ 5) : ∀ (m k i : Nat) (O0 : Nat → Int32), i + k = A.2.2.2.1 → k < m → repq O0 (gat A a f i) →
    ∃ O1, MX8_family_l31 N w (nI A.2.2.2.1) F G H R ord bst (nI f) p2 m (nI (gat A a f i).length) (nI i) O0 = MX8_family_j79 N w (nI A.2.2.2.1) F G H R ord bst p2 (nI (gat A a f A.2.2.2.1).length) O1 ∧ repq O1 (gat A a f A.2.2.2.1) := by
  have h9 := hA.1
  intro m
  induction m with
  | zero => intro k i O0 h1 h2; omega
  | succ m ih =>
    intro k i O0 h1 h2 hO
    rw [MX8_family_l31]
    cases k with
    | zero =>
      have e : i = A.2.2.2.1 := by omega
      subst e
      rw [if_pos (nI_le (by omega) (by omega))]
      exact ⟨_, rfl, hO⟩
    | succ k =>
      have hi : i < A.2.2.2.1 := by omega
      have hwi := hw.2.2.2.1 i
      obtain ⟨d1, d2, d3⟩ := hA.2.2.1 i hi
      have e2 : MX8_isWhere N w (0 : Int32) (nI i) (0 : Int32) = some (bI (decide (a.2.1 i = 0))) := p_misWhere (N := N) (r := 0) (v := 0) (by omega) hK (by omega) hwi (by omega)
      rw [if_neg (nI_ge hi (by omega)), e2]
      simp (disch := omega) only [MG_ok, nI_clamp, hF i hi, Option.bind_some]
      unfold MX8_family_j73
      rw [nI_1]
      by_cases g1 : A.2.2.1 i = f
      · by_cases g2 : a.2.1 i = 0
        · have eg : gat A a f (i + 1) = gat A a f i ++ [i] := by rw [gat, if_pos ⟨g1, g2⟩]
          have hl : (gat A a f i).length + 1 ≤ 5 := by
            obtain ⟨r, e⟩ := gat_pre (A := A) (a := a) (f := f) (i := i + 1) (A.2.2.2.1 - (i + 1))
            rw [show i + 1 + (A.2.2.2.1 - (i + 1)) = A.2.2.2.1 by omega] at e
            rw [e, eg, List.length_append, List.length_append] at h5
            simp at h5
            omega
          rw [if_pos (show nI (A.2.2.1 i) = nI f by rw [g1]), decide_eq_true g2, bt]
          simp (disch := omega) only [MG_ok, nI_clamp]
          have := ih k (i + 1) (upd O0 (gat A a f i).length (nI i)) (by omega) (by omega) (by rw [eg]; exact rep_snoc hO)
          rw [eg, List.length_append] at this
          rw [nI_1]
          exact this
        · have eg : gat A a f (i + 1) = gat A a f i := by rw [gat, if_neg (fun q => g2 q.2)]
          rw [if_pos (show nI (A.2.2.1 i) = nI f by rw [g1]), decide_eq_false g2, bf]
          have := ih k (i + 1) O0 (by omega) (by omega) (by rw [eg]; exact hO)
          rw [eg] at this
          exact this
      · have eg : gat A a f (i + 1) = gat A a f i := by rw [gat, if_neg (fun q => g1 q.1)]
        rw [if_neg (show ¬ nI (A.2.2.1 i) = nI f from nI_ne (by omega) (by omega) g1)]
        have := ih k (i + 1) O0 (by omega) (by omega) (by rw [eg]; exact hO)
        rw [eg] at this
        exact this
