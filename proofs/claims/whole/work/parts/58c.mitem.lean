abbrev RdV : Type := Int32 × Int32 × Int32 × Int32 × (Nat → Int32) × (Nat → Int32) × (Nat → Int32) × Int32 × Int32 × Int32
def rM (v : RdV) : PlanV := (v.2.2.2.2.1, v.2.2.2.2.2.1, v.2.2.2.2.2.2.1, v.2.2.2.1, v.2.2.2.2.2.2.2.1, v.2.2.2.2.2.2.2.2.1, v.2.2.2.2.2.2.2.2.2)
def cz (A : APl) (v i : Nat) : Nat := if v = 0 then 0 else cnt A.2.2.1 v i
theorem m_cnt_l {N : Nat} {Q : PlanV} {A : APl} {v : Nat} {u14 u33 u51 : Int32 × Int32 × Int32} (hQ : repP Q A) (hA : WD A) (hv : v < 1000) (hu : u51.2.2 = nI v) : ∀ (m k i : Nat), i + k = A.2.2.2.1 → k < m → MX8_takesPerson_l64 N (nI A.2.2.2.1) Q.1 Q.2.1 Q.2.2.1 u14 u33 u51 m (nI (cz A v i)) (nI i) = MX8_takesPerson_j108 N (nI A.2.2.2.1) Q.1 Q.2.1 Q.2.2.1 u14 u33 u51 (nI (cz A v A.2.2.2.1)) := by
  have h9 := hA.1
  intro m
  induction m with
  | zero => intro k i h1 h2; omega
  | succ m ih =>
    intro k i h1 h2
    rw [MX8_takesPerson_l64]
    cases k with
    | zero =>
      have e : i = A.2.2.2.1 := by omega
      subst e
      rw [if_pos (nI_le (by omega) (by omega))]
    | succ k =>
      have hi : i < A.2.2.2.1 := by omega
      have hb := (hQ.1 i hi).2.2
      have hd := hA.2.1 i hi
      have := ih k (i + 1) (by omega) (by omega)
      rw [if_neg (nI_ge hi (by omega)), hu]
      unfold MX8_takesPerson_j99 MX8_takesPerson_j100
      simp only [MLet]
      rw [nI_1 i]
      unfold cz at this ⊢
      by_cases g : v = 0
      · rw [if_pos g] at this ⊢
        rw [if_pos (show nI v ≤ (0 : Int32) by rw [g]; decide), show nI 0 + (0 : Int32) = nI 0 from rfl]
        rw [if_pos g] at this ⊢
        exact this
      · rw [if_neg g, if_neg g] at this
        rw [if_neg g, if_neg g, if_neg (nI_nle (by omega) (by omega))]
        simp (disch := omega) only [MG_ok, nI_clamp, hb, nI_eq]
        rw [cnt] at this
        by_cases e : A.2.2.1 i = v
        · rw [if_pos e] at this ⊢
          rw [nI_1]
          exact this
        · rw [if_neg e] at this ⊢
          rw [show nI (cnt A.2.2.1 v i) + (0 : Int32) = nI (cnt A.2.2.1 v i + 0) from nI_add _ 0]
          exact this
theorem m_person {N : Nat} (hN : 100 ≤ N) {Q : PlanV} {A : APl} {tx : Nat → Int32} {tn num : Int32} {tl : List Nat} (h : TXm tx tn tl) (hQ : repP Q A) (hA : WD A) {j : Nat} (hj : j < 300) : (∃ v0 j0 v1 j1 v2 j2, nm tl j 44 = some (v0, j0) ∧ nm tl j0 44 = some (v1, j1) ∧ nm tl j1 59 = some (v2, j2) ∧ okP A v0 v2 ∧ MX8_takesPerson N tx tn (nI j) num (nI A.2.2.2.1) Q.1 Q.2.1 Q.2.2.1 = some (1, nI j2, nI v2, nI (A.2.2.2.1 + 1), upd Q.1 A.2.2.2.1 (nI v0), upd Q.2.1 A.2.2.2.1 (nI v1), upd Q.2.2.1 A.2.2.2.1 (nI v2))) ∨ ((∀ v0 j0 v1 j1 v2 j2, nm tl j 44 = some (v0, j0) → nm tl j0 44 = some (v1, j1) → nm tl j1 59 = some (v2, j2) → ¬ okP A v0 v2) ∧ ∃ u, MX8_takesPerson N tx tn (nI j) num (nI A.2.2.2.1) Q.1 Q.2.1 Q.2.2.1 = some u ∧ u.1 = 0) := by
  have h9 := hA.1
  have hl := h.2.1
  unfold MX8_takesPerson
  by_cases g9 : A.2.2.2.1 = 9
  · right
    rw [if_pos (show nI A.2.2.2.1 = (9 : Int32) by rw [g9]; rfl)]
    exact ⟨fun _ _ _ _ _ _ _ _ _ o => by have := o.1; omega, _, rfl, rfl⟩
  rw [if_neg (show ¬ nI A.2.2.2.1 = (9 : Int32) from nI_ne (b := 9) (by omega) (by omega) g9)]
  rcases p_takes hN (lo := 0) (hi := 3) (sg := 44) h j (by omega) (by omega) (by omega) with ⟨v0, j0, a1, a2, a3, a4⟩ | ⟨a1, y, z, a4⟩
  · have a4' : MX8_takesNumber N tx tn (nI j) (0 : Int32) (3 : Int32) (44 : Int32) = some (1, nI j0, nI v0) := a4
    obtain ⟨q1, q2, q3⟩ := nm_le (by omega) a1
    rw [a4']
    simp only [Option.bind_some]
    rw [b1]
    rcases p_takes hN (lo := 0) (hi := 99) (sg := 44) h j0 (by omega) (by omega) (by omega) with ⟨v1, j1, c1, c2, c3, c4⟩ | ⟨c1, y, z, c4⟩
    · have c4' : MX8_takesNumber N tx tn (nI j0) (0 : Int32) (99 : Int32) (44 : Int32) = some (1, nI j1, nI v1) := c4
      obtain ⟨r1, r2, r3⟩ := nm_le (by omega) c1
      rw [c4']
      simp only [Option.bind_some]
      rw [b1]
      rcases p_takes hN (lo := 0) (hi := 4) (sg := 59) h j1 (by omega) (by omega) (by omega) with ⟨v2, j2, d1, d2, d3, d4⟩ | ⟨d1, y, z, d4⟩
      · have d4' : MX8_takesNumber N tx tn (nI j1) (0 : Int32) (4 : Int32) (59 : Int32) = some (1, nI j2, nI v2) := d4
        rw [d4']
        simp only [Option.bind_some]
        rw [b1]
        have e0 : cz A v2 0 = 0 := by unfold cz; split <;> rfl
        have ec := m_cnt_l (N := N) (u14 := (1, nI j0, nI v0)) (u33 := (1, nI j1, nI v1)) (u51 := (1, nI j2, nI v2)) hQ hA (show v2 < 1000 by omega) rfl N A.2.2.2.1 0 (by omega) (by omega)
        rw [e0] at ec
        have ec' : MX8_takesPerson_l64 N (nI A.2.2.2.1) Q.1 Q.2.1 Q.2.2.1 (1, nI j0, nI v0) (1, nI j1, nI v1) (1, nI j2, nI v2) N (0 : Int32) (0 : Int32) = _ := ec
        have hcl := cnt_le (f := A.2.2.1) (v := v2) A.2.2.2.1
        rw [ec']
        unfold MX8_takesPerson_j108 MX8_adds
        by_cases g5 : cz A v2 A.2.2.2.1 = 5
        · right
          rw [if_pos (show nI (cz A v2 A.2.2.2.1) = (5 : Int32) by rw [g5]; rfl)]
          refine ⟨fun w0 i0 w1 i1 w2 i2 x1 x2 x3 o => ?_, _, rfl, rfl⟩
          rw [a1] at x1; cases x1
          rw [c1] at x2; cases x2
          rw [d1] at x3; cases x3
          unfold cz at g5
          split at g5
          · omega
          · rcases o.2.2.2 with z | z
            · contradiction
            · omega
        · left
          have hcz : cz A v2 A.2.2.2.1 ≤ 9 := by unfold cz; split <;> omega
          rw [if_neg (show ¬ nI (cz A v2 A.2.2.2.1) = (5 : Int32) from nI_ne (b := 5) (by omega) (by omega) g5)]
          refine ⟨v0, j0, v1, j1, v2, j2, a1, c1, d1, ⟨by omega, a3, d3, ?_⟩, ?_⟩
          · by_cases z : v2 = 0
            · exact Or.inl z
            · right
              have := hA.2.2.2.2.2.2 v2 (by omega) d3
              unfold cz at g5
              rw [if_neg z] at g5
              omega
          · simp (disch := omega) only [MG_ok, nI_clamp, Option.bind_some]
            rw [nI_1]
      · right
        have d4' : MX8_takesNumber N tx tn (nI j1) (0 : Int32) (4 : Int32) (59 : Int32) = some (0, y, z) := d4
        rw [d4']
        simp only [Option.bind_some]
        rw [if_pos True.intro]
        refine ⟨fun w0 i0 w1 i1 w2 i2 x1 x2 x3 o => ?_, _, rfl, rfl⟩
        rw [a1] at x1; cases x1
        rw [c1] at x2; cases x2
        exact d1 _ _ x3 ⟨by omega, o.2.2.1⟩
    · right
      have c4' : MX8_takesNumber N tx tn (nI j0) (0 : Int32) (99 : Int32) (44 : Int32) = some (0, y, z) := c4
      rw [c4']
      simp only [Option.bind_some]
      rw [if_pos True.intro]
      refine ⟨fun w0 i0 w1 i1 w2 i2 x1 x2 x3 o => ?_, _, rfl, rfl⟩
      rw [a1] at x1; cases x1
      have := nm_le (by omega) x2
      exact c1 _ _ x2 ⟨by omega, this.2.2⟩
  · right
    have a4' : MX8_takesNumber N tx tn (nI j) (0 : Int32) (3 : Int32) (44 : Int32) = some (0, y, z) := a4
    rw [a4']
    simp only [Option.bind_some]
    rw [if_pos True.intro]
    refine ⟨fun w0 i0 w1 i1 w2 i2 x1 x2 x3 o => ?_, _, rfl, rfl⟩
    exact a1 _ _ x1 ⟨by omega, o.2.1⟩
theorem m_itemP {N : Nat} (hN : 100 ≤ N) {Q : PlanV} {A : APl} {tx : Nat → Int32} {tn num : Int32} {tl : List Nat} (h : TXm tx tn tl) (hQ : repP Q A) (hA : WD A) {j : Nat} (hj : j < 200) (hc : lt tl j = nI 112) : (∃ v0 j0 v1 j1 v2 j2, nm tl (j + 1) 44 = some (v0, j0) ∧ nm tl j0 44 = some (v1, j1) ∧ nm tl j1 59 = some (v2, j2) ∧ okP A v0 v2 ∧ ∃ v : RdV, MX8_takesItem N tx tn (nI j) num Q.2.2.2.1 Q.1 Q.2.1 Q.2.2.1 Q.2.2.2.2.1 Q.2.2.2.2.2.1 Q.2.2.2.2.2.2 = some v ∧ v.1 = 1 ∧ v.2.1 = nI j2 ∧ repP (rM v) (addP A v0 v1 v2)) ∨ ((∀ v0 j0 v1 j1 v2 j2, nm tl (j + 1) 44 = some (v0, j0) → nm tl j0 44 = some (v1, j1) → nm tl j1 59 = some (v2, j2) → ¬ okP A v0 v2) ∧ ∃ v : RdV, MX8_takesItem N tx tn (nI j) num Q.2.2.2.1 Q.1 Q.2.1 Q.2.2.1 Q.2.2.2.2.1 Q.2.2.2.2.2.1 Q.2.2.2.2.2.2 = some v ∧ v.1 = 0) := by
  unfold MX8_takesItem
  rw [p_mletter (N := N) h (by omega), hc, hQ.2.1]
  simp only [Option.bind_some]
  rw [if_pos (show nI 112 = (112 : Int32) from rfl), nI_1]
  rcases m_person hN (num := num) h hQ hA (j := j + 1) (by omega) with ⟨v0, j0, v1, j1, v2, j2, a1, a2, a3, a4, a5⟩ | ⟨a1, u, a2, a3⟩
  · left
    refine ⟨v0, j0, v1, j1, v2, j2, a1, a2, a3, a4, ?_⟩
    rw [a5]
    simp only [Option.bind_some]
    unfold MB
    rw [if_pos (show (1 : Int32) = 0 ∨ (1 : Int32) = 1 from Or.inr rfl)]
    exact ⟨_, rfl, rfl, rfl, rep_add hQ⟩
  · right
    refine ⟨a1, ?_⟩
    rw [a2]
    simp only [Option.bind_some]
    unfold MB
    rw [a3, if_pos (show (0 : Int32) = 0 ∨ (0 : Int32) = 1 from Or.inl rfl)]
    exact ⟨_, rfl, rfl⟩
theorem m_itemB {N : Nat} (hN : 100 ≤ N) {Q : PlanV} {A : APl} {tx : Nat → Int32} {tn num : Int32} {tl : List Nat} (h : TXm tx tn tl) (hQ : repP Q A) {j : Nat} (hj : j < 200) (hc : lt tl j = nI 98) : (∃ v0 j0 v1 j1, nm tl (j + 1) 44 = some (v0, j0) ∧ nm tl j0 59 = some (v1, j1) ∧ okB v0 v1 ∧ ∃ v : RdV, MX8_takesItem N tx tn (nI j) num Q.2.2.2.1 Q.1 Q.2.1 Q.2.2.1 Q.2.2.2.2.1 Q.2.2.2.2.2.1 Q.2.2.2.2.2.2 = some v ∧ v.1 = 1 ∧ v.2.1 = nI j1 ∧ repP (rM v) (setB A v0 v1)) ∨ ((∀ v0 j0 v1 j1, nm tl (j + 1) 44 = some (v0, j0) → nm tl j0 59 = some (v1, j1) → ¬ okB v0 v1) ∧ ∃ v : RdV, MX8_takesItem N tx tn (nI j) num Q.2.2.2.1 Q.1 Q.2.1 Q.2.2.1 Q.2.2.2.2.1 Q.2.2.2.2.2.1 Q.2.2.2.2.2.2 = some v ∧ v.1 = 0) := by
  have hl := h.2.1
  unfold MX8_takesItem MX8_takesBaker
  rw [p_mletter (N := N) h (by omega), hc]
  simp only [Option.bind_some]
  rw [if_neg (show ¬ nI 98 = (112 : Int32) by decide), if_pos (show nI 98 = (98 : Int32) from rfl), nI_1]
  rcases p_takes hN (lo := 1) (hi := 9) (sg := 44) h (j + 1) (by omega) (by omega) (by omega) with ⟨v0, j0, a1, a2, a3, a4⟩ | ⟨a1, y, z, a4⟩
  · have a4' : MX8_takesNumber N tx tn (nI (j + 1)) (1 : Int32) (9 : Int32) (44 : Int32) = some (1, nI j0, nI v0) := a4
    obtain ⟨q1, q2, q3⟩ := nm_le (by omega) a1
    rw [a4']
    simp only [Option.bind_some]
    rw [b1]
    rcases p_takes hN (lo := 0) (hi := 40) (sg := 59) h j0 (by omega) (by omega) (by omega) with ⟨v1, j1, c1, c2, c3, c4⟩ | ⟨c1, y, z, c4⟩
    · left
      have c4' : MX8_takesNumber N tx tn (nI j0) (0 : Int32) (40 : Int32) (59 : Int32) = some (1, nI j1, nI v1) := c4
      refine ⟨v0, j0, v1, j1, a1, c1, ⟨a2, a3, c3⟩, ?_⟩
      rw [c4']
      simp only [Option.bind_some]
      rw [b1]
      simp only [Option.bind_some]
      unfold MB
      rw [if_pos (show (1 : Int32) = 0 ∨ (1 : Int32) = 1 from Or.inr rfl)]
      exact ⟨_, rfl, rfl, rfl, hQ.1, hQ.2.1, rfl, rfl, hQ.2.2.2.2⟩
    · right
      have c4' : MX8_takesNumber N tx tn (nI j0) (0 : Int32) (40 : Int32) (59 : Int32) = some (0, y, z) := c4
      refine ⟨fun w0 i0 w1 i1 x1 x2 o => ?_, ?_⟩
      · rw [a1] at x1; cases x1
        exact c1 _ _ x2 ⟨by omega, o.2.2⟩
      · rw [c4']
        simp only [Option.bind_some]
        rw [if_pos True.intro]
        simp only [Option.bind_some]
        unfold MB
        rw [if_pos (show (0 : Int32) = 0 ∨ (0 : Int32) = 1 from Or.inl rfl)]
        exact ⟨_, rfl, rfl⟩
  · right
    have a4' : MX8_takesNumber N tx tn (nI (j + 1)) (1 : Int32) (9 : Int32) (44 : Int32) = some (0, y, z) := a4
    refine ⟨fun w0 i0 w1 i1 x1 x2 o => a1 _ _ x1 ⟨o.1, o.2.1⟩, ?_⟩
    rw [a4']
    simp only [Option.bind_some]
    rw [if_pos True.intro]
    simp only [Option.bind_some]
    unfold MB
    rw [if_pos (show (0 : Int32) = 0 ∨ (0 : Int32) = 1 from Or.inl rfl)]
    exact ⟨_, rfl, rfl⟩
theorem m_itemR {N : Nat} (hN : 100 ≤ N) {Q : PlanV} {A : APl} {tx : Nat → Int32} {tn num : Int32} {tl : List Nat} (h : TXm tx tn tl) (hQ : repP Q A) {j : Nat} (hj : j < 200) (hc : lt tl j = nI 114) : (∃ v0 j0, nm tl (j + 1) 59 = some (v0, j0) ∧ okR v0 ∧ ∃ v : RdV, MX8_takesItem N tx tn (nI j) num Q.2.2.2.1 Q.1 Q.2.1 Q.2.2.1 Q.2.2.2.2.1 Q.2.2.2.2.2.1 Q.2.2.2.2.2.2 = some v ∧ v.1 = 1 ∧ v.2.1 = nI j0 ∧ repP (rM v) (setR A v0)) ∨ ((∀ v0 j0, nm tl (j + 1) 59 = some (v0, j0) → ¬ okR v0) ∧ ∃ v : RdV, MX8_takesItem N tx tn (nI j) num Q.2.2.2.1 Q.1 Q.2.1 Q.2.2.1 Q.2.2.2.2.1 Q.2.2.2.2.2.1 Q.2.2.2.2.2.2 = some v ∧ v.1 = 0) := by
  have hl := h.2.1
  unfold MX8_takesItem MX8_takesRumour MX8_takesItem_j62
  rw [p_mletter (N := N) h (by omega), hc]
  simp only [Option.bind_some]
  rw [if_neg (show ¬ nI 114 = (112 : Int32) by decide), if_neg (show ¬ nI 114 = (98 : Int32) by decide), if_pos (show nI 114 = (114 : Int32) from rfl), nI_1]
  rcases p_takes hN (lo := 2) (hi := 30) (sg := 59) h (j + 1) (by omega) (by omega) (by omega) with ⟨v0, j0, a1, a2, a3, a4⟩ | ⟨a1, y, z, a4⟩
  · left
    have a4' : MX8_takesNumber N tx tn (nI (j + 1)) (2 : Int32) (30 : Int32) (59 : Int32) = some (1, nI j0, nI v0) := a4
    refine ⟨v0, j0, a1, ⟨a2, a3⟩, ?_⟩
    rw [a4']
    simp only [Option.bind_some]
    rw [b1]
    simp only [Option.bind_some]
    rw [b1]
    exact ⟨_, rfl, rfl, rfl, hQ.1, hQ.2.1, hQ.2.2.1, hQ.2.2.2.1, rfl⟩
  · right
    have a4' : MX8_takesNumber N tx tn (nI (j + 1)) (2 : Int32) (30 : Int32) (59 : Int32) = some (0, y, z) := a4
    refine ⟨fun w0 i0 x1 o => a1 _ _ x1 o, ?_⟩
    rw [a4']
    simp only [Option.bind_some]
    rw [if_pos True.intro]
    simp only [Option.bind_some]
    rw [if_pos True.intro]
    exact ⟨_, rfl, rfl⟩
theorem m_itemO {N : Nat} {Q : PlanV} {tx : Nat → Int32} {tn num : Int32} {tl : List Nat} (h : TXm tx tn tl) {j : Nat} (hj : j < 200) {x : Nat} (hx : x ≤ 126) (hc : lt tl j = nI x) (h1 : x ≠ 112) (h2 : x ≠ 98) (h3 : x ≠ 114) : ∃ v : RdV, MX8_takesItem N tx tn (nI j) num Q.2.2.2.1 Q.1 Q.2.1 Q.2.2.1 Q.2.2.2.2.1 Q.2.2.2.2.2.1 Q.2.2.2.2.2.2 = some v ∧ v.1 = 0 := by
  unfold MX8_takesItem MX8_takesItem_j62
  rw [p_mletter (N := N) h (by omega), hc]
  simp only [Option.bind_some]
  rw [if_neg (show ¬ nI x = (112 : Int32) from nI_ne (b := 112) (by omega) (by omega) h1), if_neg (show ¬ nI x = (98 : Int32) from nI_ne (b := 98) (by omega) (by omega) h2), if_neg (show ¬ nI x = (114 : Int32) from nI_ne (b := 114) (by omega) (by omega) h3)]
  exact ⟨_, rfl, rfl⟩
theorem WD.setB {A : APl} {v0 v1 : Nat} (h : WD A) (o : okB v0 v1) : WD (setB A v0 v1) := by
  obtain ⟨a1, a2, a3, a4, a5, a6, a7⟩ := h
  exact ⟨a1, a2, o.1, o.2.1, o.2.2, a6, a7⟩
theorem WD.setR {A : APl} {v0 : Nat} (h : WD A) (o : okR v0) : WD (setR A v0) := by
  obtain ⟨a1, a2, a3, a4, a5, a6, a7⟩ := h
  exact ⟨a1, a2, a3, a4, a5, o.2, a7⟩
theorem j_item {N : Nat} (hN : 100 ≤ N) {X : TextV} {P Q : PlanV} {A : APl} {tx : Nat → Int32} {tn num : Int32} {tl : List Nat} (hX : TXc X tl) (h : TXm tx tn tl) (hP : repP P A) (hQ : repP Q A) (hA : WD A) {j : Nat} (hj : j < tl.length) : (∃ j' A' u, ∃ v : RdV, j < j' ∧ j' ≤ tl.length ∧ WD A' ∧ MX6_readItem N X P (nI j) = some u ∧ u.1 = nI j' ∧ repP u.2.2 A' ∧ MX8_takesItem N tx tn (nI j) num Q.2.2.2.1 Q.1 Q.2.1 Q.2.2.1 Q.2.2.2.2.1 Q.2.2.2.2.2.1 Q.2.2.2.2.2.2 = some v ∧ v.1 = 1 ∧ v.2.1 = nI j' ∧ repP (rM v) A') ∨ (∃ u, ∃ v : RdV, MX6_readItem N X P (nI j) = some u ∧ u.1 = -1 ∧ MX8_takesItem N tx tn (nI j) num Q.2.2.2.1 Q.1 Q.2.1 Q.2.2.1 Q.2.2.2.2.1 Q.2.2.2.2.2.1 Q.2.2.2.2.2.2 = some v ∧ v.1 = 0) := by
  have hl := h.2.1
  have hx := h.2.2 j _ (List.getElem?_eq_getElem hj)
  have hc : lt tl j = nI tl[j] := by unfold lt; rw [List.getElem?_eq_getElem hj]
  by_cases g1 : tl[j] = 112
  · rw [g1] at hc
    rcases p_itemP hN hX h hP hA (by omega) hc with ⟨v0, j0, v1, j1, v2, j2, a1, a2, a3, a4, u, a5, a6, a7⟩ | ⟨a1, u, a2, a3⟩
    · rcases m_itemP hN (num := num) h hQ hA (by omega) hc with ⟨w0, i0, w1, i1, w2, i2, b1', b2, b3, b4, v, b5, b6, b7, b8⟩ | ⟨b1', v, b2, b3⟩
      · rw [a1] at b1'; cases b1'
        rw [a2] at b2; cases b2
        rw [a3] at b3; cases b3
        have q1 := nm_le (by omega) a1
        have q2 := nm_le (by omega) a2
        have q3 := nm_le (by omega) a3
        exact Or.inl ⟨j2, _, u, v, by omega, q3.2.1, hA.addP a4 q2.2.2, a5, a6, a7, b5, b6, b7, b8⟩
      · exact absurd a4 (b1' _ _ _ _ _ _ a1 a2 a3)
    · rcases m_itemP hN (num := num) h hQ hA (by omega) hc with ⟨w0, i0, w1, i1, w2, i2, b1', b2, b3, b4, v, b5, b6, b7, b8⟩ | ⟨b1', v, b2, b3⟩
      · exact absurd b4 (a1 _ _ _ _ _ _ b1' b2 b3)
      · exact Or.inr ⟨u, v, a2, a3, b2, b3⟩
  by_cases g2 : tl[j] = 98
  · rw [g2] at hc
    rcases p_itemB hN hX h hP (by omega) hc with ⟨v0, j0, v1, j1, a1, a2, a4, u, a5, a6, a7⟩ | ⟨a1, u, a2, a3⟩
    · rcases m_itemB hN (num := num) h hQ (by omega) hc with ⟨w0, i0, w1, i1, b1', b2, b4, v, b5, b6, b7, b8⟩ | ⟨b1', v, b2, b3⟩
      · rw [a1] at b1'; cases b1'
        rw [a2] at b2; cases b2
        have q1 := nm_le (by omega) a1
        have q2 := nm_le (by omega) a2
        exact Or.inl ⟨j1, _, u, v, by omega, q2.2.1, hA.setB a4, a5, a6, a7, b5, b6, b7, b8⟩
      · exact absurd a4 (b1' _ _ _ _ a1 a2)
    · rcases m_itemB hN (num := num) h hQ (by omega) hc with ⟨w0, i0, w1, i1, b1', b2, b4, v, b5, b6, b7, b8⟩ | ⟨b1', v, b2, b3⟩
      · exact absurd b4 (a1 _ _ _ _ b1' b2)
      · exact Or.inr ⟨u, v, a2, a3, b2, b3⟩
  by_cases g3 : tl[j] = 114
  · rw [g3] at hc
    rcases p_itemR hN hX h hP (by omega) hc with ⟨v0, j0, a1, a4, u, a5, a6, a7⟩ | ⟨a1, u, a2, a3⟩
    · rcases m_itemR hN (num := num) h hQ (by omega) hc with ⟨w0, i0, b1', b4, v, b5, b6, b7, b8⟩ | ⟨b1', v, b2, b3⟩
      · rw [a1] at b1'; cases b1'
        have q1 := nm_le (by omega) a1
        exact Or.inl ⟨j0, _, u, v, by omega, q1.2.1, hA.setR a4, a5, a6, a7, b5, b6, b7, b8⟩
      · exact absurd a4 (b1' _ _ a1)
    · rcases m_itemR hN (num := num) h hQ (by omega) hc with ⟨w0, i0, b1', b4, v, b5, b6, b7, b8⟩ | ⟨b1', v, b2, b3⟩
      · exact absurd b4 (a1 _ _ b1')
      · exact Or.inr ⟨u, v, a2, a3, b2, b3⟩
  · obtain ⟨u, a1, a2⟩ := p_itemO (N := N) hN (P := P) hX (by omega) hx.2.1 hc g1 g2 g3
    obtain ⟨v, b1', b2⟩ := m_itemO (N := N) (Q := Q) (num := num) h (by omega) hx.2.1 hc g1 g2 g3
    exact Or.inr ⟨u, v, a1, a2, b1', b2⟩
theorem j_read_l {N : Nat} (hN : 100 ≤ N) {Tx : TextV} {tx : Nat → Int32} {tn : Int32} {tl : List Nat} (hT : TxR Tx tx tn tl) : ∀ (f m m' i j : Nat) (A : APl) (nums : Nat → Int32) (num : Int32) (P Q : PlanV), tl.length ≤ j + f → f < m → f < m' → i ≤ j → j ≤ tl.length → repP P A → repP Q A → WD A →
    ∃ u, ∃ v : RdV, MX6_readInto_l8 N Tx m (nI j) (nI i) nums P.1 P.2.1 P.2.2.1 P.2.2.2.1 P.2.2.2.2.1 P.2.2.2.2.2.1 P.2.2.2.2.2.2 = some u ∧ MX8_faultOf_l26 N tx tn m' (nI j) num Q.2.2.2.1 Q.1 Q.2.1 Q.2.2.1 Q.2.2.2.2.1 Q.2.2.2.2.2.1 Q.2.2.2.2.2.2 = some v ∧ u.1 = v.1 ∧ (u.1 = -4 → ∃ A', WD A' ∧ repP u.2.2 A' ∧ repP (rM v) A') := by
  have h := hT.m
  have hl := h.2.1
  have fin : ∀ (m m' i j : Nat) (A : APl) (nums : Nat → Int32) (num : Int32) (P Q : PlanV), tl.length ≤ j → j ≤ tl.length → repP P A → repP Q A → WD A → ∃ u, ∃ v : RdV, MX6_readInto_l8 N Tx (m + 1) (nI j) (nI i) nums P.1 P.2.1 P.2.2.1 P.2.2.2.1 P.2.2.2.2.1 P.2.2.2.2.2.1 P.2.2.2.2.2.2 = some u ∧ MX8_faultOf_l26 N tx tn (m' + 1) (nI j) num Q.2.2.2.1 Q.1 Q.2.1 Q.2.2.1 Q.2.2.2.2.1 Q.2.2.2.2.2.1 Q.2.2.2.2.2.2 = some v ∧ u.1 = v.1 ∧ (u.1 = -4 → ∃ A', WD A' ∧ repP u.2.2 A' ∧ repP (rM v) A') := by
    intro m m' i j A nums num P Q h1 h2 hP hQ hA
    rw [MX6_readInto_l8, MX8_faultOf_l26, h.1, hT.1, if_pos (show nI tl.length ≤ nI j from nI_le h1 (by omega)), if_pos (show nI tl.length ≤ nI j from nI_le h1 (by omega))]
    have e : ∀ (q : Prop) [Decidable q] (α : Type) (x : α), (if q then x else x) = x := fun q _ α x => by split <;> rfl
    rw [e]
    exact ⟨_, _, rfl, rfl, rfl, fun _ => ⟨A, hA, hP, hQ⟩⟩
  intro f
  induction f with
  | zero =>
    intro m m' i j A nums num P Q h1 h2 h3 h4 h5 hP hQ hA
    obtain ⟨m, rfl⟩ : ∃ q, m = q + 1 := ⟨m - 1, by omega⟩
    obtain ⟨m', rfl⟩ : ∃ q, m' = q + 1 := ⟨m' - 1, by omega⟩
    exact fin m m' i j A nums num P Q (by omega) h5 hP hQ hA
  | succ f ih =>
    intro m m' i j A nums num P Q h1 h2 h3 h4 h5 hP hQ hA
    obtain ⟨m, rfl⟩ : ∃ q, m = q + 1 := ⟨m - 1, by omega⟩
    obtain ⟨m', rfl⟩ : ∃ q, m' = q + 1 := ⟨m' - 1, by omega⟩
    by_cases g : tl.length ≤ j
    · exact fin m m' i j A nums num P Q g h5 hP hQ hA
    · rw [MX6_readInto_l8, MX8_faultOf_l26, if_neg (show ¬ (200 : Int32) ≤ nI i from nI_ge (b := 200) (by omega) (by omega)), if_neg (show ¬ Tx.2.2 ≤ nI j by rw [hT.1]; exact nI_ge (by omega) (by omega)), if_neg (show ¬ tn ≤ nI j by rw [h.1]; exact nI_ge (by omega) (by omega))]
      rcases j_item (N := N) hN (num := num) (hT.c nums) h hP hQ hA (show j < tl.length by omega) with ⟨j', A', u, v, a1, a2, a3, a4, a5, a6, a7, a8, a9, a10⟩ | ⟨u, v, a4, a5, a7, a8⟩
      · have a4' : MX6_readItem N (Tx.1, nums, Tx.2.2) (P.1, P.2.1, P.2.2.1, P.2.2.2.1, P.2.2.2.2.1, P.2.2.2.2.2.1, P.2.2.2.2.2.2) (nI j) = some u := a4
        rw [a4', a7]
        simp only [Option.bind_some]
        rw [a5, a8, a9, if_pos (nI_pos' (by omega)), b1, nI_1]
        exact ih m m' (i + 1) j' A' u.2.1 v.2.2.1 u.2.2 (rM v) (by omega) (by omega) (by omega) (by omega) a2 a6 a10 a3
      · have a4' : MX6_readItem N (Tx.1, nums, Tx.2.2) (P.1, P.2.1, P.2.2.1, P.2.2.2.1, P.2.2.2.2.1, P.2.2.2.2.2.1, P.2.2.2.2.2.2) (nI j) = some u := a4
        rw [a4', a7]
        simp only [Option.bind_some]
        rw [a5, a8, if_neg (by decide), b0]
        refine ⟨_, _, rfl, rfl, rfl, fun q => ?_⟩
        have q : nI j = (-4 : Int32) := q
        have := nI_pos' (n := j) (by omega)
        rw [q] at this
        exact absurd this (by decide)
def aPl0 : APl := ((fun _ => 0), (fun _ => 0), (fun _ => 0), 0, 2, 20, 0)
theorem WD.p0 : WD aPl0 := ⟨by decide, fun p hp => absurd hp (Nat.not_lt_zero p), by decide, by decide, by decide, by decide, fun f _ _ => Nat.zero_le _⟩
theorem j_read {N : Nat} (hN : 1000 ≤ N) {Tx : TextV} {tx : Nat → Int32} {tn : Int32} {tl : List Nat} (hT : TxR Tx tx tn tl) (D : PlanV) (num : Int32) (rk rc rf : Nat → Int32) : ∃ u, ∃ v : RdV, MX6_readInto N Tx D = some u ∧ MX8_faultOf N tx tn num rk rc rf = some v ∧ u.1 = v.1 ∧ (u.1 = -4 → ∃ A', WD A' ∧ repP u.2.2 A' ∧ repP (rM v) A') := by
  have hl := hT.2.2.1
  exact j_read_l (N := N) (by omega) hT tl.length N N 0 0 aPl0 Tx.2.1 num (D.1, D.2.1, D.2.2.1, (0 : Int32), (2 : Int32), (20 : Int32), (0 : Int32)) (rk, rc, rf, (0 : Int32), (2 : Int32), (20 : Int32), (0 : Int32)) (by omega) (by omega) (by omega) (by omega) (by omega) ⟨fun p hp => absurd hp (Nat.not_lt_zero p), rfl, rfl, rfl, rfl⟩ ⟨fun p hp => absurd hp (Nat.not_lt_zero p), rfl, rfl, rfl, rfl⟩ WD.p0
theorem s_fault {N : Nat} (hN : 100000 ≤ N) {Tx : TextV} {tx : Nat → Int32} {tn : Int32} {tl : List Nat} (hT : TxR Tx tx tn tl) (D : PlanV) (num : Int32) (rk rc rf : Nat → Int32) : ∃ u v, MX7_fault N Tx D = some u ∧ MX8_fault N tx tn num rk rc rf = some v ∧ u.1 = v.1 := by
  obtain ⟨u, v, e1, e2, e3, _⟩ := j_read (N := N) (by omega) hT D num rk rc rf
  unfold MX7_fault MX8_fault
  rw [e1, e2]
  exact ⟨_, _, rfl, rfl, e3⟩
