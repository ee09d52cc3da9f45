def WD (A : APl) : Prop := A.2.2.2.1 ≤ 9 ∧ (∀ p, p < A.2.2.2.1 → A.1 p ≤ 3 ∧ A.2.1 p ≤ 1000000 ∧ A.2.2.1 p ≤ 4) ∧ 1 ≤ A.2.2.2.2.1 ∧ A.2.2.2.2.1 ≤ 9 ∧ A.2.2.2.2.2.1 ≤ 40 ∧ A.2.2.2.2.2.2 ≤ 30 ∧ WFK A
def addP (A : APl) (v0 v1 v2 : Nat) : APl := (fset A.1 A.2.2.2.1 v0, fset A.2.1 A.2.2.2.1 v1, fset A.2.2.1 A.2.2.2.1 v2, A.2.2.2.1 + 1, A.2.2.2.2)
def okP (A : APl) (v0 v2 : Nat) : Prop := A.2.2.2.1 < 9 ∧ v0 ≤ 3 ∧ v2 ≤ 4 ∧ (v2 = 0 ∨ cnt A.2.2.1 v2 A.2.2.2.1 < 5)
theorem cnt_fset {f : Nat → Nat} {v n x : Nat} : ∀ (k : Nat), k ≤ n → cnt (fset f n x) v k = cnt f v k := by
  intro k
  induction k with
  | zero => intro _; rfl
  | succ k ih =>
    intro hk
    rw [cnt, cnt, ih (by omega), fset_n (by omega)]
theorem WD.addP {A : APl} {v0 v1 v2 : Nat} (h : WD A) (hk : okP A v0 v2) (h1 : v1 ≤ 99) : WD (addP A v0 v1 v2) := by
  obtain ⟨a1, a2, a3, a4, a5, a6, a7⟩ := h
  obtain ⟨k1', k2', k3', k4'⟩ := hk
  refine ⟨by show A.2.2.2.1 + 1 ≤ 9; omega, fun p hp => ?_, a3, a4, a5, a6, fun f f1 f4 => ?_⟩
  · have hp : p < A.2.2.2.1 + 1 := hp
    show fset A.1 A.2.2.2.1 v0 p ≤ 3 ∧ fset A.2.1 A.2.2.2.1 v1 p ≤ 1000000 ∧ fset A.2.2.1 A.2.2.2.1 v2 p ≤ 4
    by_cases e : p = A.2.2.2.1
    · subst e; rw [fset_s, fset_s, fset_s]; omega
    · rw [fset_n e, fset_n e, fset_n e]; exact a2 p (by omega)
  · show cnt (fset A.2.2.1 A.2.2.2.1 v2) f (A.2.2.2.1 + 1) ≤ 5
    have := a7 f f1 f4
    rw [cnt, cnt_fset _ (Nat.le_refl _), fset_s]
    split
    · rename_i g
      subst g
      rcases k4' with q | q
      · omega
      · omega
    · omega
theorem rep_add {P : PlanV} {A : APl} {v0 v1 v2 : Nat} (hP : repP P A) : repP (upd P.1 A.2.2.2.1 (nI v0), upd P.2.1 A.2.2.2.1 (nI v1), upd P.2.2.1 A.2.2.2.1 (nI v2), nI (A.2.2.2.1 + 1), P.2.2.2.2.1, P.2.2.2.2.2.1, P.2.2.2.2.2.2) (addP A v0 v1 v2) := by
  refine ⟨fun p hp => ?_, rfl, hP.2.2.1, hP.2.2.2.1, hP.2.2.2.2⟩
  have hp : p < A.2.2.2.1 + 1 := hp
  show upd P.1 A.2.2.2.1 (nI v0) p = nI (fset A.1 A.2.2.2.1 v0 p) ∧ upd P.2.1 A.2.2.2.1 (nI v1) p = nI (fset A.2.1 A.2.2.2.1 v1 p) ∧ upd P.2.2.1 A.2.2.2.1 (nI v2) p = nI (fset A.2.2.1 A.2.2.2.1 v2 p)
  by_cases e : p = A.2.2.2.1
  · subst e; rw [pk_us, pk_us, pk_us, fset_s, fset_s, fset_s]; exact ⟨rfl, rfl, rfl⟩
  · rw [pk_un e, pk_un e, pk_un e, fset_n e, fset_n e, fset_n e]; exact hP.1 p (by omega)
theorem p_howManyOf_l {P : PlanV} {A : APl} {v : Nat} (hP : repP P A) (hA : WD A) (hv : v < 1000) : ∀ (m k i : Nat), i + k = A.2.2.2.1 → k < m → MX3_howManyOf_l4 P (nI v) m (nI (cnt A.2.2.1 v i)) (nI i) = some (nI (cnt A.2.2.1 v A.2.2.2.1)) := by
  have h9 := hA.1
  intro m
  induction m with
  | zero => intro k i h1 h2; omega
  | succ m ih =>
    intro k i h1 h2
    rw [MX3_howManyOf_l4, hP.2.1]
    cases k with
    | zero =>
      have e : i = A.2.2.2.1 := by omega
      subst e
      rw [if_pos (nI_le (by omega) (by omega))]
      rfl
    | succ k =>
      have hi : i < A.2.2.2.1 := by omega
      have hb := (hP.1 i hi).2.2
      have hd := hA.2.1 i hi
      have := ih k (i + 1) (by omega) (by omega)
      rw [cnt] at this
      rw [if_neg (nI_ge hi (by omega)), if_neg (show ¬ (9 : Int32) ≤ nI i from nI_ge (b := 9) (by omega) (by omega))]
      simp (disch := omega) only [MG_ok, nI_clamp, hb, nI_eq]
      unfold MX3_howManyOf_j31
      rw [nI_1 i]
      by_cases e : A.2.2.1 i = v
      · rw [if_pos e]
        rw [if_pos e] at this
        rw [nI_1]
        exact this
      · rw [if_neg e]
        rw [if_neg e] at this
        exact this
theorem p_addPerson {N : Nat} (hN : 100 ≤ N) {P : PlanV} {A : APl} {v0 v1 v2 : Nat} (hP : repP P A) (hA : WD A) (h0 : v0 ≤ 99) (h1 : v1 ≤ 99) (h2 : v2 ≤ 99) : (okP A v0 v2 ∧ MX3_addPerson N P (nI v0) (nI v1) (nI v2) = some (1, upd P.1 A.2.2.2.1 (nI v0), upd P.2.1 A.2.2.2.1 (nI v1), upd P.2.2.1 A.2.2.2.1 (nI v2), nI (A.2.2.2.1 + 1))) ∨ (¬ okP A v0 v2 ∧ ∃ u, MX3_addPerson N P (nI v0) (nI v1) (nI v2) = some u ∧ u.1 = 0) := by
  have h9 := hA.1
  have hm : MX3_howManyOf N P (nI v2) = some (nI (cnt A.2.2.1 v2 A.2.2.2.1)) := p_howManyOf_l hP hA (by omega) N A.2.2.2.1 0 (by omega) (by omega)
  have hcl := cnt_le (f := A.2.2.1) (v := v2) A.2.2.2.1
  unfold MX3_addPerson MX3_addPerson_j43
  rw [hP.2.1, hm, if_neg (nI_pos (n := A.2.2.2.1) (by omega))]
  simp only [Option.bind_some]
  by_cases g1 : A.2.2.2.1 < 9
  · rw [if_neg (show ¬ (9 : Int32) ≤ nI A.2.2.2.1 from nI_ge (b := 9) g1 (by omega))]
    by_cases g2 : v0 ≤ 3
    · rw [if_neg (show ¬ (4 : Int32) ≤ nI v0 from nI_ge (b := 4) (by omega) (by omega))]
      by_cases g3 : v2 ≤ 4
      · rw [if_pos (show nI v2 ≤ (4 : Int32) from nI_le (b := 4) g3 (by omega))]
        simp (disch := omega) only [MG_ok, nI_clamp]
        rw [nI_1]
        by_cases g4 : v2 = 0
        · left
          rw [if_pos (show nI v2 = (0 : Int32) by rw [g4]; rfl)]
          exact ⟨⟨g1, g2, g3, Or.inl g4⟩, rfl⟩
        · rw [if_neg (show ¬ nI v2 = (0 : Int32) from nI_ne (b := 0) (by omega) (by omega) g4)]
          by_cases g5 : cnt A.2.2.1 v2 A.2.2.2.1 < 5
          · left
            rw [if_pos (show nI (cnt A.2.2.1 v2 A.2.2.2.1) < (5 : Int32) from nI_lt (b := 5) g5 (by omega))]
            exact ⟨⟨g1, g2, g3, Or.inr g5⟩, rfl⟩
          · right
            rw [if_neg (show ¬ nI (cnt A.2.2.1 v2 A.2.2.2.1) < (5 : Int32) from nI_nlt (b := 5) (by omega) (by omega))]
            exact ⟨fun q => q.2.2.2.elim g4 g5, _, rfl, rfl⟩
      · right
        rw [if_neg (show ¬ nI v2 ≤ (4 : Int32) from nI_ge (a := 4) (by omega) (by omega))]
        exact ⟨fun q => g3 q.2.2.1, _, rfl, rfl⟩
    · right
      rw [if_pos (show (4 : Int32) ≤ nI v0 from nI_le (a := 4) (by omega) (by omega))]
      exact ⟨fun q => g2 q.2.1, _, rfl, rfl⟩
  · right
    rw [if_pos (show (9 : Int32) ≤ nI A.2.2.2.1 from nI_le (a := 9) (by omega) (by omega))]
    exact ⟨fun q => g1 q.1, _, rfl, rfl⟩
theorem p_itemP {N : Nat} (hN : 100 ≤ N) {X : TextV} {P : PlanV} {A : APl} {tx : Nat → Int32} {tn : Int32} {tl : List Nat} (hX : TXc X tl) (h : TXm tx tn tl) (hP : repP P A) (hA : WD A) {j : Nat} (hj : j < 300) (hc : lt tl j = nI 112) : (∃ v0 j0 v1 j1 v2 j2, nm tl (j + 1) 44 = some (v0, j0) ∧ nm tl j0 44 = some (v1, j1) ∧ nm tl j1 59 = some (v2, j2) ∧ okP A v0 v2 ∧ ∃ u, MX6_readItem N X P (nI j) = some u ∧ u.1 = nI j2 ∧ repP u.2.2 (addP A v0 v1 v2)) ∨ ((∀ v0 j0 v1 j1 v2 j2, nm tl (j + 1) 44 = some (v0, j0) → nm tl j0 44 = some (v1, j1) → nm tl j1 59 = some (v2, j2) → ¬ okP A v0 v2) ∧ ∃ u, MX6_readItem N X P (nI j) = some u ∧ u.1 = -1) := by
  have hl := h.2.1
  unfold MX6_readItem
  rw [p_letter (N := N) hX (by omega), hc]
  simp only [Option.bind_some]
  have hnb : MX6_numbersBehind N (nI 112) = some (3 : Int32) := by
    unfold MX6_numbersBehind
    rw [if_neg (by decide), if_pos (by decide)]
  rw [hnb]
  simp only [Option.bind_some, MLet]
  rw [nI_1]
  have key : ∀ M, 10 ≤ M → (∃ v0 j0 v1 j1 v2 j2, nm tl (j + 1) 44 = some (v0, j0) ∧ nm tl j0 44 = some (v1, j1) ∧ nm tl j1 59 = some (v2, j2) ∧ okP A v0 v2 ∧ ∃ u, MX6_readItem_l20 N X P (nI 112) (nI 3) M (nI (j + 1)) (nI 0) X.2.1 = some u ∧ u.1 = nI j2 ∧ repP u.2.2 (addP A v0 v1 v2)) ∨ ((∀ v0 j0 v1 j1 v2 j2, nm tl (j + 1) 44 = some (v0, j0) → nm tl j0 44 = some (v1, j1) → nm tl j1 59 = some (v2, j2) → ¬ okP A v0 v2) ∧ ∃ u, MX6_readItem_l20 N X P (nI 112) (nI 3) M (nI (j + 1)) (nI 0) X.2.1 = some u ∧ u.1 = -1) := by
    intro M hM
    obtain ⟨m, rfl⟩ : ∃ m, M = m + 4 := ⟨M - 4, by omega⟩
    rcases p_num (N := N) (P := P) (u2 := nI 112) hX h (i := 0) (wt := 3) (j := j + 1) (sg := 44) (by omega) (by omega) (by omega) rfl (m + 3) X.2.1 with ⟨v0, j0, a1, a2⟩ | ⟨a1, u, a2, a3⟩
    · obtain ⟨q1, q2, q3⟩ := nm_le (by omega) a1
      rw [a2]
      rcases p_num (N := N) (P := P) (u2 := nI 112) hX h (i := 1) (wt := 3) (j := j0) (sg := 44) (by omega) (by omega) (by omega) rfl (m + 2) (upd X.2.1 0 (nI v0)) with ⟨v1, j1, b1', b2⟩ | ⟨b1', u, b2, b3⟩
      · obtain ⟨r1, r2, r3⟩ := nm_le (by omega) b1'
        rw [b2]
        rcases p_num (N := N) (P := P) (u2 := nI 112) hX h (i := 2) (wt := 3) (j := j1) (sg := 59) (by omega) (by omega) (by omega) rfl (m + 1) (upd (upd X.2.1 0 (nI v0)) 1 (nI v1)) with ⟨v2, j2, c1, c2⟩ | ⟨c1, u, c2, c3⟩
        · obtain ⟨s1, s2, s3⟩ := nm_le (by omega) c1
          rw [c2, MX6_readItem_l20, if_pos (nI_le (Nat.le_refl _) (by omega))]
          unfold MX6_readItem_j110 MX6_take
          have n0 : upd (upd (upd X.2.1 0 (nI v0)) 1 (nI v1)) 2 (nI v2) 0 = nI v0 := by rw [pk_un (by omega), pk_un (by omega), pk_us]
          have n1 : upd (upd (upd X.2.1 0 (nI v0)) 1 (nI v1)) 2 (nI v2) 1 = nI v1 := by rw [pk_un (by omega), pk_us]
          have n2 : upd (upd (upd X.2.1 0 (nI v0)) 1 (nI v1)) 2 (nI v2) 2 = nI v2 := pk_us
          rw [if_neg (show ¬ nI 112 = (98 : Int32) by decide), if_pos (show nI 112 = (112 : Int32) from rfl), MGc0, MGc1, MGc2, cl0, cl1, cl2]
          have e3 := p_addPerson hN (v0 := v0) (v1 := v1) (v2 := v2) hP hA q3 r3 s3
          simp only [n0, n1, n2]
          rcases e3 with ⟨o1, o2⟩ | ⟨o1, u, o2, o3⟩
          · left
            refine ⟨v0, j0, v1, j1, v2, j2, a1, b1', c1, o1, ?_⟩
            rw [o2]
            simp only [Option.bind_some]
            unfold MB
            rw [if_pos (show (1 : Int32) = 0 ∨ (1 : Int32) = 1 from Or.inr rfl)]
            simp only [Option.bind_some]
            rw [b1]
            exact ⟨_, rfl, rfl, rep_add hP⟩
          · right
            refine ⟨fun w0 i0 w1 i1 w2 i2 x1 x2 x3 => ?_, ?_⟩
            · rw [a1] at x1; cases x1
              rw [b1'] at x2; cases x2
              rw [c1] at x3; cases x3
              exact o1
            · rw [o2]
              simp only [Option.bind_some]
              unfold MB
              rw [o3, if_pos (show (0 : Int32) = 0 ∨ (0 : Int32) = 1 from Or.inl rfl)]
              simp only [Option.bind_some]
              rw [if_pos True.intro]
              exact ⟨_, rfl, rfl⟩
        · right
          refine ⟨fun w0 i0 w1 i1 w2 i2 x1 x2 x3 => ?_, u, c2, c3⟩
          rw [a1] at x1; cases x1
          rw [b1'] at x2; cases x2
          rw [c1] at x3; cases x3
      · right
        refine ⟨fun w0 i0 w1 i1 w2 i2 x1 x2 x3 => ?_, u, b2, b3⟩
        rw [a1] at x1; cases x1
        rw [b1'] at x2; cases x2
    · right
      refine ⟨fun w0 i0 w1 i1 w2 i2 x1 x2 x3 => ?_, u, a2, a3⟩
      rw [a1] at x1; cases x1
  exact key N (by omega)
def okB (v0 v1 : Nat) : Prop := 1 ≤ v0 ∧ v0 ≤ 9 ∧ v1 ≤ 40
def setB (A : APl) (v0 v1 : Nat) : APl := (A.1, A.2.1, A.2.2.1, A.2.2.2.1, v0, v1, A.2.2.2.2.2.2)
theorem p_itemB {N : Nat} (hN : 100 ≤ N) {X : TextV} {P : PlanV} {A : APl} {tx : Nat → Int32} {tn : Int32} {tl : List Nat} (hX : TXc X tl) (h : TXm tx tn tl) (hP : repP P A) {j : Nat} (hj : j < 300) (hc : lt tl j = nI 98) : (∃ v0 j0 v1 j1, nm tl (j + 1) 44 = some (v0, j0) ∧ nm tl j0 59 = some (v1, j1) ∧ okB v0 v1 ∧ ∃ u, MX6_readItem N X P (nI j) = some u ∧ u.1 = nI j1 ∧ repP u.2.2 (setB A v0 v1)) ∨ ((∀ v0 j0 v1 j1, nm tl (j + 1) 44 = some (v0, j0) → nm tl j0 59 = some (v1, j1) → ¬ okB v0 v1) ∧ ∃ u, MX6_readItem N X P (nI j) = some u ∧ u.1 = -1) := by
  have hl := h.2.1
  unfold MX6_readItem
  rw [p_letter (N := N) hX (by omega), hc]
  simp only [Option.bind_some]
  have hnb : MX6_numbersBehind N (nI 98) = some (2 : Int32) := by
    unfold MX6_numbersBehind
    rw [if_pos (by decide)]
  rw [hnb]
  simp only [Option.bind_some, MLet]
  rw [nI_1]
  have key : ∀ M, 10 ≤ M → (∃ v0 j0 v1 j1, nm tl (j + 1) 44 = some (v0, j0) ∧ nm tl j0 59 = some (v1, j1) ∧ okB v0 v1 ∧ ∃ u, MX6_readItem_l20 N X P (nI 98) (nI 2) M (nI (j + 1)) (nI 0) X.2.1 = some u ∧ u.1 = nI j1 ∧ repP u.2.2 (setB A v0 v1)) ∨ ((∀ v0 j0 v1 j1, nm tl (j + 1) 44 = some (v0, j0) → nm tl j0 59 = some (v1, j1) → ¬ okB v0 v1) ∧ ∃ u, MX6_readItem_l20 N X P (nI 98) (nI 2) M (nI (j + 1)) (nI 0) X.2.1 = some u ∧ u.1 = -1) := by
    intro M hM
    obtain ⟨m, rfl⟩ : ∃ m, M = m + 4 := ⟨M - 4, by omega⟩
    rcases p_num (N := N) (P := P) (u2 := nI 98) hX h (i := 0) (wt := 2) (j := j + 1) (sg := 44) (by omega) (by omega) (by omega) rfl (m + 3) X.2.1 with ⟨v0, j0, a1, a2⟩ | ⟨a1, u, a2, a3⟩
    · obtain ⟨q1, q2, q3⟩ := nm_le (by omega) a1
      rw [a2]
      rcases p_num (N := N) (P := P) (u2 := nI 98) hX h (i := 1) (wt := 2) (j := j0) (sg := 59) (by omega) (by omega) (by omega) rfl (m + 2) (upd X.2.1 0 (nI v0)) with ⟨v1, j1, b1', b2⟩ | ⟨b1', u, b2, b3⟩
      · obtain ⟨r1, r2, r3⟩ := nm_le (by omega) b1'
        rw [b2, MX6_readItem_l20, if_pos (nI_le (Nat.le_refl _) (by omega))]
        unfold MX6_readItem_j110 MX6_take MX3_setBaker
        have n0 : upd (upd X.2.1 0 (nI v0)) 1 (nI v1) 0 = nI v0 := by rw [pk_un (by omega), pk_us]
        have n1 : upd (upd X.2.1 0 (nI v0)) 1 (nI v1) 1 = nI v1 := pk_us
        rw [if_pos (show nI 98 = (98 : Int32) from rfl), MGc0, MGc1, cl0, cl1]
        simp only [n0, n1]
        by_cases o : okB v0 v1
        · left
          refine ⟨v0, j0, v1, j1, a1, b1', o, ?_⟩
          obtain ⟨o1, o2, o3⟩ := o
          rw [if_neg (show ¬ nI v0 < (1 : Int32) from nI_nlt (b := 1) (by omega) (by omega)), if_neg (show ¬ (9 : Int32) < nI v0 from nI_nlt (a := 9) (by omega) (by omega)), if_pos (show nI v1 ≤ (40 : Int32) from nI_le (b := 40) (by omega) (by omega))]
          simp only [Option.bind_some]
          unfold MB
          rw [if_pos (show (1 : Int32) = 0 ∨ (1 : Int32) = 1 from Or.inr rfl)]
          simp only [Option.bind_some]
          rw [b1]
          exact ⟨_, rfl, rfl, hP.1, hP.2.1, rfl, rfl, hP.2.2.2.2⟩
        · right
          refine ⟨fun w0 i0 w1 i1 x1 x2 => ?_, ?_⟩
          · rw [a1] at x1; cases x1
            rw [b1'] at x2; cases x2
            exact o
          · have hz : ∃ u, (if nI v0 < (1 : Int32) then some ((0 : Int32), P.2.2.2.2.1, P.2.2.2.2.2.1) else (if (9 : Int32) < nI v0 then some ((0 : Int32), P.2.2.2.2.1, P.2.2.2.2.2.1) else (if nI v1 ≤ (40 : Int32) then some ((1 : Int32), nI v0, nI v1) else some ((0 : Int32), P.2.2.2.2.1, P.2.2.2.2.2.1)))) = some ((0 : Int32), u) := by
              by_cases g1 : v0 < 1
              · rw [if_pos (show nI v0 < (1 : Int32) from nI_lt (b := 1) g1 (by omega))]; exact ⟨_, rfl⟩
              · rw [if_neg (show ¬ nI v0 < (1 : Int32) from nI_nlt (b := 1) (by omega) (by omega))]
                by_cases g2 : 9 < v0
                · rw [if_pos (show (9 : Int32) < nI v0 from nI_lt (a := 9) g2 (by omega))]; exact ⟨_, rfl⟩
                · rw [if_neg (show ¬ (9 : Int32) < nI v0 from nI_nlt (a := 9) (by omega) (by omega))]
                  rw [if_neg (show ¬ nI v1 ≤ (40 : Int32) from nI_ge (a := 40) (by unfold okB at o; omega) (by omega))]
                  exact ⟨_, rfl⟩
            obtain ⟨u, hz⟩ := hz
            rw [hz]
            simp only [Option.bind_some]
            unfold MB
            rw [if_pos (show (0 : Int32) = 0 ∨ (0 : Int32) = 1 from Or.inl rfl)]
            simp only [Option.bind_some]
            rw [if_pos True.intro]
            exact ⟨_, rfl, rfl⟩
      · right
        refine ⟨fun w0 i0 w1 i1 x1 x2 => ?_, u, b2, b3⟩
        rw [a1] at x1; cases x1
        rw [b1'] at x2; cases x2
    · right
      refine ⟨fun w0 i0 w1 i1 x1 x2 => ?_, u, a2, a3⟩
      rw [a1] at x1; cases x1
  exact key N (by omega)
def okR (v0 : Nat) : Prop := 2 ≤ v0 ∧ v0 ≤ 30
def setR (A : APl) (v0 : Nat) : APl := (A.1, A.2.1, A.2.2.1, A.2.2.2.1, A.2.2.2.2.1, A.2.2.2.2.2.1, v0)
theorem p_itemR {N : Nat} (hN : 100 ≤ N) {X : TextV} {P : PlanV} {A : APl} {tx : Nat → Int32} {tn : Int32} {tl : List Nat} (hX : TXc X tl) (h : TXm tx tn tl) (hP : repP P A) {j : Nat} (hj : j < 300) (hc : lt tl j = nI 114) : (∃ v0 j0, nm tl (j + 1) 59 = some (v0, j0) ∧ okR v0 ∧ ∃ u, MX6_readItem N X P (nI j) = some u ∧ u.1 = nI j0 ∧ repP u.2.2 (setR A v0)) ∨ ((∀ v0 j0, nm tl (j + 1) 59 = some (v0, j0) → ¬ okR v0) ∧ ∃ u, MX6_readItem N X P (nI j) = some u ∧ u.1 = -1) := by
  have hl := h.2.1
  unfold MX6_readItem
  rw [p_letter (N := N) hX (by omega), hc]
  simp only [Option.bind_some]
  have hnb : MX6_numbersBehind N (nI 114) = some (1 : Int32) := by
    unfold MX6_numbersBehind
    rw [if_neg (by decide), if_neg (by decide), if_pos (by decide)]
  rw [hnb]
  simp only [Option.bind_some, MLet]
  rw [nI_1]
  have key : ∀ M, 10 ≤ M → (∃ v0 j0, nm tl (j + 1) 59 = some (v0, j0) ∧ okR v0 ∧ ∃ u, MX6_readItem_l20 N X P (nI 114) (nI 1) M (nI (j + 1)) (nI 0) X.2.1 = some u ∧ u.1 = nI j0 ∧ repP u.2.2 (setR A v0)) ∨ ((∀ v0 j0, nm tl (j + 1) 59 = some (v0, j0) → ¬ okR v0) ∧ ∃ u, MX6_readItem_l20 N X P (nI 114) (nI 1) M (nI (j + 1)) (nI 0) X.2.1 = some u ∧ u.1 = -1) := by
    intro M hM
    obtain ⟨m, rfl⟩ : ∃ m, M = m + 4 := ⟨M - 4, by omega⟩
    rcases p_num (N := N) (P := P) (u2 := nI 114) hX h (i := 0) (wt := 1) (j := j + 1) (sg := 59) (by omega) (by omega) (by omega) rfl (m + 3) X.2.1 with ⟨v0, j0, a1, a2⟩ | ⟨a1, u, a2, a3⟩
    · obtain ⟨q1, q2, q3⟩ := nm_le (by omega) a1
      rw [a2, MX6_readItem_l20, if_pos (nI_le (Nat.le_refl _) (by omega))]
      unfold MX6_readItem_j110 MX6_take MX3_setRumour
      have n0 : upd X.2.1 0 (nI v0) 0 = nI v0 := pk_us
      rw [if_neg (show ¬ nI 114 = (98 : Int32) by decide), if_neg (show ¬ nI 114 = (112 : Int32) by decide), if_pos (show nI 114 = (114 : Int32) from rfl), MGc0, cl0]
      simp only [n0]
      by_cases o : okR v0
      · left
        refine ⟨v0, j0, a1, o, ?_⟩
        obtain ⟨o1, o2⟩ := o
        rw [if_neg (show ¬ nI v0 < (2 : Int32) from nI_nlt (b := 2) (by omega) (by omega)), if_pos (show nI v0 ≤ (30 : Int32) from nI_le (b := 30) (by omega) (by omega))]
        simp only [Option.bind_some]
        unfold MB
        rw [if_pos (show (1 : Int32) = 0 ∨ (1 : Int32) = 1 from Or.inr rfl)]
        simp only [Option.bind_some]
        rw [b1]
        exact ⟨_, rfl, rfl, hP.1, hP.2.1, hP.2.2.1, hP.2.2.2.1, rfl⟩
      · right
        refine ⟨fun w0 i0 x1 => ?_, ?_⟩
        · rw [a1] at x1; cases x1
          exact o
        · have hz : ∃ u, (if nI v0 < (2 : Int32) then some ((0 : Int32), P.2.2.2.2.2.2) else (if nI v0 ≤ (30 : Int32) then some ((1 : Int32), nI v0) else some ((0 : Int32), P.2.2.2.2.2.2))) = some ((0 : Int32), u) := by
            by_cases g1 : v0 < 2
            · rw [if_pos (show nI v0 < (2 : Int32) from nI_lt (b := 2) g1 (by omega))]; exact ⟨_, rfl⟩
            · rw [if_neg (show ¬ nI v0 < (2 : Int32) from nI_nlt (b := 2) (by omega) (by omega)), if_neg (show ¬ nI v0 ≤ (30 : Int32) from nI_ge (a := 30) (by unfold okR at o; omega) (by omega))]
              exact ⟨_, rfl⟩
          obtain ⟨u, hz⟩ := hz
          rw [hz]
          simp only [Option.bind_some]
          unfold MB
          rw [if_pos (show (0 : Int32) = 0 ∨ (0 : Int32) = 1 from Or.inl rfl)]
          simp only [Option.bind_some]
          rw [if_pos True.intro]
          exact ⟨_, rfl, rfl⟩
    · right
      refine ⟨fun w0 i0 x1 => ?_, u, a2, a3⟩
      rw [a1] at x1; cases x1
  exact key N (by omega)
theorem p_itemO {N : Nat} (hN : 100 ≤ N) {X : TextV} {P : PlanV} {tl : List Nat} (hX : TXc X tl) {j : Nat} (hj : j < 300) {x : Nat} (hx : x ≤ 126) (hc : lt tl j = nI x) (h1 : x ≠ 112) (h2 : x ≠ 98) (h3 : x ≠ 114) : ∃ u, MX6_readItem N X P (nI j) = some u ∧ u.1 = -1 := by
  unfold MX6_readItem
  rw [p_letter (N := N) hX (by omega), hc]
  simp only [Option.bind_some]
  have e1 : ¬ nI x = (98 : Int32) := nI_ne (b := 98) (by omega) (by omega) h2
  have e2 : ¬ nI x = (112 : Int32) := nI_ne (b := 112) (by omega) (by omega) h1
  have e3 : ¬ nI x = (114 : Int32) := nI_ne (b := 114) (by omega) (by omega) h3
  have hnb : MX6_numbersBehind N (nI x) = some (0 : Int32) := by
    unfold MX6_numbersBehind
    rw [if_neg e1, if_neg e2, if_neg e3]
  rw [hnb]
  simp only [Option.bind_some, MLet]
  have key : ∀ M, 1 ≤ M → ∃ u, MX6_readItem_l20 N X P (nI x) (0 : Int32) M (nI j + 1) (0 : Int32) X.2.1 = some u ∧ u.1 = -1 := by
    intro M hM
    obtain ⟨m, rfl⟩ : ∃ m, M = m + 1 := ⟨M - 1, by omega⟩
    rw [MX6_readItem_l20, if_pos (by decide)]
    unfold MX6_readItem_j110 MX6_take
    rw [if_neg e1, if_neg e2, if_neg e3]
    simp only [Option.bind_some]
    rw [if_pos True.intro]
    exact ⟨_, rfl, rfl⟩
  exact key N (by omega)
