def lt (tl : List Nat) (i : Nat) : Int32 := match tl[i]? with
  | some x => nI x
  | none => -1
def fg (tl : List Nat) (i : Nat) : Option Nat := match tl[i]? with
  | some x => if 48 ≤ x ∧ x ≤ 57 then some (x - 48) else none
  | none => none
def TXc (X : TextV) (tl : List Nat) : Prop := X.2.2 = nI tl.length ∧ tl.length ≤ 200 ∧ ∀ i x, tl[i]? = some x → 32 ≤ x ∧ x ≤ 126 ∧ X.1 i = nI x
def TXm (tx : Nat → Int32) (tn : Int32) (tl : List Nat) : Prop := tn = nI tl.length ∧ tl.length ≤ 200 ∧ ∀ i x, tl[i]? = some x → 32 ≤ x ∧ x ≤ 126 ∧ tx i = nI x
theorem TxR.c {Tx : TextV} {tx : Nat → Int32} {tn : Int32} {tl : List Nat} (h : TxR Tx tx tn tl) (nums : Nat → Int32) : TXc (Tx.1, nums, Tx.2.2) tl := ⟨h.1, h.2.2.1, fun i x hx => ⟨(h.2.2.2 i x hx).1, (h.2.2.2 i x hx).2.1, (h.2.2.2 i x hx).2.2.1⟩⟩
theorem TxR.m {Tx : TextV} {tx : Nat → Int32} {tn : Int32} {tl : List Nat} (h : TxR Tx tx tn tl) : TXm tx tn tl := ⟨h.2.1, h.2.2.1, fun i x hx => ⟨(h.2.2.2 i x hx).1, (h.2.2.2 i x hx).2.1, (h.2.2.2 i x hx).2.2.2⟩⟩
theorem TXc.nu {X : TextV} {tl : List Nat} (h : TXc X tl) (nums : Nat → Int32) : TXc (X.1, nums, X.2.2) tl := h
theorem p_letter {N : Nat} {X : TextV} {tl : List Nat} (h : TXc X tl) {i : Nat} (hi : i < 2 ^ 31) : MX6_letterAt N X (nI i) = some (lt tl i) := by
  obtain ⟨h1, h2, h3⟩ := h
  unfold MX6_letterAt MX6_letterAt_j30 lt
  rw [h1, if_neg (nI_pos hi)]
  by_cases g : i < tl.length
  · have := h3 i _ (List.getElem?_eq_getElem g)
    rw [if_neg (nI_ge g (by omega)), if_neg (show ¬ (200 : Int32) ≤ nI i from nI_ge (b := 200) (by omega) (by omega)), List.getElem?_eq_getElem g]
    simp (disch := omega) only [MG_ok, nI_clamp, this.2.2]
  · rw [if_pos (nI_le (by omega) hi), List.getElem?_eq_none (by omega)]
theorem p_mletter {N : Nat} {tx : Nat → Int32} {tn : Int32} {tl : List Nat} (h : TXm tx tn tl) {i : Nat} (hi : i < 2 ^ 31) : MX8_letterAt N tx tn (nI i) = some (lt tl i) := by
  obtain ⟨h1, h2, h3⟩ := h
  unfold MX8_letterAt lt
  rw [h1]
  by_cases g : i < tl.length
  · have := h3 i _ (List.getElem?_eq_getElem g)
    rw [if_neg (nI_ge g (by omega)), List.getElem?_eq_getElem g]
    simp (disch := omega) only [MG_ok, nI_clamp, this.2.2]
  · rw [if_pos (nI_le (by omega) hi), List.getElem?_eq_none (by omega)]
theorem fg_cases {N : Nat} {tx : Nat → Int32} {tn : Int32} {tl : List Nat} (h : TXm tx tn tl) (i : Nat) : (fg tl i = none ∧ MX6_isFigure N (lt tl i) = some 0 ∧ MX8_in N (lt tl i).toInt64 (48 : Int64) (57 : Int64) = some 0) ∨ (∃ d, fg tl i = some d ∧ d ≤ 9 ∧ lt tl i = nI (48 + d) ∧ MX6_isFigure N (lt tl i) = some 1 ∧ MX8_in N (lt tl i).toInt64 (48 : Int64) (57 : Int64) = some 1) := by
  have hi : MX8_in N (lt tl i).toInt64 (48 : Int64) (57 : Int64) = some (if lt tl i < 48 ∨ 57 < lt tl i then 0 else 1) := p_in _ 48 57
  have hf : MX6_isFigure N (lt tl i) = some (if lt tl i < 48 ∨ 57 < lt tl i then 0 else 1) := by
    unfold MX6_isFigure MX6_isFigure_j16
    by_cases g1 : lt tl i < 48
    · rw [if_pos g1, if_pos (Or.inl g1)]
    · rw [if_neg g1]
      by_cases g2 : 57 < lt tl i
      · rw [if_pos g2, if_pos (Or.inr g2)]
      · rw [if_neg g2, if_neg (fun q => q.elim g1 g2)]
  rw [hi, hf]
  unfold fg lt
  cases hx : tl[i]? with
  | none =>
    left
    refine ⟨rfl, ?_, ?_⟩
    · rw [if_pos (show (-1 : Int32) < 48 ∨ 57 < (-1 : Int32) by decide)]
    · rw [if_pos (show (-1 : Int32) < 48 ∨ 57 < (-1 : Int32) by decide)]
  | some x =>
    obtain ⟨b1', b2', _⟩ := h.2.2 i x hx
    have e48 : (nI x < (48 : Int32)) ↔ x < 48 := nI_ltI (b := 48) (by omega) (by omega)
    have e57 : ((57 : Int32) < nI x) ↔ 57 < x := nI_ltI (a := 57) (by omega) (by omega)
    show ((if 48 ≤ x ∧ x ≤ 57 then some (x - 48) else none) = none ∧ _) ∨ _
    by_cases g : 48 ≤ x ∧ x ≤ 57
    · right
      have hng : ¬ (nI x < (48 : Int32) ∨ (57 : Int32) < nI x) := by
        rw [e48, e57]
        omega
      refine ⟨x - 48, if_pos g, by omega, ?_, ?_, ?_⟩
      · show nI x = nI (48 + (x - 48))
        congr 1
        omega
      · show some (if nI x < (48 : Int32) ∨ (57 : Int32) < nI x then (0 : Int32) else 1) = some 1
        rw [if_neg hng]
      · show some (if nI x < (48 : Int32) ∨ (57 : Int32) < nI x then (0 : Int32) else 1) = some 1
        rw [if_neg hng]
    · left
      have hpg : nI x < (48 : Int32) ∨ (57 : Int32) < nI x := by
        rw [e48, e57]
        omega
      refine ⟨if_neg g, ?_, ?_⟩
      · show some (if nI x < (48 : Int32) ∨ (57 : Int32) < nI x then (0 : Int32) else 1) = some 0
        rw [if_pos hpg]
      · show some (if nI x < (48 : Int32) ∨ (57 : Int32) < nI x then (0 : Int32) else 1) = some 0
        rw [if_pos hpg]
def pn (tl : List Nat) (i : Nat) : Option (Nat × Nat) := match fg tl i with
  | none => none
  | some d => match fg tl (i + 1) with
    | none => some (d, 1)
    | some e => some (10 * d + e, 2)
def nm (tl : List Nat) (i sg : Nat) : Option (Nat × Nat) := match pn tl i with
  | none => none
  | some z => if lt tl (i + z.2) = nI sg then some (z.1, i + z.2 + 1) else none
theorem pn_facts {N : Nat} {X : TextV} {tx : Nat → Int32} {tn : Int32} {tl : List Nat} (hX : TXc X tl) (h : TXm tx tn tl) (i : Nat) (hi : i < 1000) : (pn tl i = none ∧ MX6_figuresFrom N X (nI i) = some 0) ∨ (∃ v k, pn tl i = some (v, k) ∧ v ≤ 99 ∧ 1 ≤ k ∧ k ≤ 2 ∧ MX6_figuresFrom N X (nI i) = some (nI k) ∧ MX6_valueOf N X (nI i) (nI k) = some (nI v)) := by
  have l0 := p_letter (N := N) hX (i := i) (by omega)
  have l1 := p_letter (N := N) hX (i := i + 1) (by omega)
  unfold pn MX6_figuresFrom MX6_valueOf
  rw [nI_1, l0, l1]
  simp only [Option.bind_some, MLet]
  rcases fg_cases (N := N) h i with ⟨a1, a2, a3⟩ | ⟨d, a1, a2, a3, a4, a5⟩
  · left
    rw [a1, a2]
    simp only [Option.bind_some]
    rw [if_pos True.intro]
    exact ⟨trivial, rfl⟩
  · right
    have e0 : nI (48 + d) - (48 : Int32) = nI d := by
      rw [show (48 : Int32) = nI 48 from rfl, pk_sub (by omega)]
      congr 1
      omega
    rw [a1, a4]
    simp only [Option.bind_some]
    rw [b1]
    rcases fg_cases (N := N) h (i + 1) with ⟨c1, c2, c3⟩ | ⟨e, c1, c2, c3, c4, c5⟩
    · refine ⟨d, 1, by rw [c1], by omega, by omega, by omega, ?_, ?_⟩
      · rw [c2]
        simp only [Option.bind_some]
        rw [if_pos True.intro]
        rfl
      · rw [if_neg (show ¬ nI 1 = (2 : Int32) by decide), a3, e0]
    · refine ⟨10 * d + e, 2, by rw [c1], by omega, by omega, by omega, ?_, ?_⟩
      · rw [c4]
        simp only [Option.bind_some]
        rw [b1]
        rfl
      · rw [if_pos (show nI 2 = (2 : Int32) from rfl), a3, c3, e0, k10, nI_mul, nI_add, show (48 : Int32) = nI 48 from rfl, pk_sub (by omega)]
        congr 2
        omega
theorem p_takesN {N : Nat} (hN : 100 ≤ N) {tx : Nat → Int32} {tn lo hi sg : Int32} {tl : List Nat} (h : TXm tx tn tl) (i : Nat) (hi' : i < 1000) : (pn tl i = none ∧ MX8_takesNumber N tx tn (nI i) lo hi sg = some (0, nI i, 0)) ∨ (∃ v k, pn tl i = some (v, k) ∧ v ≤ 99 ∧ 1 ≤ k ∧ k ≤ 2 ∧ MX8_takesNumber N tx tn (nI i) lo hi sg = MX8_takesNumber_j79 N tx tn (nI i) lo hi sg (nI (i + k)) (nI v)) := by
  have l0 := p_mletter (N := N) h (i := i) (by omega)
  have l1 := p_mletter (N := N) h (i := i + 1) (by omega)
  have key : ∀ M, 4 ≤ M → (pn tl i = none ∧ MX8_takesNumber_l11 N tx tn (nI i) lo hi sg M (nI i) (0 : Int32) = some (0, nI i, 0)) ∨ (∃ v k, pn tl i = some (v, k) ∧ v ≤ 99 ∧ 1 ≤ k ∧ k ≤ 2 ∧ MX8_takesNumber_l11 N tx tn (nI i) lo hi sg M (nI i) (0 : Int32) = MX8_takesNumber_j79 N tx tn (nI i) lo hi sg (nI (i + k)) (nI v)) := by
    intro M hM
    obtain ⟨m, rfl⟩ : ∃ m, M = m + 3 := ⟨M - 3, by omega⟩
    have s0 : nI i - nI i = nI 0 := by rw [pk_sub (Nat.le_refl _), Nat.sub_self]
    have s1 : nI (i + 1) - nI i = nI 1 := by rw [pk_sub (by omega)]; congr 1; omega
    have s2 : nI (i + 2) - nI i = nI 2 := by rw [pk_sub (by omega)]; congr 1; omega
    unfold pn
    rw [MX8_takesNumber_l11, s0, if_neg (by decide), l0]
    simp only [Option.bind_some]
    rcases fg_cases (N := N) h i with ⟨a1, a2, a3⟩ | ⟨d, a1, a2, a3, a4, a5⟩
    · left
      rw [a1, a3]
      simp only [Option.bind_some]
      rw [if_pos True.intro]
      unfold MX8_takesNumber_j79
      rw [if_pos rfl]
      exact ⟨trivial, rfl⟩
    · right
      have e0 : (10 : Int32) * (0 : Int32) + lt tl i - (48 : Int32) = nI d := by
        rw [a3, k10, k0, nI_mul, nI_add, show (48 : Int32) = nI 48 from rfl, pk_sub (by omega)]
        congr 1
        omega
      rw [a1, a5]
      simp only [Option.bind_some]
      rw [b1, e0, nI_1, MX8_takesNumber_l11, s1, if_neg (by decide), l1]
      simp only [Option.bind_some]
      rcases fg_cases (N := N) h (i + 1) with ⟨c1, c2, c3⟩ | ⟨e, c1, c2, c3, c4, c5⟩
      · refine ⟨d, 1, by rw [c1], by omega, by omega, by omega, ?_⟩
        rw [c3]
        simp only [Option.bind_some]
        rw [if_pos True.intro]
      · refine ⟨10 * d + e, 2, by rw [c1], by omega, by omega, by omega, ?_⟩
        have e1 : (10 : Int32) * nI d + lt tl (i + 1) - (48 : Int32) = nI (10 * d + e) := by
          rw [c3, k10, nI_mul, nI_add, show (48 : Int32) = nI 48 from rfl, pk_sub (by omega)]
          congr 1
          omega
        rw [c5]
        simp only [Option.bind_some]
        rw [b1, e1, nI_1, MX8_takesNumber_l11, show i + 1 + 1 = i + 2 by omega, s2, if_pos (by decide)]
  exact key N (by omega)
theorem nm_le {tl : List Nat} {i sg v j : Nat} (hsg : sg < 200) (h : nm tl i sg = some (v, j)) : i + 2 ≤ j ∧ j ≤ tl.length ∧ v ≤ 99 := by
  unfold nm at h
  cases hp : pn tl i with
  | none => rw [hp] at h; cases h
  | some z =>
    rw [hp] at h
    have h : (if lt tl (i + z.2) = nI sg then some (z.1, i + z.2 + 1) else none) = some (v, j) := h
    split at h
    · rename_i g
      cases h
      have hz : 1 ≤ z.2 ∧ z.1 ≤ 99 := by
        unfold pn at hp
        have f9 : ∀ q d, fg tl q = some d → d ≤ 9 := by
          intro q d hd
          unfold fg at hd
          split at hd
          · split at hd
            · cases hd; omega
            · cases hd
          · cases hd
        split at hp
        · cases hp
        · rename_i d hd
          have := f9 _ _ hd
          split at hp
          · cases hp; simp; omega
          · rename_i e he
            have := f9 _ _ he
            cases hp; simp; omega
      have hl : i + z.2 < tl.length := by
        rcases Nat.lt_or_ge (i + z.2) tl.length with q | q
        · exact q
        · unfold lt at g
          rw [List.getElem?_eq_none q] at g
          have := nI_pos' (n := sg) (by omega)
          rw [← g] at this
          exact absurd this (by decide)
      omega
    · cases h
theorem p_takes {N : Nat} (hN : 100 ≤ N) {tx : Nat → Int32} {tn : Int32} {lo hi sg : Nat} {tl : List Nat} (h : TXm tx tn tl) (i : Nat) (hi' : i < 1000) (hlo : lo < 1000) (hhi : hi < 1000) : (∃ v j, nm tl i sg = some (v, j) ∧ lo ≤ v ∧ v ≤ hi ∧ MX8_takesNumber N tx tn (nI i) (nI lo) (nI hi) (nI sg) = some (1, nI j, nI v)) ∨ ((∀ v j, nm tl i sg = some (v, j) → ¬ (lo ≤ v ∧ v ≤ hi)) ∧ ∃ y z, MX8_takesNumber N tx tn (nI i) (nI lo) (nI hi) (nI sg) = some (0, y, z)) := by
  rcases p_takesN hN (lo := nI lo) (hi := nI hi) (sg := nI sg) h i hi' with ⟨a1, a2⟩ | ⟨v, k, a1, a2, a3, a4, a5⟩
  · right
    refine ⟨fun v j e => ?_, _, _, a2⟩
    unfold nm at e
    rw [a1] at e
    cases e
  · have e1 : nm tl i sg = if lt tl (i + k) = nI sg then some (v, i + k + 1) else none := by
      unfold nm
      rw [a1]
    have l0 := p_mletter (N := N) h (i := i + k) (by omega)
    have hin : MX8_in N (nI v).toInt64 (nI lo).toInt64 (nI hi).toInt64 = some (if nI v < nI lo ∨ nI hi < nI v then 0 else 1) := p_in _ _ _
    rw [a5, e1]
    unfold MX8_takesNumber_j79
    rw [if_neg (nI_ne (by omega) (by omega) (by omega)), hin, l0]
    simp only [Option.bind_some]
    by_cases g1 : lo ≤ v ∧ v ≤ hi
    · rw [if_neg (show ¬ (nI v < nI lo ∨ nI hi < nI v) by rw [nI_ltI (by omega) (by omega), nI_ltI (by omega) (by omega)]; omega), b1]
      by_cases g2 : lt tl (i + k) = nI sg
      · left
        rw [if_pos g2, if_pos g2]
        refine ⟨v, i + k + 1, rfl, g1.1, g1.2, ?_⟩
        rw [nI_1]
      · right
        rw [if_neg g2, if_neg g2]
        exact ⟨fun v' j' e => (by cases e), _, _, rfl⟩
    · right
      rw [if_pos (show nI v < nI lo ∨ nI hi < nI v by rw [nI_ltI (by omega) (by omega), nI_ltI (by omega) (by omega)]; omega), b0]
      refine ⟨fun v' j' e => ?_, _, _, rfl⟩
      split at e
      · cases e; exact g1
      · cases e
theorem p_num {N : Nat} {X : TextV} {P : PlanV} {tx : Nat → Int32} {tn u2 : Int32} {tl : List Nat} (hX : TXc X tl) (h : TXm tx tn tl) {i wt j sg : Nat} (hi : i < wt) (hw : wt ≤ 3) (hj : j < 1000) (hsg : sg = if i + 1 = wt then 59 else 44) (m : Nat) (nums : Nat → Int32) : (∃ v j', nm tl j sg = some (v, j') ∧ MX6_readItem_l20 N X P u2 (nI wt) (m + 1) (nI j) (nI i) nums = MX6_readItem_l20 N X P u2 (nI wt) m (nI j') (nI (i + 1)) (upd nums i (nI v))) ∨ (nm tl j sg = none ∧ ∃ u, MX6_readItem_l20 N X P u2 (nI wt) (m + 1) (nI j) (nI i) nums = some u ∧ u.1 = -1) := by
  rw [MX6_readItem_l20, if_neg (nI_ge hi (by omega)), if_neg (show ¬ (3 : Int32) ≤ nI i from nI_ge (b := 3) (by omega) (by omega))]
  rcases pn_facts (N := N) (hX.nu nums) h j hj with ⟨a1, a2⟩ | ⟨v, k, a1, a2, a3, a4, a5, a6⟩
  · right
    refine ⟨by unfold nm; rw [a1], ?_⟩
    rw [a2]
    simp only [Option.bind_some]
    rw [if_pos True.intro]
    exact ⟨_, rfl, rfl⟩
  · have e1 : nm tl j sg = if lt tl (j + k) = nI sg then some (v, j + k + 1) else none := by
      unfold nm
      rw [a1]
    have l0 := p_letter (N := N) (hX.nu (upd nums i (nI v))) (i := j + k) (by omega)
    rw [a5]
    simp only [Option.bind_some]
    rw [if_neg (show ¬ nI k = (0 : Int32) from nI_ne (b := 0) (by omega) (by omega) (by omega)), a6]
    simp (disch := omega) only [Option.bind_some, MLet, MG_ok, nI_clamp, nI_add]
    rw [l0]
    simp only [Option.bind_some]
    have ew : nI wt - (1 : Int32) = nI (wt - 1) := pk_sub (b := 1) (by omega)
    have hsel : ∀ (R : Int32 → Option (Int32 × (Nat → Int32) × (Nat → Int32) × (Nat → Int32) × (Nat → Int32) × Int32 × Int32 × Int32 × Int32)), (if nI i = nI wt - (1 : Int32) then R 59 else R 44) = R (nI sg) := by
      intro R
      rw [ew]
      by_cases g : i + 1 = wt
      · rw [if_pos (show nI i = nI (wt - 1) by congr 1; omega), hsg, if_pos g]
        rfl
      · rw [if_neg (nI_ne (by omega) (by omega) (by omega)), hsg, if_neg g]
        rfl
    rw [hsel (MX6_readItem_j96 P (nI i) nums (MX6_readItem_l20 N X P u2 (nI wt) m) (nI v) (nI (j + k)) (lt tl (j + k)))]
    unfold MX6_readItem_j96
    rw [e1]
    by_cases g2 : lt tl (j + k) = nI sg
    · left
      rw [if_pos g2, if_pos g2]
      refine ⟨v, j + k + 1, rfl, ?_⟩
      rw [nI_1, nI_1, nI_clamp (by omega)]
    · right
      rw [if_neg g2, if_neg g2]
      exact ⟨rfl, _, rfl, rfl⟩
theorem cl0 : (0 : Int32).toNatClampNeg = 0 := by decide
theorem cl1 : (1 : Int32).toNatClampNeg = 1 := by decide
theorem cl2 : (2 : Int32).toNatClampNeg = 2 := by decide
theorem MGc0 {α : Type} {k : Option α} : MG (0 : Int32) 3 k = k := by unfold MG; rw [if_neg (by decide)]
theorem MGc1 {α : Type} {k : Option α} : MG (1 : Int32) 3 k = k := by unfold MG; rw [if_neg (by decide)]
theorem MGc2 {α : Type} {k : Option α} : MG (2 : Int32) 3 k = k := by unfold MG; rw [if_neg (by decide)]
