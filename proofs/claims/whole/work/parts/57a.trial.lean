theorem p_tries {N : Nat} (hN : 100 ≤ N) {c : Nat} {A : APl} {w : Nat → Int32} {a : ASt} (h9 : A.2.2.2.1 ≤ 9) (hw : WF A.2.2.2.1 c a) (hK : repK 0 w A (mOf a)) : ∃ w', MX8_tries N w = some w' ∧ repK 66 w' A (mOf a) ∧ frm 66 w w' := by
  have hl := hw.len
  obtain ⟨w', e, q, f⟩ := p_mcopy hN (s := 0) (d := 66) (w := w) (by omega) (by omega) (by omega)
  have e' : MX8_copy N w (0 : Int32) (66 : Int32) = some w' := e
  refine ⟨w', ?_, hK.cp q (by show a.1.length ≤ 9; omega) h9, f⟩
  unfold MX8_tries
  rw [e']
  rfl
theorem p_start {N : Nat} {H n c : Nat} {L Tr : LineV} {a : ASt} (hL : repL H L a) (hw : WF n c a) (h9 : n ≤ 9) : ∃ u, MX0_startTrial N L Tr = some u ∧ repL H u a := by
  obtain ⟨u, e, q⟩ := p_copyFrom (N := N) (L := Tr) hL hw h9
  refine ⟨u, ?_, q⟩
  unfold MX0_startTrial
  rw [e]
  rfl
theorem p_mbehind_l {N : Nat} (hN : 100 ≤ N) {F : Nat → Int32} {A : APl} {x : Int32} (hA : WFP A) (hF : rfF F A) : ∀ (m k i c : Nat) (w : Nat → Int32) (a : ASt), k < m → i + k < 1000000 → repK 66 w A (mOf a) → WF A.2.2.2.1 c a → c + 2 * k ≤ 999999 →
    ∃ w', MX8_behind_l34 N (nI A.2.2.2.1) F (nI A.2.2.2.2.1) (nI A.2.2.2.2.2.1) (nI A.2.2.2.2.2.2) (nI (i + k)) x m (nI i) w = MX8_behind_j51 x w' ∧ repK 66 w' A (mOf (aRun A k a)) ∧ frm 66 w w' := by
  intro m
  induction m with
  | zero => intro k i c w a h; omega
  | succ m ih =>
    intro k i c w a h1 h2 hK hw hc
    rw [MX8_behind_l34]
    cases k with
    | zero =>
      rw [if_pos (nI_le (by omega) (by omega))]
      exact ⟨_, rfl, hK, frm.rfl'⟩
    | succ k =>
      obtain ⟨w1, e1, q1, f1⟩ := p_mpasses hN (r := 66) (by omega) hA hF hK hw (by omega)
      have e1' : MX8_passes N w (nI A.2.2.2.1) F (nI A.2.2.2.2.1) (nI A.2.2.2.2.2.1) (nI A.2.2.2.2.2.2) (66 : Int32) = some w1 := e1
      rw [if_neg (show ¬ nI (i + (k + 1)) ≤ nI i from nI_ge (by omega) (by omega)), e1']
      simp only [Option.bind_some]
      rw [nI_1]
      obtain ⟨w2, e2, q2, f2⟩ := ih k (i + 1) (c + 2) w1 _ (by omega) (by omega) q1 (hw.min hA) (by omega)
      rw [show i + 1 + k = i + (k + 1) by omega] at e2
      exact ⟨w2, e2, q2, f1.tr f2⟩
theorem p_mwarmth_l {N : Nat} (hN : 100 ≤ N) {F : Nat → Int32} {A : APl} (hA : WFP A) (hF : rfF F A) : ∀ (m k i c : Nat) (w : Nat → Int32) (a : ASt), k < m → i + k < 1000000 → repK 66 w A (mOf a) → WF A.2.2.2.1 c a → c + 2 * k ≤ 999999 →
    ∃ w', MX8_warmth_l20 N (nI A.2.2.2.1) F (nI A.2.2.2.2.1) (nI A.2.2.2.2.2.1) (nI A.2.2.2.2.2.2) (nI (i + k)) m (nI i) w = MX8_warmth_j37 N (nI A.2.2.2.2.2.1) w' ∧ repK 66 w' A (mOf (aRun A k a)) ∧ frm 66 w w' := by
  intro m
  induction m with
  | zero => intro k i c w a h; omega
  | succ m ih =>
    intro k i c w a h1 h2 hK hw hc
    rw [MX8_warmth_l20]
    cases k with
    | zero =>
      rw [if_pos (nI_le (by omega) (by omega))]
      exact ⟨_, rfl, hK, frm.rfl'⟩
    | succ k =>
      obtain ⟨w1, e1, q1, f1⟩ := p_mpasses hN (r := 66) (by omega) hA hF hK hw (by omega)
      have e1' : MX8_passes N w (nI A.2.2.2.1) F (nI A.2.2.2.2.1) (nI A.2.2.2.2.2.1) (nI A.2.2.2.2.2.2) (66 : Int32) = some w1 := e1
      rw [if_neg (show ¬ nI (i + (k + 1)) ≤ nI i from nI_ge (by omega) (by omega)), e1']
      simp only [Option.bind_some]
      rw [nI_1]
      obtain ⟨w2, e2, q2, f2⟩ := ih k (i + 1) (c + 2) w1 _ (by omega) (by omega) q1 (hw.min hA) (by omega)
      rw [show i + 1 + k = i + (k + 1) by omega] at e2
      exact ⟨w2, e2, q2, f1.tr f2⟩
theorem i32_lt9 {x : Int32} : (8 < x) ↔ ¬ x < 9 := by
  rw [Int32.lt_iff_toInt_lt, Int32.lt_iff_toInt_lt]
  have h8 : (8 : Int32).toInt = 8 := by decide
  have h9 : (9 : Int32).toInt = 9 := by decide
  omega
theorem p_lineBehind {N : Nat} (hN : 100 ≤ N) {P : PlanV} {A : APl} {k c : Nat} {L Tr : LineV} {a : ASt} (hP : repP P A) (hA : WFP A) (hk : k < N) (hL : repL A.2.2.2.2.2.1 L a) (hw : WF A.2.2.2.1 c a) (hc : c + 2 * k ≤ 999999) : ∃ u, MX0_lineBehind N P L Tr (nI k) = some u ∧ repL A.2.2.2.2.2.1 u (aRun A k a) := by
  obtain ⟨u, e, q⟩ := p_start (N := N) (Tr := Tr) hL hw hA.1
  obtain ⟨v, e2, q2⟩ := p_run hN hP hA hk q hw hc
  refine ⟨v, ?_, q2⟩
  unfold MX0_lineBehind
  rw [e]
  simp only [Option.bind_some]
  rw [e2]
  rfl
theorem s_behind {N : Nat} (hN : 100000 ≤ N) {c : Nat} (hc : c ≤ 500000) {A : APl} {P : PlanV} {Nw : LineV} {U K : ShelfV} {w F : Nat → Int32} {a : ASt} {us ks : List ASt} (h : Core c A P Nw U K w F a us ks) (Tr : LineV) (x y : Int32) : ∃ u v, MX7_behind N P Nw Tr x y = some u ∧ MX8_behind N w (nI A.2.2.2.1) F (nI A.2.2.2.2.1) (nI A.2.2.2.2.2.1) (nI A.2.2.2.2.2.2) x y = some v ∧ u.1 = v.1 ∧ frm 66 w v.2 := by
  obtain ⟨c1, c2, c3, c4, ⟨n1, n2, n3, n4⟩, c6, c7⟩ := id h
  have h9 := c1.1
  have hi : MX8_in N x.toInt64 (0 : Int64) (60 : Int64) = some (if x < 0 ∨ 60 < x then 0 else 1) := p_in x 0 60
  have hj : MX8_in N y.toInt64 (-1 : Int64) (8 : Int64) = some (if y < -1 ∨ 8 < y then 0 else 1) := by
    have := p_in (N := N) y (-1) 8
    rw [show (-1 : Int32).toInt64 = (-1 : Int64) by decide, show (8 : Int32).toInt64 = (8 : Int64) by decide] at this
    exact this
  unfold MX7_behind MX8_behind
  rw [hi, hj]
  simp only [Option.bind_some]
  by_cases h1 : x < 0
  · rw [if_pos h1, if_pos (show x < 0 ∨ 60 < x from Or.inl h1), b0]
    exact ⟨_, _, rfl, rfl, rfl, frm.rfl'⟩
  · by_cases h2 : 60 < x
    · rw [if_neg h1, if_pos h2, if_pos (show x < 0 ∨ 60 < x from Or.inr h2), b0]
      exact ⟨_, _, rfl, rfl, rfl, frm.rfl'⟩
    · obtain ⟨k, _, k2', e⟩ := rng (lo := 0) (hi := 60) (by omega) (by omega) h1 h2
      rw [if_neg h1, if_neg h2, if_neg (show ¬ (x < 0 ∨ 60 < x) from fun q => q.elim h1 h2), b1]
      subst e
      by_cases h3 : y < -1
      · rw [if_pos h3, if_pos (show y < -1 ∨ 8 < y from Or.inl h3), b0]
        exact ⟨_, _, rfl, rfl, rfl, frm.rfl'⟩
      · by_cases h4 : 8 < y
        · rw [if_neg h3, if_neg (i32_lt9.mp h4), if_pos (show y < -1 ∨ 8 < y from Or.inr h4), b0]
          exact ⟨_, _, rfl, rfl, rfl, frm.rfl'⟩
        · rw [if_neg h3, if_pos (Decidable.byContradiction (fun q => h4 (i32_lt9.mpr q))), if_neg (show ¬ (y < -1 ∨ 8 < y) from fun q => q.elim h3 h4), b1]
          obtain ⟨L', e1, q1⟩ := p_lineBehind (N := N) (Tr := Tr) (by omega) (k := k) c3 c1 (by omega) n1 n2 (by omega)
          obtain ⟨w1, e2, q2, f2⟩ := p_tries (N := N) (by omega) h9 n2 n4
          obtain ⟨w2, e3, q3, f3⟩ := p_mbehind_l (N := N) (by omega) (x := y) c1 c4 N k 0 c w1 a (by omega) (by omega) q2 n2 (by omega)
          rw [Nat.zero_add] at e3
          have w3 := WF.run c1 k c a n2
          have l3 := w3.len
          have r3 : w2 68 = nI (aRun A k a).1.length := q3.2.2.1
          have r4 := q3.2.2.2.1
          rw [e1, e2]
          simp only [Option.bind_some]
          rw [k0, e3]
          unfold MX8_behind_j51
          by_cases h5 : y = -1
          · subst h5
            rw [if_pos rfl, if_neg (by decide)]
            have k68 : (68 : Int32) = nI 68 := rfl
            simp (disch := omega) only [k68, MG_ok, nI_clamp, r3]
            exact ⟨_, _, rfl, rfl, q1.1, f2.tr f3⟩
          · have hy0 : ¬ y < 0 := by
              rw [Int32.lt_iff_toInt_lt] at h3 ⊢
              have t1 : (-1 : Int32).toInt = -1 := by decide
              have t0 : (0 : Int32).toInt = 0 := by decide
              rw [t1] at h3
              rw [t0]
              intro q
              exact h5 (Int32.toInt_inj.mp (by rw [t1]; omega))
            obtain ⟨j, _, j2, e⟩ := rng (lo := 0) (hi := 8) (by omega) (by omega) hy0 h4
            subst e
            rw [if_neg h5, if_pos (nI_pos' (by omega))]
            have k68 : (68 : Int32) = nI 68 := rfl
            have k69 : (69 : Int32) = nI 69 := rfl
            simp (disch := omega) only [k68, k69, nI_add, MG_ok, nI_clamp, r3]
            by_cases h6 : (aRun A k a).1.length ≤ j
            · rw [if_pos (nI_le h6 (by omega))]
              unfold MX1_whoAt MX1_whoAt_j27
              rw [q1.1, if_neg hy0, if_pos (nI_le h6 (by omega))]
              exact ⟨_, _, rfl, rfl, rfl, f2.tr f3⟩
            · have hj : j < (aRun A k a).1.length := by omega
              have r := r4 j _ (List.getElem?_eq_getElem hj)
              rw [if_neg (nI_ge (by omega) (by omega)), p_whoAt q1.1 q1.2.1 (by omega) hj, r]
              exact ⟨_, _, rfl, rfl, rfl, f2.tr f3⟩
theorem heat_mono {H : Nat} : ∀ {a b : Nat}, a ≤ b → heat H a ≤ heat H b := by
  intro a b hab
  induction b with
  | zero => rw [show a = 0 by omega]; exact Nat.le_refl _
  | succ b ih =>
    by_cases e : a = b + 1
    · rw [e]; exact Nat.le_refl _
    · have := ih (by omega)
      rw [heat]
      omega
theorem p_warmthOf_l {H lo b : Nat} (hH : H ≤ 40) (hb : b < 2 ^ 30) : ∀ (m k i : Nat), i + k = b → k < m → lo ≤ i → MX8_warmthOf_l5 (nI H) (nI b) m (nI (heat H i - heat H lo)) (nI i) = some (nI (heat H b - heat H lo)) := by
  intro m
  induction m with
  | zero => intro k i h1 h2; omega
  | succ m ih =>
    intro k i h1 h2 h3
    rw [MX8_warmthOf_l5]
    cases k with
    | zero =>
      have e : i = b := by omega
      subst e
      rw [if_pos (nI_le (Nat.le_refl _) (by omega))]
      rfl
    | succ k =>
      rw [if_neg (nI_ge (by omega) (by omega))]
      unfold MX8_warmthOf_j32 MLet
      have hm := heat_mono (H := H) h3
      have := ih k (i + 1) (by omega) (by omega) (by omega)
      rw [nI_1]
      have e2 : heat H (i + 1) = heat H i + (H - i) := rfl
      by_cases g : H ≤ i
      · rw [if_pos (nI_le g (by omega)), k0, nI_add]
        rw [e2, show heat H i + (H - i) - heat H lo = heat H i - heat H lo + 0 by omega] at this
        exact this
      · rw [if_neg (nI_ge (by omega) (by omega)), pk_sub (by omega), nI_add]
        rw [e2, show heat H i + (H - i) - heat H lo = heat H i - heat H lo + (H - i) by omega] at this
        exact this
theorem p_warmthOf {N H lo b : Nat} (hH : H ≤ 40) (hb : b < 2 ^ 30) (hN : b < N) (hlo : lo ≤ b) : MX8_warmthOf N (nI H) (nI lo) (nI b) = some (nI (heat H b - heat H lo)) := by
  have := p_warmthOf_l (lo := lo) hH hb N (b - lo) lo (by omega) (by omega) (Nat.le_refl _)
  rw [Nat.sub_self] at this
  exact this
theorem give_lo {A : APl} {a : ASt} {head : Bool} : a.2.2.2.2.2.2 ≤ (aGive A a head).2.2.2.2.2.2 := by
  unfold aGive
  split
  · exact Nat.le_refl _
  · exact Nat.le_succ _
theorem min_lo {A : APl} {a : ASt} {two rum : Bool} : a.2.2.2.2.2.2 ≤ (aMin A two rum a).2.2.2.2.2.2 := by
  have h1 : (aLp (stS A) A.2.2.2.1 0 (aLp (stJ A) A.2.2.2.1 0 a)).2.2.2 = a.2.2.2 := by
    rw [lp_mi (fun p a => stS_mi), lp_mi (fun p a => stJ_mi)]
  show _ ≤ (aBak A two rum (aLp (stS A) A.2.2.2.1 0 (aLp (stJ A) A.2.2.2.1 0 a))).2.2.2.2.2.2
  generalize aLp (stS A) A.2.2.2.1 0 (aLp (stJ A) A.2.2.2.1 0 a) = b at h1
  have h2 : a.2.2.2.2.2.2 = b.2.2.2.2.2.2 := by rw [h1]
  rw [h2]
  unfold aBak
  split
  · split
    · exact Nat.le_trans give_lo give_lo
    · exact give_lo
  · exact Nat.le_refl _
theorem run_lo {A : APl} : ∀ (k : Nat) (a : ASt), a.2.2.2.2.2.2 ≤ (aRun A k a).2.2.2.2.2.2 := by
  intro k
  induction k with
  | zero => intro a; exact Nat.le_refl _
  | succ k ih => intro a; exact Nat.le_trans min_lo (ih _)
theorem s_warmth {N : Nat} (hN : N = 100000) {c : Nat} (hc : c ≤ 40000) {A : APl} {P : PlanV} {Nw : LineV} {U K : ShelfV} {w F : Nat → Int32} {a : ASt} {us ks : List ASt} (h : Core c A P Nw U K w F a us ks) (Tr : LineV) (x : Int32) : ∃ u v, MX7_warmth N P Nw Tr x = some u ∧ MX8_warmth N w (nI A.2.2.2.1) F (nI A.2.2.2.2.1) (nI A.2.2.2.2.2.1) (nI A.2.2.2.2.2.2) x = some v ∧ u.1 = v.1 ∧ frm 66 w v.2 := by
  obtain ⟨c1, c2, c3, c4, ⟨n1, n2, n3, n4⟩, c6, c7⟩ := id h
  have h9 := c1.1
  have hi : MX8_in N x.toInt64 (0 : Int64) (60 : Int64) = some (if x < 0 ∨ 60 < x then 0 else 1) := p_in x 0 60
  unfold MX7_warmth MX8_warmth
  rw [hi]
  simp only [Option.bind_some]
  by_cases h1 : x < 0
  · rw [if_pos h1, if_pos (show x < 0 ∨ 60 < x from Or.inl h1), b0]
    exact ⟨_, _, rfl, rfl, rfl, frm.rfl'⟩
  · by_cases h2 : 60 < x
    · rw [if_neg h1, if_neg (i32_nle h2), if_pos (show x < 0 ∨ 60 < x from Or.inr h2), b0]
      exact ⟨_, _, rfl, rfl, rfl, frm.rfl'⟩
    · obtain ⟨k, _, k2', e⟩ := rng (lo := 0) (hi := 60) (by omega) (by omega) h1 h2
      rw [if_neg h1, if_pos (i32_le h2), if_neg (show ¬ (x < 0 ∨ 60 < x) from fun q => q.elim h1 h2), b1]
      subst e
      obtain ⟨L', e1, q1⟩ := p_lineBehind (N := N) (Tr := Tr) (by omega) (k := k) c3 c1 (by omega) n1 n2 (by omega)
      obtain ⟨w1, e2, q2, f2⟩ := p_tries (N := N) (by omega) h9 n2 n4
      obtain ⟨w2, e3, q3, f3⟩ := p_mwarmth_l (N := N) (by omega) c1 c4 N k 0 c w1 a (by omega) (by omega) q2 n2 (by omega)
      rw [Nat.zero_add] at e3
      have w3 := WF.run c1 k c a n2
      have lo1 := w3.2.2.2.2.2.2.2.2
      have lo2 := run_lo (A := A) k a
      have hm := heat_mono (H := A.2.2.2.2.2.1) lo2
      have r1 : w2 1 = nI a.2.2.2.2.2.2 := by
        rw [f3 1 (by omega), f2 1 (by omega)]
        exact n4.2.1
      have r2 : w2 67 = nI (aRun A k a).2.2.2.2.2.2 := q3.2.1
      have k67 : (67 : Int32) = nI 67 := rfl
      have e4 := p_warmthOf (N := N) (H := A.2.2.2.2.2.1) c1.2.2.2.2.2.1 (by omega) (by omega) lo2
      rw [e1, e2]
      simp only [Option.bind_some]
      rw [k0, e3]
      unfold MX8_warmth_j37
      simp (disch := omega) only [k1, k67, MG_ok, nI_clamp, r1, r2]
      rw [e4]
      refine ⟨_, _, rfl, rfl, ?_, f2.tr f3⟩
      show L'.2.2.2.2.2.2.2.2 - Nw.2.2.2.2.2.2.2.2 = _
      rw [q1.2.2.2.2.2.2.2, n1.2.2.2.2.2.2.2, pk_sub hm]
def aEat (A : APl) (two : Bool) (p : Nat) : Nat → Nat → ASt → Nat
  | 0, _, _ => 100
  | k + 1, i, a => if (aMin A two (rumAt A a.2.2.2.2.2.1) a).2.1 p = 3 then i else aEat A two p k (i + 1) (aMin A two (rumAt A a.2.2.2.2.2.1) a)
theorem aEat_away {A : APl} {two : Bool} {p : Nat} (hA : WFP A) : ∀ (k i c : Nat) (a : ASt), WF A.2.2.2.1 c a → a.2.1 p = 2 → aEat A two p k i a = 100 := by
  intro k
  induction k with
  | zero => intro i c a _ _; rfl
  | succ k ih =>
    intro i c a hw h
    have h2 := (min_p (two := two) (rum := rumAt A a.2.2.2.2.2.1) hA hw p).2.2 h
    rw [aEat, if_neg (by omega)]
    exact ih (i + 1) (c + 2) _ (hw.min hA) h2
theorem aEat_le {A : APl} {two : Bool} {p : Nat} : ∀ (k i : Nat) (a : ASt), i + k = 100 → aEat A two p k i a ≤ 100 := by
  intro k
  induction k with
  | zero => intro i a h; exact Nat.le_refl _
  | succ k ih =>
    intro i a h
    rw [aEat]
    split
    · omega
    · exact ih _ _ (by omega)
theorem p_eaten_l {N : Nat} (hN : 100 ≤ N) {P : PlanV} {A : APl} {p : Nat} {two : Bool} (hP : repP P A) (hA : WFP A) (hp : p < A.2.2.2.1) : ∀ (m k i c : Nat) (L : LineV) (a : ASt), k < m → i + k = 100 → repL A.2.2.2.2.2.1 L a → WF A.2.2.2.1 c a → c + 2 * k ≤ 999999 →
    ∃ u, MX0_whenEaten_l2 N P (nI p) (bI two) m (nI i) L.1 L.2.1 L.2.2.1 L.2.2.2.1 L.2.2.2.2.1 L.2.2.2.2.2.1 L.2.2.2.2.2.2.1 L.2.2.2.2.2.2.2.1 L.2.2.2.2.2.2.2.2 = some u ∧ u.1 = nI (aEat A two p k i a) := by
  have h9 := hA.1
  intro m
  induction m with
  | zero => intro k i c L a h; omega
  | succ m ih =>
    intro k i c L a h1 h2 hL hw hc
    rw [MX0_whenEaten_l2]
    cases k with
    | zero =>
      have e : i = 100 := by omega
      subst e
      rw [if_pos (by decide)]
      exact ⟨_, rfl, rfl⟩
    | succ k =>
      have hm := hw.2.2.2.2.2.2.2.1
      have hwp := hw.2.2.2.1 p
      have e0 : MX1_whereIs N (L.1, L.2.1, L.2.2.1, L.2.2.2.1, L.2.2.2.2.1, L.2.2.2.2.2.1, L.2.2.2.2.2.2.1, L.2.2.2.2.2.2.2.1, L.2.2.2.2.2.2.2.2) (nI p) = some (nI (a.2.1 p)) := p_whereIs (N := N) hL (by omega)
      rw [if_neg (show ¬ (99 : Int32) < nI i from nI_nlt (b := i) (a := 99) (by omega) (by omega)), e0]
      simp only [Option.bind_some]
      by_cases g : a.2.1 p = 2
      · rw [if_pos (show nI (a.2.1 p) = (2 : Int32) by rw [g]; rfl), aEat_away hA (k + 1) i c a hw g]
        exact ⟨_, rfl, rfl⟩
      · rw [if_neg (show ¬ nI (a.2.1 p) = (2 : Int32) from nI_ne (b := 2) (by omega) (by omega) g)]
        have r6 : L.2.2.2.2.2.2.1 = nI a.2.2.2.2.2.1 := hL.2.2.2.2.2.1
        have hr : MX3_rumourIn N P L.2.2.2.2.2.2.1 = some (bI (rumAt A a.2.2.2.2.2.1)) := by rw [r6]; exact p_rumourIn hP hA (by omega)
        obtain ⟨u, e, q⟩ := p_goOn (two := two) (rum := rumAt A a.2.2.2.2.2.1) hN hP hA hL hw (by omega)
        have e' : MX1_goOn N (L.1, L.2.1, L.2.2.1, L.2.2.2.1, L.2.2.2.2.1, L.2.2.2.2.2.1, L.2.2.2.2.2.2.1, L.2.2.2.2.2.2.2.1, L.2.2.2.2.2.2.2.2) P (bI (rumAt A a.2.2.2.2.2.1)) (bI two) = some u := e
        rw [hr]
        simp only [Option.bind_some]
        rw [e']
        simp only [Option.bind_some]
        have w1 := hw.min (two := two) (rum := rumAt A a.2.2.2.2.2.1) hA
        have hwp1 := w1.2.2.2.1 p
        rw [p_whereIs (N := N) q (by omega), aEat]
        simp only [Option.bind_some]
        by_cases g3 : (aMin A two (rumAt A a.2.2.2.2.2.1) a).2.1 p = 3
        · rw [if_pos (show nI ((aMin A two (rumAt A a.2.2.2.2.2.1) a).2.1 p) = (3 : Int32) by rw [g3]; rfl), if_pos g3]
          exact ⟨_, rfl, rfl⟩
        · rw [if_neg (show ¬ nI ((aMin A two (rumAt A a.2.2.2.2.2.1) a).2.1 p) = (3 : Int32) from nI_ne (b := 3) (by omega) (by omega) g3), if_neg g3, nI_1]
          exact ih k (i + 1) (c + 2) u _ (by omega) (by omega) q w1 (by omega)
theorem p_meats_l {N : Nat} (hN : 100 ≤ N) {F : Nat → Int32} {A : APl} {p : Nat} {two : Bool} (hA : WFP A) (hF : rfF F A) (hp : p < A.2.2.2.1) : ∀ (m k i c : Nat) (w : Nat → Int32) (a : ASt), k < m → i + k = 100 → repK 66 w A (mOf a) → WF A.2.2.2.1 c a → c + 2 * k ≤ 999999 →
    ∃ w', MX8_eats_l2 N (nI A.2.2.2.1) F (nI A.2.2.2.2.1) (nI A.2.2.2.2.2.1) (nI A.2.2.2.2.2.2) (nI p) (bI two) m (nI i) w = some (nI (aEat A two p k i a), w') ∧ frm 66 w w' := by
  have h9 := hA.1
  intro m
  induction m with
  | zero => intro k i c w a h; omega
  | succ m ih =>
    intro k i c w a h1 h2 hK hw hc
    rw [MX8_eats_l2]
    cases k with
    | zero =>
      have e : i = 100 := by omega
      subst e
      rw [if_pos (by decide)]
      exact ⟨_, rfl, frm.rfl'⟩
    | succ k =>
      have hm := hw.2.2.2.2.2.2.2.1
      have e0 : MX8_isRumour N w (nI A.2.2.2.2.2.2) (66 : Int32) = some (bI (rumAt A a.2.2.2.2.2.1)) := p_misRumour (r := 66) (by omega) hA hK (by omega)
      obtain ⟨w1, e1, q1, f1⟩ := p_mpassBy hN (r := 66) (two := two) (rum := rumAt A a.2.2.2.2.2.1) (by omega) hA hF hK hw (by omega)
      have e1' : MX8_passesBy N w (nI A.2.2.2.1) F (nI A.2.2.2.2.1) (nI A.2.2.2.2.2.1) (66 : Int32) (bI two) (bI (rumAt A a.2.2.2.2.2.1)) = some w1 := e1
      have v1 := hw.min (two := two) (rum := rumAt A a.2.2.2.2.2.1) hA
      have hwp1 := v1.2.2.2.1 p
      have e2 : MX8_isWhere N w1 (66 : Int32) (nI p) (3 : Int32) = some (bI (decide ((aMin A two (rumAt A a.2.2.2.2.2.1) a).2.1 p = 3))) := p_misWhere (r := 66) (v := 3) (by omega) q1 (by omega) hwp1 (by omega)
      rw [if_neg (show ¬ (99 : Int32) < nI i from nI_nlt (b := i) (a := 99) (by omega) (by omega)), e0]
      simp only [Option.bind_some]
      rw [e1']
      simp only [Option.bind_some]
      rw [e2, aEat]
      simp only [Option.bind_some]
      by_cases g3 : (aMin A two (rumAt A a.2.2.2.2.2.1) a).2.1 p = 3
      · rw [decide_eq_true g3, bt, if_pos g3]
        exact ⟨_, rfl, f1⟩
      · rw [decide_eq_false g3, bf, if_neg g3, nI_1]
        obtain ⟨w2, e3, f2⟩ := ih k (i + 1) (c + 2) w1 _ (by omega) (by omega) q1 v1 (by omega)
        exact ⟨w2, e3, f1.tr f2⟩
theorem p_eaten {N : Nat} (hN : 1000 ≤ N) {P : PlanV} {A : APl} {p c : Nat} {two : Bool} {L : LineV} {a : ASt} (hP : repP P A) (hA : WFP A) (hp : p < A.2.2.2.1) (hL : repL A.2.2.2.2.2.1 L a) (hw : WF A.2.2.2.1 c a) (hc : c ≤ 900000) : ∃ u, MX0_whenEaten N P L (nI p) (bI two) = some u ∧ u.1 = nI (aEat A two p 99 1 a) :=
  p_eaten_l (N := N) (by omega) hP hA hp N 99 1 c L a (by omega) (by omega) hL hw (by omega)
theorem p_meats {N : Nat} (hN : 1000 ≤ N) {F w : Nat → Int32} {A : APl} {p c : Nat} {two : Bool} {a : ASt} (hA : WFP A) (hF : rfF F A) (hp : p < A.2.2.2.1) (hK : repK 66 w A (mOf a)) (hw : WF A.2.2.2.1 c a) (hc : c ≤ 900000) : ∃ w', MX8_eats N w (nI A.2.2.2.1) F (nI A.2.2.2.2.1) (nI A.2.2.2.2.2.1) (nI A.2.2.2.2.2.2) (nI p) (bI two) = some (nI (aEat A two p 99 1 a), w') ∧ frm 66 w w' :=
  p_meats_l (N := N) (by omega) hA hF hp N 99 1 c w a (by omega) (by omega) hK hw (by omega)
theorem s_whenOf {N : Nat} (hN : 100000 ≤ N) {c : Nat} (hc : c ≤ 500000) {A : APl} {P : PlanV} {Nw : LineV} {U K : ShelfV} {w F : Nat → Int32} {a : ASt} {us ks : List ASt} (h : Core c A P Nw U K w F a us ks) (Tr : LineV) (x : Int32) (two : Bool) : ∃ u v, MX7_whenOf N P Nw Tr x (bI two) = some u ∧ MX8_whenOf N w (nI A.2.2.2.1) F (nI A.2.2.2.2.1) (nI A.2.2.2.2.2.1) (nI A.2.2.2.2.2.2) x (bI two) = some v ∧ u.1 = v.1 ∧ frm 66 w v.2 := by
  obtain ⟨c1, c2, c3, c4, ⟨n1, n2, n3, n4⟩, c6, c7⟩ := id h
  have h9 := c1.1
  unfold MX7_whenOf MX8_whenOf
  rcases p_has (N := N) c3 c1 x with ⟨p, hp, e, hh⟩ | ⟨-, hh⟩
  · subst e
    rw [p_isPerson c3 c1, hh]
    simp only [Option.bind_some, b1]
    have hw3 := n2.2.2.2.1 p
    have e1 := p_whereIs (N := N) n1 (p := p) (by omega)
    have e2 : MX8_isWhere N w (0 : Int32) (nI p) (3 : Int32) = some (bI (decide (a.2.1 p = 3))) := p_misWhere (N := N) (r := 0) (v := 3) (by omega) n4 (by omega) hw3 (by omega)
    rw [e1, e2]
    simp only [Option.bind_some]
    by_cases g : a.2.1 p = 3
    · rw [if_pos (show nI (a.2.1 p) = (3 : Int32) by rw [g]; rfl), decide_eq_true g, bt]
      exact ⟨_, _, rfl, rfl, rfl, frm.rfl'⟩
    · rw [if_neg (show ¬ nI (a.2.1 p) = (3 : Int32) from nI_ne (b := 3) (by omega) (by omega) g), decide_eq_false g, bf]
      obtain ⟨L', e3, q3⟩ := p_start (N := N) (Tr := Tr) n1 n2 h9
      obtain ⟨w1, e4, q4, f4⟩ := p_tries (N := N) (by omega) h9 n2 n4
      obtain ⟨u, e5, q5⟩ := p_eaten (N := N) (two := two) (by omega) c3 c1 hp q3 n2 (by omega)
      obtain ⟨w2, e6, f6⟩ := p_meats (N := N) (two := two) (by omega) c1 c4 hp q4 n2 (by omega)
      rw [e3, e4]
      simp only [Option.bind_some]
      rw [e5, e6]
      simp only [Option.bind_some, q5]
      by_cases g4 : nI (aEat A two p 99 1 a) ≤ 99
      · rw [if_pos g4, if_pos g4]
        exact ⟨_, _, rfl, rfl, rfl, f4.tr f6⟩
      · rw [if_neg g4, if_neg g4]
        exact ⟨_, _, rfl, rfl, rfl, f4.tr f6⟩
  · rw [p_isPerson c3 c1, hh]
    simp only [Option.bind_some, b0]
    exact ⟨_, _, rfl, rfl, rfl, frm.rfl'⟩
theorem s_when {N : Nat} (hN : 100000 ≤ N) {c : Nat} (hc : c ≤ 500000) {A : APl} {P : PlanV} {Nw : LineV} {U K : ShelfV} {w F : Nat → Int32} {a : ASt} {us ks : List ASt} (h : Core c A P Nw U K w F a us ks) (Tr : LineV) (x : Int32) : ∃ u v, MX7_when N P Nw Tr x = some u ∧ MX8_when N w (nI A.2.2.2.1) F (nI A.2.2.2.2.1) (nI A.2.2.2.2.2.1) (nI A.2.2.2.2.2.2) x = some v ∧ u.1 = v.1 ∧ frm 66 w v.2 := by
  obtain ⟨u, v, e1, e2, e3, f⟩ := s_whenOf hN hc h Tr x false
  have e1 : MX7_whenOf N P Nw Tr x (0 : Int32) = some u := e1
  have e2 : MX8_whenOf N w (nI A.2.2.2.1) F (nI A.2.2.2.2.1) (nI A.2.2.2.2.2.1) (nI A.2.2.2.2.2.2) x (0 : Int32) = some v := e2
  unfold MX7_when MX8_when
  rw [e1, e2]
  exact ⟨_, _, rfl, rfl, e3, f⟩
theorem s_besides {N : Nat} (hN : 100000 ≤ N) {c : Nat} (hc : c ≤ 500000) {A : APl} {P : PlanV} {Nw : LineV} {U K : ShelfV} {w F : Nat → Int32} {a : ASt} {us ks : List ASt} (h : Core c A P Nw U K w F a us ks) (Tr : LineV) (x : Int32) : ∃ u v, MX7_besides N P Nw Tr x = some u ∧ MX8_besides N w (nI A.2.2.2.1) F (nI A.2.2.2.2.1) (nI A.2.2.2.2.2.1) (nI A.2.2.2.2.2.2) x = some v ∧ u.1 = v.1 ∧ frm 66 w v.2 := by
  obtain ⟨u, v, e1, e2, e3, f⟩ := s_whenOf hN hc h Tr x true
  have e1 : MX7_whenOf N P Nw Tr x (1 : Int32) = some u := e1
  have e2 : MX8_whenOf N w (nI A.2.2.2.1) F (nI A.2.2.2.2.1) (nI A.2.2.2.2.2.1) (nI A.2.2.2.2.2.2) x (1 : Int32) = some v := e2
  unfold MX7_besides MX8_besides
  rw [e1, e2]
  exact ⟨_, _, rfl, rfl, e3, f⟩
