def aDraw (A : APl) (d p : Nat) (a : ASt) : ASt := if d = 0 then (if p ∈ a.1 ∧ a.1.idxOf p + 1 < a.1.length then aYld a p else a) else if d = 1 then (if a.2.1 p = 1 then aSnz a p else a) else if d = 2 then (if a.2.1 p = 1 then aGo a p 2 else a) else if d = 3 then (if a.2.1 p = 2 then aJoin A a p else a) else a
theorem WF.draw {A : APl} {n c p d : Nat} {a : ASt} (h : WF n c a) (hp : p < n) : WF n c (aDraw A d p a) := by
  unfold aDraw
  split
  · split
    · rename_i g; exact h.yld g.1 g.2
    · exact h
  · split
    · split
      · rename_i g; exact h.snz g
      · exact h
    · split
      · split
        · exact h.go hp (by omega) (by omega)
        · exact h
      · split
        · split
          · exact h.join hp (by omega)
          · exact h
        · exact h
theorem draw_lo {A : APl} {p d : Nat} {a : ASt} : (aDraw A d p a).2.2.2 = a.2.2.2 := by
  unfold aDraw
  split
  · split <;> rfl
  · split
    · split <;> rfl
    · split
      · split <;> rfl
      · split
        · split <;> rfl
        · rfl
theorem p_yield_no {N : Nat} (hN : 100 ≤ N) {H : Nat} {L : LineV} {a : ASt} {n c p : Nat} (h9 : n ≤ 9) (hL : repL H L a) (hw : WF n c a) (hp : p < 9) (hk : ¬ (p ∈ a.1 ∧ a.1.idxOf p + 1 < a.1.length)) : MX1_yieldPlace N L (nI p) = some L.1 := by
  obtain ⟨r1, r2, r3⟩ := hL
  have hlen := hw.len
  unfold MX1_yieldPlace
  rw [p_placeOf hN r1 r2 (by omega) (fun x hx => by have := hw.q9 hx; omega) (by omega), r1]
  simp only [Option.bind_some]
  by_cases hm : p ∈ a.1
  · have hi : a.1.idxOf p < a.1.length := List.idxOf_lt_length_of_mem hm
    have e0 : nI a.1.length - (1 : Int32) = nI (a.1.length - 1) := pk_sub (b := 1) (by omega)
    have hk2 : ¬ a.1.idxOf p + 1 < a.1.length := fun q => hk ⟨hm, q⟩
    rw [if_pos hm, e0, if_neg (nI_pos (by omega)), if_pos (nI_le (by omega) (by omega))]
  · rw [if_neg hm, if_pos (by decide)]
theorem p_head_no {N : Nat} (hN : 100 ≤ N) {H : Nat} {L : LineV} {a : ASt} {n c p : Nat} (h9 : n ≤ 9) (hL : repL H L a) (hw : WF n c a) (hp : p < 9) (hm : a.2.1 p ≠ 1) : MX1_goToHead N L (nI p) = some (L.1, L.2.2.1) := by
  obtain ⟨r1, r2, r3⟩ := hL
  have hlen := hw.len
  unfold MX1_goToHead
  rw [p_placeOf hN r1 r2 (by omega) (fun x hx => by have := hw.q9 hx; omega) (by omega), if_neg (fun h => hm ((hw.2.1 p).mp h))]
  simp only [Option.bind_some]
  rw [if_neg (nI_pos (by omega)), if_neg (show ¬ (9 : Int32) ≤ nI p from nI_ge (b := 9) (by omega) (by omega)), if_pos (by decide)]
theorem p_away_no {N : Nat} (hN : 100 ≤ N) {H : Nat} {L : LineV} {a : ASt} {n c p : Nat} (h9 : n ≤ 9) (hL : repL H L a) (hw : WF n c a) (hp : p < 9) (hm : a.2.1 p ≠ 1) : MX1_goAway N L (nI p) = some (L.1, L.2.1, L.2.2.2.2.2.1) := by
  obtain ⟨r1, r2, r3⟩ := hL
  have hlen := hw.len
  unfold MX1_goAway
  rw [p_placeOf hN r1 r2 (by omega) (fun x hx => by have := hw.q9 hx; omega) (by omega), if_neg (fun h => hm ((hw.2.1 p).mp h))]
  simp only [Option.bind_some]
  rw [if_neg (nI_pos (by omega)), if_neg (show ¬ (9 : Int32) ≤ nI p from nI_ge (b := 9) (by omega) (by omega)), if_neg (by decide)]
def dX (z k : Nat) : Nat := 7919 * z + 6151 * k + 1
def dD (z k : Nat) : Nat := dX z k * dX z k % 65521
theorem dD_lt {z k : Nat} : dD z k < 65521 := Nat.mod_lt _ (by omega)
theorem d_calc {z k : Nat} (hz : z ≤ 9999) (hk : k ≤ 60) : ((((7919 : Int64) * (nI z).toInt64 + (6151 : Int64) * (nI k).toInt64 + (1 : Int64)) * ((7919 : Int64) * (nI z).toInt64 + (6151 : Int64) * (nI k).toInt64 + (1 : Int64))) - (((7919 : Int64) * (nI z).toInt64 + (6151 : Int64) * (nI k).toInt64 + (1 : Int64)) * ((7919 : Int64) * (nI z).toInt64 + (6151 : Int64) * (nI k).toInt64 + (1 : Int64))) / (65521 : Int64) * (65521 : Int64)).toInt32 = nI (dD z k) := by
  have e : (7919 : Int64) * (nI z).toInt64 + (6151 : Int64) * (nI k).toInt64 + (1 : Int64) = lN (dX z k) := by
    rw [nI_l (by omega), nI_l (by omega), show (7919 : Int64) = lN 7919 from rfl, show (6151 : Int64) = lN 6151 from rfl, lN_mul, lN_mul, lN_add, lN_1]
    rfl
  have hx : dX z k ≤ 80000000 := by unfold dX; omega
  have hy := Nat.mul_le_mul hx hx
  rw [e, lN_mul, show (65521 : Int64) = lN 65521 from rfl, pk_lRem (by omega) (by omega) (by omega), lN_i]
  rfl
theorem p_draw {N : Nat} (hN : 100 ≤ N) {P : PlanV} {A : APl} {L : LineV} {a : ASt} {c z k : Nat} (hP : repP P A) (hA : WFP A) (hL : repL A.2.2.2.2.2.1 L a) (hw : WF A.2.2.2.1 c a) (hz : z ≤ 9999) (hk : k ≤ 60) : ∃ u, MX0_drawOne N P L (nI z) (nI k) = some u ∧ repL A.2.2.2.2.2.1 (u.1, u.2.1, u.2.2.1, L.2.2.2.1, L.2.2.2.2.1, u.2.2.2, L.2.2.2.2.2.2.1, L.2.2.2.2.2.2.2.1, L.2.2.2.2.2.2.2.2) (aDraw A (dD z k % 5) (dD z k / 8 % A.2.2.2.1) a) := by
  have h9 := hA.1
  have h1 := hA.2.1
  have hd := dD_lt (z := z) (k := k)
  have hp : dD z k / 8 % A.2.2.2.1 < A.2.2.2.1 := Nat.mod_lt _ (by omega)
  unfold MX0_drawOne MD
  simp only [MLet]
  rw [d_calc hz hk, hP.2.1]
  have t1 : nI (dD z k) / (8 : Int32) = nI (dD z k / 8) := pk_div (d := 8) (by omega) (by omega) (by omega)
  have t2 : nI (dD z k / 8) - nI (dD z k / 8) / nI A.2.2.2.1 * nI A.2.2.2.1 = nI (dD z k / 8 % A.2.2.2.1) := pk_rem (by omega) (by omega) (by omega)
  have t3 : nI (dD z k) - nI (dD z k) / (5 : Int32) * (5 : Int32) = nI (dD z k % 5) := pk_rem (d := 5) (by omega) (by omega) (by omega)
  rw [t1, t2, t3, if_pos (show (1 : Int32) ≤ nI A.2.2.2.1 from nI_le (a := 1) h1 (by omega)), if_neg (show ¬ nI A.2.2.2.1 = (0 : Int32) from nI_ne (b := 0) (by omega) (by omega) (by omega))]
  generalize dD z k / 8 % A.2.2.2.1 = p at hp
  have hd5 : dD z k % 5 < 5 := Nat.mod_lt _ (by omega)
  generalize dD z k % 5 = d at hd5
  unfold aDraw
  have hwp := hw.2.2.2.1 p
  by_cases g0 : d = 0
  · rw [if_pos (show nI d = (0 : Int32) by rw [g0]; rfl), if_pos g0]
    by_cases g : p ∈ a.1 ∧ a.1.idxOf p + 1 < a.1.length
    · obtain ⟨u, e, q⟩ := p_yield hN h9 hL hw g.1 g.2
      rw [e, if_pos g]
      exact ⟨_, rfl, q⟩
    · rw [p_yield_no hN h9 hL hw (by omega) g, if_neg g]
      exact ⟨_, rfl, hL⟩
  · rw [if_neg (show ¬ nI d = (0 : Int32) from nI_ne (b := 0) (by omega) (by omega) g0), if_neg g0]
    by_cases g1 : d = 1
    · rw [if_pos (show nI d = (1 : Int32) by rw [g1]; rfl), if_pos g1]
      by_cases g : a.2.1 p = 1
      · obtain ⟨u, e, q⟩ := p_goToHead hN h9 hL hw g
        rw [e, if_pos g]
        exact ⟨_, rfl, q⟩
      · rw [p_head_no hN h9 hL hw (by omega) g, if_neg g]
        exact ⟨_, rfl, hL⟩
    · rw [if_neg (show ¬ nI d = (1 : Int32) from nI_ne (b := 1) (by omega) (by omega) g1), if_neg g1]
      by_cases g2 : d = 2
      · rw [if_pos (show nI d = (2 : Int32) by rw [g2]; rfl), if_pos g2]
        by_cases g : a.2.1 p = 1
        · obtain ⟨u, e, q⟩ := p_goAway hN h9 hL hw g
          rw [e, if_pos g]
          exact ⟨_, rfl, q⟩
        · rw [p_away_no hN h9 hL hw (by omega) g, if_neg g]
          exact ⟨_, rfl, hL⟩
      · rw [if_neg (show ¬ nI d = (2 : Int32) from nI_ne (b := 2) (by omega) (by omega) g2), if_neg g2]
        by_cases g3 : d = 3
        · rw [if_pos (show nI d = (3 : Int32) by rw [g3]; rfl), if_pos g3]
          unfold MX0_comeAgain
          rw [p_whereIs (N := N) hL (by omega)]
          simp only [Option.bind_some]
          by_cases g : a.2.1 p = 2
          · obtain ⟨u, e, q⟩ := p_join hN hP hA hL hw hp (by omega)
            rw [if_pos (show nI (a.2.1 p) = (2 : Int32) by rw [g]; rfl), e, if_pos g]
            exact ⟨_, rfl, q⟩
          · rw [if_neg (show ¬ nI (a.2.1 p) = (2 : Int32) from nI_ne (b := 2) (by omega) (by omega) g), if_neg g]
            exact ⟨_, rfl, hL⟩
        · rw [if_neg (show ¬ nI d = (3 : Int32) from nI_ne (b := 3) (by omega) (by omega) g3), if_neg g3]
          exact ⟨_, rfl, hL⟩
theorem p_does {N : Nat} (hN : 100 ≤ N) {F w : Nat → Int32} {A : APl} {a : ASt} {c d : Nat} (hA : WFP A) (hF : rfF F A) (hK : repK 66 w A (mOf a)) (hw : WF A.2.2.2.1 c a) (hd : d < 65521) : ∃ w', MX8_doesBy N w (nI A.2.2.2.1) F (nI d) = some w' ∧ repK 66 w' A (mOf (aDraw A (d % 5) (d / 8 % A.2.2.2.1) a)) ∧ frm 66 w w' := by
  have h9 := hA.1
  have h1 := hA.2.1
  have hl := hw.len
  have hp : d / 8 % A.2.2.2.1 < A.2.2.2.1 := Nat.mod_lt _ (by omega)
  unfold MX8_doesBy MD
  simp only [MLet]
  have t1 : nI d / (8 : Int32) = nI (d / 8) := pk_div (d := 8) (by omega) (by omega) (by omega)
  have t2 : nI (d / 8) - nI (d / 8) / nI A.2.2.2.1 * nI A.2.2.2.1 = nI (d / 8 % A.2.2.2.1) := pk_rem (by omega) (by omega) (by omega)
  have t3 : nI d - nI d / (5 : Int32) * (5 : Int32) = nI (d % 5) := pk_rem (d := 5) (by omega) (by omega) (by omega)
  rw [t1, t2, t3, if_neg (show ¬ nI A.2.2.2.1 = (0 : Int32) from nI_ne (b := 0) (by omega) (by omega) (by omega))]
  generalize d / 8 % A.2.2.2.1 = p at hp
  have hd5 : d % 5 < 5 := Nat.mod_lt _ (by omega)
  generalize d % 5 = d at hd5
  have hwp := hw.2.2.2.1 p
  have e1 : MX8_isWhere N w (66 : Int32) (nI p) (1 : Int32) = some (bI (decide (a.2.1 p = 1))) := p_misWhere (N := N) (r := 66) (v := 1) (by omega) hK (by omega) hwp (by omega)
  have e2 : MX8_isWhere N w (66 : Int32) (nI p) (2 : Int32) = some (bI (decide (a.2.1 p = 2))) := p_misWhere (N := N) (r := 66) (v := 2) (by omega) hK (by omega) hwp (by omega)
  rw [e1, e2]
  simp only [Option.bind_some]
  unfold aDraw
  by_cases g0 : d = 0
  · rw [if_pos (show nI d = (0 : Int32) by rw [g0]; rfl), if_pos g0]
    have e3 : MX8_canGiveUp N w (66 : Int32) (nI p) = _ := p_mcanUp (N := N) (r := 66) (p := p) (by omega) (by omega) h9 hK hw (by omega)
    rw [e3]
    simp only [Option.bind_some]
    by_cases g : p ∈ a.1 ∧ a.1.idxOf p + 1 < a.1.length
    · obtain ⟨w', e, q, f⟩ := p_mgivesUp (N := N) (r := 66) hN (by omega) h9 h9 hK hw g.1 g.2
      have e' : MX8_givesUp N w (66 : Int32) (nI p) = some w' := e
      rw [if_pos g, if_pos g, n1z, e']
      exact ⟨_, rfl, q, f⟩
    · rw [if_neg g, if_neg g, n0z]
      exact ⟨_, rfl, hK, frm.rfl'⟩
  · rw [if_neg (show ¬ nI d = (0 : Int32) from nI_ne (b := 0) (by omega) (by omega) g0), if_neg g0]
    by_cases g1 : d = 1
    · rw [if_pos (show nI d = (1 : Int32) by rw [g1]; rfl), if_pos g1]
      by_cases g : a.2.1 p = 1
      · obtain ⟨w', e, q, f⟩ := p_msneezes (N := N) (r := 66) hN (by omega) h9 hK (by show a.1.length ≤ 9; omega) (fun y hy => by have := hw.q9 hy; omega) ((hw.2.1 p).mpr g)
        rw [← mOf_snz g] at q
        have e' : MX8_sneezes N w (66 : Int32) (nI p) = some w' := e
        rw [decide_eq_true g, bt, if_pos g, e']
        exact ⟨_, rfl, q, f⟩
      · rw [decide_eq_false g, bf, if_neg g]
        exact ⟨_, rfl, hK, frm.rfl'⟩
    · rw [if_neg (show ¬ nI d = (1 : Int32) from nI_ne (b := 1) (by omega) (by omega) g1), if_neg g1]
      by_cases g2 : d = 2
      · rw [if_pos (show nI d = (2 : Int32) by rw [g2]; rfl), if_pos g2]
        by_cases g : a.2.1 p = 1
        · obtain ⟨w', e, q, f⟩ := p_mgoes (N := N) (r := 66) (k := 2) hN (by omega) h9 hK (by show a.1.length ≤ 9; omega) (fun y hy => by have := hw.q9 hy; omega) ((hw.2.1 p).mpr g)
          rw [← mOf_go g rfl] at q
          have e' : MX8_goes N w (66 : Int32) (nI p) (2 : Int32) = some w' := e
          rw [decide_eq_true g, bt, if_pos g, e']
          exact ⟨_, rfl, q, f⟩
        · rw [decide_eq_false g, bf, if_neg g]
          exact ⟨_, rfl, hK, frm.rfl'⟩
      · rw [if_neg (show ¬ nI d = (2 : Int32) from nI_ne (b := 2) (by omega) (by omega) g2), if_neg g2]
        by_cases g3 : d = 3
        · rw [if_pos (show nI d = (3 : Int32) by rw [g3]; rfl), if_pos g3]
          by_cases g : a.2.1 p = 2
          · have hl2 := hw.len2 hp (by omega)
            obtain ⟨w', e, q, f⟩ := p_mjoins (N := N) (r := 66) hN (by omega) hA hF hK (by show a.1.length ≤ 8; omega) (fun y hy => hw.q9 hy) hp
            have q : repK 66 w' A (mStand (mOf a) p (jpl A a.1 p)) := q
            rw [← mOf_join (by omega)] at q
            have e' : MX8_joins N w F (66 : Int32) (nI p) = some w' := e
            rw [decide_eq_true g, bt, if_pos g, e']
            exact ⟨_, rfl, q, f⟩
          · rw [decide_eq_false g, bf, if_neg g]
            exact ⟨_, rfl, hK, frm.rfl'⟩
        · rw [if_neg (show ¬ nI d = (3 : Int32) from nI_ne (b := 3) (by omega) (by omega) g3), if_neg g3]
          exact ⟨_, rfl, hK, frm.rfl'⟩
def aDay (A : APl) (z : Nat) : Nat → Nat → ASt → ASt
  | 0, _, a => a
  | k + 1, i, a => aDay A z k (i + 1) (aRun A 1 (aDraw A (dD z i % 5) (dD z i / 8 % A.2.2.2.1) a))
theorem day_lo {A : APl} {z : Nat} : ∀ (k i : Nat) (a : ASt), a.2.2.2.2.2.2 ≤ (aDay A z k i a).2.2.2.2.2.2 := by
  intro k
  induction k with
  | zero => intro i a; exact Nat.le_refl _
  | succ k ih =>
    intro i a
    refine Nat.le_trans ?_ (ih _ _)
    have h1 := run_lo (A := A) 1 (aDraw A (dD z i % 5) (dD z i / 8 % A.2.2.2.1) a)
    have h2 := draw_lo (A := A) (d := dD z i % 5) (p := dD z i / 8 % A.2.2.2.1) (a := a)
    rw [h2] at h1
    exact h1
theorem WF.day {A : APl} {z : Nat} (hA : WFP A) : ∀ (k i c : Nat) (a : ASt), WF A.2.2.2.1 c a → WF A.2.2.2.1 (c + 2 * k) (aDay A z k i a) := by
  intro k
  induction k with
  | zero => intro i c a h; exact h
  | succ k ih =>
    intro i c a h
    have h1 := hA.2.1
    have := ih (i + 1) (c + 2) _ (WF.run hA 1 c _ (h.draw (A := A) (d := dD z i % 5) (p := dD z i / 8 % A.2.2.2.1) (Nat.mod_lt _ (by omega))))
    rwa [show c + 2 * (k + 1) = c + 2 + 2 * k by omega]
theorem p_day_l {N : Nat} (hN : 100 ≤ N) {P : PlanV} {A : APl} {z : Nat} (hP : repP P A) (hA : WFP A) (hz : z ≤ 9999) : ∀ (m k i c : Nat) (L : LineV) (a : ASt), k < m → i + k ≤ 60 → repL A.2.2.2.2.2.1 L a → WF A.2.2.2.1 c a → c + 2 * k ≤ 999999 →
    ∃ u, MX0_lineBehindDay_l6 N P (nI z) (nI (i + k)) m (nI i) L.1 L.2.1 L.2.2.1 L.2.2.2.1 L.2.2.2.2.1 L.2.2.2.2.2.1 L.2.2.2.2.2.2.1 L.2.2.2.2.2.2.2.1 L.2.2.2.2.2.2.2.2 = some u ∧ repL A.2.2.2.2.2.1 u (aDay A z k i a) := by
  have h1 := hA.2.1
  intro m
  induction m with
  | zero => intro k i c L a h; omega
  | succ m ih =>
    intro k i c L a h1 h2 hL hw hc
    rw [MX0_lineBehindDay_l6]
    cases k with
    | zero =>
      rw [if_pos (nI_le (by omega) (by omega))]
      exact ⟨_, rfl, hL⟩
    | succ k =>
      have hp : dD z i / 8 % A.2.2.2.1 < A.2.2.2.1 := Nat.mod_lt _ (by omega)
      obtain ⟨v, e0, q0⟩ := p_draw hN hP hA hL hw hz (k := i) (by omega)
      have e0' : MX0_drawOne N P (L.1, L.2.1, L.2.2.1, L.2.2.2.1, L.2.2.2.2.1, L.2.2.2.2.2.1, L.2.2.2.2.2.2.1, L.2.2.2.2.2.2.2.1, L.2.2.2.2.2.2.2.2) (nI z) (nI i) = some v := e0
      have w0 := hw.draw (A := A) (d := dD z i % 5) hp
      have m0 := draw_lo (A := A) (d := dD z i % 5) (p := dD z i / 8 % A.2.2.2.1) (a := a)
      rw [aDay]
      generalize aDraw A (dD z i % 5) (dD z i / 8 % A.2.2.2.1) a = b at q0 w0 m0 ⊢
      have hm := w0.2.2.2.2.2.2.2.1
      have r6 : L.2.2.2.2.2.2.1 = nI b.2.2.2.2.2.1 := q0.2.2.2.2.2.1
      have hr : MX3_rumourIn N P L.2.2.2.2.2.2.1 = some (bI (rumAt A b.2.2.2.2.2.1)) := by rw [r6]; exact p_rumourIn hP hA (by omega)
      obtain ⟨u, e, q⟩ := p_goOn (two := false) (rum := rumAt A b.2.2.2.2.2.1) hN hP hA q0 w0 (by omega)
      have e' : MX1_goOn N (v.1, v.2.1, v.2.2.1, L.2.2.2.1, L.2.2.2.2.1, v.2.2.2, L.2.2.2.2.2.2.1, L.2.2.2.2.2.2.2.1, L.2.2.2.2.2.2.2.2) P (bI (rumAt A b.2.2.2.2.2.1)) 0 = some u := e
      rw [if_neg (show ¬ nI (i + (k + 1)) ≤ nI i from nI_ge (by omega) (by omega)), e0']
      simp only [Option.bind_some]
      rw [hr]
      simp only [Option.bind_some]
      rw [e']
      simp only [Option.bind_some]
      rw [nI_1]
      have := ih k (i + 1) (c + 2) u _ (by omega) (by omega) q (w0.min hA) (by omega)
      rwa [show i + 1 + k = i + (k + 1) by omega] at this
theorem p_mday_l {N : Nat} (hN : 100 ≤ N) {F : Nat → Int32} {A : APl} {z : Nat} {x : Int32} (hA : WFP A) (hF : rfF F A) (hz : z ≤ 9999) : ∀ (m k i c : Nat) (w : Nat → Int32) (a : ASt), k < m → i + k ≤ 60 → repK 66 w A (mOf a) → WF A.2.2.2.1 c a → c + 2 * k ≤ 999999 →
    ∃ w', MX8_day_l43 N (nI A.2.2.2.1) F (nI A.2.2.2.2.1) (nI A.2.2.2.2.2.1) (nI A.2.2.2.2.2.2) (nI z) (nI (i + k)) x m (nI i) w = MX8_day_j93 N (nI A.2.2.2.1) (nI A.2.2.2.2.2.1) x w' ∧ repK 66 w' A (mOf (aDay A z k i a)) ∧ frm 66 w w' := by
  have h1 := hA.2.1
  intro m
  induction m with
  | zero => intro k i c w a h; omega
  | succ m ih =>
    intro k i c w a h1 h2 hK hw hc
    rw [MX8_day_l43]
    cases k with
    | zero =>
      rw [if_pos (nI_le (by omega) (by omega))]
      exact ⟨_, rfl, hK, frm.rfl'⟩
    | succ k =>
      have hp : dD z i / 8 % A.2.2.2.1 < A.2.2.2.1 := Nat.mod_lt _ (by omega)
      obtain ⟨w0, e0, q0, f0⟩ := p_does hN hA hF hK hw (dD_lt (z := z) (k := i))
      have v0 := hw.draw (A := A) (d := dD z i % 5) hp
      rw [aDay]
      generalize aDraw A (dD z i % 5) (dD z i / 8 % A.2.2.2.1) a = b at q0 v0 ⊢
      obtain ⟨w1, e1, q1, f1⟩ := p_mpasses hN (r := 66) (by omega) hA hF q0 v0 (by omega)
      have e1' : MX8_passes N w0 (nI A.2.2.2.1) F (nI A.2.2.2.2.1) (nI A.2.2.2.2.2.1) (nI A.2.2.2.2.2.2) (66 : Int32) = some w1 := e1
      rw [if_neg (show ¬ nI (i + (k + 1)) ≤ nI i from nI_ge (by omega) (by omega))]
      simp only [MLet]
      rw [d_calc hz (by omega), e0]
      simp only [Option.bind_some]
      rw [e1']
      simp only [Option.bind_some]
      rw [nI_1]
      obtain ⟨w2, e2, q2, f2⟩ := ih k (i + 1) (c + 2) w1 _ (by omega) (by omega) q1 (WF.run hA 1 c _ v0) (by omega)
      rw [show i + 1 + k = i + (k + 1) by omega] at e2
      exact ⟨w2, e2, q2, (f0.tr f1).tr f2⟩
theorem p_mdaycnt_l {N : Nat} {A : APl} {b : MSt} {w : Nat → Int32} {H x : Int32} (hK : repK 66 w A b) (h9 : A.2.2.2.1 ≤ 9) (hb : ∀ p, b.2.1 p ≤ 3) : ∀ (m i : Nat), i ≤ A.2.2.2.1 → A.2.2.2.1 < m + i → MX8_day_l99 N (nI A.2.2.2.1) H x w m (nI (cnt b.2.1 3 i)) (nI i) = MX8_day_j136 N H x w (nI (cnt b.2.1 3 A.2.2.2.1)) := by
  intro m
  induction m with
  | zero => intro i h1 h2; omega
  | succ m ih =>
    intro i h1 h2
    rw [MX8_day_l99]
    by_cases hi : i = A.2.2.2.1
    · rw [if_pos (by rw [hi]; exact nI_le (Nat.le_refl _) (by omega)), hi]
    · have hq : MX8_isWhere N w (66 : Int32) (nI i) (3 : Int32) = some (bI (decide (b.2.1 i = 3))) := p_misWhere (r := 66) (v := 3) (by omega) hK (by omega) (hb i) (by omega)
      rw [if_neg (nI_ge (by omega) (by omega)), hq]
      simp only [Option.bind_some]
      unfold MX8_day_j127 MLet
      have := ih (i + 1) (by omega) (by omega)
      rw [cnt] at this
      rw [nI_1]
      by_cases e : b.2.1 i = 3
      · rw [decide_eq_true e, bt, nI_1]
        rw [if_pos e] at this
        exact this
      · rw [decide_eq_false e, bf, k0, nI_add]
        rw [if_neg e] at this
        exact this
theorem s_day {N : Nat} (hN : N = 100000) {c : Nat} (hc : c ≤ 40000) {A : APl} {P : PlanV} {Nw : LineV} {U K : ShelfV} {w F : Nat → Int32} {a : ASt} {us ks : List ASt} (h : Core c A P Nw U K w F a us ks) (Tr : LineV) (x y z : Int32) : ∃ u v, MX7_day N P Nw Tr x y z = some u ∧ MX8_day N w (nI A.2.2.2.1) F (nI A.2.2.2.2.1) (nI A.2.2.2.2.2.1) (nI A.2.2.2.2.2.2) x y z = some v ∧ u.1 = v.1 ∧ frm 66 w v.2 := by
  obtain ⟨c1, c2, c3, c4, ⟨n1, n2, n3, n4⟩, c6, c7⟩ := id h
  have h9 := c1.1
  have hi : MX8_in N x.toInt64 (0 : Int64) (9999 : Int64) = some (if x < 0 ∨ 9999 < x then 0 else 1) := p_in x 0 9999
  have hj : MX8_in N y.toInt64 (1 : Int64) (60 : Int64) = some (if y < 1 ∨ 60 < y then 0 else 1) := p_in y 1 60
  have hk : MX8_in N z.toInt64 (0 : Int64) (1 : Int64) = some (if z < 0 ∨ 1 < z then 0 else 1) := p_in z 0 1
  unfold MX7_day MX8_day
  rw [hi, hj, hk]
  simp only [Option.bind_some]
  by_cases h1 : x < 0
  · rw [if_pos h1, if_pos (show x < 0 ∨ 9999 < x from Or.inl h1), b0]
    exact ⟨_, _, rfl, rfl, rfl, frm.rfl'⟩
  by_cases h2 : 9999 < x
  · rw [if_neg h1, if_pos h2, if_pos (show x < 0 ∨ 9999 < x from Or.inr h2), b0]
    exact ⟨_, _, rfl, rfl, rfl, frm.rfl'⟩
  obtain ⟨d, _, d2', e⟩ := rng (lo := 0) (hi := 9999) (by omega) (by omega) h1 h2
  rw [if_neg h1, if_neg h2, if_neg (show ¬ (x < 0 ∨ 9999 < x) from fun q => q.elim h1 h2), b1]
  subst e
  by_cases h3 : y < 1
  · rw [if_pos h3, if_pos (show y < 1 ∨ 60 < y from Or.inl h3), b0]
    exact ⟨_, _, rfl, rfl, rfl, frm.rfl'⟩
  by_cases h4 : 60 < y
  · rw [if_neg h3, if_pos h4, if_pos (show y < 1 ∨ 60 < y from Or.inr h4), b0]
    exact ⟨_, _, rfl, rfl, rfl, frm.rfl'⟩
  obtain ⟨k, k1', k2', e⟩ := rng (lo := 1) (hi := 60) (by omega) (by omega) h3 h4
  rw [if_neg h3, if_neg h4, if_neg (show ¬ (y < 1 ∨ 60 < y) from fun q => q.elim h3 h4), b1]
  subst e
  by_cases h5 : z < 0
  · rw [if_pos h5, if_pos (show z < 0 ∨ 1 < z from Or.inl h5), b0]
    exact ⟨_, _, rfl, rfl, rfl, frm.rfl'⟩
  by_cases h6 : 1 < z
  · rw [if_neg h5, if_neg (i32_nle h6), if_pos (show z < 0 ∨ 1 < z from Or.inr h6), b0]
    exact ⟨_, _, rfl, rfl, rfl, frm.rfl'⟩
  rw [if_neg h5, if_pos (i32_le h6), if_neg (show ¬ (z < 0 ∨ 1 < z) from fun q => q.elim h5 h6), b1]
  obtain ⟨L0, e0, q0⟩ := p_start (N := N) (Tr := Tr) n1 n2 h9
  obtain ⟨L1, e1, q1⟩ := p_day_l (N := N) (z := d) (by omega) c3 c1 d2' N k 0 c L0 a (by omega) (by omega) q0 n2 (by omega)
  obtain ⟨w1, e2, q2, f2⟩ := p_tries (N := N) (by omega) h9 n2 n4
  obtain ⟨w2, e3, q3, f3⟩ := p_mday_l (N := N) (x := z) (by omega) c1 c4 d2' N k 0 c w1 a (by omega) (by omega) q2 n2 (by omega)
  rw [Nat.zero_add] at e1 e3
  have w3 := WF.day (z := d) c1 k 0 c a n2
  have lo1 := w3.2.2.2.2.2.2.2.2
  have lo2 := day_lo (A := A) (z := d) k 0 a
  have hm := heat_mono (H := A.2.2.2.2.2.1) lo2
  have e1' : MX0_lineBehindDay N P Nw Tr (nI d) (nI k) = some L1 := by
    unfold MX0_lineBehindDay
    rw [e0]
    exact e1
  have e4 : MX8_day_j93 N (nI A.2.2.2.1) (nI A.2.2.2.2.2.1) z w2 = MX8_day_j136 N (nI A.2.2.2.2.2.1) z w2 (nI (cnt (aDay A d k 0 a).2.1 3 A.2.2.2.1)) := p_mdaycnt_l q3 h9 w3.2.2.2.1 N 0 (by omega) (by omega)
  have e5 : MX1_howMany N L1 (3 : Int32) = some (nI (cnt (aDay A d k 0 a).2.1 3 9)) := p_howMany (v := 3) (by omega) q1 w3 (by omega)
  rw [cnt_up (by omega) w3.2.2.1 9 h9] at e5
  have r1 : w2 1 = nI a.2.2.2.2.2.2 := by
    rw [f3 1 (by omega), f2 1 (by omega)]
    exact n4.2.1
  have r2 : w2 67 = nI (aDay A d k 0 a).2.2.2.2.2.2 := q3.2.1
  have k67 : (67 : Int32) = nI 67 := rfl
  have e6 := p_warmthOf (N := N) (H := A.2.2.2.2.2.1) c1.2.2.2.2.2.1 (by omega) (by omega) lo2
  have e3' : MX8_day_l43 N (nI A.2.2.2.1) F (nI A.2.2.2.2.1) (nI A.2.2.2.2.2.1) (nI A.2.2.2.2.2.2) (nI d) (nI k) z N (0 : Int32) w1 = MX8_day_j93 N (nI A.2.2.2.1) (nI A.2.2.2.2.2.1) z w2 := e3
  rw [e1', e2]
  simp only [Option.bind_some]
  rw [e3', e4]
  unfold MX8_day_j136
  by_cases h7 : z = 0
  · rw [if_pos h7, if_pos h7, e5]
    exact ⟨_, _, rfl, rfl, rfl, f2.tr f3⟩
  · rw [if_neg h7, if_neg h7]
    have q7 : MG (1 : Int32) 792 (MG (67 : Int32) 792 ((MX8_warmthOf N (nI A.2.2.2.2.2.1) (w2 (1 : Int32).toNatClampNeg) (w2 (67 : Int32).toNatClampNeg)).bind (fun u159 => some (u159, w2)))) = some (nI (heat A.2.2.2.2.2.1 (aDay A d k 0 a).2.2.2.2.2.2 - heat A.2.2.2.2.2.1 a.2.2.2.2.2.2), w2) := by
      simp (disch := omega) only [k1, k67, MG_ok, nI_clamp, r1, r2]
      rw [e6]
      rfl
    rw [q7]
    refine ⟨_, _, rfl, rfl, ?_, f2.tr f3⟩
    show L1.2.2.2.2.2.2.2.2 - Nw.2.2.2.2.2.2.2.2 = _
    rw [q1.2.2.2.2.2.2.2, n1.2.2.2.2.2.2.2, pk_sub hm]
