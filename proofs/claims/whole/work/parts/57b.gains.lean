def aMv (ag : Bool) (A : APl) (a : ASt) (p : Nat) : ASt := if ag then aJoin A (aGo a p 2) p else aSnz a p
theorem go_wh {a : ASt} {p : Nat} : (aGo a p 2).2.1 p = 2 := fset_s
theorem WF.mv {ag : Bool} {A : APl} {n c p : Nat} {a : ASt} (h : WF n c a) (hp : p < n) (hw : a.2.1 p = 1) : WF n c (aMv ag A a p) := by
  unfold aMv
  cases ag
  · exact h.snz hw
  · exact (h.go hp (by omega) (by omega)).join hp (by rw [go_wh]; omega)
theorem WE.mv {ag : Bool} {A : APl} {p : Nat} {a : ASt} (h : WE a) : WE (aMv ag A a p) := by
  unfold aMv
  cases ag
  · exact h.snz
  · exact h.go.join
theorem p_move {N : Nat} (hN : 100 ≤ N) {P : PlanV} {A : APl} {L : LineV} {a : ASt} {c p : Nat} {ag : Bool} (hP : repP P A) (hA : WFP A) (hL : repL A.2.2.2.2.2.1 L a) (hw : WF A.2.2.2.1 c a) (hp : p < A.2.2.2.1) (hwp : a.2.1 p = 1) : ∃ u, MX0_move N P L (nI p) (bI ag) = some u ∧ repL A.2.2.2.2.2.1 (u.1, u.2.1, u.2.2.1, L.2.2.2.1, L.2.2.2.2.1, u.2.2.2, L.2.2.2.2.2.2.1, L.2.2.2.2.2.2.2.1, L.2.2.2.2.2.2.2.2) (aMv ag A a p) := by
  have h9 := hA.1
  unfold MX0_move aMv
  cases ag with
  | false =>
    obtain ⟨u, e, q⟩ := p_goToHead hN h9 hL hw hwp
    rw [bf, e]
    exact ⟨_, rfl, q⟩
  | true =>
    obtain ⟨u, e, q⟩ := p_goAway hN h9 hL hw hwp
    obtain ⟨v, e2, q2⟩ := p_join hN hP hA q (hw.go hp (by omega) (by omega)) hp (by rw [go_wh]; omega)
    have e2' : MX1_join N (u.1, u.2.1, L.2.2.1, L.2.2.2.1, L.2.2.2.2.1, u.2.2, L.2.2.2.2.2.2) P (nI p) = some v := e2
    rw [bt, e]
    simp only [Option.bind_some]
    rw [e2']
    exact ⟨_, rfl, q2⟩
theorem i32_or0 (x : Int32) : x ||| 0 = x := Int32.or_zero
theorem p_gains_l {N : Nat} (hN : 100000 ≤ N) {c : Nat} (hc : c ≤ 500000) {A : APl} {P : PlanV} {Nw : LineV} {U K : ShelfV} {F : Nat → Int32} {a : ASt} {us ks : List ASt} {ag : Bool} : ∀ (m k i : Nat) (bits : Int32) (L : LineV) (w : Nat → Int32), i + k = A.2.2.2.1 → k < m → Core c A P Nw U K w F a us ks →
    ∃ u v, MX0_whoGains_l4 N P Nw (bI ag) m bits (nI i) L.1 L.2.1 L.2.2.1 L.2.2.2.1 L.2.2.2.2.1 L.2.2.2.2.2.1 L.2.2.2.2.2.2.1 L.2.2.2.2.2.2.2.1 L.2.2.2.2.2.2.2.2 = some u ∧ MX8_servedBy_l4 N (nI A.2.2.2.1) F (nI A.2.2.2.2.1) (nI A.2.2.2.2.2.1) (nI A.2.2.2.2.2.2) (bI (!ag)) m bits (nI i) w = some v ∧ u.1 = v.1 ∧ frm 66 w v.2 := by
  intro m
  induction m with
  | zero => intro k i bits L w h1 h2; omega
  | succ m ih =>
    intro k i bits L w h1 h2 h
    obtain ⟨c1, c2, c3, c4, ⟨n1, n2, n3, n4⟩, c6, c7⟩ := id h
    have h9 := c1.1
    rw [MX0_whoGains_l4, MX8_servedBy_l4, c3.2.1]
    cases k with
    | zero =>
      rw [if_pos (nI_le (by omega) (by omega)), if_pos (nI_le (by omega) (by omega))]
      exact ⟨_, _, rfl, rfl, rfl, frm.rfl'⟩
    | succ k =>
      have hi : i < A.2.2.2.1 := by omega
      have hwi := n2.2.2.2.1 i
      have e1 := p_whereIs (N := N) n1 (p := i) (by omega)
      have e2 : MX8_isWhere N w (0 : Int32) (nI i) (1 : Int32) = some (bI (decide (a.2.1 i = 1))) := p_misWhere (N := N) (r := 0) (v := 1) (by omega) n4 (by omega) hwi (by omega)
      rw [if_neg (nI_ge hi (by omega)), if_neg (nI_ge hi (by omega)), e1, e2]
      simp only [Option.bind_some]
      by_cases g : a.2.1 i = 1
      · rw [if_pos (show nI (a.2.1 i) = (1 : Int32) by rw [g]; rfl), decide_eq_true g, bt]
        obtain ⟨L1, a1, b1'⟩ := p_start (N := N) (Tr := L) n1 n2 h9
        have a1' : MX0_startTrial N Nw (L.1, L.2.1, L.2.2.1, L.2.2.2.1, L.2.2.2.2.1, L.2.2.2.2.2.1, L.2.2.2.2.2.2.1, L.2.2.2.2.2.2.2.1, L.2.2.2.2.2.2.2.2) = some L1 := a1
        obtain ⟨u2, a2, b2⟩ := p_eaten (N := N) (two := false) (by omega) c3 c1 hi b1' n2 (by omega)
        have a2' : MX0_whenEaten N P L1 (nI i) (0 : Int32) = some u2 := a2
        obtain ⟨L3, a3, b3⟩ := p_start (N := N) (Tr := (u2.2.1, u2.2.2.1, u2.2.2.2.1, u2.2.2.2.2.1, u2.2.2.2.2.2.1, u2.2.2.2.2.2.2.1, u2.2.2.2.2.2.2.2.1, u2.2.2.2.2.2.2.2.2.1, u2.2.2.2.2.2.2.2.2.2)) n1 n2 h9
        obtain ⟨u4, a4, b4⟩ := p_move (N := N) (ag := ag) (by omega) c3 c1 b3 n2 hi g
        have w4 := n2.mv (ag := ag) (A := A) hi g
        obtain ⟨u5, a5, b5⟩ := p_eaten (N := N) (two := false) (by omega) c3 c1 hi b4 w4 (by omega)
        have a5' : MX0_whenEaten N P (u4.1, u4.2.1, u4.2.2.1, L3.2.2.2.1, L3.2.2.2.2.1, u4.2.2.2, L3.2.2.2.2.2.2.1, L3.2.2.2.2.2.2.2.1, L3.2.2.2.2.2.2.2.2) (nI i) (0 : Int32) = some u5 := a5
        obtain ⟨w1, d1, q1, f1⟩ := p_tries (N := N) (by omega) h9 n2 n4
        obtain ⟨w2, d2, f2⟩ := p_meats (N := N) (two := false) (by omega) c1 c4 hi q1 n2 (by omega)
        have d2' : MX8_eats N w1 (nI A.2.2.2.1) F (nI A.2.2.2.2.1) (nI A.2.2.2.2.2.1) (nI A.2.2.2.2.2.2) (nI i) (0 : Int32) = some (nI (aEat A false i 99 1 a), w2) := d2
        have h2' := (h.tr f1).tr f2
        obtain ⟨w3, d3, q3, f3⟩ := p_tries (N := N) (by omega) h9 n2 h2'.2.2.2.2.1.2.2.2
        have hl := n2.len
        have mv : ∃ w4, (if bI (!ag) = 0 then ((MX8_goes N w3 (66 : Int32) (nI i) (2 : Int32)).bind (fun u57 => MX8_joins N u57 F (66 : Int32) (nI i))) else MX8_sneezes N w3 (66 : Int32) (nI i)) = some w4 ∧ repK 66 w4 A (mOf (aMv ag A a i)) ∧ frm 66 w3 w4 := by
          cases ag with
          | false =>
            obtain ⟨w4, d4, q4, f4⟩ := p_msneezes (N := N) (r := 66) (by omega) (by omega) h9 q3 (by show a.1.length ≤ 9; omega) (fun y hy => by have := n2.q9 hy; omega) ((n2.2.1 i).mpr g)
            rw [← mOf_snz g] at q4
            exact ⟨w4, by rw [show (!false) = true from rfl, bt]; exact d4, q4, f4⟩
          | true =>
            obtain ⟨w4, d4, q4, f4⟩ := p_mgoes (N := N) (r := 66) (k := 2) (by omega) (by omega) h9 q3 (by show a.1.length ≤ 9; omega) (fun y hy => by have := n2.q9 hy; omega) ((n2.2.1 i).mpr g)
            rw [← mOf_go g rfl] at q4
            have v4 := n2.go hi (w := 2) (by omega) (by omega)
            have l4 := v4.len2 hi (by rw [go_wh]; omega)
            obtain ⟨w5, d5, q5, f5⟩ := p_mjoins (N := N) (r := 66) (by omega) (by omega) c1 c4 q4 (by show (aGo a i 2).1.length ≤ 8; omega) (fun y hy => v4.q9 hy) hi
            have q5 : repK 66 w5 A (mStand (mOf (aGo a i 2)) i (jpl A (aGo a i 2).1 i)) := q5
            rw [← mOf_join (by rw [go_wh]; omega)] at q5
            have d4' : MX8_goes N w3 (66 : Int32) (nI i) (2 : Int32) = some w4 := d4
            refine ⟨w5, ?_, q5, f4.tr f5⟩
            rw [show (!true) = false from rfl, bf, d4']
            exact d5
        obtain ⟨w4', d4, q4, f4⟩ := mv
        obtain ⟨w5, d5, f5⟩ := p_meats (N := N) (two := false) (by omega) c1 c4 hi q4 w4 (by omega)
        have d5' : MX8_eats N w4' (nI A.2.2.2.1) F (nI A.2.2.2.2.1) (nI A.2.2.2.2.2.1) (nI A.2.2.2.2.2.2) (nI i) (0 : Int32) = some (nI (aEat A false i 99 1 (aMv ag A a i)), w5) := d5
        have ff := (((f1.tr f2).tr f3).tr f4).tr f5
        have hfin := h.tr ff
        rw [a1', d1]
        simp only [Option.bind_some]
        rw [a2', d2']
        simp only [Option.bind_some]
        rw [a3, d3]
        simp only [Option.bind_some]
        rw [a4]
        simp only [Option.bind_some]
        rw [a5']
        simp only [Option.bind_some]
        rw [b2, b5]
        have hs : ∀ (R : Int32 → Int32 → (Nat → Int32) → Option (Int32 × (Nat → Int32))) (X : Int32), (if bI (!ag) = 0 then ((MX8_goes N w3 (66 : Int32) (nI i) (2 : Int32)).bind (fun u57 => (MX8_joins N u57 F (66 : Int32) (nI i)).bind (fun u64 => MX8_servedBy_j67 N (nI A.2.2.2.1) F (nI A.2.2.2.2.1) (nI A.2.2.2.2.2.1) (nI A.2.2.2.2.2.2) X (nI i) R (nI (aEat A false i 99 1 a), w2) u64))) else ((MX8_sneezes N w3 (66 : Int32) (nI i)).bind (fun u46 => MX8_servedBy_j67 N (nI A.2.2.2.1) F (nI A.2.2.2.2.1) (nI A.2.2.2.2.2.1) (nI A.2.2.2.2.2.2) X (nI i) R (nI (aEat A false i 99 1 a), w2) u46))) = MX8_servedBy_j67 N (nI A.2.2.2.1) F (nI A.2.2.2.2.1) (nI A.2.2.2.2.2.1) (nI A.2.2.2.2.2.2) X (nI i) R (nI (aEat A false i 99 1 a), w2) w4' := by
          intro R X
          cases ag with
          | false =>
            rw [show (!false) = true from rfl, bt] at d4 ⊢
            rw [d4]
            rfl
          | true =>
            rw [show (!true) = false from rfl, bf] at d4 ⊢
            cases hg : MX8_goes N w3 (66 : Int32) (nI i) (2 : Int32) with
            | none => rw [hg] at d4; cases d4
            | some z =>
              rw [hg] at d4
              simp only [Option.bind_some] at d4 ⊢
              rw [d4]
              rfl
        rw [hs]
        unfold MX8_servedBy_j67 MX8_servedBy_j86 MX8_servedBy_j88 MX0_whoGains_j69 MLet
        rw [d5']
        simp only [Option.bind_some]
        by_cases g2 : nI (aEat A false i 99 1 a) ≤ nI (aEat A false i 99 1 (aMv ag A a i))
        · rw [if_pos g2, if_pos g2, i32_or0, nI_1]
          obtain ⟨u, v, z1, z2, z3, z4⟩ := ih k (i + 1) bits (u5.2.1, u5.2.2.1, u5.2.2.2.1, u5.2.2.2.2.1, u5.2.2.2.2.2.1, u5.2.2.2.2.2.2.1, u5.2.2.2.2.2.2.2.1, u5.2.2.2.2.2.2.2.2.1, u5.2.2.2.2.2.2.2.2.2) w5 (by omega) (by omega) hfin
          exact ⟨u, v, z1, z2, z3, ff.tr z4⟩
        · rw [if_neg g2, if_neg g2, nI_1]
          obtain ⟨u, v, z1, z2, z3, z4⟩ := ih k (i + 1) (bits ||| ((1 : Int32) <<< (nI i &&& 31))) (u5.2.1, u5.2.2.1, u5.2.2.2.1, u5.2.2.2.2.1, u5.2.2.2.2.2.1, u5.2.2.2.2.2.2.1, u5.2.2.2.2.2.2.2.1, u5.2.2.2.2.2.2.2.2.1, u5.2.2.2.2.2.2.2.2.2) w5 (by omega) (by omega) hfin
          exact ⟨u, v, z1, z2, z3, ff.tr z4⟩
      · rw [if_neg (show ¬ nI (a.2.1 i) = (1 : Int32) from nI_ne (b := 1) (by omega) (by omega) g), decide_eq_false g, bf]
        unfold MX0_whoGains_j69 MX8_servedBy_j88
        rw [nI_1]
        exact ih k (i + 1) bits L w (by omega) (by omega) h
theorem s_pays {N : Nat} (hN : 100000 ≤ N) {c : Nat} (hc : c ≤ 500000) {A : APl} {P : PlanV} {Nw : LineV} {U K : ShelfV} {w F : Nat → Int32} {a : ASt} {us ks : List ASt} (h : Core c A P Nw U K w F a us ks) (Tr : LineV) : ∃ u v, MX7_pays N P Nw Tr = some u ∧ MX8_pays N w (nI A.2.2.2.1) F (nI A.2.2.2.2.1) (nI A.2.2.2.2.2.1) (nI A.2.2.2.2.2.2) = some v ∧ u.1 = v.1 ∧ frm 66 w v.2 := by
  have h9 := h.1.1
  obtain ⟨u, v, e1, e2, e3, f⟩ := p_gains_l hN hc (ag := true) N A.2.2.2.1 0 (0 : Int32) Tr w (by omega) (by omega) h
  have e1 : MX0_whoGains N P Nw Tr (1 : Int32) = some u := e1
  have e2 : MX8_servedBy N w (nI A.2.2.2.1) F (nI A.2.2.2.2.1) (nI A.2.2.2.2.2.1) (nI A.2.2.2.2.2.2) (0 : Int32) = some v := e2
  unfold MX7_pays MX8_pays
  rw [e1, e2]
  exact ⟨_, _, rfl, rfl, e3, f⟩
theorem s_gains {N : Nat} (hN : 100000 ≤ N) {c : Nat} (hc : c ≤ 500000) {A : APl} {P : PlanV} {Nw : LineV} {U K : ShelfV} {w F : Nat → Int32} {a : ASt} {us ks : List ASt} (h : Core c A P Nw U K w F a us ks) (Tr : LineV) : ∃ u v, MX7_gains N P Nw Tr = some u ∧ MX8_gains N w (nI A.2.2.2.1) F (nI A.2.2.2.2.1) (nI A.2.2.2.2.2.1) (nI A.2.2.2.2.2.2) = some v ∧ u.1 = v.1 ∧ frm 66 w v.2 := by
  have h9 := h.1.1
  obtain ⟨u, v, e1, e2, e3, f⟩ := p_gains_l hN hc (ag := false) N A.2.2.2.1 0 (0 : Int32) Tr w (by omega) (by omega) h
  have e1 : MX0_whoGains N P Nw Tr (0 : Int32) = some u := e1
  have e2 : MX8_servedBy N w (nI A.2.2.2.1) F (nI A.2.2.2.2.1) (nI A.2.2.2.2.2.1) (nI A.2.2.2.2.2.2) (1 : Int32) = some v := e2
  unfold MX7_gains MX8_gains
  rw [e1, e2]
  exact ⟨_, _, rfl, rfl, e3, f⟩
