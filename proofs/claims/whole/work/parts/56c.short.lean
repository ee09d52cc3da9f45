theorem rng {x : Int32} {lo hi : Nat} (hh : hi < 2 ^ 31) (hl : lo < 2 ^ 31) (h1 : ¬ x < nI lo) (h2 : ¬ nI hi < x) : ∃ k, lo ≤ k ∧ k ≤ hi ∧ x = nI k := by
  rw [Int32.lt_iff_toInt_lt, nI_toInt hl] at h1
  rw [Int32.lt_iff_toInt_lt, nI_toInt hh] at h2
  refine ⟨x.toInt.toNat, by omega, by omega, ?_⟩
  apply Int32.toInt_inj.mp
  rw [nI_toInt (by omega)]
  omega
theorem i32_nle {x y : Int32} (h : y < x) : ¬ x ≤ y := Int32.not_le.mpr h
theorem i32_le {x y : Int32} (h : ¬ y < x) : x ≤ y := Int32.not_lt.mp h
theorem b1 {α : Type} {x y : α} : (if (1 : Int32) = 0 then x else y) = y := if_neg (by decide)
theorem b0 {α : Type} {x y : α} : (if (0 : Int32) = 0 then x else y) = x := if_pos rfl
theorem bt {α : Type} {x y : α} : (if bI true = 0 then x else y) = y := if_neg (by decide)
theorem bf {α : Type} {x y : α} : (if bI false = 0 then x else y) = x := if_pos rfl
theorem n1z {α : Type} {x y : α} : (if nI 1 = 0 then x else y) = y := if_neg (by decide)
theorem n0z {α : Type} {x y : α} : (if nI 0 = 0 then x else y) = x := if_pos rfl
theorem s_pass {N : Nat} (hN : 100000 ≤ N) {c : Nat} (hc : c ≤ 500000) {A : APl} {P : PlanV} {Nw : LineV} {U K : ShelfV} {w F : Nat → Int32} {a : ASt} {us ks : List ASt} (h : Core c A P Nw U K w F a us ks) (x : Int32) : ∃ u v, MX7_pass N P Nw U x = some u ∧ MX8_pass N w (nI us.length) (nI A.2.2.2.1) F (nI A.2.2.2.2.1) (nI A.2.2.2.2.2.1) (nI A.2.2.2.2.2.2) x = some v ∧ u.1 = v.1 ∧ ∃ a' us', v.2.2 = nI us'.length ∧ Core (c + 60) A P (u.2.1, u.2.2.1, u.2.2.2.1, u.2.2.2.2.1, u.2.2.2.2.2.1, u.2.2.2.2.2.2.1, u.2.2.2.2.2.2.2.1, u.2.2.2.2.2.2.2.2.1, u.2.2.2.2.2.2.2.2.2.1) (u.2.2.2.2.2.2.2.2.2.2.1, u.2.2.2.2.2.2.2.2.2.2.2.1, u.2.2.2.2.2.2.2.2.2.2.2.2) K v.2.1 F a' us' ks := by
  have hi : MX8_in N x.toInt64 (1 : Int64) (30 : Int64) = some (if x < 1 ∨ 30 < x then 0 else 1) := p_in x 1 30
  unfold MX7_pass MX8_pass
  rw [hi]
  simp only [Option.bind_some]
  by_cases h1 : x < 1
  · rw [if_pos h1, if_pos (show x < 1 ∨ 30 < x from Or.inl h1), b0]
    exact ⟨_, _, rfl, rfl, rfl, a, us, rfl, h.mono (by omega)⟩
  · by_cases h2 : 30 < x
    · rw [if_neg h1, if_neg (i32_nle h2), if_pos (show x < 1 ∨ 30 < x from Or.inr h2), b0]
      exact ⟨_, _, rfl, rfl, rfl, a, us, rfl, h.mono (by omega)⟩
    · obtain ⟨k, k1', k2', e⟩ := rng (lo := 1) (hi := 30) (by omega) (by omega) h1 h2
      rw [if_neg h1, if_pos (i32_le h2), if_neg (show ¬ (x < 1 ∨ 30 < x) from fun q => q.elim h1 h2), b1]
      subst e
      obtain ⟨S', w', e1, e2, h'⟩ := h.push (N := N) (by omega)
      rw [e1, e2]
      simp only [Option.bind_some]
      obtain ⟨c1, c2, c3, c4, ⟨n1, n2, n3, n4⟩, c6, c7⟩ := id h'
      have h9 := c1.1
      obtain ⟨L', e3, q3⟩ := p_run (N := N) (by omega) (k := k) c3 c1 (by omega) n1 n2 (by omega)
      have w3 := WF.run c1 k c a n2
      have v3 := WE.run c1 k c a n2 n3
      obtain ⟨w'', e4, q4, f4⟩ := p_mpass_l (N := N) (by omega) (u := (w', nI (aPush 8 us a).length)) c1 c4 N k 0 c w' a (by omega) (by omega) n4 n2 (by omega)
      rw [Nat.zero_add] at e4
      have e5 : MX1_howMany N L' (3 : Int32) = some (nI (cnt (aRun A k a).2.1 3 9)) := p_howMany (v := 3) (by omega) q3 w3 (by omega)
      have e6 : MX8_manyWhere N w'' (nI A.2.2.2.1) (3 : Int32) = some (nI (cnt (aRun A k a).2.1 3 A.2.2.2.1)) := p_manyWhere (v := 3) (by omega) q4 h9 w3.2.2.2.1 (by omega)
      rw [e3]
      simp only [Option.bind_some]
      rw [e5, k0, e4]
      unfold MX8_pass_j36
      rw [e6]
      simp only [Option.bind_some]
      refine ⟨_, _, rfl, rfl, ?_, aRun A k a, aPush 8 us a, rfl, h'.now q3 (w3.mono (by omega)) v3 q4 f4 (by omega)⟩
      show nI _ = nI _
      rw [cnt_up (by omega) w3.2.2.1 9 h9]
theorem s_giveUp {N : Nat} (hN : 100000 ≤ N) {c : Nat} {A : APl} {P : PlanV} {Nw : LineV} {U K : ShelfV} {w F : Nat → Int32} {a : ASt} {us ks : List ASt} (h : Core c A P Nw U K w F a us ks) (x : Int32) : ∃ u v, MX7_giveUp N P Nw U x = some u ∧ MX8_giveUp N w (nI us.length) (nI A.2.2.2.1) x = some v ∧ u.1 = v.1 ∧ ∃ a' us', v.2.2 = nI us'.length ∧ Core c A P (u.2.1, Nw.2.1, Nw.2.2.1, Nw.2.2.2.1, Nw.2.2.2.2.1, Nw.2.2.2.2.2.1, Nw.2.2.2.2.2.2.1, Nw.2.2.2.2.2.2.2.1, Nw.2.2.2.2.2.2.2.2) (u.2.2.1, u.2.2.2.1, u.2.2.2.2) K v.2.1 F a' us' ks := by
  obtain ⟨c1, c2, c3, c4, ⟨n1, n2, n3, n4⟩, c6, c7⟩ := id h
  have h9 := c1.1
  unfold MX7_giveUp MX8_giveUp
  rcases p_has (N := N) c3 c1 x with ⟨p, hp, e, hh⟩ | ⟨-, hh⟩
  · subst e
    rw [p_isPerson c3 c1, hh]
    simp only [Option.bind_some, b1]
    have e1 := p_canYield (N := N) (p := p) (by omega) h9 n1 n2 hp
    have e2 : MX8_canGiveUp N w (0 : Int32) (nI p) = _ := p_mcanUp (N := N) (r := 0) (p := p) (by omega) (by omega) h9 n4 n2 (by omega)
    rw [e1, e2]
    simp only [Option.bind_some]
    by_cases g : p ∈ a.1 ∧ a.1.idxOf p + 1 < a.1.length
    · rw [if_pos g, n1z, n1z]
      obtain ⟨S', w', e3, e4, h'⟩ := h.push (N := N) (by omega)
      obtain ⟨d1, d2, d3, d4, ⟨m1, m2, m3, m4⟩, d6, d7⟩ := id h'
      obtain ⟨q', e5, q5⟩ := p_yield (N := N) (by omega) h9 m1 m2 g.1 g.2
      obtain ⟨w'', e6, q6, f6⟩ := p_mgivesUp (N := N) (r := 0) (by omega) (by omega) h9 h9 m4 m2 g.1 g.2
      have e6' : MX8_givesUp N w' (0 : Int32) (nI p) = some w'' := e6
      have w7 := n2.yld g.1 g.2
      have l7 := w7.len
      have e7 : MX1_placeOf N (q', Nw.2) (nI p) = _ := p_placeOf (N := N) (p := p) (by omega) q5.1 q5.2.1 (by omega) (fun y hy => by have := w7.q9 hy; omega) (by omega)
      have e8 : MX8_placeOf N w'' (0 : Int32) (nI p) = _ := p_mplaceOf (N := N) (r := 0) (p := p) (by omega) (by omega) q6 (by show (aYld a p).1.length ≤ 9; omega) (fun y hy => by have := w7.q9 hy; omega) (by omega)
      rw [e3, e4]
      simp only [Option.bind_some]
      rw [e5, e6']
      simp only [Option.bind_some]
      rw [e7, e8]
      exact ⟨_, _, rfl, rfl, rfl, aYld a p, aPush 8 us a, rfl, h'.now q5 w7 n3.yld q6 f6 (Nat.le_refl _)⟩
    · rw [if_neg g, n0z, n0z]
      exact ⟨_, _, rfl, rfl, rfl, a, us, rfl, h⟩
  · rw [p_isPerson c3 c1, hh]
    simp only [Option.bind_some, b0]
    exact ⟨_, _, rfl, rfl, rfl, a, us, rfl, h⟩
theorem s_sneeze {N : Nat} (hN : 100000 ≤ N) {c : Nat} {A : APl} {P : PlanV} {Nw : LineV} {U K : ShelfV} {w F : Nat → Int32} {a : ASt} {us ks : List ASt} (h : Core c A P Nw U K w F a us ks) (x : Int32) : ∃ u v, MX7_sneeze N P Nw U x = some u ∧ MX8_sneeze N w (nI us.length) (nI A.2.2.2.1) x = some v ∧ u.1 = v.1 ∧ ∃ a' us', v.2.2 = nI us'.length ∧ Core c A P (u.2.1, Nw.2.1, u.2.2.1, Nw.2.2.2.1, Nw.2.2.2.2.1, Nw.2.2.2.2.2.1, Nw.2.2.2.2.2.2.1, Nw.2.2.2.2.2.2.2.1, Nw.2.2.2.2.2.2.2.2) (u.2.2.2.1, u.2.2.2.2.1, u.2.2.2.2.2) K v.2.1 F a' us' ks := by
  obtain ⟨c1, c2, c3, c4, ⟨n1, n2, n3, n4⟩, c6, c7⟩ := id h
  have h9 := c1.1
  unfold MX7_sneeze MX8_sneeze
  rcases p_has (N := N) c3 c1 x with ⟨p, hp, e, hh⟩ | ⟨-, hh⟩
  · subst e
    rw [p_isPerson c3 c1, hh]
    simp only [Option.bind_some, b1]
    have hw3 := n2.2.2.2.1 p
    have e1 := p_whereIs (N := N) n1 (p := p) (by omega)
    have e2 : MX8_isWhere N w (0 : Int32) (nI p) (1 : Int32) = some (bI (decide (a.2.1 p = 1))) := p_misWhere (N := N) (r := 0) (v := 1) (by omega) n4 (by omega) hw3 (by omega)
    rw [e1, e2]
    simp only [Option.bind_some]
    by_cases g : a.2.1 p = 1
    · rw [if_pos (show nI (a.2.1 p) = (1 : Int32) by rw [g]; rfl), decide_eq_true g, bt]
      obtain ⟨S', w', e3, e4, h'⟩ := h.push (N := N) (by omega)
      obtain ⟨d1, d2, d3, d4, ⟨m1, m2, m3, m4⟩, d6, d7⟩ := id h'
      have hl := m2.len
      obtain ⟨q', e5, q5⟩ := p_goToHead (N := N) (by omega) h9 m1 m2 g
      obtain ⟨w'', e6, q6, f6⟩ := p_msneezes (N := N) (r := 0) (by omega) (by omega) h9 m4 (by show a.1.length ≤ 9; omega) (fun y hy => by have := m2.q9 hy; omega) ((m2.2.1 p).mpr g)
      rw [← mOf_snz g] at q6
      have e6' : MX8_sneezes N w' (0 : Int32) (nI p) = some w'' := e6
      rw [e3, e4]
      simp only [Option.bind_some]
      rw [e5, e6']
      simp (disch := omega) only [Option.bind_some, k2, MG_ok, nI_clamp]
      exact ⟨_, _, rfl, rfl, q5.1.trans q6.2.2.1.symm, aSnz a p, aPush 8 us a, rfl, h'.now q5 (m2.snz g) n3.snz q6 f6 (Nat.le_refl _)⟩
    · rw [if_neg (show ¬ nI (a.2.1 p) = (1 : Int32) from nI_ne (b := 1) (by omega) (by omega) g), decide_eq_false g, bf]
      exact ⟨_, _, rfl, rfl, rfl, a, us, rfl, h⟩
  · rw [p_isPerson c3 c1, hh]
    simp only [Option.bind_some, b0]
    exact ⟨_, _, rfl, rfl, rfl, a, us, rfl, h⟩
theorem s_leave {N : Nat} (hN : 100000 ≤ N) {c : Nat} {A : APl} {P : PlanV} {Nw : LineV} {U K : ShelfV} {w F : Nat → Int32} {a : ASt} {us ks : List ASt} (h : Core c A P Nw U K w F a us ks) (x : Int32) : ∃ u v, MX7_leave N P Nw U x = some u ∧ MX8_leave N w (nI us.length) (nI A.2.2.2.1) x = some v ∧ u.1 = v.1 ∧ ∃ a' us', v.2.2 = nI us'.length ∧ Core c A P (u.2.1, u.2.2.1, Nw.2.2.1, Nw.2.2.2.1, Nw.2.2.2.2.1, u.2.2.2.1, Nw.2.2.2.2.2.2.1, Nw.2.2.2.2.2.2.2.1, Nw.2.2.2.2.2.2.2.2) (u.2.2.2.2.1, u.2.2.2.2.2.1, u.2.2.2.2.2.2) K v.2.1 F a' us' ks := by
  obtain ⟨c1, c2, c3, c4, ⟨n1, n2, n3, n4⟩, c6, c7⟩ := id h
  have h9 := c1.1
  unfold MX7_leave MX8_leave
  rcases p_has (N := N) c3 c1 x with ⟨p, hp, e, hh⟩ | ⟨-, hh⟩
  · subst e
    rw [p_isPerson c3 c1, hh]
    simp only [Option.bind_some, b1]
    have hw3 := n2.2.2.2.1 p
    have e1 := p_whereIs (N := N) n1 (p := p) (by omega)
    have e2 : MX8_isWhere N w (0 : Int32) (nI p) (1 : Int32) = some (bI (decide (a.2.1 p = 1))) := p_misWhere (N := N) (r := 0) (v := 1) (by omega) n4 (by omega) hw3 (by omega)
    rw [e1, e2]
    simp only [Option.bind_some]
    by_cases g : a.2.1 p = 1
    · rw [if_pos (show nI (a.2.1 p) = (1 : Int32) by rw [g]; rfl), decide_eq_true g, bt]
      obtain ⟨S', w', e3, e4, h'⟩ := h.push (N := N) (by omega)
      obtain ⟨d1, d2, d3, d4, ⟨m1, m2, m3, m4⟩, d6, d7⟩ := id h'
      have hl := m2.len
      obtain ⟨q', e5, q5⟩ := p_goAway (N := N) (by omega) h9 m1 m2 g
      obtain ⟨w'', e6, q6, f6⟩ := p_mgoes (N := N) (r := 0) (k := 2) (by omega) (by omega) h9 m4 (by show a.1.length ≤ 9; omega) (fun y hy => by have := m2.q9 hy; omega) ((m2.2.1 p).mpr g)
      rw [← mOf_go g rfl] at q6
      have e6' : MX8_goes N w' (0 : Int32) (nI p) (2 : Int32) = some w'' := e6
      rw [e3, e4]
      simp only [Option.bind_some]
      rw [e5, e6']
      simp (disch := omega) only [Option.bind_some, k2, MG_ok, nI_clamp]
      exact ⟨_, _, rfl, rfl, q5.1.trans q6.2.2.1.symm, aGo a p 2, aPush 8 us a, rfl, h'.now q5 (m2.go hp (by omega) (by omega)) n3.go q6 f6 (Nat.le_refl _)⟩
    · rw [if_neg (show ¬ nI (a.2.1 p) = (1 : Int32) from nI_ne (b := 1) (by omega) (by omega) g), decide_eq_false g, bf]
      exact ⟨_, _, rfl, rfl, rfl, a, us, rfl, h⟩
  · rw [p_isPerson c3 c1, hh]
    simp only [Option.bind_some, b0]
    exact ⟨_, _, rfl, rfl, rfl, a, us, rfl, h⟩
theorem s_again {N : Nat} (hN : 100000 ≤ N) {c : Nat} {A : APl} {P : PlanV} {Nw : LineV} {U K : ShelfV} {w F : Nat → Int32} {a : ASt} {us ks : List ASt} (h : Core c A P Nw U K w F a us ks) (x : Int32) : ∃ u v, MX7_again N P Nw U x = some u ∧ MX8_again N w (nI us.length) (nI A.2.2.2.1) F x = some v ∧ u.1 = v.1 ∧ ∃ a' us', v.2.2 = nI us'.length ∧ Core c A P (u.2.1, u.2.2.1, u.2.2.2.1, Nw.2.2.2.1, Nw.2.2.2.2.1, u.2.2.2.2.1, Nw.2.2.2.2.2.2.1, Nw.2.2.2.2.2.2.2.1, Nw.2.2.2.2.2.2.2.2) (u.2.2.2.2.2.1, u.2.2.2.2.2.2.1, u.2.2.2.2.2.2.2) K v.2.1 F a' us' ks := by
  obtain ⟨c1, c2, c3, c4, ⟨n1, n2, n3, n4⟩, c6, c7⟩ := id h
  have h9 := c1.1
  unfold MX7_again MX8_again
  rcases p_has (N := N) c3 c1 x with ⟨p, hp, e, hh⟩ | ⟨-, hh⟩
  · subst e
    rw [p_isPerson c3 c1, hh]
    simp only [Option.bind_some, b1]
    have hw3 := n2.2.2.2.1 p
    have e1 := p_whereIs (N := N) n1 (p := p) (by omega)
    have e2 : MX8_isWhere N w (0 : Int32) (nI p) (2 : Int32) = some (bI (decide (a.2.1 p = 2))) := p_misWhere (N := N) (r := 0) (v := 2) (by omega) n4 (by omega) hw3 (by omega)
    rw [e1, e2]
    simp only [Option.bind_some]
    by_cases g : a.2.1 p = 2
    · rw [if_pos (show nI (a.2.1 p) = (2 : Int32) by rw [g]; rfl), decide_eq_true g, bt]
      obtain ⟨S', w', e3, e4, h'⟩ := h.push (N := N) (by omega)
      obtain ⟨d1, d2, d3, d4, ⟨m1, m2, m3, m4⟩, d6, d7⟩ := id h'
      have hl := m2.len2 hp (by omega)
      obtain ⟨q', e5, q5⟩ := p_join (N := N) (by omega) c3 c1 m1 m2 hp (by omega)
      obtain ⟨w'', e6, q6, f6⟩ := p_mjoins (N := N) (r := 0) (by omega) (by omega) c1 c4 m4 (by show a.1.length ≤ 8; omega) (fun y hy => m2.q9 hy) hp
      have q6 : repK 0 w'' A (mStand (mOf a) p (jpl A a.1 p)) := q6
      rw [← mOf_join (by omega)] at q6
      have e6' : MX8_joins N w' F (0 : Int32) (nI p) = some w'' := e6
      have w7 := m2.join (A := A) hp (by omega)
      have l7 := w7.len
      have e7 : MX1_placeOf N (q'.1, q'.2.1, q'.2.2.1, Nw.2.2.2.1, Nw.2.2.2.2.1, q'.2.2.2, Nw.2.2.2.2.2.2) (nI p) = _ := p_placeOf (N := N) (p := p) (by omega) q5.1 q5.2.1 (by omega) (fun y hy => by have := w7.q9 hy; omega) (by omega)
      have e8 : MX8_placeOf N w'' (0 : Int32) (nI p) = _ := p_mplaceOf (N := N) (r := 0) (p := p) (by omega) (by omega) q6 (by show (aJoin A a p).1.length ≤ 9; omega) (fun y hy => by have := w7.q9 hy; omega) (by omega)
      rw [e3, e4]
      simp only [Option.bind_some]
      rw [e5, e6']
      simp only [Option.bind_some]
      rw [e7, e8]
      exact ⟨_, _, rfl, rfl, rfl, aJoin A a p, aPush 8 us a, rfl, h'.now q5 w7 n3.join q6 f6 (Nat.le_refl _)⟩
    · rw [if_neg (show ¬ nI (a.2.1 p) = (2 : Int32) from nI_ne (b := 2) (by omega) (by omega) g), decide_eq_false g, bf]
      exact ⟨_, _, rfl, rfl, rfl, a, us, rfl, h⟩
  · rw [p_isPerson c3 c1, hh]
    simp only [Option.bind_some, b0]
    exact ⟨_, _, rfl, rfl, rfl, a, us, rfl, h⟩
