def Rel (c : Nat) (Tx : TextV) (P : PlanV) (Nw : LineV) (S : SeenV) (U K : ShelfV) (w : Nat → Int32) (un kt ps : Int32) (F : Nat → Int32) (g h ru sn : Int32) (s1 s2 s3 tx : Nat → Int32) (tn : Int32) : Prop := ∃ A a us ks sl tl, Core c A P Nw U K w F a us ks ∧ un = nI us.length ∧ kt = nI ks.length ∧ ps = nI A.2.2.2.1 ∧ g = nI A.2.2.2.2.1 ∧ h = nI A.2.2.2.2.2.1 ∧ ru = nI A.2.2.2.2.2.2 ∧ SeR A.2.2.2.1 S sn s1 s2 s3 sl ∧ TxR Tx tx tn tl
theorem law_end {L i : Nat} (hL : L ≤ 2560) (hi : i ≤ 10000) : (Int32.ofNat L - (5 : Int32) < nI i) ↔ L < i + 5 := by
  have e : (Int32.ofNat L - (5 : Int32)).toInt = (L : Int) - 5 := pk_sub_toInt (a := L) (b := 5) (by omega) (by omega)
  rw [Int32.lt_iff_toInt_lt, e, nI_toInt (by omega)]
  omega
set_option maxHeartbeats 4000000 in
set_option maxRecDepth 100000 in
theorem law_l {N L : Nat} (hN : N = 100000) (hL : L ≤ 2560) (xs : Nat → Int32) : ∀ (k m i c : Nat) (Tx : TextV) (D P : PlanV) (Nw : LineV) (Gs : PlanV) (Tr : LineV) (O : OrdV) (S : SeenV) (U K : ShelfV) (w : Nat → Int32) (un kt ps : Int32) (F : Nat → Int32) (g h ru sn : Int32) (s1 s2 s3 tx : Nat → Int32) (tn pl num rn : Int32) (rk rc rf : Nat → Int32) (rg rw rr : Int32) (tc ord bst : Nat → Int32), L ≤ i + 5 * k → k < m → i ≤ 2560 → c + 60 * k ≤ 40000 → Rel c Tx P Nw S U K w un kt ps F g h ru sn s1 s2 s3 tx tn → ML_law_l18 N L xs m (nI i) Tx D P Nw Gs Tr O S U K w un kt ps F g h ru sn s1 s2 s3 tx tn pl num rn rk rc rf rg rw rr tc ord bst = some (1 : Int32) := by
  have hN1 : 100000 ≤ N := by omega
  intro k
  induction k with
  | zero =>
    intro m i c Tx D P Nw Gs Tr O S U K w un kt ps F g h ru sn s1 s2 s3 tx tn pl num rn rk rc rf rg rw rr tc ord bst h1 h2 h3 h4 hR
    obtain ⟨m, rfl⟩ : ∃ q, m = q + 1 := ⟨m - 1, by omega⟩
    rw [ML_law_l18, if_pos ((law_end hL (by omega)).mpr (by omega))]
  | succ k ih =>
    intro m i c Tx D P Nw Gs Tr O S U K w un kt ps F g h ru sn s1 s2 s3 tx tn pl num rn rk rc rf rg rw rr tc ord bst h1 h2 h3 h4 hR
    obtain ⟨m, rfl⟩ : ∃ q, m = q + 1 := ⟨m - 1, by omega⟩
    rw [ML_law_l18]
    by_cases hend : L < i + 5
    · rw [if_pos ((law_end hL (by omega)).mpr hend)]
    rw [if_neg (fun q => hend ((law_end hL (by omega)).mp q)), MG_ok (show i < L by omega) (by omega)]
    have hG1 : ∀ (z : Option Int32), MG (nI i + (1 : Int32)) L z = z := fun z => by rw [nI_1]; exact MG_ok (by omega) (by omega)
    have hG2 : ∀ (z : Option Int32), MG (nI i + (2 : Int32)) L z = z := fun z => by rw [show nI i + (2 : Int32) = nI (i + 2) from nI_add i 2]; exact MG_ok (by omega) (by omega)
    have hG3 : ∀ (z : Option Int32), MG (nI i + (3 : Int32)) L z = z := fun z => by rw [show nI i + (3 : Int32) = nI (i + 3) from nI_add i 3]; exact MG_ok (by omega) (by omega)
    have hG4 : ∀ (z : Option Int32), MG (nI i + (4 : Int32)) L z = z := fun z => by rw [show nI i + (4 : Int32) = nI (i + 4) from nI_add i 4]; exact MG_ok (by omega) (by omega)
    have h5 : nI i + (5 : Int32) = nI (i + 5) := nI_add i 5
    obtain ⟨A, a, us, ks, sl, tl, hC, rfl, rfl, rfl, rfl, rfl, rfl, hS, hT⟩ := hR
    generalize (xs (nI i).toNatClampNeg) &&& (31 : Int32) = v0
    by_cases g0 : v0 = (0 : Int32)
    · rw [if_pos g0]
      obtain ⟨u, v, e1, e2, e3, tl2, hT2⟩ := s_write (N := N) hT (xs (nI i + (1 : Int32)).toNatClampNeg)
      rw [hG1, e1]
      simp only [Option.bind_some]
      rw [hG1, e2]
      simp only [Option.bind_some]
      rw [if_pos e3, h5]
      exact ih m (i + 5) (c + 60) _ _ _ _ _ _ _ _ _ _ _ _ _ _ _ _ _ _ _ _ _ _ _ _ _ _ _ _ _ _ _ _ _ _ _ _ (by omega) (by omega) (by omega) (by omega) ⟨A, a, us, ks, sl, tl2, hC.mono (by omega), rfl, rfl, rfl, rfl, rfl, rfl, hS, hT2⟩
    rw [if_neg g0]
    by_cases g1 : v0 = (1 : Int32)
    · rw [if_pos g1]
      have e1 : MX7_wipe N Tx = some (Tx.2.2, (0 : Int32)) := rfl
      have e2 : MX8_wipe N tn = some (tn, (0 : Int32)) := rfl
      have e3 : (Tx.2.2, (0 : Int32)).1 = (tn, (0 : Int32)).1 := hT.1.trans hT.2.1.symm
      rw [e1]
      simp only [Option.bind_some]
      rw [e2]
      simp only [Option.bind_some]
      rw [if_pos (show Tx.2.2 = tn from e3), h5]
      exact ih m (i + 5) (c + 60) _ _ _ _ _ _ _ _ _ _ _ _ _ _ _ _ _ _ _ _ _ _ _ _ _ _ _ _ _ _ _ _ _ _ _ _ (by omega) (by omega) (by omega) (by omega) ⟨A, a, us, ks, sl, [], hC.mono (by omega), rfl, rfl, rfl, rfl, rfl, rfl, hS, hT.nil⟩
    rw [if_neg g1]
    by_cases g2 : v0 = (2 : Int32)
    · rw [if_pos g2]
      obtain ⟨u, v, e1, e2, e3⟩ := s_fault (N := N) hN1 hT D num rk rc rf
      rw [e1]
      simp only [Option.bind_some]
      rw [e2]
      simp only [Option.bind_some]
      rw [if_pos e3, h5]
      exact ih m (i + 5) (c + 60) _ _ _ _ _ _ _ _ _ _ _ _ _ _ _ _ _ _ _ _ _ _ _ _ _ _ _ _ _ _ _ _ _ _ _ _ (by omega) (by omega) (by omega) (by omega) ⟨A, a, us, ks, sl, tl, hC.mono (by omega), rfl, rfl, rfl, rfl, rfl, rfl, hS, hT⟩
    rw [if_neg g2]
    by_cases g3 : v0 = (3 : Int32)
    · rw [if_pos g3]
      obtain ⟨u, v, e1, e2, e3, A2, a2, us2, ks2, sl2, hC2, q1, q2, q3, q4, q5, q6, hS2⟩ := s_lay (N := N) hN1 hC hS hT D num rk rc rf
      rw [e1]
      simp only [Option.bind_some]
      rw [e2]
      simp only [Option.bind_some]
      rw [if_pos e3, h5]
      exact ih m (i + 5) (c + 60) _ _ _ _ _ _ _ _ _ _ _ _ _ _ _ _ _ _ _ _ _ _ _ _ _ _ _ _ _ _ _ _ _ _ _ _ (by omega) (by omega) (by omega) (by omega) ⟨A2, a2, us2, ks2, sl2, tl, hC2.mono (by omega), q1, q2, q3, q4, q5, q6, hS2, hT⟩
    rw [if_neg g3]
    by_cases g4 : v0 = (4 : Int32)
    · rw [if_pos g4]
      obtain ⟨u, e1, e2⟩ := s_person (N := N) hN1 hC (xs (nI i + (1 : Int32)).toNatClampNeg) (xs (nI i + (2 : Int32)).toNatClampNeg)
      rw [hG1, hG2, e1]
      simp only [Option.bind_some]
      rw [hG1, hG2, e2]
      simp only [Option.bind_some]
      rw [if_pos True.intro, h5]
      exact ih m (i + 5) (c + 60) _ _ _ _ _ _ _ _ _ _ _ _ _ _ _ _ _ _ _ _ _ _ _ _ _ _ _ _ _ _ _ _ _ _ _ _ (by omega) (by omega) (by omega) (by omega) ⟨A, a, us, ks, sl, tl, hC.mono (by omega), rfl, rfl, rfl, rfl, rfl, rfl, hS, hT⟩
    rw [if_neg g4]
    by_cases g5 : v0 = (5 : Int32)
    · rw [if_pos g5]
      obtain ⟨u, e1, e2⟩ := s_at (N := N) hC (xs (nI i + (1 : Int32)).toNatClampNeg)
      rw [hG1, e1]
      simp only [Option.bind_some]
      rw [hG1, e2]
      simp only [Option.bind_some]
      rw [if_pos True.intro, h5]
      exact ih m (i + 5) (c + 60) _ _ _ _ _ _ _ _ _ _ _ _ _ _ _ _ _ _ _ _ _ _ _ _ _ _ _ _ _ _ _ _ _ _ _ _ (by omega) (by omega) (by omega) (by omega) ⟨A, a, us, ks, sl, tl, hC.mono (by omega), rfl, rfl, rfl, rfl, rfl, rfl, hS, hT⟩
    rw [if_neg g5]
    by_cases g6 : v0 = (6 : Int32)
    · rw [if_pos g6]
      obtain ⟨u, v, e1, e2, e3, a2, us2, q1, hC2⟩ := s_pass (N := N) hN1 (by omega) hC (xs (nI i + (1 : Int32)).toNatClampNeg)
      rw [hG1, e1]
      simp only [Option.bind_some]
      rw [hG1, e2]
      simp only [Option.bind_some]
      rw [if_pos e3, h5]
      exact ih m (i + 5) (c + 60) _ _ _ _ _ _ _ _ _ _ _ _ _ _ _ _ _ _ _ _ _ _ _ _ _ _ _ _ _ _ _ _ _ _ _ _ (by omega) (by omega) (by omega) (by omega) ⟨A, a2, us2, ks, sl, tl, hC2.mono (by omega), q1, rfl, rfl, rfl, rfl, rfl, hS, hT⟩
    rw [if_neg g6]
    by_cases g7 : v0 = (7 : Int32)
    · rw [if_pos g7]
      obtain ⟨u, v, e1, e2, e3, a2, us2, q1, hC2⟩ := s_giveUp (N := N) hN1 hC (xs (nI i + (1 : Int32)).toNatClampNeg)
      rw [hG1, e1]
      simp only [Option.bind_some]
      rw [hG1, e2]
      simp only [Option.bind_some]
      rw [if_pos e3, h5]
      exact ih m (i + 5) (c + 60) _ _ _ _ _ _ _ _ _ _ _ _ _ _ _ _ _ _ _ _ _ _ _ _ _ _ _ _ _ _ _ _ _ _ _ _ (by omega) (by omega) (by omega) (by omega) ⟨A, a2, us2, ks, sl, tl, hC2.mono (by omega), q1, rfl, rfl, rfl, rfl, rfl, hS, hT⟩
    rw [if_neg g7]
    by_cases g8 : v0 = (8 : Int32)
    · rw [if_pos g8]
      obtain ⟨u, v, e1, e2, e3, a2, us2, q1, hC2⟩ := s_sneeze (N := N) hN1 hC (xs (nI i + (1 : Int32)).toNatClampNeg)
      rw [hG1, e1]
      simp only [Option.bind_some]
      rw [hG1, e2]
      simp only [Option.bind_some]
      rw [if_pos e3, h5]
      exact ih m (i + 5) (c + 60) _ _ _ _ _ _ _ _ _ _ _ _ _ _ _ _ _ _ _ _ _ _ _ _ _ _ _ _ _ _ _ _ _ _ _ _ (by omega) (by omega) (by omega) (by omega) ⟨A, a2, us2, ks, sl, tl, hC2.mono (by omega), q1, rfl, rfl, rfl, rfl, rfl, hS, hT⟩
    rw [if_neg g8]
    by_cases g9 : v0 = (9 : Int32)
    · rw [if_pos g9]
      obtain ⟨u, v, e1, e2, e3, a2, us2, q1, hC2⟩ := s_leave (N := N) hN1 hC (xs (nI i + (1 : Int32)).toNatClampNeg)
      rw [hG1, e1]
      simp only [Option.bind_some]
      rw [hG1, e2]
      simp only [Option.bind_some]
      rw [if_pos e3, h5]
      exact ih m (i + 5) (c + 60) _ _ _ _ _ _ _ _ _ _ _ _ _ _ _ _ _ _ _ _ _ _ _ _ _ _ _ _ _ _ _ _ _ _ _ _ (by omega) (by omega) (by omega) (by omega) ⟨A, a2, us2, ks, sl, tl, hC2.mono (by omega), q1, rfl, rfl, rfl, rfl, rfl, hS, hT⟩
    rw [if_neg g9]
    by_cases g10 : v0 = (10 : Int32)
    · rw [if_pos g10]
      obtain ⟨u, v, e1, e2, e3, a2, us2, q1, hC2⟩ := s_again (N := N) hN1 hC (xs (nI i + (1 : Int32)).toNatClampNeg)
      rw [hG1, e1]
      simp only [Option.bind_some]
      rw [hG1, e2]
      simp only [Option.bind_some]
      rw [if_pos e3, h5]
      exact ih m (i + 5) (c + 60) _ _ _ _ _ _ _ _ _ _ _ _ _ _ _ _ _ _ _ _ _ _ _ _ _ _ _ _ _ _ _ _ _ _ _ _ (by omega) (by omega) (by omega) (by omega) ⟨A, a2, us2, ks, sl, tl, hC2.mono (by omega), q1, rfl, rfl, rfl, rfl, rfl, hS, hT⟩
    rw [if_neg g10]
    by_cases g11 : v0 = (11 : Int32)
    · rw [if_pos g11]
      obtain ⟨u, v, e1, e2, e3, a2, us2, q1, hC2⟩ := s_undo (N := N) hN1 hC
      rw [e1]
      simp only [Option.bind_some]
      rw [e2]
      simp only [Option.bind_some]
      rw [if_pos e3, h5]
      exact ih m (i + 5) (c + 60) _ _ _ _ _ _ _ _ _ _ _ _ _ _ _ _ _ _ _ _ _ _ _ _ _ _ _ _ _ _ _ _ _ _ _ _ (by omega) (by omega) (by omega) (by omega) ⟨A, a2, us2, ks, sl, tl, hC2.mono (by omega), q1, rfl, rfl, rfl, rfl, rfl, hS, hT⟩
    rw [if_neg g11]
    by_cases g12 : v0 = (12 : Int32)
    · rw [if_pos g12]
      obtain ⟨u, v, e1, e2, e3, f⟩ := s_behind (N := N) hN1 (by omega) hC Tr (xs (nI i + (1 : Int32)).toNatClampNeg) (xs (nI i + (2 : Int32)).toNatClampNeg)
      rw [hG1, hG2, e1]
      simp only [Option.bind_some]
      rw [hG1, hG2, e2]
      simp only [Option.bind_some]
      rw [if_pos e3, h5]
      exact ih m (i + 5) (c + 60) _ _ _ _ _ _ _ _ _ _ _ _ _ _ _ _ _ _ _ _ _ _ _ _ _ _ _ _ _ _ _ _ _ _ _ _ (by omega) (by omega) (by omega) (by omega) ⟨A, a, us, ks, sl, tl, (hC.tr f).mono (by omega), rfl, rfl, rfl, rfl, rfl, rfl, hS, hT⟩
    rw [if_neg g12]
    by_cases g13 : v0 = (13 : Int32)
    · rw [if_pos g13]
      obtain ⟨u, v, e1, e2, e3, f⟩ := s_when (N := N) hN1 (by omega) hC Tr (xs (nI i + (1 : Int32)).toNatClampNeg)
      rw [hG1, e1]
      simp only [Option.bind_some]
      rw [hG1, e2]
      simp only [Option.bind_some]
      rw [if_pos e3, h5]
      exact ih m (i + 5) (c + 60) _ _ _ _ _ _ _ _ _ _ _ _ _ _ _ _ _ _ _ _ _ _ _ _ _ _ _ _ _ _ _ _ _ _ _ _ (by omega) (by omega) (by omega) (by omega) ⟨A, a, us, ks, sl, tl, (hC.tr f).mono (by omega), rfl, rfl, rfl, rfl, rfl, rfl, hS, hT⟩
    rw [if_neg g13]
    by_cases g14 : v0 = (14 : Int32)
    · rw [if_pos g14]
      obtain ⟨u, v, e1, e2, e3, f⟩ := s_pays (N := N) hN1 (by omega) hC Tr
      rw [e1]
      simp only [Option.bind_some]
      rw [e2]
      simp only [Option.bind_some]
      rw [if_pos e3, h5]
      exact ih m (i + 5) (c + 60) _ _ _ _ _ _ _ _ _ _ _ _ _ _ _ _ _ _ _ _ _ _ _ _ _ _ _ _ _ _ _ _ _ _ _ _ (by omega) (by omega) (by omega) (by omega) ⟨A, a, us, ks, sl, tl, (hC.tr f).mono (by omega), rfl, rfl, rfl, rfl, rfl, rfl, hS, hT⟩
    rw [if_neg g14]
    by_cases g15 : v0 = (15 : Int32)
    · rw [if_pos g15]
      obtain ⟨u, v, e1, e2, e3, f⟩ := s_gains (N := N) hN1 (by omega) hC Tr
      rw [e1]
      simp only [Option.bind_some]
      rw [e2]
      simp only [Option.bind_some]
      rw [if_pos e3, h5]
      exact ih m (i + 5) (c + 60) _ _ _ _ _ _ _ _ _ _ _ _ _ _ _ _ _ _ _ _ _ _ _ _ _ _ _ _ _ _ _ _ _ _ _ _ (by omega) (by omega) (by omega) (by omega) ⟨A, a, us, ks, sl, tl, (hC.tr f).mono (by omega), rfl, rfl, rfl, rfl, rfl, rfl, hS, hT⟩
    rw [if_neg g15]
    by_cases g16 : v0 = (16 : Int32)
    · rw [if_pos g16]
      obtain ⟨u, v, e1, e2, e3, f⟩ := s_besides (N := N) hN1 (by omega) hC Tr (xs (nI i + (1 : Int32)).toNatClampNeg)
      rw [hG1, e1]
      simp only [Option.bind_some]
      rw [hG1, e2]
      simp only [Option.bind_some]
      rw [if_pos e3, h5]
      exact ih m (i + 5) (c + 60) _ _ _ _ _ _ _ _ _ _ _ _ _ _ _ _ _ _ _ _ _ _ _ _ _ _ _ _ _ _ _ _ _ _ _ _ (by omega) (by omega) (by omega) (by omega) ⟨A, a, us, ks, sl, tl, (hC.tr f).mono (by omega), rfl, rfl, rfl, rfl, rfl, rfl, hS, hT⟩
    rw [if_neg g16]
    by_cases g17 : v0 = (17 : Int32)
    · rw [if_pos g17]
      obtain ⟨u, v, e1, e2, e3, f⟩ := s_family (N := N) hN1 (by omega) hC Gs Tr O tc ord bst (xs (nI i + (1 : Int32)).toNatClampNeg) (xs (nI i + (2 : Int32)).toNatClampNeg)
      rw [hG1, hG2, e1]
      simp only [Option.bind_some]
      rw [hG1, hG2, e2]
      simp only [Option.bind_some]
      rw [if_pos e3, h5]
      exact ih m (i + 5) (c + 60) _ _ _ _ _ _ _ _ _ _ _ _ _ _ _ _ _ _ _ _ _ _ _ _ _ _ _ _ _ _ _ _ _ _ _ _ (by omega) (by omega) (by omega) (by omega) ⟨A, a, us, ks, sl, tl, (hC.tr f).mono (by omega), rfl, rfl, rfl, rfl, rfl, rfl, hS, hT⟩
    rw [if_neg g17]
    by_cases g18 : v0 = (18 : Int32)
    · rw [if_pos g18]
      obtain ⟨u, v, e1, e2, e3, f⟩ := s_warmth (N := N) hN (by omega) hC Tr (xs (nI i + (1 : Int32)).toNatClampNeg)
      rw [hG1, e1]
      simp only [Option.bind_some]
      rw [hG1, e2]
      simp only [Option.bind_some]
      rw [if_pos e3, h5]
      exact ih m (i + 5) (c + 60) _ _ _ _ _ _ _ _ _ _ _ _ _ _ _ _ _ _ _ _ _ _ _ _ _ _ _ _ _ _ _ _ _ _ _ _ (by omega) (by omega) (by omega) (by omega) ⟨A, a, us, ks, sl, tl, (hC.tr f).mono (by omega), rfl, rfl, rfl, rfl, rfl, rfl, hS, hT⟩
    rw [if_neg g18]
    by_cases g19 : v0 = (19 : Int32)
    · rw [if_pos g19]
      rw [hG1, hG2, hG3]
      by_cases gx : (xs (nI i + (3 : Int32)).toNatClampNeg) = 0
      · rw [if_pos gx]
        obtain ⟨u, v, e1, e2, e3, sl2, hS2⟩ := s_see (N := N) hC hS (xs (nI i + (1 : Int32)).toNatClampNeg) (xs (nI i + (2 : Int32)).toNatClampNeg) false
        have e1 : MX7_see N P S (xs (nI i + (1 : Int32)).toNatClampNeg) (xs (nI i + (2 : Int32)).toNatClampNeg) (0 : Int32) = some u := e1
        have e2 : MX8_see N (nI A.2.2.2.1) sn s1 s2 s3 (xs (nI i + (1 : Int32)).toNatClampNeg) (xs (nI i + (2 : Int32)).toNatClampNeg) (0 : Int32) = some v := e2
        unfold ML_law_j591
        rw [e1]
        simp only [Option.bind_some]
        rw [hG1, hG2, hG3, if_pos gx]
        unfold ML_law_j618
        rw [e2]
        simp only [Option.bind_some]
        rw [if_pos e3, h5]
        exact ih m (i + 5) (c + 60) _ _ _ _ _ _ _ _ _ _ _ _ _ _ _ _ _ _ _ _ _ _ _ _ _ _ _ _ _ _ _ _ _ _ _ _ (by omega) (by omega) (by omega) (by omega) ⟨A, a, us, ks, sl2, tl, hC.mono (by omega), rfl, rfl, rfl, rfl, rfl, rfl, hS2, hT⟩
      · rw [if_neg gx]
        obtain ⟨u, v, e1, e2, e3, sl2, hS2⟩ := s_see (N := N) hC hS (xs (nI i + (1 : Int32)).toNatClampNeg) (xs (nI i + (2 : Int32)).toNatClampNeg) true
        have e1 : MX7_see N P S (xs (nI i + (1 : Int32)).toNatClampNeg) (xs (nI i + (2 : Int32)).toNatClampNeg) (1 : Int32) = some u := e1
        have e2 : MX8_see N (nI A.2.2.2.1) sn s1 s2 s3 (xs (nI i + (1 : Int32)).toNatClampNeg) (xs (nI i + (2 : Int32)).toNatClampNeg) (1 : Int32) = some v := e2
        unfold ML_law_j591
        rw [e1]
        simp only [Option.bind_some]
        rw [hG1, hG2, hG3, if_neg gx]
        unfold ML_law_j618
        rw [e2]
        simp only [Option.bind_some]
        rw [if_pos e3, h5]
        exact ih m (i + 5) (c + 60) _ _ _ _ _ _ _ _ _ _ _ _ _ _ _ _ _ _ _ _ _ _ _ _ _ _ _ _ _ _ _ _ _ _ _ _ (by omega) (by omega) (by omega) (by omega) ⟨A, a, us, ks, sl2, tl, hC.mono (by omega), rfl, rfl, rfl, rfl, rfl, rfl, hS2, hT⟩
    rw [if_neg g19]
    by_cases g20 : v0 = (20 : Int32)
    · rw [if_pos g20]
      have e1 : MX7_forget N S = some (S.2.2.2, (0 : Int32)) := rfl
      have e2 : MX8_forget N sn = some (sn, (0 : Int32)) := rfl
      rw [e1]
      simp only [Option.bind_some]
      rw [e2]
      simp only [Option.bind_some]
      rw [if_pos (show S.2.2.2 = sn from hS.1.trans hS.2.1.symm), h5]
      exact ih m (i + 5) (c + 60) _ _ _ _ _ _ _ _ _ _ _ _ _ _ _ _ _ _ _ _ _ _ _ _ _ _ _ _ _ _ _ _ _ _ _ _ (by omega) (by omega) (by omega) (by omega) ⟨A, a, us, ks, [], tl, hC.mono (by omega), rfl, rfl, rfl, rfl, rfl, rfl, hS.nil, hT⟩
    rw [if_neg g20]
    by_cases g21 : v0 = (21 : Int32)
    · rw [if_pos g21]
      obtain ⟨u, v, e1, e2, e3, f⟩ := s_sneezed (N := N) hN1 (by omega) hC hS Tr
      rw [e1]
      simp only [Option.bind_some]
      rw [e2]
      simp only [Option.bind_some]
      rw [if_pos e3, h5]
      exact ih m (i + 5) (c + 60) _ _ _ _ _ _ _ _ _ _ _ _ _ _ _ _ _ _ _ _ _ _ _ _ _ _ _ _ _ _ _ _ _ _ _ _ (by omega) (by omega) (by omega) (by omega) ⟨A, a, us, ks, sl, tl, (hC.tr f).mono (by omega), rfl, rfl, rfl, rfl, rfl, rfl, hS, hT⟩
    rw [if_neg g21]
    by_cases g22 : v0 = (22 : Int32)
    · rw [if_pos g22]
      obtain ⟨u, v, e1, e2, e3, f⟩ := s_kinds (N := N) hN1 (by omega) hC hS Gs Tr (xs (nI i + (1 : Int32)).toNatClampNeg)
      rw [hG1, e1]
      simp only [Option.bind_some]
      rw [hG1, e2]
      simp only [Option.bind_some]
      rw [if_pos e3, h5]
      exact ih m (i + 5) (c + 60) _ _ _ _ _ _ _ _ _ _ _ _ _ _ _ _ _ _ _ _ _ _ _ _ _ _ _ _ _ _ _ _ _ _ _ _ (by omega) (by omega) (by omega) (by omega) ⟨A, a, us, ks, sl, tl, (hC.tr f).mono (by omega), rfl, rfl, rfl, rfl, rfl, rfl, hS, hT⟩
    rw [if_neg g22]
    by_cases g23 : v0 = (23 : Int32)
    · rw [if_pos g23]
      obtain ⟨u, v, e1, e2, e3, f⟩ := s_rumours (N := N) hN1 (by omega) hC Tr (xs (nI i + (1 : Int32)).toNatClampNeg) (xs (nI i + (2 : Int32)).toNatClampNeg) (xs (nI i + (3 : Int32)).toNatClampNeg) (xs (nI i + (4 : Int32)).toNatClampNeg)
      rw [hG1, hG2, hG3, hG4, e1]
      simp only [Option.bind_some]
      rw [hG1, hG2, hG3, hG4, e2]
      simp only [Option.bind_some]
      rw [if_pos e3, h5]
      exact ih m (i + 5) (c + 60) _ _ _ _ _ _ _ _ _ _ _ _ _ _ _ _ _ _ _ _ _ _ _ _ _ _ _ _ _ _ _ _ _ _ _ _ (by omega) (by omega) (by omega) (by omega) ⟨A, a, us, ks, sl, tl, (hC.tr f).mono (by omega), rfl, rfl, rfl, rfl, rfl, rfl, hS, hT⟩
    rw [if_neg g23]
    by_cases g24 : v0 = (24 : Int32)
    · rw [if_pos g24]
      obtain ⟨u, v, e1, e2, e3, f⟩ := s_day (N := N) hN (by omega) hC Tr (xs (nI i + (1 : Int32)).toNatClampNeg) (xs (nI i + (2 : Int32)).toNatClampNeg) (xs (nI i + (3 : Int32)).toNatClampNeg)
      rw [hG1, hG2, hG3, e1]
      simp only [Option.bind_some]
      rw [hG1, hG2, hG3, e2]
      simp only [Option.bind_some]
      rw [if_pos e3, h5]
      exact ih m (i + 5) (c + 60) _ _ _ _ _ _ _ _ _ _ _ _ _ _ _ _ _ _ _ _ _ _ _ _ _ _ _ _ _ _ _ _ _ _ _ _ (by omega) (by omega) (by omega) (by omega) ⟨A, a, us, ks, sl, tl, (hC.tr f).mono (by omega), rfl, rfl, rfl, rfl, rfl, rfl, hS, hT⟩
    rw [if_neg g24]
    by_cases g25 : v0 = (25 : Int32)
    · rw [if_pos g25]
      obtain ⟨u, v, e1, e2, e3, ks2, q1, hC2⟩ := s_keep (N := N) hN1 hC
      rw [e1]
      simp only [Option.bind_some]
      rw [e2]
      simp only [Option.bind_some]
      rw [if_pos e3, h5]
      exact ih m (i + 5) (c + 60) _ _ _ _ _ _ _ _ _ _ _ _ _ _ _ _ _ _ _ _ _ _ _ _ _ _ _ _ _ _ _ _ _ _ _ _ (by omega) (by omega) (by omega) (by omega) ⟨A, a, us, ks2, sl, tl, hC2.mono (by omega), rfl, q1, rfl, rfl, rfl, rfl, hS, hT⟩
    rw [if_neg g25]
    by_cases g26 : v0 = (26 : Int32)
    · rw [if_pos g26]
      obtain ⟨u, v, e1, e2, e3, a2, us2, ks2, q1, q2, hC2⟩ := s_back (N := N) hN1 hC
      rw [e1]
      simp only [Option.bind_some]
      rw [e2]
      simp only [Option.bind_some]
      rw [if_pos e3, h5]
      exact ih m (i + 5) (c + 60) _ _ _ _ _ _ _ _ _ _ _ _ _ _ _ _ _ _ _ _ _ _ _ _ _ _ _ _ _ _ _ _ _ _ _ _ (by omega) (by omega) (by omega) (by omega) ⟨A, a2, us2, ks2, sl, tl, hC2.mono (by omega), q1, q2, rfl, rfl, rfl, rfl, hS, hT⟩
    rw [if_neg g26]
    by_cases g27 : v0 = (27 : Int32)
    · rw [if_pos g27]
      obtain ⟨u, e1, e2⟩ := s_count (N := N) hN1 hC hS hT (xs (nI i + (1 : Int32)).toNatClampNeg)
      rw [hG1, e1]
      simp only [Option.bind_some]
      rw [hG1, e2]
      simp only [Option.bind_some]
      rw [if_pos True.intro, h5]
      exact ih m (i + 5) (c + 60) _ _ _ _ _ _ _ _ _ _ _ _ _ _ _ _ _ _ _ _ _ _ _ _ _ _ _ _ _ _ _ _ _ _ _ _ (by omega) (by omega) (by omega) (by omega) ⟨A, a, us, ks, sl, tl, hC.mono (by omega), rfl, rfl, rfl, rfl, rfl, rfl, hS, hT⟩
    rw [if_neg g27]
    rw [h5]
    exact ih m (i + 5) (c + 60) _ _ _ _ _ _ _ _ _ _ _ _ _ _ _ _ _ _ _ _ _ _ _ _ _ _ _ _ _ _ _ _ _ _ _ _ (by omega) (by omega) (by omega) (by omega) ⟨A, a, us, ks, sl, tl, hC.mono (by omega), rfl, rfl, rfl, rfl, rfl, rfl, hS, hT⟩
