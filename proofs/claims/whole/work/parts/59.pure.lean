def NF : Nat := 100000
theorem pure_all (L : Nat) (hL : L ≤ 2560) (xs : Nat → Int32) : ∃ (r7 : (Nat → Int32) × (Nat → Int32) × Int32 × (Nat → Int32) × (Nat → Int32) × (Nat → Int32) × Int32 × Int32 × Int32 × Int32) (r8 : (Nat → Int32) × Int32 × Int32 × Int32 × (Nat → Int32) × Int32 × Int32 × Int32 × Int32 × Int32 × (Nat → Int32) × (Nat → Int32) × (Nat → Int32) × Int32 × Int32 × Int32), MX7_init NF = some r7 ∧ MX8_init NF = some r8 ∧ ML_law_l18 NF L xs NF (0 : Int32) (r7.1, r7.2.1, r7.2.2.1) zPlan (r7.2.2.2.1, r7.2.2.2.2.1, r7.2.2.2.2.2.1, r7.2.2.2.2.2.2.1, r7.2.2.2.2.2.2.2.1, r7.2.2.2.2.2.2.2.2.1, r7.2.2.2.2.2.2.2.2.2) zLine zPlan zLine zOrd zSeen zShelf zShelf r8.1 r8.2.1 r8.2.2.1 r8.2.2.2.1 r8.2.2.2.2.1 r8.2.2.2.2.2.1 r8.2.2.2.2.2.2.1 r8.2.2.2.2.2.2.2.1 r8.2.2.2.2.2.2.2.2.1 (fun _ => (0 : Int32)) (fun _ => (0 : Int32)) (fun _ => (0 : Int32)) (fun _ => (0 : Int32)) (0 : Int32) (0 : Int32) (0 : Int32) r8.2.2.2.2.2.2.2.2.2.1 r8.2.2.2.2.2.2.2.2.2.2.1 r8.2.2.2.2.2.2.2.2.2.2.2.1 r8.2.2.2.2.2.2.2.2.2.2.2.2.1 r8.2.2.2.2.2.2.2.2.2.2.2.2.2.1 r8.2.2.2.2.2.2.2.2.2.2.2.2.2.2.1 r8.2.2.2.2.2.2.2.2.2.2.2.2.2.2.2 (fun _ => (0 : Int32)) (fun _ => (0 : Int32)) (fun _ => (0 : Int32)) = some (1 : Int32) := by
  obtain ⟨r7, e7, p7⟩ := any_some init7
  obtain ⟨r8, e8, p8⟩ := any_some init8
  refine ⟨r7, r8, e7, e8, ?_⟩
  have p7 := of_decide_eq_true p7
  rw [Bool.and_eq_true, Bool.and_eq_true, Bool.and_eq_true, List.all_eq_true, List.all_eq_true] at p8
  obtain ⟨a1, a2, a3, a4, a5, a6⟩ := p7
  obtain ⟨b1', b2, b3, b4⟩ := p8
  obtain ⟨c1, c2, c3⟩ := of_decide_eq_true b3
  obtain ⟨d1, d2, d3, d4⟩ := of_decide_eq_true b4
  have b1'' : ∀ x, x < 30 → r8.1 x = nI 0 := fun x hx => of_decide_eq_true (b1' x (List.mem_range.mpr hx))
  have b2' : ∀ p, p < 9 → r8.1 (30 + p) = -4 ∧ r8.1 (39 + p) = -4 ∧ r8.1 (48 + p) = nI (aPlF.2.1 p) ∧ r8.1 (57 + p) = nI (aPlF.1 p) ∧ r8.2.2.2.2.1 p = nI (aPlF.2.2.1 p) := by
    intro p hp
    have := b2 p (List.mem_range.mpr hp)
    rw [Bool.and_eq_true, Bool.and_eq_true, Bool.and_eq_true, Bool.and_eq_true] at this
    obtain ⟨q1, q2, q3, q4, q5⟩ := this
    exact ⟨of_decide_eq_true q1, of_decide_eq_true q2, of_decide_eq_true q3, of_decide_eq_true q4, of_decide_eq_true q5⟩
  have hK : repK 0 r8.1 aPlF (mOf aZero) := repK_zero (by decide) b1'' (fun p hp => ⟨(b2' p hp).1, (b2' p hp).2.1, (b2' p hp).2.2.1, (b2' p hp).2.2.2.1⟩)
  have hF : rfF r8.2.2.2.2.1 aPlF := fun p hp => (b2' p hp).2.2.2.2
  have hP : repP (r7.2.2.2.1, r7.2.2.2.2.1, r7.2.2.2.2.2.1, r7.2.2.2.2.2.2.1, r7.2.2.2.2.2.2.2.1, r7.2.2.2.2.2.2.2.2.1, r7.2.2.2.2.2.2.2.2.2) aPlF := ⟨a2, a3, a4, a5, a6⟩
  have hC : Core 0 aPlF (r7.2.2.2.1, r7.2.2.2.2.1, r7.2.2.2.2.2.1, r7.2.2.2.2.2.2.1, r7.2.2.2.2.2.2.2.1, r7.2.2.2.2.2.2.2.2.1, r7.2.2.2.2.2.2.2.2.2) zLine zShelf zShelf r8.1 r8.2.2.2.2.1 aZero [] [] := ⟨WD.pF.p (by decide), WD.pF.2.2.2.2.2.2, hP, hF, ⟨repL_z, WF.zero, WE.zero, hK⟩, UR_z (by omega), UR_z (by omega)⟩
  exact law_l (N := NF) rfl hL xs 512 NF 0 0 _ _ _ _ _ _ _ _ _ _ _ _ _ _ _ _ _ _ _ _ _ _ _ _ _ _ _ _ _ _ _ _ _ _ _ _ (by omega) (by decide) (by omega) (by omega) ⟨aPlF, aZero, [], [], [], [], hC, c1, c2, c3, d1, d2, d3, ⟨rfl, d4, by simp, fun i e he => by simp at he⟩, ⟨a1, rfl, by simp, fun i e he => by simp at he⟩⟩
