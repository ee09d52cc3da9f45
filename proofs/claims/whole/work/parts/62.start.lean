theorem wAO : (Jvm.Cond.arrayOver (Jvm.ClassFile.FieldType.object "BackwardsLine$Line")) ∈ lw_tbl := List.mem_of_getElem? (i := 246) (by decide +kernel)
theorem wSR : (Jvm.Cond.stringRef "BackwardsLine" (58 : Nat) "p0,0,0;p1,0,1;p0,1,1;p2,2,0;p0,3,2;p3,4,2;p1,6,0;p0,8,0;p2,9,1;b3,20;r7;") ∈ lw_tbl := List.mem_of_getElem? (i := 259) (by decide +kernel)
theorem wLS1 : (Jvm.Cond.laysStatic "java/lang/String" "COMPACT_STRINGS" "Z") ∈ lw_tbl := List.mem_of_getElem? (i := 269) (by decide +kernel)
theorem wLS2 : (Jvm.Cond.laysStatic "jdk/internal/util/Preconditions" "SIOOBE_FORMATTER" "Ljava/util/function/BiFunction;") ∈ lw_tbl := List.mem_of_getElem? (i := 285) (by decide +kernel)
theorem strP.atG {ad av : Nat} {A B : Nat → Prop} {s U : State} {H : Heap} {locs : List Loc} (h : strP ad av A s) (hS : va_S A s.heap H locs) (hAB : ∀ q, B q → A q) (hU : U.heap = H) (hW : s.WarmedH U.vm) : strP ad av B U := by
  obtain ⟨⟨h1, h2, h3, h4⟩, h5, h6⟩ := h
  subst hU
  have hv := hW.alike
  exact ⟨⟨va_O.moved hv ((h1.kept hS.2.1).narrow hAB), va_OF.moved hv ((h2.kept hS.2.1).narrow hAB), va_OF.moved hv ((h3.kept hS.2.1).narrow hAB), va_T.moved hv ((h4.kept hS.2.1).narrow hAB)⟩, va_Z.moved hv ((h5.kept hS.2.1).narrow hAB), va_Zq.moved hv ((h6.kept hS.2.1).narrow hAB)⟩
set_option maxHeartbeats 8000000 in
set_option maxRecDepth 100000 in
theorem str_start {s : State} {b : Nat} (hts : ∀ w ∈ lw_tbl, w.before #[Value.ref b] s = true) (hgv : (Jvm.Cond.and given_1 narrow_1).before #[Value.ref b] s = true) : ∃ ad av : Nat, strP ad av (fun q : Nat => s.heap.size ≤ q) s ∧ vk_R "BackwardsLine" 58 fstT ad s := by
  have hs := flat_of_before _ hgv
  have hA : ∀ a : Nat, a < s.heap.size → ¬ (fun q : Nat => s.heap.size ≤ q) a := fun a h => Nat.not_le.mpr h
  have hel : ∀ j : Nat, j < 72 → (Cond.eq (.elem (.field (.string "BackwardsLine" 58) "java/lang/String" "value" "[B") (.int (Int32.ofNat j))) (.int (fstB.getD j 0))).before #[Value.ref b] s = true := by
    intro j hj
    exact hs _ (List.all_eq_true.mp (show (List.range 72).all (fun j => decide ((Cond.eq (.elem (.field (.string "BackwardsLine" 58) "java/lang/String" "value" "[B") (.int (Int32.ofNat j))) (.int (fstB.getD j 0))) ∈ _)) = true by decide +kernel) j (List.mem_range.mpr hj) |> of_decide_eq_true)
  obtain ⟨adK, adV, hE, hR⟩ := vk_Sof (args := #[Value.ref b]) (s := s) (N := 1) (tm := fun _ => .string "BackwardsLine" 58) (len := [72]) (byt := [fstB]) (A := fun q : Nat => s.heap.size ≤ q)
    (fun i hi => by obtain rfl : i = 0 := by omega
                    decide)
    (fun i hi => hs _ (by decide +kernel)) (fun i hi => hs _ (by decide +kernel)) (fun i hi => hs _ (by decide +kernel))
    (fun i hi => by obtain rfl : i = 0 := by omega
                    exact hs _ (by decide +kernel))
    (fun i hi j hj => by obtain rfl : i = 0 := by omega
                         exact hel j hj)
    (fun i j hi hj hij => absurd (by omega : i = j) hij) hA
  refine ⟨adK 0, adV 0, ⟨hE.1 0 (by decide), va_Zof (hts _ wLS1) (hts _ (gtbl_in q_63)) (va_eqt (hs _ (by decide +kernel))) hA, va_Zqof (hts _ wLS2) (hts _ (gtbl_in q_65)) (hs _ (by decide +kernel)) hA⟩, vk_R.of (hts _ wSR) (hR 0 (by decide))⟩
set_option maxHeartbeats 4000000 in
theorem KK_start {s : State} {b : Nat} (hts : ∀ w ∈ lw_tbl, w.before #[Value.ref b] s = true) : ∃ (G : va_G) (cI cZ cL : ClassId), KK G cI cZ cL s := by
  have hg : ∀ w ∈ gtbl, w.before #[Value.ref b] s = true := fun w h => hts w (gtbl_in h)
  obtain ⟨c0, i0, k0⟩ := u_known (C := RX0) (T := TX0) (N := 5) (n := 5) hg inX0 (hg _ q_132)
  obtain ⟨c1, i1, k1⟩ := u_known (C := RX1) (T := TX1) (N := 9) (n := 9) hg inX1 (hg _ q_140)
  obtain ⟨c2, i2, k2⟩ := u_known (C := RX2) (T := TX2) (N := 3) (n := 3) hg inX2 (hg _ q_180)
  obtain ⟨c3, i3, k3⟩ := u_known (C := RX3) (T := TX3) (N := 7) (n := 7) hg inX3 (hg _ q_97)
  obtain ⟨c4, i4, k4⟩ := u_known (C := RX4) (T := TX4) (N := 4) (n := 4) hg inX4 (hg _ q_216)
  obtain ⟨c5, i5, k5⟩ := u_known (C := RX5) (T := TX5) (N := 3) (n := 3) hg inX5 (hg _ q_237)
  obtain ⟨c6, i6, k6⟩ := u_known (C := RX6) (T := TX6) (N := 3) (n := 3) hg inX6 (hg _ q_79)
  obtain ⟨c7, i7, k7⟩ := u_known (C := RX7) (T := TX7) (N := 8) (n := 8) hg inX7 (hg _ q_71)
  obtain ⟨c8, i8, k8⟩ := u_known (C := RX8) (T := TX8) (N := 26) (n := 26) hg inX8 (hg _ q_804)
  obtain ⟨cI, kI, mI, a1, a2, a3⟩ := Cond.arrayClass_spec (type := .int) (hg _ q_95)
  obtain ⟨cZ, kZ, mZ, z1, z2, z3⟩ := Cond.arrayClass_spec (type := .boolean) (hg _ q_235)
  obtain ⟨mL, cL, kL, j1, -, j2, j3, j4⟩ := Cond.arrayOver_spec (n := "BackwardsLine$Line") (hts _ wAO)
  refine ⟨(fun k => if k = 0 then c0 else if k = 1 then c1 else if k = 2 then c2 else if k = 3 then c3 else if k = 4 then c4 else if k = 5 then c5 else if k = 6 then c6 else if k = 7 then c7 else c8, fun k => if k = 0 then i0 else if k = 1 then i1 else if k = 2 then i2 else if k = 3 then i3 else if k = 4 then i4 else if k = 5 then i5 else if k = 6 then i6 else if k = 7 then i7 else i8), cI, cZ, cL, ⟨?_, ?_⟩, fun w hw => va_Nw.of (isNest_on (nests_isNest w hw)) (hts w (nests_in w hw))⟩
  · intro k q hq
    match k, hq with
    | 0, hq => cases hq; exact k0
    | 1, hq => cases hq; exact k1
    | 2, hq => cases hq; exact k2
    | 3, hq => cases hq; exact k3
    | 4, hq => cases hq; exact k4
    | 5, hq => cases hq; exact k5
    | 6, hq => cases hq; exact k6
    | 7, hq => cases hq; exact k7
    | 8, hq => cases hq; exact k8
    | k + 9, hq => simp [vwCl] at hq
  · intro k q hq
    match k, hq with
    | 0, hq => cases hq; exact ⟨fun n z => ⟨fun k h => (by cases h), kI, a2, mI, a3⟩, a1⟩
    | 1, hq => cases hq; exact ⟨fun n z => ⟨fun k h => (by cases h), kZ, z2, mZ, z3⟩, z1⟩
    | 2, hq => cases hq; exact ⟨fun n z => ⟨fun k h => (by cases h), kL, j2, mL, j3⟩, kL, mL, j2, j3, j1, j4⟩
    | k + 3, hq => simp at hq
