def MX2_gather_j71 (yO0_71 : (Nat → Int32)) (yO2_71 : Int32) : Option (Int32 × (Nat → Int32) × Int32) :=
  if yO2_71 ≤ 0 then some ((0 : Int32), yO0_71, yO2_71) else some ((1 : Int32), yO0_71, yO2_71)
def MX2_gather_j65 (x4_8 : Int32) (rc8 : (Int32 → (Nat → Int32) → Int32 → Option (Int32 × (Nat → Int32) × Int32))) (yO0_65 : (Nat → Int32)) (yO2_65 : Int32) : Option (Int32 × (Nat → Int32) × Int32) :=
  rc8 (x4_8 + (1 : Int32)) yO0_65 yO2_65
def MX2_gather_l8 (N : Nat) (P : PlanV) (L : LineV) (p3 : Int32) : Nat → Int32 → (Nat → Int32) → Int32 → Option (Int32 × (Nat → Int32) × Int32)
  | 0, _, _, _ => none
  | n8 + 1, x4_8, yO0_8, yO2_8 =>
    if P.2.2.2.1 ≤ x4_8 then (MX2_gather_j71 yO0_8 yO2_8) else (if (5 : Int32) ≤ yO2_8 then (MX2_gather_j71 yO0_8 yO2_8) else ((MX3_kinOf N P x4_8).bind (fun u28 => if u28 = p3 then ((MX1_whereIs N L x4_8).bind (fun u38 => if u38 = 0 then MG yO2_8 5 (MX2_gather_j65 x4_8 (MX2_gather_l8 N P L p3 n8) (upd yO0_8 yO2_8.toNatClampNeg x4_8) (yO2_8 + (1 : Int32))) else (MX2_gather_j65 x4_8 (MX2_gather_l8 N P L p3 n8) yO0_8 yO2_8))) else (MX2_gather_j65 x4_8 (MX2_gather_l8 N P L p3 n8) yO0_8 yO2_8))))
def MX2_gather (N : Nat) (O : OrdV) (P : PlanV) (L : LineV) (p3 : Int32) : Option (Int32 × (Nat → Int32) × Int32) :=
  MX2_gather_l8 N P L p3 N (0 : Int32) O.1 (0 : Int32)
set_option maxHeartbeats 4000000 in
set_option maxRecDepth 100000 in
theorem c_X2_gather (l : Launch) (G : va_G) (cI cZ cL : ClassId) (N : Nat) (aO : Nat → Nat) (aP : Nat → Nat) (aL : Nat → Nat) (O : OrdV) (P : PlanV) (L : LineV) (p3 : Int32) (rr : Int32 × (Nat → Int32) × Int32) (hM : MX2_gather N O P L p3 = some rr) : CtI l yX2_gather cX2_gather 5 .boolean 1 21 G cI cZ cL [.ref (aO 0), .ref (aP 0), .ref (aL 0), .int p3] [wOrd cI aO O, wPlan cI aP P, wLine cI aL L] rr.1 [wOrd cI aO (rr.2.1, O.2.1, rr.2.2), wPlan cI aP P, wLine cI aL L] := by
  refine ct_body (fun A => qI G rr.1 [wOrd cI aO (rr.2.1, O.2.1, rr.2.2), wPlan cI aP P, wLine cI aL L] A) (by decide) (Nat.le_of_ble_eq_true rfl) (fun p e s m below meth c A ls X hW hl => ?_)
  have hx := X.1
  have hb := X.2.1
  have hts := X.2.2.2.2.2.1
  have hown := X.2.2.2.2.2.2.1
  have hl : lv_has ls 5 [(0, .ref (aO 0)), (1, .ref (aP 0)), (2, .ref (aL 0)), (3, .int p3)] := hl
  unfold MX2_gather at hM
  refine lv_aload_n hx hb dX2_gather_0 rfl (lv_at hl 0 rfl) ?_
  refine lv_iconst (v := (0 : Int32)) hx hb dX2_gather_1 (by decide) ?_
  refine g_put X hW 0 rfl rfl inX2 tyX2 tyX2_ok nmX2 2 (by decide) q_187 rfl rfl (Nat.le_of_ble_eq_true rfl) [wOrd cI aO (O.1, O.2.1, (0 : Int32)), wPlan cI aP P, wLine cI aL L] rfl dX2_gather_2 (fun H locs hW => ?_)
  refine lv_iconst (v := (0 : Int32)) hx hb dX2_gather_5 (by decide) ?_
  refine lv_istore (lv' := [(4, .int (0 : Int32)), (0, .ref (aO 0)), (1, .ref (aP 0)), (2, .ref (aL 0)), (3, .int p3)]) hx hb dX2_gather_6 hl (by decide) rfl (fun ls hl => ?_)
  have j71 : ∀ (yO0_71 : (Nat → Int32)) (yO2_71 : Int32) (H : Heap) (locs : List Loc) (ls : Array Slot), Wd G A s [wOrd cI aO (yO0_71, O.2.1, yO2_71), wPlan cI aP P, wLine cI aL L] H locs → lv_has ls 5 [(0, .ref (aO 0))] → MX2_gather_j71 yO0_71 yO2_71 = some rr → W p l e (rmO 1 21) s m ([.ref (aO 0), .ref (aP 0), .ref (aL 0), .int p3] : List Value).toArray below meth c H locs 0 0 (MQ below (qI G rr.1 [wOrd cI aO (rr.2.1, O.2.1, rr.2.2), wPlan cI aP P, wLine cI aL L] A) ([.ref (aO 0), .ref (aP 0), .ref (aL 0), .int p3] : List Value).toArray s 0 0 A) (F0 m 71 ls []) := by
    intro yO0_71 yO2_71 H locs ls hW hl hM
    unfold MX2_gather_j71 at hM
    refine lv_aload_n hx hb dX2_gather_71 rfl (lv_at hl 0 rfl) ?_
    refine g_get X hW 0 rfl rfl inX2 2 (by decide) q_187 rfl dX2_gather_72 ?_
    refine lv_if_le (tgt := 82) hx hb dX2_gather_75 (by decide) (fun hc => ?_) (fun hc => ?_)
    · have hM := (if_pos hc).symm.trans hM
      refine lv_iconst (v := (0 : Int32)) hx hb dX2_gather_82 (by decide) ?_
      obtain rfl := Option.some.inj hM
      exact g_reti X hW rfl rfl dX2_gather_83
    · have hM := (if_neg hc).symm.trans hM
      refine lv_iconst (v := (1 : Int32)) hx hb dX2_gather_78 (by decide) ?_
      refine lv_goto (tgt := 83) hx hb dX2_gather_79 (by decide) ?_
      obtain rfl := Option.some.inj hM
      exact g_reti X hW rfl rfl dX2_gather_83
  have lp8 : ∀ (n8 : Nat) (x4_8 : Int32) (yO0_8 : (Nat → Int32)) (yO2_8 : Int32) (H : Heap) (locs : List Loc) (ls : Array Slot), Wd G A s [wOrd cI aO (yO0_8, O.2.1, yO2_8), wPlan cI aP P, wLine cI aL L] H locs → lv_has ls 5 [(0, .ref (aO 0)), (1, .ref (aP 0)), (2, .ref (aL 0)), (3, .int p3), (4, .int x4_8)] → MX2_gather_l8 N P L p3 n8 x4_8 yO0_8 yO2_8 = some rr → W p l e (rmO 1 21) s m ([.ref (aO 0), .ref (aP 0), .ref (aL 0), .int p3] : List Value).toArray below meth c H locs 0 0 (MQ below (qI G rr.1 [wOrd cI aO (rr.2.1, O.2.1, rr.2.2), wPlan cI aP P, wLine cI aL L] A) ([.ref (aO 0), .ref (aP 0), .ref (aL 0), .int p3] : List Value).toArray s 0 0 A) (F0 m 8 ls []) := by
    intro n8
    induction n8 with
    | zero =>
      intro x4_8 yO0_8 yO2_8 H locs ls hW hl hM
      rw [MX2_gather_l8] at hM
      cases hM
    | succ n8 ih8 =>
      intro x4_8 yO0_8 yO2_8 H locs ls hW hl hM
      rw [MX2_gather_l8] at hM
      refine lv_iload hx hb dX2_gather_8 (lv_at hl 4 rfl) ?_
      refine lv_aload_n hx hb dX2_gather_10 rfl (lv_at hl 1 rfl) ?_
      refine g_getN X hW 3 rfl rfl inX3 3 (by decide) nt_5 rfl dX2_gather_11 ?_
      refine lv_icmp_ge (tgt := 71) hx hb dX2_gather_14 (by decide) (fun hc => ?_) (fun hc => ?_)
      · have hM := (if_pos hc).symm.trans hM
        exact j71 yO0_8 yO2_8 _ _ _ hW (lv_sub hl [0] rfl) hM
      · have hM := (if_neg hc).symm.trans hM
        refine lv_aload_n hx hb dX2_gather_17 rfl (lv_at hl 0 rfl) ?_
        refine g_get X hW 0 rfl rfl inX2 2 (by decide) q_187 rfl dX2_gather_18 ?_
        refine lv_iconst (v := (5 : Int32)) hx hb dX2_gather_21 (by decide) ?_
        refine lv_icmp_ge (tgt := 71) hx hb dX2_gather_22 (by decide) (fun hc => ?_) (fun hc => ?_)
        · have hM := (if_pos hc).symm.trans hM
          exact j71 yO0_8 yO2_8 _ _ _ hW (lv_sub hl [0] rfl) hM
        · have hM := (if_neg hc).symm.trans hM
          refine lv_aload_n hx hb dX2_gather_25 rfl (lv_at hl 1 rfl) ?_
          refine lv_iload hx hb dX2_gather_26 (lv_at hl 4 rfl) ?_
          obtain ⟨u28, hu28, hM⟩ := bind_some hM
          refine g_callVi (rest := []) (gr := [wOrd cI aO (yO0_8, O.2.1, yO2_8), wLine cI aL L]) X hl.1 hW (c_X3_kinOf l G cI cZ cL N aP P x4_8 u28 hu28) q_446 q_651 q_444 q_445 q_56 hd_X3_kinOf rfl ⟨Nat.le_of_ble_eq_true rfl, Nat.le_of_ble_eq_true rfl⟩ ⟨Nat.zero_le _, Nat.zero_le _⟩ [1] [0, 2] [wOrd cI aO (yO0_8, O.2.1, yO2_8), wPlan cI aP P, wLine cI aL L] ⟨pm_3_1, rfl, rfl, rfl⟩ ⟨pm_3_1, rfl, rfl, rfl⟩ (q0 := 3) rfl rfl rfl (Nat.le_of_ble_eq_true rfl) dX2_gather_28 (fun H locs hW => ?_)
          refine lv_iload_n hx hb dX2_gather_31 rfl (lv_at hl 3 rfl) ?_
          have j65 : ∀ (yO0_65 : (Nat → Int32)) (yO2_65 : Int32) (H : Heap) (locs : List Loc) (ls : Array Slot), Wd G A s [wOrd cI aO (yO0_65, O.2.1, yO2_65), wPlan cI aP P, wLine cI aL L] H locs → lv_has ls 5 [(0, .ref (aO 0)), (1, .ref (aP 0)), (2, .ref (aL 0)), (3, .int p3), (4, .int x4_8)] → MX2_gather_j65 x4_8 (MX2_gather_l8 N P L p3 n8) yO0_65 yO2_65 = some rr → W p l e (rmO 1 21) s m ([.ref (aO 0), .ref (aP 0), .ref (aL 0), .int p3] : List Value).toArray below meth c H locs 0 0 (MQ below (qI G rr.1 [wOrd cI aO (rr.2.1, O.2.1, rr.2.2), wPlan cI aP P, wLine cI aL L] A) ([.ref (aO 0), .ref (aP 0), .ref (aL 0), .int p3] : List Value).toArray s 0 0 A) (F0 m 65 ls []) := by
            intro yO0_65 yO2_65 H locs ls hW hl hM
            unfold MX2_gather_j65 at hM
            refine lv_iinc (v := x4_8 + (1 : Int32)) (lv' := [(4, .int (x4_8 + (1 : Int32))), (0, .ref (aO 0)), (1, .ref (aP 0)), (2, .ref (aL 0)), (3, .int p3)]) hx hb dX2_gather_65 hl (k := 4) rfl rfl (by decide) rfl (fun ls hl => ?_)
            refine lv_goto (tgt := 8) hx hb dX2_gather_68 (by decide) ?_
            exact ih8 (x4_8 + (1 : Int32)) yO0_65 yO2_65 _ _ _ hW (lv_sub hl [1, 2, 3, 4, 0] rfl) hM
          refine lv_icmp_ne (tgt := 65) hx hb dX2_gather_32 (by decide) (fun hc => ?_) (fun hc => ?_)
          · have hM := (if_neg hc).symm.trans hM
            exact j65 yO0_8 yO2_8 _ _ _ hW (lv_sub hl [0, 1, 2, 3, 4] rfl) hM
          · have hM := (if_pos hc).symm.trans hM
            refine lv_aload_n hx hb dX2_gather_35 rfl (lv_at hl 2 rfl) ?_
            refine lv_iload hx hb dX2_gather_36 (lv_at hl 4 rfl) ?_
            obtain ⟨u38, hu38, hM⟩ := bind_some hM
            refine g_callVi (rest := []) (gr := [wOrd cI aO (yO0_8, O.2.1, yO2_8), wPlan cI aP P]) X hl.1 hW (c_X1_whereIs l G cI cZ cL N aL L x4_8 u38 hu38) q_450 q_652 q_448 q_449 q_58 hd_X1_whereIs rfl ⟨Nat.le_of_ble_eq_true rfl, Nat.le_of_ble_eq_true rfl⟩ ⟨Nat.zero_le _, Nat.zero_le _⟩ [2] [0, 1] [wOrd cI aO (yO0_8, O.2.1, yO2_8), wPlan cI aP P, wLine cI aL L] ⟨pm_3_2, rfl, rfl, rfl⟩ ⟨pm_3_2, rfl, rfl, rfl⟩ (q0 := 7) rfl rfl rfl (Nat.le_of_ble_eq_true rfl) dX2_gather_38 (fun H locs hW => ?_)
            refine lv_if_ne (tgt := 65) hx hb dX2_gather_41 (by decide) (fun hc => ?_) (fun hc => ?_)
            · have hM := (if_neg hc).symm.trans hM
              exact j65 yO0_8 yO2_8 _ _ _ hW (lv_sub hl [0, 1, 2, 3, 4] rfl) hM
            · have hM := (if_pos hc).symm.trans hM
              refine lv_aload_n hx hb dX2_gather_44 rfl (lv_at hl 0 rfl) ?_
              refine g_get X hW 0 rfl rfl inX2 0 (by decide) q_185 rfl dX2_gather_45 ?_
              refine lv_aload_n hx hb dX2_gather_48 rfl (lv_at hl 0 rfl) ?_
              refine g_get X hW 0 rfl rfl inX2 2 (by decide) q_187 rfl dX2_gather_49 ?_
              refine lv_iload hx hb dX2_gather_52 (lv_at hl 4 rfl) ?_
              obtain ⟨hi54, hM⟩ := MG_some hM
              refine g_ast X hW 1 rfl hi54 [wOrd cI aO ((upd yO0_8 yO2_8.toNatClampNeg x4_8), O.2.1, yO2_8), wPlan cI aP P, wLine cI aL L] rfl dX2_gather_54 (fun H locs hW => ?_)
              refine lv_aload_n hx hb dX2_gather_55 rfl (lv_at hl 0 rfl) ?_
              refine lv_dup hx hb dX2_gather_56 rfl ?_
              refine g_get X hW 0 rfl rfl inX2 2 (by decide) q_187 rfl dX2_gather_57 ?_
              refine lv_iconst (v := (1 : Int32)) hx hb dX2_gather_60 (by decide) ?_
              refine lv_iadd hx hb dX2_gather_61 ?_
              refine g_put X hW 0 rfl rfl inX2 tyX2 tyX2_ok nmX2 2 (by decide) q_187 rfl rfl (Nat.le_of_ble_eq_true rfl) [wOrd cI aO ((upd yO0_8 yO2_8.toNatClampNeg x4_8), O.2.1, (yO2_8 + (1 : Int32))), wPlan cI aP P, wLine cI aL L] rfl dX2_gather_62 (fun H locs hW => ?_)
              exact j65 (upd yO0_8 yO2_8.toNatClampNeg x4_8) (yO2_8 + (1 : Int32)) _ _ _ hW (lv_sub hl [0, 1, 2, 3, 4] rfl) hM
  exact lp8 N (0 : Int32) O.1 (0 : Int32) _ _ _ hW (lv_sub hl [1, 2, 3, 4, 0] rfl) hM

def MX2_bestAt_j26 : Option (Int32) :=
  some ((-4 : Int32))
def MX2_bestAt (N : Nat) (O : OrdV) (p1 : Int32) : Option (Int32) :=
  if p1 < 0 then (MX2_bestAt_j26) else (if O.2.2 ≤ p1 then (MX2_bestAt_j26) else (if (5 : Int32) ≤ p1 then (MX2_bestAt_j26) else MG p1 5 (some (O.2.1 p1.toNatClampNeg))))
set_option maxHeartbeats 4000000 in
set_option maxRecDepth 100000 in
theorem c_X2_bestAt (l : Launch) (G : va_G) (cI cZ cL : ClassId) (N : Nat) (aO : Nat → Nat) (O : OrdV) (p1 : Int32) (rr : Int32) (hM : MX2_bestAt N O p1 = some rr) : CtI l yX2_bestAt cX2_bestAt 2 .int 0 0 G cI cZ cL [.ref (aO 0), .int p1] [wOrd cI aO O] rr [wOrd cI aO O] := by
  refine ct_body (fun A => qI G rr [wOrd cI aO O] A) (by decide) (Nat.le_of_ble_eq_true rfl) (fun p e s m below meth c A ls X hW hl => ?_)
  have hx := X.1
  have hb := X.2.1
  have hts := X.2.2.2.2.2.1
  have hown := X.2.2.2.2.2.2.1
  have hl : lv_has ls 2 [(0, .ref (aO 0)), (1, .int p1)] := hl
  unfold MX2_bestAt at hM
  refine lv_iload_n hx hb dX2_bestAt_0 rfl (lv_at hl 1 rfl) ?_
  have j26 : ∀ (H : Heap) (locs : List Loc) (ls : Array Slot), Wd G A s [wOrd cI aO O] H locs → lv_has ls 2 [] → MX2_bestAt_j26 = some rr → W p l e (rmO 0 0) s m ([.ref (aO 0), .int p1] : List Value).toArray below meth c H locs 0 0 (MQ below (qI G rr [wOrd cI aO O] A) ([.ref (aO 0), .int p1] : List Value).toArray s 0 0 A) (F0 m 26 ls []) := by
    intro H locs ls hW hl hM
    unfold MX2_bestAt_j26 at hM
    refine lv_bipush (v := (-4 : Int32)) hx hb dX2_bestAt_26 (by decide) ?_
    obtain rfl := Option.some.inj hM
    exact g_reti X hW rfl rfl dX2_bestAt_28
  refine lv_if_lt (tgt := 26) hx hb dX2_bestAt_1 (by decide) (fun hc => ?_) (fun hc => ?_)
  · have hM := (if_pos hc).symm.trans hM
    exact j26 _ _ _ hW (lv_sub hl [] rfl) hM
  · have hM := (if_neg hc).symm.trans hM
    refine lv_iload_n hx hb dX2_bestAt_4 rfl (lv_at hl 1 rfl) ?_
    refine lv_aload_n hx hb dX2_bestAt_5 rfl (lv_at hl 0 rfl) ?_
    refine g_get X hW 0 rfl rfl inX2 2 (by decide) q_187 rfl dX2_bestAt_6 ?_
    refine lv_icmp_ge (tgt := 26) hx hb dX2_bestAt_9 (by decide) (fun hc => ?_) (fun hc => ?_)
    · have hM := (if_pos hc).symm.trans hM
      exact j26 _ _ _ hW (lv_sub hl [] rfl) hM
    · have hM := (if_neg hc).symm.trans hM
      refine lv_iload_n hx hb dX2_bestAt_12 rfl (lv_at hl 1 rfl) ?_
      refine lv_iconst (v := (5 : Int32)) hx hb dX2_bestAt_13 (by decide) ?_
      refine lv_icmp_ge (tgt := 26) hx hb dX2_bestAt_14 (by decide) (fun hc => ?_) (fun hc => ?_)
      · have hM := (if_pos hc).symm.trans hM
        exact j26 _ _ _ hW (lv_sub hl [] rfl) hM
      · have hM := (if_neg hc).symm.trans hM
        refine lv_aload_n hx hb dX2_bestAt_17 rfl (lv_at hl 0 rfl) ?_
        refine g_get X hW 0 rfl rfl inX2 1 (by decide) q_186 rfl dX2_bestAt_18 ?_
        refine lv_iload_n hx hb dX2_bestAt_21 rfl (lv_at hl 1 rfl) ?_
        obtain ⟨hi22, hM⟩ := MG_some hM
        refine g_ald X hW 2 rfl hi22 dX2_bestAt_22 ?_
        refine lv_goto (tgt := 28) hx hb dX2_bestAt_23 (by decide) ?_
        obtain rfl := Option.some.inj hM
        exact g_reti X hW rfl rfl dX2_bestAt_28

def MX2_markBest (N : Nat) (O : OrdV) : Option ((Nat → Int32)) :=
  some ((va_cpy O.1 O.2.1 0 0 5))
set_option maxHeartbeats 4000000 in
set_option maxRecDepth 100000 in
theorem c_X2_markBest (l : Launch) (G : va_G) (cI cZ cL : ClassId) (N : Nat) (aO : Nat → Nat) (O : OrdV) (rr : (Nat → Int32)) (hM : MX2_markBest N O = some rr) : CtV l yX2_markBest cX2_markBest 1 1 18 G cI cZ cL [.ref (aO 0)] [wOrd cI aO O] [wOrd cI aO (O.1, rr, O.2.2)] := by
  refine ct_body (fun A => qV G [wOrd cI aO (O.1, rr, O.2.2)] A) (by decide) (Nat.le_of_ble_eq_true rfl) (fun p e s m below meth c A ls X hW hl => ?_)
  have hx := X.1
  have hb := X.2.1
  have hts := X.2.2.2.2.2.1
  have hown := X.2.2.2.2.2.2.1
  have hl : lv_has ls 1 [(0, .ref (aO 0))] := hl
  unfold MX2_markBest at hM
  refine lv_aload_n hx hb dX2_markBest_0 rfl (lv_at hl 0 rfl) ?_
  refine g_get X hW 0 rfl rfl inX2 0 (by decide) q_185 rfl dX2_markBest_1 ?_
  refine lv_iconst (v := (0 : Int32)) hx hb dX2_markBest_4 (by decide) ?_
  refine lv_aload_n hx hb dX2_markBest_5 rfl (lv_at hl 0 rfl) ?_
  refine g_get X hW 0 rfl rfl inX2 1 (by decide) q_186 rfl dX2_markBest_6 ?_
  refine lv_iconst (v := (0 : Int32)) hx hb dX2_markBest_9 (by decide) ?_
  refine lv_iconst (v := (5 : Int32)) hx hb dX2_markBest_10 (by decide) ?_
  refine g_copy X hl.1 hW q_684 q_414 q_413 q_68 1 2 rfl rfl (by decide) (N := 5) (by decide) (by decide) (by decide) [wOrd cI aO (O.1, (va_cpy O.1 O.2.1 0 0 5), O.2.2)] rfl (Nat.le_of_ble_eq_true rfl) (Nat.le_of_ble_eq_true rfl) dX2_markBest_11 (fun H locs hW => ?_)
  obtain rfl := Option.some.inj hM
  exact g_retv X hW dX2_markBest_14

def MX2_swap (N : Nat) (O : OrdV) (p1 : Int32) (p2 : Int32) : Option ((Nat → Int32)) :=
  if p1 < 0 then some (O.1) else (if (5 : Int32) ≤ p1 then some (O.1) else (if p2 < 0 then some (O.1) else (if p2 < (5 : Int32) then MG p1 5 (MLet (O.1 p1.toNatClampNeg) (fun z25 => MG p2 5 (MG p1 5 (MG p2 5 (some ((upd (upd O.1 p1.toNatClampNeg (O.1 p2.toNatClampNeg)) p2.toNatClampNeg z25))))))) else some (O.1))))
set_option maxHeartbeats 4000000 in
set_option maxRecDepth 100000 in
theorem c_X2_swap (l : Launch) (G : va_G) (cI cZ cL : ClassId) (N : Nat) (aO : Nat → Nat) (O : OrdV) (p1 : Int32) (p2 : Int32) (rr : (Nat → Int32)) (hM : MX2_swap N O p1 p2 = some rr) : CtV l yX2_swap cX2_swap 4 0 0 G cI cZ cL [.ref (aO 0), .int p1, .int p2] [wOrd cI aO O] [wOrd cI aO (rr, O.2)] := by
  refine ct_body (fun A => qV G [wOrd cI aO (rr, O.2)] A) (by decide) (Nat.le_of_ble_eq_true rfl) (fun p e s m below meth c A ls X hW hl => ?_)
  have hx := X.1
  have hb := X.2.1
  have hts := X.2.2.2.2.2.1
  have hown := X.2.2.2.2.2.2.1
  have hl : lv_has ls 4 [(0, .ref (aO 0)), (1, .int p1), (2, .int p2)] := hl
  unfold MX2_swap at hM
  refine lv_iload_n hx hb dX2_swap_0 rfl (lv_at hl 1 rfl) ?_
  refine lv_if_lt (tgt := 18) hx hb dX2_swap_1 (by decide) (fun hc => ?_) (fun hc => ?_)
  · have hM := (if_pos hc).symm.trans hM
    obtain rfl := Option.some.inj hM
    exact g_retv X hW dX2_swap_18
  · have hM := (if_neg hc).symm.trans hM
    refine lv_iload_n hx hb dX2_swap_4 rfl (lv_at hl 1 rfl) ?_
    refine lv_iconst (v := (5 : Int32)) hx hb dX2_swap_5 (by decide) ?_
    refine lv_icmp_ge (tgt := 18) hx hb dX2_swap_6 (by decide) (fun hc => ?_) (fun hc => ?_)
    · have hM := (if_pos hc).symm.trans hM
      obtain rfl := Option.some.inj hM
      exact g_retv X hW dX2_swap_18
    · have hM := (if_neg hc).symm.trans hM
      refine lv_iload_n hx hb dX2_swap_9 rfl (lv_at hl 2 rfl) ?_
      refine lv_if_lt (tgt := 18) hx hb dX2_swap_10 (by decide) (fun hc => ?_) (fun hc => ?_)
      · have hM := (if_pos hc).symm.trans hM
        obtain rfl := Option.some.inj hM
        exact g_retv X hW dX2_swap_18
      · have hM := (if_neg hc).symm.trans hM
        refine lv_iload_n hx hb dX2_swap_13 rfl (lv_at hl 2 rfl) ?_
        refine lv_iconst (v := (5 : Int32)) hx hb dX2_swap_14 (by decide) ?_
        refine lv_icmp_lt (tgt := 19) hx hb dX2_swap_15 (by decide) (fun hc => ?_) (fun hc => ?_)
        · have hM := (if_pos hc).symm.trans hM
          refine lv_aload_n hx hb dX2_swap_19 rfl (lv_at hl 0 rfl) ?_
          refine g_get X hW 0 rfl rfl inX2 0 (by decide) q_185 rfl dX2_swap_20 ?_
          refine lv_iload_n hx hb dX2_swap_23 rfl (lv_at hl 1 rfl) ?_
          obtain ⟨hi24, hM⟩ := MG_some hM
          refine g_ald X hW 1 rfl hi24 dX2_swap_24 ?_
          refine lv_topi (fun z25 ez25 => ?_)
          have hM := MLet_some hM z25 ez25
          refine lv_istore_n (lv' := [(3, .int z25), (0, .ref (aO 0)), (1, .int p1), (2, .int p2)]) hx hb dX2_swap_25 rfl hl (by decide) rfl (fun ls hl => ?_)
          refine lv_aload_n hx hb dX2_swap_26 rfl (lv_at hl 1 rfl) ?_
          refine g_get X hW 0 rfl rfl inX2 0 (by decide) q_185 rfl dX2_swap_27 ?_
          refine lv_iload_n hx hb dX2_swap_30 rfl (lv_at hl 2 rfl) ?_
          refine lv_aload_n hx hb dX2_swap_31 rfl (lv_at hl 1 rfl) ?_
          refine g_get X hW 0 rfl rfl inX2 0 (by decide) q_185 rfl dX2_swap_32 ?_
          refine lv_iload_n hx hb dX2_swap_35 rfl (lv_at hl 3 rfl) ?_
          obtain ⟨hi36, hM⟩ := MG_some hM
          refine g_ald X hW 1 rfl hi36 dX2_swap_36 ?_
          obtain ⟨hi37, hM⟩ := MG_some hM
          refine g_ast X hW 1 rfl hi37 [wOrd cI aO ((upd O.1 p1.toNatClampNeg (O.1 p2.toNatClampNeg)), O.2)] rfl dX2_swap_37 (fun H locs hW => ?_)
          refine lv_aload_n hx hb dX2_swap_38 rfl (lv_at hl 1 rfl) ?_
          refine g_get X hW 0 rfl rfl inX2 0 (by decide) q_185 rfl dX2_swap_39 ?_
          refine lv_iload_n hx hb dX2_swap_42 rfl (lv_at hl 3 rfl) ?_
          refine lv_iload_n hx hb dX2_swap_43 rfl (lv_at hl 0 rfl) ?_
          obtain ⟨hi44, hM⟩ := MG_some hM
          refine g_ast X hW 1 rfl hi44 [wOrd cI aO ((upd (upd O.1 p1.toNatClampNeg (O.1 p2.toNatClampNeg)) p2.toNatClampNeg z25), O.2)] rfl dX2_swap_44 (fun H locs hW => ?_)
          obtain rfl := Option.some.inj hM
          exact g_retv X hW dX2_swap_45
        · have hM := (if_neg hc).symm.trans hM
          obtain rfl := Option.some.inj hM
          exact g_retv X hW dX2_swap_18

def MX2_advance_j125 (yO0_125 : (Nat → Int32)) : Option (Int32 × (Nat → Int32)) :=
  some ((1 : Int32), yO0_125)
def MX2_advance_l103 (N : Nat) (O : OrdV) : Nat → Int32 → Int32 → (Nat → Int32) → Option (Int32 × (Nat → Int32))
  | 0, _, _, _ => none
  | n103 + 1, x3_103, x4_103, yO0_103 =>
    if x4_103 ≤ x3_103 then (MX2_advance_j125 yO0_103) else ((MX2_swap N (yO0_103, O.2) x3_103 x4_103).bind (fun u113 => (MX2_advance_l103 N O n103) (x3_103 + (1 : Int32)) (x4_103 + (-1 : Int32)) u113))
def MX2_advance_j85 (N : Nat) (O : OrdV) (x1_44 : Int32) (x2_85 : Int32) : Option (Int32 × (Nat → Int32)) :=
  (MX2_swap N O x1_44 x2_85).bind (fun u88 => MLet (x1_44 + (1 : Int32)) (fun z94 => MLet (O.2.2 - (1 : Int32)) (fun z101 => MX2_advance_l103 N O N z94 z101 u88)))
def MX2_advance_l57 (N : Nat) (O : OrdV) (x1_44 : Int32) : Nat → Int32 → Option (Int32 × (Nat → Int32))
  | 0, _ => none
  | n57 + 1, x2_57 =>
    if x2_57 ≤ (x1_44 + (1 : Int32)) then (MX2_advance_j85 N O x1_44 x2_57) else MG x2_57 5 (MG x1_44 5 (if (O.1 x1_44.toNatClampNeg) ≤ (O.1 x2_57.toNatClampNeg) then (MX2_advance_j85 N O x1_44 x2_57) else ((MX2_advance_l57 N O x1_44 n57) (x2_57 + (-1 : Int32)))))
def MX2_advance_j44 (N : Nat) (O : OrdV) (x1_44 : Int32) : Option (Int32 × (Nat → Int32)) :=
  if 0 ≤ x1_44 then (MLet (O.2.2 - (1 : Int32)) (fun z56 => MX2_advance_l57 N O x1_44 N z56)) else some ((0 : Int32), O.1)
def MX2_advance_l17 (N : Nat) (O : OrdV) : Nat → Int32 → Option (Int32 × (Nat → Int32))
  | 0, _ => none
  | n17 + 1, x1_17 =>
    if x1_17 < 0 then (MX2_advance_j44 N O x1_17) else MG x1_17 5 (MG (x1_17 + (1 : Int32)) 5 (if (O.1 x1_17.toNatClampNeg) ≤ (O.1 (x1_17 + (1 : Int32)).toNatClampNeg) then (MX2_advance_j44 N O x1_17) else ((MX2_advance_l17 N O n17) (x1_17 + (-1 : Int32)))))
def MX2_advance (N : Nat) (O : OrdV) : Option (Int32 × (Nat → Int32)) :=
  if O.2.2 ≤ (5 : Int32) then (MLet (O.2.2 - (2 : Int32)) (fun z16 => MX2_advance_l17 N O N z16)) else some ((0 : Int32), O.1)
set_option maxHeartbeats 4000000 in
set_option maxRecDepth 100000 in
theorem c_X2_advance (l : Launch) (G : va_G) (cI cZ cL : ClassId) (N : Nat) (aO : Nat → Nat) (O : OrdV) (rr : Int32 × (Nat → Int32)) (hM : MX2_advance N O = some rr) : CtI l yX2_advance cX2_advance 5 .boolean 1 23 G cI cZ cL [.ref (aO 0)] [wOrd cI aO O] rr.1 [wOrd cI aO (rr.2, O.2)] := by
  refine ct_body (fun A => qI G rr.1 [wOrd cI aO (rr.2, O.2)] A) (by decide) (Nat.le_of_ble_eq_true rfl) (fun p e s m below meth c A ls X hW hl => ?_)
  have hx := X.1
  have hb := X.2.1
  have hts := X.2.2.2.2.2.1
  have hown := X.2.2.2.2.2.2.1
  have hl : lv_has ls 5 [(0, .ref (aO 0))] := hl
  unfold MX2_advance at hM
  refine lv_aload_n hx hb dX2_advance_0 rfl (lv_at hl 0 rfl) ?_
  refine g_get X hW 0 rfl rfl inX2 2 (by decide) q_187 rfl dX2_advance_1 ?_
  refine lv_iconst (v := (5 : Int32)) hx hb dX2_advance_4 (by decide) ?_
  refine lv_icmp_le (tgt := 10) hx hb dX2_advance_5 (by decide) (fun hc => ?_) (fun hc => ?_)
  · have hM := (if_pos hc).symm.trans hM
    refine lv_aload_n hx hb dX2_advance_10 rfl (lv_at hl 0 rfl) ?_
    refine g_get X hW 0 rfl rfl inX2 2 (by decide) q_187 rfl dX2_advance_11 ?_
    refine lv_iconst (v := (2 : Int32)) hx hb dX2_advance_14 (by decide) ?_
    refine lv_isub hx hb dX2_advance_15 ?_
    refine lv_topi (fun z16 ez16 => ?_)
    have hM := MLet_some hM z16 ez16
    refine lv_istore_n (lv' := [(1, .int z16), (0, .ref (aO 0))]) hx hb dX2_advance_16 rfl hl (by decide) rfl (fun ls hl => ?_)
    have j44 : ∀ (x1_44 : Int32) (H : Heap) (locs : List Loc) (ls : Array Slot), Wd G A s [wOrd cI aO O] H locs → lv_has ls 5 [(0, .ref (aO 0)), (1, .int x1_44)] → MX2_advance_j44 N O x1_44 = some rr → W p l e (rmO 1 23) s m ([.ref (aO 0)] : List Value).toArray below meth c H locs 0 0 (MQ below (qI G rr.1 [wOrd cI aO (rr.2, O.2)] A) ([.ref (aO 0)] : List Value).toArray s 0 0 A) (F0 m 44 ls []) := by
      intro x1_44 H locs ls hW hl hM
      unfold MX2_advance_j44 at hM
      refine lv_iload_n hx hb dX2_advance_44 rfl (lv_at hl 1 rfl) ?_
      refine lv_if_ge (tgt := 50) hx hb dX2_advance_45 (by decide) (fun hc => ?_) (fun hc => ?_)
      · have hM := (if_pos hc).symm.trans hM
        refine lv_aload_n hx hb dX2_advance_50 rfl (lv_at hl 0 rfl) ?_
        refine g_get X hW 0 rfl rfl inX2 2 (by decide) q_187 rfl dX2_advance_51 ?_
        refine lv_iconst (v := (1 : Int32)) hx hb dX2_advance_54 (by decide) ?_
        refine lv_isub hx hb dX2_advance_55 ?_
        refine lv_topi (fun z56 ez56 => ?_)
        have hM := MLet_some hM z56 ez56
        refine lv_istore_n (lv' := [(2, .int z56), (0, .ref (aO 0)), (1, .int x1_44)]) hx hb dX2_advance_56 rfl hl (by decide) rfl (fun ls hl => ?_)
        have j85 : ∀ (x2_85 : Int32) (H : Heap) (locs : List Loc) (ls : Array Slot), Wd G A s [wOrd cI aO O] H locs → lv_has ls 5 [(0, .ref (aO 0)), (1, .int x1_44), (2, .int x2_85)] → MX2_advance_j85 N O x1_44 x2_85 = some rr → W p l e (rmO 1 23) s m ([.ref (aO 0)] : List Value).toArray below meth c H locs 0 0 (MQ below (qI G rr.1 [wOrd cI aO (rr.2, O.2)] A) ([.ref (aO 0)] : List Value).toArray s 0 0 A) (F0 m 85 ls []) := by
          intro x2_85 H locs ls hW hl hM
          unfold MX2_advance_j85 at hM
          refine lv_aload_n hx hb dX2_advance_85 rfl (lv_at hl 0 rfl) ?_
          refine lv_iload_n hx hb dX2_advance_86 rfl (lv_at hl 1 rfl) ?_
          refine lv_iload_n hx hb dX2_advance_87 rfl (lv_at hl 2 rfl) ?_
          obtain ⟨u88, hu88, hM⟩ := bind_some hM
          refine g_callVv (rest := []) (gr := []) X hl.1 hW (c_X2_swap l G cI cZ cL N aO O x1_44 x2_85 u88 hu88) q_692 q_689 q_691 q_15 q_59 hd_X2_swap rfl ⟨Nat.le_of_ble_eq_true rfl, Nat.le_of_ble_eq_true rfl⟩ ⟨Nat.zero_le _, Nat.zero_le _⟩ [0] [] [wOrd cI aO (u88, O.2)] ⟨pm_1_0, rfl, rfl, rfl⟩ ⟨pm_1_0, rfl, rfl, rfl⟩ (q0 := 0) rfl rfl rfl (Nat.le_of_ble_eq_true rfl) dX2_advance_88 (fun H locs hW => ?_)
          refine lv_iload_n hx hb dX2_advance_91 rfl (lv_at hl 1 rfl) ?_
          refine lv_iconst (v := (1 : Int32)) hx hb dX2_advance_92 (by decide) ?_
          refine lv_iadd hx hb dX2_advance_93 ?_
          refine lv_topi (fun z94 ez94 => ?_)
          have hM := MLet_some hM z94 ez94
          refine lv_istore_n (lv' := [(3, .int z94), (0, .ref (aO 0)), (1, .int x1_44), (2, .int x2_85)]) hx hb dX2_advance_94 rfl hl (by decide) rfl (fun ls hl => ?_)
          refine lv_aload_n hx hb dX2_advance_95 rfl (lv_at hl 1 rfl) ?_
          refine g_get X hW 0 rfl rfl inX2 2 (by decide) q_187 rfl dX2_advance_96 ?_
          refine lv_iconst (v := (1 : Int32)) hx hb dX2_advance_99 (by decide) ?_
          refine lv_isub hx hb dX2_advance_100 ?_
          refine lv_topi (fun z101 ez101 => ?_)
          have hM := MLet_some hM z101 ez101
          refine lv_istore (lv' := [(4, .int z101), (3, .int z94), (0, .ref (aO 0)), (1, .int x1_44), (2, .int x2_85)]) hx hb dX2_advance_101 hl (by decide) rfl (fun ls hl => ?_)
          have j125 : ∀ (yO0_125 : (Nat → Int32)) (H : Heap) (locs : List Loc) (ls : Array Slot), Wd G A s [wOrd cI aO (yO0_125, O.2)] H locs → lv_has ls 5 [] → MX2_advance_j125 yO0_125 = some rr → W p l e (rmO 1 23) s m ([.ref (aO 0)] : List Value).toArray below meth c H locs 0 0 (MQ below (qI G rr.1 [wOrd cI aO (rr.2, O.2)] A) ([.ref (aO 0)] : List Value).toArray s 0 0 A) (F0 m 125 ls []) := by
            intro yO0_125 H locs ls hW hl hM
            unfold MX2_advance_j125 at hM
            refine lv_iconst (v := (1 : Int32)) hx hb dX2_advance_125 (by decide) ?_
            obtain rfl := Option.some.inj hM
            exact g_reti X hW rfl rfl dX2_advance_126
          have lp103 : ∀ (n103 : Nat) (x3_103 : Int32) (x4_103 : Int32) (yO0_103 : (Nat → Int32)) (H : Heap) (locs : List Loc) (ls : Array Slot), Wd G A s [wOrd cI aO (yO0_103, O.2)] H locs → lv_has ls 5 [(0, .ref (aO 0)), (3, .int x3_103), (4, .int x4_103)] → MX2_advance_l103 N O n103 x3_103 x4_103 yO0_103 = some rr → W p l e (rmO 1 23) s m ([.ref (aO 0)] : List Value).toArray below meth c H locs 0 0 (MQ below (qI G rr.1 [wOrd cI aO (rr.2, O.2)] A) ([.ref (aO 0)] : List Value).toArray s 0 0 A) (F0 m 103 ls []) := by
            intro n103
            induction n103 with
            | zero =>
              intro x3_103 x4_103 yO0_103 H locs ls hW hl hM
              rw [MX2_advance_l103] at hM
              cases hM
            | succ n103 ih103 =>
              intro x3_103 x4_103 yO0_103 H locs ls hW hl hM
              rw [MX2_advance_l103] at hM
              refine lv_iload_n hx hb dX2_advance_103 rfl (lv_at hl 1 rfl) ?_
              refine lv_iload hx hb dX2_advance_104 (lv_at hl 2 rfl) ?_
              refine lv_icmp_ge (tgt := 125) hx hb dX2_advance_106 (by decide) (fun hc => ?_) (fun hc => ?_)
              · have hM := (if_pos hc).symm.trans hM
                exact j125 yO0_103 _ _ _ hW (lv_sub hl [] rfl) hM
              · have hM := (if_neg hc).symm.trans hM
                refine lv_aload_n hx hb dX2_advance_109 rfl (lv_at hl 0 rfl) ?_
                refine lv_iload_n hx hb dX2_advance_110 rfl (lv_at hl 1 rfl) ?_
                refine lv_iload hx hb dX2_advance_111 (lv_at hl 2 rfl) ?_
                obtain ⟨u113, hu113, hM⟩ := bind_some hM
                refine g_callVv (rest := []) (gr := []) X hl.1 hW (c_X2_swap l G cI cZ cL N aO (yO0_103, O.2) x3_103 x4_103 u113 hu113) q_692 q_689 q_691 q_15 q_59 hd_X2_swap rfl ⟨Nat.le_of_ble_eq_true rfl, Nat.le_of_ble_eq_true rfl⟩ ⟨Nat.zero_le _, Nat.zero_le _⟩ [0] [] [wOrd cI aO (u113, O.2)] ⟨pm_1_0, rfl, rfl, rfl⟩ ⟨pm_1_0, rfl, rfl, rfl⟩ (q0 := 0) rfl rfl rfl (Nat.le_of_ble_eq_true rfl) dX2_advance_113 (fun H locs hW => ?_)
                refine lv_iinc (v := x3_103 + (1 : Int32)) (lv' := [(3, .int (x3_103 + (1 : Int32))), (0, .ref (aO 0)), (4, .int x4_103)]) hx hb dX2_advance_116 hl (k := 1) rfl rfl (by decide) rfl (fun ls hl => ?_)
                refine lv_iinc (v := x4_103 + (-1 : Int32)) (lv' := [(4, .int (x4_103 + (-1 : Int32))), (3, .int (x3_103 + (1 : Int32))), (0, .ref (aO 0))]) hx hb dX2_advance_119 hl (k := 2) rfl rfl (by decide) rfl (fun ls hl => ?_)
                refine lv_goto (tgt := 103) hx hb dX2_advance_122 (by decide) ?_
                exact ih103 (x3_103 + (1 : Int32)) (x4_103 + (-1 : Int32)) u113 _ _ _ hW (lv_sub hl [2, 1, 0] rfl) hM
          exact lp103 N z94 z101 u88 _ _ _ hW (lv_sub hl [2, 1, 0] rfl) hM
        have lp57 : ∀ (n57 : Nat) (x2_57 : Int32) (H : Heap) (locs : List Loc) (ls : Array Slot), Wd G A s [wOrd cI aO O] H locs → lv_has ls 5 [(0, .ref (aO 0)), (1, .int x1_44), (2, .int x2_57)] → MX2_advance_l57 N O x1_44 n57 x2_57 = some rr → W p l e (rmO 1 23) s m ([.ref (aO 0)] : List Value).toArray below meth c H locs 0 0 (MQ below (qI G rr.1 [wOrd cI aO (rr.2, O.2)] A) ([.ref (aO 0)] : List Value).toArray s 0 0 A) (F0 m 57 ls []) := by
          intro n57
          induction n57 with
          | zero =>
            intro x2_57 H locs ls hW hl hM
            rw [MX2_advance_l57] at hM
            cases hM
          | succ n57 ih57 =>
            intro x2_57 H locs ls hW hl hM
            rw [MX2_advance_l57] at hM
            refine lv_iload_n hx hb dX2_advance_57 rfl (lv_at hl 2 rfl) ?_
            refine lv_iload_n hx hb dX2_advance_58 rfl (lv_at hl 1 rfl) ?_
            refine lv_iconst (v := (1 : Int32)) hx hb dX2_advance_59 (by decide) ?_
            refine lv_iadd hx hb dX2_advance_60 ?_
            refine lv_icmp_le (tgt := 85) hx hb dX2_advance_61 (by decide) (fun hc => ?_) (fun hc => ?_)
            · have hM := (if_pos hc).symm.trans hM
              exact j85 x2_57 _ _ _ hW (lv_sub hl [0, 1, 2] rfl) hM
            · have hM := (if_neg hc).symm.trans hM
              refine lv_aload_n hx hb dX2_advance_64 rfl (lv_at hl 0 rfl) ?_
              refine g_get X hW 0 rfl rfl inX2 0 (by decide) q_185 rfl dX2_advance_65 ?_
              refine lv_iload_n hx hb dX2_advance_68 rfl (lv_at hl 2 rfl) ?_
              obtain ⟨hi69, hM⟩ := MG_some hM
              refine g_ald X hW 1 rfl hi69 dX2_advance_69 ?_
              refine lv_aload_n hx hb dX2_advance_70 rfl (lv_at hl 0 rfl) ?_
              refine g_get X hW 0 rfl rfl inX2 0 (by decide) q_185 rfl dX2_advance_71 ?_
              refine lv_iload_n hx hb dX2_advance_74 rfl (lv_at hl 1 rfl) ?_
              obtain ⟨hi75, hM⟩ := MG_some hM
              refine g_ald X hW 1 rfl hi75 dX2_advance_75 ?_
              refine lv_icmp_ge (tgt := 85) hx hb dX2_advance_76 (by decide) (fun hc => ?_) (fun hc => ?_)
              · have hM := (if_pos hc).symm.trans hM
                exact j85 x2_57 _ _ _ hW (lv_sub hl [0, 1, 2] rfl) hM
              · have hM := (if_neg hc).symm.trans hM
                refine lv_iinc (v := x2_57 + (-1 : Int32)) (lv' := [(2, .int (x2_57 + (-1 : Int32))), (0, .ref (aO 0)), (1, .int x1_44)]) hx hb dX2_advance_79 hl (k := 2) rfl rfl (by decide) rfl (fun ls hl => ?_)
                refine lv_goto (tgt := 57) hx hb dX2_advance_82 (by decide) ?_
                exact ih57 (x2_57 + (-1 : Int32)) _ _ _ hW (lv_sub hl [1, 2, 0] rfl) hM
        exact lp57 N z56 _ _ _ hW (lv_sub hl [1, 2, 0] rfl) hM
      · have hM := (if_neg hc).symm.trans hM
        refine lv_iconst (v := (0 : Int32)) hx hb dX2_advance_48 (by decide) ?_
        obtain rfl := Option.some.inj hM
        exact g_reti X hW rfl rfl dX2_advance_49
    have lp17 : ∀ (n17 : Nat) (x1_17 : Int32) (H : Heap) (locs : List Loc) (ls : Array Slot), Wd G A s [wOrd cI aO O] H locs → lv_has ls 5 [(0, .ref (aO 0)), (1, .int x1_17)] → MX2_advance_l17 N O n17 x1_17 = some rr → W p l e (rmO 1 23) s m ([.ref (aO 0)] : List Value).toArray below meth c H locs 0 0 (MQ below (qI G rr.1 [wOrd cI aO (rr.2, O.2)] A) ([.ref (aO 0)] : List Value).toArray s 0 0 A) (F0 m 17 ls []) := by
      intro n17
      induction n17 with
      | zero =>
        intro x1_17 H locs ls hW hl hM
        rw [MX2_advance_l17] at hM
        cases hM
      | succ n17 ih17 =>
        intro x1_17 H locs ls hW hl hM
        rw [MX2_advance_l17] at hM
        refine lv_iload_n hx hb dX2_advance_17 rfl (lv_at hl 1 rfl) ?_
        refine lv_if_lt (tgt := 44) hx hb dX2_advance_18 (by decide) (fun hc => ?_) (fun hc => ?_)
        · have hM := (if_pos hc).symm.trans hM
          exact j44 x1_17 _ _ _ hW (lv_sub hl [0, 1] rfl) hM
        · have hM := (if_neg hc).symm.trans hM
          refine lv_aload_n hx hb dX2_advance_21 rfl (lv_at hl 0 rfl) ?_
          refine g_get X hW 0 rfl rfl inX2 0 (by decide) q_185 rfl dX2_advance_22 ?_
          refine lv_iload_n hx hb dX2_advance_25 rfl (lv_at hl 1 rfl) ?_
          obtain ⟨hi26, hM⟩ := MG_some hM
          refine g_ald X hW 1 rfl hi26 dX2_advance_26 ?_
          refine lv_aload_n hx hb dX2_advance_27 rfl (lv_at hl 0 rfl) ?_
          refine g_get X hW 0 rfl rfl inX2 0 (by decide) q_185 rfl dX2_advance_28 ?_
          refine lv_iload_n hx hb dX2_advance_31 rfl (lv_at hl 1 rfl) ?_
          refine lv_iconst (v := (1 : Int32)) hx hb dX2_advance_32 (by decide) ?_
          refine lv_iadd hx hb dX2_advance_33 ?_
          obtain ⟨hi34, hM⟩ := MG_some hM
          refine g_ald X hW 1 rfl hi34 dX2_advance_34 ?_
          refine lv_icmp_le (tgt := 44) hx hb dX2_advance_35 (by decide) (fun hc => ?_) (fun hc => ?_)
          · have hM := (if_pos hc).symm.trans hM
            exact j44 x1_17 _ _ _ hW (lv_sub hl [0, 1] rfl) hM
          · have hM := (if_neg hc).symm.trans hM
            refine lv_iinc (v := x1_17 + (-1 : Int32)) (lv' := [(1, .int (x1_17 + (-1 : Int32))), (0, .ref (aO 0))]) hx hb dX2_advance_38 hl (k := 1) rfl rfl (by decide) rfl (fun ls hl => ?_)
            refine lv_goto (tgt := 17) hx hb dX2_advance_41 (by decide) ?_
            exact ih17 (x1_17 + (-1 : Int32)) _ _ _ hW (lv_sub hl [1, 0] rfl) hM
    exact lp17 N z16 _ _ _ hW (lv_sub hl [1, 0] rfl) hM
  · have hM := (if_neg hc).symm.trans hM
    refine lv_iconst (v := (0 : Int32)) hx hb dX2_advance_8 (by decide) ?_
    obtain rfl := Option.some.inj hM
    exact g_reti X hW rfl rfl dX2_advance_9

def MX2_tellComings_j34 (yP1_34 : (Nat → Int32)) : Option ((Nat → Int32)) :=
  some (yP1_34)
def MX2_tellComings_l2 (N : Nat) (O : OrdV) (P : PlanV) (p2 : Int32) : Nat → Int32 → (Nat → Int32) → Option ((Nat → Int32))
  | 0, _, _ => none
  | n2 + 1, x3_2, yP1_2 =>
    if O.2.2 ≤ x3_2 then (MX2_tellComings_j34 yP1_2) else (if (5 : Int32) ≤ x3_2 then (MX2_tellComings_j34 yP1_2) else MG x3_2 5 ((MX3_setComing N (P.1, yP1_2, P.2.2) (O.1 x3_2.toNatClampNeg) (p2 + x3_2)).bind (fun u25 => (MX2_tellComings_l2 N O P p2 n2) (x3_2 + (1 : Int32)) u25)))
def MX2_tellComings (N : Nat) (O : OrdV) (P : PlanV) (p2 : Int32) : Option ((Nat → Int32)) :=
  MX2_tellComings_l2 N O P p2 N (0 : Int32) P.2.1
set_option maxHeartbeats 4000000 in
set_option maxRecDepth 100000 in
theorem c_X2_tellComings (l : Launch) (G : va_G) (cI cZ cL : ClassId) (N : Nat) (aO : Nat → Nat) (aP : Nat → Nat) (O : OrdV) (P : PlanV) (p2 : Int32) (rr : (Nat → Int32)) (hM : MX2_tellComings N O P p2 = some rr) : CtV l yX2_tellComings cX2_tellComings 4 1 22 G cI cZ cL [.ref (aO 0), .ref (aP 0), .int p2] [wOrd cI aO O, wPlan cI aP P] [wOrd cI aO O, wPlan cI aP (P.1, rr, P.2.2)] := by
  refine ct_body (fun A => qV G [wOrd cI aO O, wPlan cI aP (P.1, rr, P.2.2)] A) (by decide) (Nat.le_of_ble_eq_true rfl) (fun p e s m below meth c A ls X hW hl => ?_)
  have hx := X.1
  have hb := X.2.1
  have hts := X.2.2.2.2.2.1
  have hown := X.2.2.2.2.2.2.1
  have hl : lv_has ls 4 [(0, .ref (aO 0)), (1, .ref (aP 0)), (2, .int p2)] := hl
  unfold MX2_tellComings at hM
  refine lv_iconst (v := (0 : Int32)) hx hb dX2_tellComings_0 (by decide) ?_
  refine lv_istore_n (lv' := [(3, .int (0 : Int32)), (0, .ref (aO 0)), (1, .ref (aP 0)), (2, .int p2)]) hx hb dX2_tellComings_1 rfl hl (by decide) rfl (fun ls hl => ?_)
  have j34 : ∀ (yP1_34 : (Nat → Int32)) (H : Heap) (locs : List Loc) (ls : Array Slot), Wd G A s [wOrd cI aO O, wPlan cI aP (P.1, yP1_34, P.2.2)] H locs → lv_has ls 4 [] → MX2_tellComings_j34 yP1_34 = some rr → W p l e (rmO 1 22) s m ([.ref (aO 0), .ref (aP 0), .int p2] : List Value).toArray below meth c H locs 0 0 (MQ below (qV G [wOrd cI aO O, wPlan cI aP (P.1, rr, P.2.2)] A) ([.ref (aO 0), .ref (aP 0), .int p2] : List Value).toArray s 0 0 A) (F0 m 34 ls []) := by
    intro yP1_34 H locs ls hW hl hM
    unfold MX2_tellComings_j34 at hM
    obtain rfl := Option.some.inj hM
    exact g_retv X hW dX2_tellComings_34
  have lp2 : ∀ (n2 : Nat) (x3_2 : Int32) (yP1_2 : (Nat → Int32)) (H : Heap) (locs : List Loc) (ls : Array Slot), Wd G A s [wOrd cI aO O, wPlan cI aP (P.1, yP1_2, P.2.2)] H locs → lv_has ls 4 [(0, .ref (aO 0)), (1, .ref (aP 0)), (2, .int p2), (3, .int x3_2)] → MX2_tellComings_l2 N O P p2 n2 x3_2 yP1_2 = some rr → W p l e (rmO 1 22) s m ([.ref (aO 0), .ref (aP 0), .int p2] : List Value).toArray below meth c H locs 0 0 (MQ below (qV G [wOrd cI aO O, wPlan cI aP (P.1, rr, P.2.2)] A) ([.ref (aO 0), .ref (aP 0), .int p2] : List Value).toArray s 0 0 A) (F0 m 2 ls []) := by
    intro n2
    induction n2 with
    | zero =>
      intro x3_2 yP1_2 H locs ls hW hl hM
      rw [MX2_tellComings_l2] at hM
      cases hM
    | succ n2 ih2 =>
      intro x3_2 yP1_2 H locs ls hW hl hM
      rw [MX2_tellComings_l2] at hM
      refine lv_iload_n hx hb dX2_tellComings_2 rfl (lv_at hl 3 rfl) ?_
      refine lv_aload_n hx hb dX2_tellComings_3 rfl (lv_at hl 0 rfl) ?_
      refine g_get X hW 0 rfl rfl inX2 2 (by decide) q_187 rfl dX2_tellComings_4 ?_
      refine lv_icmp_ge (tgt := 34) hx hb dX2_tellComings_7 (by decide) (fun hc => ?_) (fun hc => ?_)
      · have hM := (if_pos hc).symm.trans hM
        exact j34 yP1_2 _ _ _ hW (lv_sub hl [] rfl) hM
      · have hM := (if_neg hc).symm.trans hM
        refine lv_iload_n hx hb dX2_tellComings_10 rfl (lv_at hl 3 rfl) ?_
        refine lv_iconst (v := (5 : Int32)) hx hb dX2_tellComings_11 (by decide) ?_
        refine lv_icmp_ge (tgt := 34) hx hb dX2_tellComings_12 (by decide) (fun hc => ?_) (fun hc => ?_)
        · have hM := (if_pos hc).symm.trans hM
          exact j34 yP1_2 _ _ _ hW (lv_sub hl [] rfl) hM
        · have hM := (if_neg hc).symm.trans hM
          refine lv_aload_n hx hb dX2_tellComings_15 rfl (lv_at hl 1 rfl) ?_
          refine lv_aload_n hx hb dX2_tellComings_16 rfl (lv_at hl 0 rfl) ?_
          refine g_get X hW 0 rfl rfl inX2 0 (by decide) q_185 rfl dX2_tellComings_17 ?_
          refine lv_iload_n hx hb dX2_tellComings_20 rfl (lv_at hl 3 rfl) ?_
          obtain ⟨hi21, hM⟩ := MG_some hM
          refine g_ald X hW 1 rfl hi21 dX2_tellComings_21 ?_
          refine lv_iload_n hx hb dX2_tellComings_22 rfl (lv_at hl 2 rfl) ?_
          refine lv_iload_n hx hb dX2_tellComings_23 rfl (lv_at hl 3 rfl) ?_
          refine lv_iadd hx hb dX2_tellComings_24 ?_
          obtain ⟨u25, hu25, hM⟩ := bind_some hM
          refine g_callVv (rest := []) (gr := [wOrd cI aO O]) X hl.1 hW (c_X3_setComing l G cI cZ cL N aP (P.1, yP1_2, P.2.2) (O.1 x3_2.toNatClampNeg) (p2 + x3_2) u25 hu25) q_669 q_666 q_667 q_668 q_56 hd_X3_setComing rfl ⟨Nat.le_of_ble_eq_true rfl, Nat.le_of_ble_eq_true rfl⟩ ⟨Nat.zero_le _, Nat.zero_le _⟩ [1] [0] [wOrd cI aO O, wPlan cI aP (P.1, u25, P.2.2)] ⟨pm_2_1, rfl, rfl, rfl⟩ ⟨pm_2_1, rfl, rfl, rfl⟩ (q0 := 3) rfl rfl rfl (Nat.le_of_ble_eq_true rfl) dX2_tellComings_25 (fun H locs hW => ?_)
          refine lv_iinc (v := x3_2 + (1 : Int32)) (lv' := [(3, .int (x3_2 + (1 : Int32))), (0, .ref (aO 0)), (1, .ref (aP 0)), (2, .int p2)]) hx hb dX2_tellComings_28 hl (k := 3) rfl rfl (by decide) rfl (fun ls hl => ?_)
          refine lv_goto (tgt := 2) hx hb dX2_tellComings_31 (by decide) ?_
          exact ih2 (x3_2 + (1 : Int32)) u25 _ _ _ hW (lv_sub hl [1, 2, 3, 0] rfl) hM
  exact lp2 N (0 : Int32) P.2.1 _ _ _ hW (lv_sub hl [1, 2, 3, 0] rfl) hM

def MX2_allAte_j37 : Option (Int32) :=
  some ((1 : Int32))
def MX2_allAte_l2 (N : Nat) (O : OrdV) (L : LineV) : Nat → Int32 → Option (Int32)
  | 0, _ => none
  | n2 + 1, x2_2 =>
    if O.2.2 ≤ x2_2 then (MX2_allAte_j37) else (if (5 : Int32) ≤ x2_2 then (MX2_allAte_j37) else MG x2_2 5 ((MX1_whereIs N L (O.1 x2_2.toNatClampNeg)).bind (fun u22 => if u22 = (3 : Int32) then ((MX2_allAte_l2 N O L n2) (x2_2 + (1 : Int32))) else some ((0 : Int32)))))
def MX2_allAte (N : Nat) (O : OrdV) (L : LineV) : Option (Int32) :=
  MX2_allAte_l2 N O L N (0 : Int32)
set_option maxHeartbeats 4000000 in
set_option maxRecDepth 100000 in
theorem c_X2_allAte (l : Launch) (G : va_G) (cI cZ cL : ClassId) (N : Nat) (aO : Nat → Nat) (aL : Nat → Nat) (O : OrdV) (L : LineV) (rr : Int32) (hM : MX2_allAte N O L = some rr) : CtI l yX2_allAte cX2_allAte 3 .boolean 1 21 G cI cZ cL [.ref (aO 0), .ref (aL 0)] [wOrd cI aO O, wLine cI aL L] rr [wOrd cI aO O, wLine cI aL L] := by
  refine ct_body (fun A => qI G rr [wOrd cI aO O, wLine cI aL L] A) (by decide) (Nat.le_of_ble_eq_true rfl) (fun p e s m below meth c A ls X hW hl => ?_)
  have hx := X.1
  have hb := X.2.1
  have hts := X.2.2.2.2.2.1
  have hown := X.2.2.2.2.2.2.1
  have hl : lv_has ls 3 [(0, .ref (aO 0)), (1, .ref (aL 0))] := hl
  unfold MX2_allAte at hM
  refine lv_iconst (v := (0 : Int32)) hx hb dX2_allAte_0 (by decide) ?_
  refine lv_istore_n (lv' := [(2, .int (0 : Int32)), (0, .ref (aO 0)), (1, .ref (aL 0))]) hx hb dX2_allAte_1 rfl hl (by decide) rfl (fun ls hl => ?_)
  have j37 : ∀ (H : Heap) (locs : List Loc) (ls : Array Slot), Wd G A s [wOrd cI aO O, wLine cI aL L] H locs → lv_has ls 3 [] → MX2_allAte_j37 = some rr → W p l e (rmO 1 21) s m ([.ref (aO 0), .ref (aL 0)] : List Value).toArray below meth c H locs 0 0 (MQ below (qI G rr [wOrd cI aO O, wLine cI aL L] A) ([.ref (aO 0), .ref (aL 0)] : List Value).toArray s 0 0 A) (F0 m 37 ls []) := by
    intro H locs ls hW hl hM
    unfold MX2_allAte_j37 at hM
    refine lv_iconst (v := (1 : Int32)) hx hb dX2_allAte_37 (by decide) ?_
    obtain rfl := Option.some.inj hM
    exact g_reti X hW rfl rfl dX2_allAte_38
  have lp2 : ∀ (n2 : Nat) (x2_2 : Int32) (H : Heap) (locs : List Loc) (ls : Array Slot), Wd G A s [wOrd cI aO O, wLine cI aL L] H locs → lv_has ls 3 [(0, .ref (aO 0)), (1, .ref (aL 0)), (2, .int x2_2)] → MX2_allAte_l2 N O L n2 x2_2 = some rr → W p l e (rmO 1 21) s m ([.ref (aO 0), .ref (aL 0)] : List Value).toArray below meth c H locs 0 0 (MQ below (qI G rr [wOrd cI aO O, wLine cI aL L] A) ([.ref (aO 0), .ref (aL 0)] : List Value).toArray s 0 0 A) (F0 m 2 ls []) := by
    intro n2
    induction n2 with
    | zero =>
      intro x2_2 H locs ls hW hl hM
      rw [MX2_allAte_l2] at hM
      cases hM
    | succ n2 ih2 =>
      intro x2_2 H locs ls hW hl hM
      rw [MX2_allAte_l2] at hM
      refine lv_iload_n hx hb dX2_allAte_2 rfl (lv_at hl 2 rfl) ?_
      refine lv_aload_n hx hb dX2_allAte_3 rfl (lv_at hl 0 rfl) ?_
      refine g_get X hW 0 rfl rfl inX2 2 (by decide) q_187 rfl dX2_allAte_4 ?_
      refine lv_icmp_ge (tgt := 37) hx hb dX2_allAte_7 (by decide) (fun hc => ?_) (fun hc => ?_)
      · have hM := (if_pos hc).symm.trans hM
        exact j37 _ _ _ hW (lv_sub hl [] rfl) hM
      · have hM := (if_neg hc).symm.trans hM
        refine lv_iload_n hx hb dX2_allAte_10 rfl (lv_at hl 2 rfl) ?_
        refine lv_iconst (v := (5 : Int32)) hx hb dX2_allAte_11 (by decide) ?_
        refine lv_icmp_ge (tgt := 37) hx hb dX2_allAte_12 (by decide) (fun hc => ?_) (fun hc => ?_)
        · have hM := (if_pos hc).symm.trans hM
          exact j37 _ _ _ hW (lv_sub hl [] rfl) hM
        · have hM := (if_neg hc).symm.trans hM
          refine lv_aload_n hx hb dX2_allAte_15 rfl (lv_at hl 1 rfl) ?_
          refine lv_aload_n hx hb dX2_allAte_16 rfl (lv_at hl 0 rfl) ?_
          refine g_get X hW 0 rfl rfl inX2 0 (by decide) q_185 rfl dX2_allAte_17 ?_
          refine lv_iload_n hx hb dX2_allAte_20 rfl (lv_at hl 2 rfl) ?_
          obtain ⟨hi21, hM⟩ := MG_some hM
          refine g_ald X hW 1 rfl hi21 dX2_allAte_21 ?_
          obtain ⟨u22, hu22, hM⟩ := bind_some hM
          refine g_callVi (rest := []) (gr := [wOrd cI aO O]) X hl.1 hW (c_X1_whereIs l G cI cZ cL N aL L (O.1 x2_2.toNatClampNeg) u22 hu22) q_450 q_652 q_448 q_449 q_58 hd_X1_whereIs rfl ⟨Nat.le_of_ble_eq_true rfl, Nat.le_of_ble_eq_true rfl⟩ ⟨Nat.zero_le _, Nat.zero_le _⟩ [1] [0] [wOrd cI aO O, wLine cI aL L] ⟨pm_2_1, rfl, rfl, rfl⟩ ⟨pm_2_1, rfl, rfl, rfl⟩ (q0 := 3) rfl rfl rfl (Nat.le_of_ble_eq_true rfl) dX2_allAte_22 (fun H locs hW => ?_)
          refine lv_iconst (v := (3 : Int32)) hx hb dX2_allAte_25 (by decide) ?_
          refine lv_icmp_eq (tgt := 31) hx hb dX2_allAte_26 (by decide) (fun hc => ?_) (fun hc => ?_)
          · have hM := (if_pos hc).symm.trans hM
            refine lv_iinc (v := x2_2 + (1 : Int32)) (lv' := [(2, .int (x2_2 + (1 : Int32))), (0, .ref (aO 0)), (1, .ref (aL 0))]) hx hb dX2_allAte_31 hl (k := 2) rfl rfl (by decide) rfl (fun ls hl => ?_)
            refine lv_goto (tgt := 2) hx hb dX2_allAte_34 (by decide) ?_
            exact ih2 (x2_2 + (1 : Int32)) _ _ _ hW (lv_sub hl [1, 2, 0] rfl) hM
          · have hM := (if_neg hc).symm.trans hM
            refine lv_iconst (v := (0 : Int32)) hx hb dX2_allAte_29 (by decide) ?_
            obtain rfl := Option.some.inj hM
            exact g_reti X hW rfl rfl dX2_allAte_30
  exact lp2 N (0 : Int32) _ _ _ hW (lv_sub hl [1, 2, 0] rfl) hM

def MX2_longestWait_j83 (x3_83 : Int32) : Option (Int32) :=
  some (x3_83)
def MX2_longestWait_j68 (x3_5 : Int32) (x4_5 : Int32) (rc5 : (Int32 → Int32 → Option (Int32))) (t0_68 : Int32) : Option (Int32) :=
  MLet (if x3_5 < t0_68 then t0_68 else x3_5) (fun z76 => rc5 z76 (x4_5 + (1 : Int32)))
def MX2_longestWait_j40 (N : Nat) (O : OrdV) (L : LineV) (p2 : Int32) (x3_5 : Int32) (x4_5 : Int32) (rc5 : (Int32 → Int32 → Option (Int32))) (t0_40 : Int32) : Option (Int32) :=
  if t0_40 = 0 then MX2_longestWait_j68 x3_5 x4_5 rc5 (99 : Int32) else MG x4_5 5 ((MX1_ateInOf N L (O.1 x4_5.toNatClampNeg)).bind (fun u55 => MX2_longestWait_j68 x3_5 x4_5 rc5 ((u55 - p2) - x4_5)))
def MX2_longestWait_l5 (N : Nat) (O : OrdV) (L : LineV) (p2 : Int32) : Nat → Int32 → Int32 → Option (Int32)
  | 0, _, _ => none
  | n5 + 1, x3_5, x4_5 =>
    if O.2.2 ≤ x4_5 then (MX2_longestWait_j83 x3_5) else (if (5 : Int32) ≤ x4_5 then (MX2_longestWait_j83 x3_5) else MG x4_5 5 ((MX1_whereIs N L (O.1 x4_5.toNatClampNeg)).bind (fun u28 => if u28 = (3 : Int32) then (MX2_longestWait_j40 N O L p2 x3_5 x4_5 (MX2_longestWait_l5 N O L p2 n5) (1 : Int32)) else (MX2_longestWait_j40 N O L p2 x3_5 x4_5 (MX2_longestWait_l5 N O L p2 n5) (0 : Int32)))))
def MX2_longestWait (N : Nat) (O : OrdV) (L : LineV) (p2 : Int32) : Option (Int32) :=
  MX2_longestWait_l5 N O L p2 N (0 : Int32) (0 : Int32)
set_option maxHeartbeats 4000000 in
set_option maxRecDepth 100000 in
theorem c_X2_longestWait (l : Launch) (G : va_G) (cI cZ cL : ClassId) (N : Nat) (aO : Nat → Nat) (aL : Nat → Nat) (O : OrdV) (L : LineV) (p2 : Int32) (rr : Int32) (hM : MX2_longestWait N O L p2 = some rr) : CtI l yX2_longestWait cX2_longestWait 7 .int 1 21 G cI cZ cL [.ref (aO 0), .ref (aL 0), .int p2] [wOrd cI aO O, wLine cI aL L] rr [wOrd cI aO O, wLine cI aL L] := by
  refine ct_body (fun A => qI G rr [wOrd cI aO O, wLine cI aL L] A) (by decide) (Nat.le_of_ble_eq_true rfl) (fun p e s m below meth c A ls X hW hl => ?_)
  have hx := X.1
  have hb := X.2.1
  have hts := X.2.2.2.2.2.1
  have hown := X.2.2.2.2.2.2.1
  have hl : lv_has ls 7 [(0, .ref (aO 0)), (1, .ref (aL 0)), (2, .int p2)] := hl
  unfold MX2_longestWait at hM
  refine lv_iconst (v := (0 : Int32)) hx hb dX2_longestWait_0 (by decide) ?_
  refine lv_istore_n (lv' := [(3, .int (0 : Int32)), (0, .ref (aO 0)), (1, .ref (aL 0)), (2, .int p2)]) hx hb dX2_longestWait_1 rfl hl (by decide) rfl (fun ls hl => ?_)
  refine lv_iconst (v := (0 : Int32)) hx hb dX2_longestWait_2 (by decide) ?_
  refine lv_istore (lv' := [(4, .int (0 : Int32)), (3, .int (0 : Int32)), (0, .ref (aO 0)), (1, .ref (aL 0)), (2, .int p2)]) hx hb dX2_longestWait_3 hl (by decide) rfl (fun ls hl => ?_)
  have j83 : ∀ (x3_83 : Int32) (H : Heap) (locs : List Loc) (ls : Array Slot), Wd G A s [wOrd cI aO O, wLine cI aL L] H locs → lv_has ls 7 [(3, .int x3_83)] → MX2_longestWait_j83 x3_83 = some rr → W p l e (rmO 1 21) s m ([.ref (aO 0), .ref (aL 0), .int p2] : List Value).toArray below meth c H locs 0 0 (MQ below (qI G rr [wOrd cI aO O, wLine cI aL L] A) ([.ref (aO 0), .ref (aL 0), .int p2] : List Value).toArray s 0 0 A) (F0 m 83 ls []) := by
    intro x3_83 H locs ls hW hl hM
    unfold MX2_longestWait_j83 at hM
    refine lv_iload_n hx hb dX2_longestWait_83 rfl (lv_at hl 0 rfl) ?_
    obtain rfl := Option.some.inj hM
    exact g_reti X hW rfl rfl dX2_longestWait_84
  have lp5 : ∀ (n5 : Nat) (x3_5 : Int32) (x4_5 : Int32) (H : Heap) (locs : List Loc) (ls : Array Slot), Wd G A s [wOrd cI aO O, wLine cI aL L] H locs → lv_has ls 7 [(0, .ref (aO 0)), (1, .ref (aL 0)), (2, .int p2), (3, .int x3_5), (4, .int x4_5)] → MX2_longestWait_l5 N O L p2 n5 x3_5 x4_5 = some rr → W p l e (rmO 1 21) s m ([.ref (aO 0), .ref (aL 0), .int p2] : List Value).toArray below meth c H locs 0 0 (MQ below (qI G rr [wOrd cI aO O, wLine cI aL L] A) ([.ref (aO 0), .ref (aL 0), .int p2] : List Value).toArray s 0 0 A) (F0 m 5 ls []) := by
    intro n5
    induction n5 with
    | zero =>
      intro x3_5 x4_5 H locs ls hW hl hM
      rw [MX2_longestWait_l5] at hM
      cases hM
    | succ n5 ih5 =>
      intro x3_5 x4_5 H locs ls hW hl hM
      rw [MX2_longestWait_l5] at hM
      refine lv_iload hx hb dX2_longestWait_5 (lv_at hl 4 rfl) ?_
      refine lv_aload_n hx hb dX2_longestWait_7 rfl (lv_at hl 0 rfl) ?_
      refine g_get X hW 0 rfl rfl inX2 2 (by decide) q_187 rfl dX2_longestWait_8 ?_
      refine lv_icmp_ge (tgt := 83) hx hb dX2_longestWait_11 (by decide) (fun hc => ?_) (fun hc => ?_)
      · have hM := (if_pos hc).symm.trans hM
        exact j83 x3_5 _ _ _ hW (lv_sub hl [3] rfl) hM
      · have hM := (if_neg hc).symm.trans hM
        refine lv_iload hx hb dX2_longestWait_14 (lv_at hl 4 rfl) ?_
        refine lv_iconst (v := (5 : Int32)) hx hb dX2_longestWait_16 (by decide) ?_
        refine lv_icmp_ge (tgt := 83) hx hb dX2_longestWait_17 (by decide) (fun hc => ?_) (fun hc => ?_)
        · have hM := (if_pos hc).symm.trans hM
          exact j83 x3_5 _ _ _ hW (lv_sub hl [3] rfl) hM
        · have hM := (if_neg hc).symm.trans hM
          refine lv_aload_n hx hb dX2_longestWait_20 rfl (lv_at hl 1 rfl) ?_
          refine lv_aload_n hx hb dX2_longestWait_21 rfl (lv_at hl 0 rfl) ?_
          refine g_get X hW 0 rfl rfl inX2 0 (by decide) q_185 rfl dX2_longestWait_22 ?_
          refine lv_iload hx hb dX2_longestWait_25 (lv_at hl 4 rfl) ?_
          obtain ⟨hi27, hM⟩ := MG_some hM
          refine g_ald X hW 1 rfl hi27 dX2_longestWait_27 ?_
          obtain ⟨u28, hu28, hM⟩ := bind_some hM
          refine g_callVi (rest := []) (gr := [wOrd cI aO O]) X hl.1 hW (c_X1_whereIs l G cI cZ cL N aL L (O.1 x4_5.toNatClampNeg) u28 hu28) q_450 q_652 q_448 q_449 q_58 hd_X1_whereIs rfl ⟨Nat.le_of_ble_eq_true rfl, Nat.le_of_ble_eq_true rfl⟩ ⟨Nat.zero_le _, Nat.zero_le _⟩ [1] [0] [wOrd cI aO O, wLine cI aL L] ⟨pm_2_1, rfl, rfl, rfl⟩ ⟨pm_2_1, rfl, rfl, rfl⟩ (q0 := 3) rfl rfl rfl (Nat.le_of_ble_eq_true rfl) dX2_longestWait_28 (fun H locs hW => ?_)
          refine lv_iconst (v := (3 : Int32)) hx hb dX2_longestWait_31 (by decide) ?_
          have j40 : ∀ (t0_40 : Int32) (H : Heap) (locs : List Loc) (ls : Array Slot), Wd G A s [wOrd cI aO O, wLine cI aL L] H locs → lv_has ls 7 [(0, .ref (aO 0)), (1, .ref (aL 0)), (2, .int p2), (3, .int x3_5), (4, .int x4_5)] → MX2_longestWait_j40 N O L p2 x3_5 x4_5 (MX2_longestWait_l5 N O L p2 n5) t0_40 = some rr → W p l e (rmO 1 21) s m ([.ref (aO 0), .ref (aL 0), .int p2] : List Value).toArray below meth c H locs 0 0 (MQ below (qI G rr [wOrd cI aO O, wLine cI aL L] A) ([.ref (aO 0), .ref (aL 0), .int p2] : List Value).toArray s 0 0 A) (F0 m 40 ls [.int t0_40]) := by
            intro t0_40 H locs ls hW hl hM
            unfold MX2_longestWait_j40 at hM
            refine lv_istore (lv' := [(5, .int t0_40), (0, .ref (aO 0)), (1, .ref (aL 0)), (2, .int p2), (3, .int x3_5), (4, .int x4_5)]) hx hb dX2_longestWait_40 hl (by decide) rfl (fun ls hl => ?_)
            refine lv_iload hx hb dX2_longestWait_42 (lv_at hl 0 rfl) ?_
            have j68 : ∀ (t0_68 : Int32) (H : Heap) (locs : List Loc) (ls : Array Slot), Wd G A s [wOrd cI aO O, wLine cI aL L] H locs → lv_has ls 7 [(0, .ref (aO 0)), (1, .ref (aL 0)), (2, .int p2), (3, .int x3_5), (4, .int x4_5)] → MX2_longestWait_j68 x3_5 x4_5 (MX2_longestWait_l5 N O L p2 n5) t0_68 = some rr → W p l e (rmO 1 21) s m ([.ref (aO 0), .ref (aL 0), .int p2] : List Value).toArray below meth c H locs 0 0 (MQ below (qI G rr [wOrd cI aO O, wLine cI aL L] A) ([.ref (aO 0), .ref (aL 0), .int p2] : List Value).toArray s 0 0 A) (F0 m 68 ls [.int t0_68]) := by
              intro t0_68 H locs ls hW hl hM
              unfold MX2_longestWait_j68 at hM
              refine lv_istore (lv' := [(6, .int t0_68), (0, .ref (aO 0)), (1, .ref (aL 0)), (2, .int p2), (3, .int x3_5), (4, .int x4_5)]) hx hb dX2_longestWait_68 hl (by decide) rfl (fun ls hl => ?_)
              refine lv_iload_n hx hb dX2_longestWait_70 rfl (lv_at hl 4 rfl) ?_
              refine lv_iload hx hb dX2_longestWait_71 (lv_at hl 0 rfl) ?_
              refine g_max X hl.1 q_679 q_243 q_62 q_244 (Nat.le_of_ble_eq_true rfl) (Nat.le_of_ble_eq_true rfl) (Nat.zero_le _) (Nat.zero_le _) dX2_longestWait_73 ?_
              refine lv_topi (fun z76 ez76 => ?_)
              have hM := MLet_some hM z76 ez76
              refine lv_istore_n (lv' := [(3, .int z76), (6, .int t0_68), (0, .ref (aO 0)), (1, .ref (aL 0)), (2, .int p2), (4, .int x4_5)]) hx hb dX2_longestWait_76 rfl hl (by decide) rfl (fun ls hl => ?_)
              refine lv_iinc (v := x4_5 + (1 : Int32)) (lv' := [(4, .int (x4_5 + (1 : Int32))), (3, .int z76), (6, .int t0_68), (0, .ref (aO 0)), (1, .ref (aL 0)), (2, .int p2)]) hx hb dX2_longestWait_77 hl (k := 5) rfl rfl (by decide) rfl (fun ls hl => ?_)
              refine lv_goto (tgt := 5) hx hb dX2_longestWait_80 (by decide) ?_
              exact ih5 z76 (x4_5 + (1 : Int32)) _ _ _ hW (lv_sub hl [3, 4, 5, 1, 0] rfl) hM
            refine lv_if_eq (tgt := 66) hx hb dX2_longestWait_44 (by decide) (fun hc => ?_) (fun hc => ?_)
            · have hM := (if_pos hc).symm.trans hM
              refine lv_bipush (v := (99 : Int32)) hx hb dX2_longestWait_66 (by decide) ?_
              exact j68 (99 : Int32) _ _ _ hW (lv_sub hl [1, 2, 3, 4, 5] rfl) hM
            · have hM := (if_neg hc).symm.trans hM
              refine lv_aload_n hx hb dX2_longestWait_47 rfl (lv_at hl 2 rfl) ?_
              refine lv_aload_n hx hb dX2_longestWait_48 rfl (lv_at hl 1 rfl) ?_
              refine g_get X hW 0 rfl rfl inX2 0 (by decide) q_185 rfl dX2_longestWait_49 ?_
              refine lv_iload hx hb dX2_longestWait_52 (lv_at hl 5 rfl) ?_
              obtain ⟨hi54, hM⟩ := MG_some hM
              refine g_ald X hW 1 rfl hi54 dX2_longestWait_54 ?_
              obtain ⟨u55, hu55, hM⟩ := bind_some hM
              refine g_callVi (rest := []) (gr := [wOrd cI aO O]) X hl.1 hW (c_X1_ateInOf l G cI cZ cL N aL L (O.1 x4_5.toNatClampNeg) u55 hu55) q_462 q_678 q_460 q_461 q_58 hd_X1_ateInOf rfl ⟨Nat.le_of_ble_eq_true rfl, Nat.le_of_ble_eq_true rfl⟩ ⟨Nat.zero_le _, Nat.zero_le _⟩ [1] [0] [wOrd cI aO O, wLine cI aL L] ⟨pm_2_1, rfl, rfl, rfl⟩ ⟨pm_2_1, rfl, rfl, rfl⟩ (q0 := 3) rfl rfl rfl (Nat.le_of_ble_eq_true rfl) dX2_longestWait_55 (fun H locs hW => ?_)
              refine lv_iload_n hx hb dX2_longestWait_58 rfl (lv_at hl 3 rfl) ?_
              refine lv_isub hx hb dX2_longestWait_59 ?_
              refine lv_iload hx hb dX2_longestWait_60 (lv_at hl 5 rfl) ?_
              refine lv_isub hx hb dX2_longestWait_62 ?_
              refine lv_goto (tgt := 68) hx hb dX2_longestWait_63 (by decide) ?_
              exact j68 ((u55 - p2) - x4_5) _ _ _ hW (lv_sub hl [1, 2, 3, 4, 5] rfl) hM
          refine lv_icmp_ne (tgt := 39) hx hb dX2_longestWait_32 (by decide) (fun hc => ?_) (fun hc => ?_)
          · have hM := (if_neg hc).symm.trans hM
            refine lv_iconst (v := (0 : Int32)) hx hb dX2_longestWait_39 (by decide) ?_
            exact j40 (0 : Int32) _ _ _ hW (lv_sub hl [0, 1, 2, 3, 4] rfl) hM
          · have hM := (if_pos hc).symm.trans hM
            refine lv_iconst (v := (1 : Int32)) hx hb dX2_longestWait_35 (by decide) ?_
            refine lv_goto (tgt := 40) hx hb dX2_longestWait_36 (by decide) ?_
            exact j40 (1 : Int32) _ _ _ hW (lv_sub hl [0, 1, 2, 3, 4] rfl) hM
  exact lp5 N (0 : Int32) (0 : Int32) _ _ _ hW (lv_sub hl [2, 3, 4, 1, 0] rfl) hM
