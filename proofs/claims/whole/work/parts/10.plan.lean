def MX3_clear (N : Nat) : Option (Int32 × Int32 × Int32 × Int32) :=
  some ((0 : Int32), (2 : Int32), (20 : Int32), (0 : Int32))
set_option maxHeartbeats 4000000 in
set_option maxRecDepth 100000 in
theorem c_X3_clear (l : Launch) (G : va_G) (cI cZ cL : ClassId) (N : Nat) (aP : Nat → Nat) (P : PlanV) (rr : Int32 × Int32 × Int32 × Int32) (hM : MX3_clear N = some rr) : CtV l yX3_clear cX3_clear 1 0 0 G cI cZ cL [.ref (aP 0)] [wPlan cI aP P] [wPlan cI aP (P.1, P.2.1, P.2.2.1, rr.1, rr.2.1, rr.2.2.1, rr.2.2.2)] := by
  refine ct_body (fun A => qV G [wPlan cI aP (P.1, P.2.1, P.2.2.1, rr.1, rr.2.1, rr.2.2.1, rr.2.2.2)] A) (by decide) (Nat.le_of_ble_eq_true rfl) (fun p e s m below meth c A ls X hW hl => ?_)
  have hx := X.1
  have hb := X.2.1
  have hts := X.2.2.2.2.2.1
  have hown := X.2.2.2.2.2.2.1
  have hl : lv_has ls 1 [(0, .ref (aP 0))] := hl
  unfold MX3_clear at hM
  refine lv_aload_n hx hb dX3_clear_0 rfl (lv_at hl 0 rfl) ?_
  refine lv_iconst (v := (0 : Int32)) hx hb dX3_clear_1 (by decide) ?_
  refine g_put X hW 0 rfl rfl inX3 tyX3 tyX3_ok nmX3 3 (by decide) q_107 rfl rfl (Nat.le_of_ble_eq_true rfl) [wPlan cI aP (P.1, P.2.1, P.2.2.1, (0 : Int32), P.2.2.2.2)] rfl dX3_clear_2 (fun H locs hW => ?_)
  refine lv_aload_n hx hb dX3_clear_5 rfl (lv_at hl 0 rfl) ?_
  refine lv_iconst (v := (2 : Int32)) hx hb dX3_clear_6 (by decide) ?_
  refine g_put X hW 0 rfl rfl inX3 tyX3 tyX3_ok nmX3 4 (by decide) q_112 rfl rfl (Nat.le_of_ble_eq_true rfl) [wPlan cI aP (P.1, P.2.1, P.2.2.1, (0 : Int32), (2 : Int32), P.2.2.2.2.2)] rfl dX3_clear_7 (fun H locs hW => ?_)
  refine lv_aload_n hx hb dX3_clear_10 rfl (lv_at hl 0 rfl) ?_
  refine lv_bipush (v := (20 : Int32)) hx hb dX3_clear_11 (by decide) ?_
  refine g_put X hW 0 rfl rfl inX3 tyX3 tyX3_ok nmX3 5 (by decide) q_113 rfl rfl (Nat.le_of_ble_eq_true rfl) [wPlan cI aP (P.1, P.2.1, P.2.2.1, (0 : Int32), (2 : Int32), (20 : Int32), P.2.2.2.2.2.2)] rfl dX3_clear_13 (fun H locs hW => ?_)
  refine lv_aload_n hx hb dX3_clear_16 rfl (lv_at hl 0 rfl) ?_
  refine lv_iconst (v := (0 : Int32)) hx hb dX3_clear_17 (by decide) ?_
  refine g_put X hW 0 rfl rfl inX3 tyX3 tyX3_ok nmX3 6 (by decide) q_115 rfl rfl (Nat.le_of_ble_eq_true rfl) [wPlan cI aP (P.1, P.2.1, P.2.2.1, (0 : Int32), (2 : Int32), (20 : Int32), (0 : Int32))] rfl dX3_clear_18 (fun H locs hW => ?_)
  obtain rfl := Option.some.inj hM
  exact g_retv X hW dX3_clear_21

def MX3_copyFrom (N : Nat) (P : PlanV) (P2 : PlanV) : Option ((Nat → Int32) × (Nat → Int32) × (Nat → Int32) × Int32 × Int32 × Int32 × Int32) :=
  some ((va_cpy P2.1 P.1 0 0 9), (va_cpy P2.2.1 P.2.1 0 0 9), (va_cpy P2.2.2.1 P.2.2.1 0 0 9), P2.2.2.2.1, P2.2.2.2.2.1, P2.2.2.2.2.2.1, P2.2.2.2.2.2.2)
set_option maxHeartbeats 4000000 in
set_option maxRecDepth 100000 in
theorem c_X3_copyFrom (l : Launch) (G : va_G) (cI cZ cL : ClassId) (N : Nat) (aP : Nat → Nat) (aP2 : Nat → Nat) (P : PlanV) (P2 : PlanV) (rr : (Nat → Int32) × (Nat → Int32) × (Nat → Int32) × Int32 × Int32 × Int32 × Int32) (hM : MX3_copyFrom N P P2 = some rr) : CtV l yX3_copyFrom cX3_copyFrom 2 1 18 G cI cZ cL [.ref (aP 0), .ref (aP2 0)] [wPlan cI aP P, wPlan cI aP2 P2] [wPlan cI aP rr, wPlan cI aP2 P2] := by
  refine ct_body (fun A => qV G [wPlan cI aP rr, wPlan cI aP2 P2] A) (by decide) (Nat.le_of_ble_eq_true rfl) (fun p e s m below meth c A ls X hW hl => ?_)
  have hx := X.1
  have hb := X.2.1
  have hts := X.2.2.2.2.2.1
  have hown := X.2.2.2.2.2.2.1
  have hl : lv_has ls 2 [(0, .ref (aP 0)), (1, .ref (aP2 0))] := hl
  unfold MX3_copyFrom at hM
  refine lv_aload_n hx hb dX3_copyFrom_0 rfl (lv_at hl 1 rfl) ?_
  refine g_get X hW 4 rfl rfl inX3 0 (by decide) q_102 rfl dX3_copyFrom_1 ?_
  refine lv_iconst (v := (0 : Int32)) hx hb dX3_copyFrom_4 (by decide) ?_
  refine lv_aload_n hx hb dX3_copyFrom_5 rfl (lv_at hl 0 rfl) ?_
  refine g_get X hW 0 rfl rfl inX3 0 (by decide) q_102 rfl dX3_copyFrom_6 ?_
  refine lv_iconst (v := (0 : Int32)) hx hb dX3_copyFrom_9 (by decide) ?_
  refine lv_bipush (v := (9 : Int32)) hx hb dX3_copyFrom_10 (by decide) ?_
  refine g_copy X hl.1 hW q_412 q_414 q_413 q_68 5 1 rfl rfl (by decide) (N := 9) (by decide) (by decide) (by decide) [wPlan cI aP ((va_cpy P2.1 P.1 0 0 9), P.2), wPlan cI aP2 P2] rfl (Nat.le_of_ble_eq_true rfl) (Nat.le_of_ble_eq_true rfl) dX3_copyFrom_12 (fun H locs hW => ?_)
  refine lv_aload_n hx hb dX3_copyFrom_15 rfl (lv_at hl 1 rfl) ?_
  refine g_get X hW 4 rfl rfl inX3 1 (by decide) q_104 rfl dX3_copyFrom_16 ?_
  refine lv_iconst (v := (0 : Int32)) hx hb dX3_copyFrom_19 (by decide) ?_
  refine lv_aload_n hx hb dX3_copyFrom_20 rfl (lv_at hl 0 rfl) ?_
  refine g_get X hW 0 rfl rfl inX3 1 (by decide) q_104 rfl dX3_copyFrom_21 ?_
  refine lv_iconst (v := (0 : Int32)) hx hb dX3_copyFrom_24 (by decide) ?_
  refine lv_bipush (v := (9 : Int32)) hx hb dX3_copyFrom_25 (by decide) ?_
  refine g_copy X hl.1 hW q_412 q_414 q_413 q_68 6 2 rfl rfl (by decide) (N := 9) (by decide) (by decide) (by decide) [wPlan cI aP ((va_cpy P2.1 P.1 0 0 9), (va_cpy P2.2.1 P.2.1 0 0 9), P.2.2), wPlan cI aP2 P2] rfl (Nat.le_of_ble_eq_true rfl) (Nat.le_of_ble_eq_true rfl) dX3_copyFrom_27 (fun H locs hW => ?_)
  refine lv_aload_n hx hb dX3_copyFrom_30 rfl (lv_at hl 1 rfl) ?_
  refine g_get X hW 4 rfl rfl inX3 2 (by decide) q_106 rfl dX3_copyFrom_31 ?_
  refine lv_iconst (v := (0 : Int32)) hx hb dX3_copyFrom_34 (by decide) ?_
  refine lv_aload_n hx hb dX3_copyFrom_35 rfl (lv_at hl 0 rfl) ?_
  refine g_get X hW 0 rfl rfl inX3 2 (by decide) q_106 rfl dX3_copyFrom_36 ?_
  refine lv_iconst (v := (0 : Int32)) hx hb dX3_copyFrom_39 (by decide) ?_
  refine lv_bipush (v := (9 : Int32)) hx hb dX3_copyFrom_40 (by decide) ?_
  refine g_copy X hl.1 hW q_412 q_414 q_413 q_68 7 3 rfl rfl (by decide) (N := 9) (by decide) (by decide) (by decide) [wPlan cI aP ((va_cpy P2.1 P.1 0 0 9), (va_cpy P2.2.1 P.2.1 0 0 9), (va_cpy P2.2.2.1 P.2.2.1 0 0 9), P.2.2.2), wPlan cI aP2 P2] rfl (Nat.le_of_ble_eq_true rfl) (Nat.le_of_ble_eq_true rfl) dX3_copyFrom_42 (fun H locs hW => ?_)
  refine lv_aload_n hx hb dX3_copyFrom_45 rfl (lv_at hl 0 rfl) ?_
  refine lv_aload_n hx hb dX3_copyFrom_46 rfl (lv_at hl 1 rfl) ?_
  refine g_get X hW 4 rfl rfl inX3 3 (by decide) q_107 rfl dX3_copyFrom_47 ?_
  refine g_put X hW 0 rfl rfl inX3 tyX3 tyX3_ok nmX3 3 (by decide) q_107 rfl rfl (Nat.le_of_ble_eq_true rfl) [wPlan cI aP ((va_cpy P2.1 P.1 0 0 9), (va_cpy P2.2.1 P.2.1 0 0 9), (va_cpy P2.2.2.1 P.2.2.1 0 0 9), P2.2.2.2.1, P.2.2.2.2), wPlan cI aP2 P2] rfl dX3_copyFrom_50 (fun H locs hW => ?_)
  refine lv_aload_n hx hb dX3_copyFrom_53 rfl (lv_at hl 0 rfl) ?_
  refine lv_aload_n hx hb dX3_copyFrom_54 rfl (lv_at hl 1 rfl) ?_
  refine g_get X hW 4 rfl rfl inX3 4 (by decide) q_112 rfl dX3_copyFrom_55 ?_
  refine g_put X hW 0 rfl rfl inX3 tyX3 tyX3_ok nmX3 4 (by decide) q_112 rfl rfl (Nat.le_of_ble_eq_true rfl) [wPlan cI aP ((va_cpy P2.1 P.1 0 0 9), (va_cpy P2.2.1 P.2.1 0 0 9), (va_cpy P2.2.2.1 P.2.2.1 0 0 9), P2.2.2.2.1, P2.2.2.2.2.1, P.2.2.2.2.2), wPlan cI aP2 P2] rfl dX3_copyFrom_58 (fun H locs hW => ?_)
  refine lv_aload_n hx hb dX3_copyFrom_61 rfl (lv_at hl 0 rfl) ?_
  refine lv_aload_n hx hb dX3_copyFrom_62 rfl (lv_at hl 1 rfl) ?_
  refine g_get X hW 4 rfl rfl inX3 5 (by decide) q_113 rfl dX3_copyFrom_63 ?_
  refine g_put X hW 0 rfl rfl inX3 tyX3 tyX3_ok nmX3 5 (by decide) q_113 rfl rfl (Nat.le_of_ble_eq_true rfl) [wPlan cI aP ((va_cpy P2.1 P.1 0 0 9), (va_cpy P2.2.1 P.2.1 0 0 9), (va_cpy P2.2.2.1 P.2.2.1 0 0 9), P2.2.2.2.1, P2.2.2.2.2.1, P2.2.2.2.2.2.1, P.2.2.2.2.2.2), wPlan cI aP2 P2] rfl dX3_copyFrom_66 (fun H locs hW => ?_)
  refine lv_aload_n hx hb dX3_copyFrom_69 rfl (lv_at hl 0 rfl) ?_
  refine lv_aload_n hx hb dX3_copyFrom_70 rfl (lv_at hl 1 rfl) ?_
  refine g_get X hW 4 rfl rfl inX3 6 (by decide) q_115 rfl dX3_copyFrom_71 ?_
  refine g_put X hW 0 rfl rfl inX3 tyX3 tyX3_ok nmX3 6 (by decide) q_115 rfl rfl (Nat.le_of_ble_eq_true rfl) [wPlan cI aP ((va_cpy P2.1 P.1 0 0 9), (va_cpy P2.2.1 P.2.1 0 0 9), (va_cpy P2.2.2.1 P.2.2.1 0 0 9), P2.2.2.2.1, P2.2.2.2.2.1, P2.2.2.2.2.2.1, P2.2.2.2.2.2.2), wPlan cI aP2 P2] rfl dX3_copyFrom_74 (fun H locs hW => ?_)
  obtain rfl := Option.some.inj hM
  exact g_retv X hW dX3_copyFrom_77

def MX3_howManyOf_j37 (x2_37 : Int32) : Option (Int32) :=
  some (x2_37)
def MX3_howManyOf_j31 (x3_4 : Int32) (rc4 : (Int32 → Int32 → Option (Int32))) (x2_31 : Int32) : Option (Int32) :=
  rc4 x2_31 (x3_4 + (1 : Int32))
def MX3_howManyOf_l4 (P : PlanV) (p1 : Int32) : Nat → Int32 → Int32 → Option (Int32)
  | 0, _, _ => none
  | n4 + 1, x2_4, x3_4 =>
    if P.2.2.2.1 ≤ x3_4 then (MX3_howManyOf_j37 x2_4) else (if (9 : Int32) ≤ x3_4 then (MX3_howManyOf_j37 x2_4) else MG x3_4 9 (if (P.2.2.1 x3_4.toNatClampNeg) = p1 then (MX3_howManyOf_j31 x3_4 (MX3_howManyOf_l4 P p1 n4) (x2_4 + (1 : Int32))) else (MX3_howManyOf_j31 x3_4 (MX3_howManyOf_l4 P p1 n4) x2_4)))
def MX3_howManyOf (N : Nat) (P : PlanV) (p1 : Int32) : Option (Int32) :=
  MX3_howManyOf_l4 P p1 N (0 : Int32) (0 : Int32)
set_option maxHeartbeats 4000000 in
set_option maxRecDepth 100000 in
theorem c_X3_howManyOf (l : Launch) (G : va_G) (cI cZ cL : ClassId) (N : Nat) (aP : Nat → Nat) (P : PlanV) (p1 : Int32) (rr : Int32) (hM : MX3_howManyOf N P p1 = some rr) : CtI l yX3_howManyOf cX3_howManyOf 4 .int 0 0 G cI cZ cL [.ref (aP 0), .int p1] [wPlan cI aP P] rr [wPlan cI aP P] := by
  refine ct_body (fun A => qI G rr [wPlan cI aP P] A) (by decide) (Nat.le_of_ble_eq_true rfl) (fun p e s m below meth c A ls X hW hl => ?_)
  have hx := X.1
  have hb := X.2.1
  have hts := X.2.2.2.2.2.1
  have hown := X.2.2.2.2.2.2.1
  have hl : lv_has ls 4 [(0, .ref (aP 0)), (1, .int p1)] := hl
  unfold MX3_howManyOf at hM
  refine lv_iconst (v := (0 : Int32)) hx hb dX3_howManyOf_0 (by decide) ?_
  refine lv_istore_n (lv' := [(2, .int (0 : Int32)), (0, .ref (aP 0)), (1, .int p1)]) hx hb dX3_howManyOf_1 rfl hl (by decide) rfl (fun ls hl => ?_)
  refine lv_iconst (v := (0 : Int32)) hx hb dX3_howManyOf_2 (by decide) ?_
  refine lv_istore_n (lv' := [(3, .int (0 : Int32)), (2, .int (0 : Int32)), (0, .ref (aP 0)), (1, .int p1)]) hx hb dX3_howManyOf_3 rfl hl (by decide) rfl (fun ls hl => ?_)
  have j37 : ∀ (x2_37 : Int32) (H : Heap) (locs : List Loc) (ls : Array Slot), Wd G A s [wPlan cI aP P] H locs → lv_has ls 4 [(2, .int x2_37)] → MX3_howManyOf_j37 x2_37 = some rr → W p l e (rmO 0 0) s m ([.ref (aP 0), .int p1] : List Value).toArray below meth c H locs 0 0 (MQ below (qI G rr [wPlan cI aP P] A) ([.ref (aP 0), .int p1] : List Value).toArray s 0 0 A) (F0 m 37 ls []) := by
    intro x2_37 H locs ls hW hl hM
    unfold MX3_howManyOf_j37 at hM
    refine lv_iload_n hx hb dX3_howManyOf_37 rfl (lv_at hl 0 rfl) ?_
    obtain rfl := Option.some.inj hM
    exact g_reti X hW rfl rfl dX3_howManyOf_38
  have lp4 : ∀ (n4 : Nat) (x2_4 : Int32) (x3_4 : Int32) (H : Heap) (locs : List Loc) (ls : Array Slot), Wd G A s [wPlan cI aP P] H locs → lv_has ls 4 [(0, .ref (aP 0)), (1, .int p1), (2, .int x2_4), (3, .int x3_4)] → MX3_howManyOf_l4 P p1 n4 x2_4 x3_4 = some rr → W p l e (rmO 0 0) s m ([.ref (aP 0), .int p1] : List Value).toArray below meth c H locs 0 0 (MQ below (qI G rr [wPlan cI aP P] A) ([.ref (aP 0), .int p1] : List Value).toArray s 0 0 A) (F0 m 4 ls []) := by
    intro n4
    induction n4 with
    | zero =>
      intro x2_4 x3_4 H locs ls hW hl hM
      rw [MX3_howManyOf_l4] at hM
      cases hM
    | succ n4 ih4 =>
      intro x2_4 x3_4 H locs ls hW hl hM
      rw [MX3_howManyOf_l4] at hM
      refine lv_iload_n hx hb dX3_howManyOf_4 rfl (lv_at hl 3 rfl) ?_
      refine lv_aload_n hx hb dX3_howManyOf_5 rfl (lv_at hl 0 rfl) ?_
      refine g_get X hW 0 rfl rfl inX3 3 (by decide) q_107 rfl dX3_howManyOf_6 ?_
      refine lv_icmp_ge (tgt := 37) hx hb dX3_howManyOf_9 (by decide) (fun hc => ?_) (fun hc => ?_)
      · have hM := (if_pos hc).symm.trans hM
        exact j37 x2_4 _ _ _ hW (lv_sub hl [2] rfl) hM
      · have hM := (if_neg hc).symm.trans hM
        refine lv_iload_n hx hb dX3_howManyOf_12 rfl (lv_at hl 3 rfl) ?_
        refine lv_bipush (v := (9 : Int32)) hx hb dX3_howManyOf_13 (by decide) ?_
        refine lv_icmp_ge (tgt := 37) hx hb dX3_howManyOf_15 (by decide) (fun hc => ?_) (fun hc => ?_)
        · have hM := (if_pos hc).symm.trans hM
          exact j37 x2_4 _ _ _ hW (lv_sub hl [2] rfl) hM
        · have hM := (if_neg hc).symm.trans hM
          refine lv_aload_n hx hb dX3_howManyOf_18 rfl (lv_at hl 0 rfl) ?_
          refine g_get X hW 0 rfl rfl inX3 2 (by decide) q_106 rfl dX3_howManyOf_19 ?_
          refine lv_iload_n hx hb dX3_howManyOf_22 rfl (lv_at hl 3 rfl) ?_
          obtain ⟨hi23, hM⟩ := MG_some hM
          refine g_ald X hW 3 rfl hi23 dX3_howManyOf_23 ?_
          refine lv_iload_n hx hb dX3_howManyOf_24 rfl (lv_at hl 1 rfl) ?_
          have j31 : ∀ (x2_31 : Int32) (H : Heap) (locs : List Loc) (ls : Array Slot), Wd G A s [wPlan cI aP P] H locs → lv_has ls 4 [(0, .ref (aP 0)), (1, .int p1), (2, .int x2_31), (3, .int x3_4)] → MX3_howManyOf_j31 x3_4 (MX3_howManyOf_l4 P p1 n4) x2_31 = some rr → W p l e (rmO 0 0) s m ([.ref (aP 0), .int p1] : List Value).toArray below meth c H locs 0 0 (MQ below (qI G rr [wPlan cI aP P] A) ([.ref (aP 0), .int p1] : List Value).toArray s 0 0 A) (F0 m 31 ls []) := by
            intro x2_31 H locs ls hW hl hM
            unfold MX3_howManyOf_j31 at hM
            refine lv_iinc (v := x3_4 + (1 : Int32)) (lv' := [(3, .int (x3_4 + (1 : Int32))), (0, .ref (aP 0)), (1, .int p1), (2, .int x2_31)]) hx hb dX3_howManyOf_31 hl (k := 3) rfl rfl (by decide) rfl (fun ls hl => ?_)
            refine lv_goto (tgt := 4) hx hb dX3_howManyOf_34 (by decide) ?_
            exact ih4 x2_31 (x3_4 + (1 : Int32)) _ _ _ hW (lv_sub hl [1, 2, 3, 0] rfl) hM
          refine lv_icmp_ne (tgt := 31) hx hb dX3_howManyOf_25 (by decide) (fun hc => ?_) (fun hc => ?_)
          · have hM := (if_neg hc).symm.trans hM
            exact j31 x2_4 _ _ _ hW (lv_sub hl [0, 1, 2, 3] rfl) hM
          · have hM := (if_pos hc).symm.trans hM
            refine lv_iinc (v := x2_4 + (1 : Int32)) (lv' := [(2, .int (x2_4 + (1 : Int32))), (0, .ref (aP 0)), (1, .int p1), (3, .int x3_4)]) hx hb dX3_howManyOf_28 hl (k := 2) rfl rfl (by decide) rfl (fun ls hl => ?_)
            exact j31 (x2_4 + (1 : Int32)) _ _ _ hW (lv_sub hl [1, 2, 0, 3] rfl) hM
  exact lp4 N (0 : Int32) (0 : Int32) _ _ _ hW (lv_sub hl [2, 3, 1, 0] rfl) hM

def MX3_addPerson_j43 (P : PlanV) (p1 : Int32) (p2 : Int32) (p3 : Int32) : Option (Int32 × (Nat → Int32) × (Nat → Int32) × (Nat → Int32) × Int32) :=
  MG P.2.2.2.1 9 (MG P.2.2.2.1 9 (MG P.2.2.2.1 9 (some ((1 : Int32), (upd P.1 P.2.2.2.1.toNatClampNeg p1), (upd P.2.1 P.2.2.2.1.toNatClampNeg p2), (upd P.2.2.1 P.2.2.2.1.toNatClampNeg p3), (P.2.2.2.1 + (1 : Int32))))))
def MX3_addPerson (N : Nat) (P : PlanV) (p1 : Int32) (p2 : Int32) (p3 : Int32) : Option (Int32 × (Nat → Int32) × (Nat → Int32) × (Nat → Int32) × Int32) :=
  if P.2.2.2.1 < 0 then some ((0 : Int32), P.1, P.2.1, P.2.2.1, P.2.2.2.1) else (if (9 : Int32) ≤ P.2.2.2.1 then some ((0 : Int32), P.1, P.2.1, P.2.2.1, P.2.2.2.1) else (if (4 : Int32) ≤ p1 then some ((0 : Int32), P.1, P.2.1, P.2.2.1, P.2.2.2.1) else (if p3 ≤ (4 : Int32) then (if p3 = 0 then (MX3_addPerson_j43 P p1 p2 p3) else ((MX3_howManyOf N P p3).bind (fun u34 => if u34 < (5 : Int32) then (MX3_addPerson_j43 P p1 p2 p3) else some ((0 : Int32), P.1, P.2.1, P.2.2.1, P.2.2.2.1)))) else some ((0 : Int32), P.1, P.2.1, P.2.2.1, P.2.2.2.1))))
set_option maxHeartbeats 4000000 in
set_option maxRecDepth 100000 in
theorem c_X3_addPerson (l : Launch) (G : va_G) (cI cZ cL : ClassId) (N : Nat) (aP : Nat → Nat) (P : PlanV) (p1 : Int32) (p2 : Int32) (p3 : Int32) (rr : Int32 × (Nat → Int32) × (Nat → Int32) × (Nat → Int32) × Int32) (hM : MX3_addPerson N P p1 p2 p3 = some rr) : CtI l yX3_addPerson cX3_addPerson 4 .boolean 1 23 G cI cZ cL [.ref (aP 0), .int p1, .int p2, .int p3] [wPlan cI aP P] rr.1 [wPlan cI aP (rr.2.1, rr.2.2.1, rr.2.2.2.1, rr.2.2.2.2, P.2.2.2.2)] := by
  refine ct_body (fun A => qI G rr.1 [wPlan cI aP (rr.2.1, rr.2.2.1, rr.2.2.2.1, rr.2.2.2.2, P.2.2.2.2)] A) (by decide) (Nat.le_of_ble_eq_true rfl) (fun p e s m below meth c A ls X hW hl => ?_)
  have hx := X.1
  have hb := X.2.1
  have hts := X.2.2.2.2.2.1
  have hown := X.2.2.2.2.2.2.1
  have hl : lv_has ls 4 [(0, .ref (aP 0)), (1, .int p1), (2, .int p2), (3, .int p3)] := hl
  unfold MX3_addPerson at hM
  refine lv_aload_n hx hb dX3_addPerson_0 rfl (lv_at hl 0 rfl) ?_
  refine g_get X hW 0 rfl rfl inX3 3 (by decide) q_107 rfl dX3_addPerson_1 ?_
  refine lv_if_lt (tgt := 26) hx hb dX3_addPerson_4 (by decide) (fun hc => ?_) (fun hc => ?_)
  · have hM := (if_pos hc).symm.trans hM
    refine lv_iconst (v := (0 : Int32)) hx hb dX3_addPerson_26 (by decide) ?_
    obtain rfl := Option.some.inj hM
    exact g_reti X hW rfl rfl dX3_addPerson_27
  · have hM := (if_neg hc).symm.trans hM
    refine lv_aload_n hx hb dX3_addPerson_7 rfl (lv_at hl 0 rfl) ?_
    refine g_get X hW 0 rfl rfl inX3 3 (by decide) q_107 rfl dX3_addPerson_8 ?_
    refine lv_bipush (v := (9 : Int32)) hx hb dX3_addPerson_11 (by decide) ?_
    refine lv_icmp_ge (tgt := 26) hx hb dX3_addPerson_13 (by decide) (fun hc => ?_) (fun hc => ?_)
    · have hM := (if_pos hc).symm.trans hM
      refine lv_iconst (v := (0 : Int32)) hx hb dX3_addPerson_26 (by decide) ?_
      obtain rfl := Option.some.inj hM
      exact g_reti X hW rfl rfl dX3_addPerson_27
    · have hM := (if_neg hc).symm.trans hM
      refine lv_iload_n hx hb dX3_addPerson_16 rfl (lv_at hl 1 rfl) ?_
      refine lv_iconst (v := (4 : Int32)) hx hb dX3_addPerson_17 (by decide) ?_
      refine lv_icmp_ge (tgt := 26) hx hb dX3_addPerson_18 (by decide) (fun hc => ?_) (fun hc => ?_)
      · have hM := (if_pos hc).symm.trans hM
        refine lv_iconst (v := (0 : Int32)) hx hb dX3_addPerson_26 (by decide) ?_
        obtain rfl := Option.some.inj hM
        exact g_reti X hW rfl rfl dX3_addPerson_27
      · have hM := (if_neg hc).symm.trans hM
        refine lv_iload_n hx hb dX3_addPerson_21 rfl (lv_at hl 3 rfl) ?_
        refine lv_iconst (v := (4 : Int32)) hx hb dX3_addPerson_22 (by decide) ?_
        refine lv_icmp_le (tgt := 28) hx hb dX3_addPerson_23 (by decide) (fun hc => ?_) (fun hc => ?_)
        · have hM := (if_pos hc).symm.trans hM
          refine lv_iload_n hx hb dX3_addPerson_28 rfl (lv_at hl 3 rfl) ?_
          have j43 : ∀ (H : Heap) (locs : List Loc) (ls : Array Slot), Wd G A s [wPlan cI aP P] H locs → lv_has ls 4 [(0, .ref (aP 0)), (1, .int p1), (2, .int p2), (3, .int p3)] → MX3_addPerson_j43 P p1 p2 p3 = some rr → W p l e (rmO 1 23) s m ([.ref (aP 0), .int p1, .int p2, .int p3] : List Value).toArray below meth c H locs 0 0 (MQ below (qI G rr.1 [wPlan cI aP (rr.2.1, rr.2.2.1, rr.2.2.2.1, rr.2.2.2.2, P.2.2.2.2)] A) ([.ref (aP 0), .int p1, .int p2, .int p3] : List Value).toArray s 0 0 A) (F0 m 43 ls []) := by
            intro H locs ls hW hl hM
            unfold MX3_addPerson_j43 at hM
            refine lv_aload_n hx hb dX3_addPerson_43 rfl (lv_at hl 0 rfl) ?_
            refine g_get X hW 0 rfl rfl inX3 0 (by decide) q_102 rfl dX3_addPerson_44 ?_
            refine lv_aload_n hx hb dX3_addPerson_47 rfl (lv_at hl 0 rfl) ?_
            refine g_get X hW 0 rfl rfl inX3 3 (by decide) q_107 rfl dX3_addPerson_48 ?_
            refine lv_iload_n hx hb dX3_addPerson_51 rfl (lv_at hl 1 rfl) ?_
            obtain ⟨hi52, hM⟩ := MG_some hM
            refine g_ast X hW 1 rfl hi52 [wPlan cI aP ((upd P.1 P.2.2.2.1.toNatClampNeg p1), P.2)] rfl dX3_addPerson_52 (fun H locs hW => ?_)
            refine lv_aload_n hx hb dX3_addPerson_53 rfl (lv_at hl 0 rfl) ?_
            refine g_get X hW 0 rfl rfl inX3 1 (by decide) q_104 rfl dX3_addPerson_54 ?_
            refine lv_aload_n hx hb dX3_addPerson_57 rfl (lv_at hl 0 rfl) ?_
            refine g_get X hW 0 rfl rfl inX3 3 (by decide) q_107 rfl dX3_addPerson_58 ?_
            refine lv_iload_n hx hb dX3_addPerson_61 rfl (lv_at hl 2 rfl) ?_
            obtain ⟨hi62, hM⟩ := MG_some hM
            refine g_ast X hW 2 rfl hi62 [wPlan cI aP ((upd P.1 P.2.2.2.1.toNatClampNeg p1), (upd P.2.1 P.2.2.2.1.toNatClampNeg p2), P.2.2)] rfl dX3_addPerson_62 (fun H locs hW => ?_)
            refine lv_aload_n hx hb dX3_addPerson_63 rfl (lv_at hl 0 rfl) ?_
            refine g_get X hW 0 rfl rfl inX3 2 (by decide) q_106 rfl dX3_addPerson_64 ?_
            refine lv_aload_n hx hb dX3_addPerson_67 rfl (lv_at hl 0 rfl) ?_
            refine g_get X hW 0 rfl rfl inX3 3 (by decide) q_107 rfl dX3_addPerson_68 ?_
            refine lv_iload_n hx hb dX3_addPerson_71 rfl (lv_at hl 3 rfl) ?_
            obtain ⟨hi72, hM⟩ := MG_some hM
            refine g_ast X hW 3 rfl hi72 [wPlan cI aP ((upd P.1 P.2.2.2.1.toNatClampNeg p1), (upd P.2.1 P.2.2.2.1.toNatClampNeg p2), (upd P.2.2.1 P.2.2.2.1.toNatClampNeg p3), P.2.2.2)] rfl dX3_addPerson_72 (fun H locs hW => ?_)
            refine lv_aload_n hx hb dX3_addPerson_73 rfl (lv_at hl 0 rfl) ?_
            refine lv_dup hx hb dX3_addPerson_74 rfl ?_
            refine g_get X hW 0 rfl rfl inX3 3 (by decide) q_107 rfl dX3_addPerson_75 ?_
            refine lv_iconst (v := (1 : Int32)) hx hb dX3_addPerson_78 (by decide) ?_
            refine lv_iadd hx hb dX3_addPerson_79 ?_
            refine g_put X hW 0 rfl rfl inX3 tyX3 tyX3_ok nmX3 3 (by decide) q_107 rfl rfl (Nat.le_of_ble_eq_true rfl) [wPlan cI aP ((upd P.1 P.2.2.2.1.toNatClampNeg p1), (upd P.2.1 P.2.2.2.1.toNatClampNeg p2), (upd P.2.2.1 P.2.2.2.1.toNatClampNeg p3), (P.2.2.2.1 + (1 : Int32)), P.2.2.2.2)] rfl dX3_addPerson_80 (fun H locs hW => ?_)
            refine lv_iconst (v := (1 : Int32)) hx hb dX3_addPerson_83 (by decide) ?_
            obtain rfl := Option.some.inj hM
            exact g_reti X hW rfl rfl dX3_addPerson_84
          refine lv_if_eq (tgt := 43) hx hb dX3_addPerson_29 (by decide) (fun hc => ?_) (fun hc => ?_)
          · have hM := (if_pos hc).symm.trans hM
            exact j43 _ _ _ hW (lv_sub hl [0, 1, 2, 3] rfl) hM
          · have hM := (if_neg hc).symm.trans hM
            refine lv_aload_n hx hb dX3_addPerson_32 rfl (lv_at hl 0 rfl) ?_
            refine lv_iload_n hx hb dX3_addPerson_33 rfl (lv_at hl 3 rfl) ?_
            obtain ⟨u34, hu34, hM⟩ := bind_some hM
            refine g_callVi (rest := []) (gr := []) X hl.1 hW (c_X3_howManyOf l G cI cZ cL N aP P p3 u34 hu34) q_353 q_350 q_352 q_5 q_56 hd_X3_howManyOf rfl ⟨Nat.le_of_ble_eq_true rfl, Nat.le_of_ble_eq_true rfl⟩ ⟨Nat.zero_le _, Nat.zero_le _⟩ [0] [] [wPlan cI aP P] ⟨pm_1_0, rfl, rfl, rfl⟩ ⟨pm_1_0, rfl, rfl, rfl⟩ (q0 := 0) rfl rfl rfl (Nat.le_of_ble_eq_true rfl) dX3_addPerson_34 (fun H locs hW => ?_)
            refine lv_iconst (v := (5 : Int32)) hx hb dX3_addPerson_37 (by decide) ?_
            refine lv_icmp_lt (tgt := 43) hx hb dX3_addPerson_38 (by decide) (fun hc => ?_) (fun hc => ?_)
            · have hM := (if_pos hc).symm.trans hM
              exact j43 _ _ _ hW (lv_sub hl [0, 1, 2, 3] rfl) hM
            · have hM := (if_neg hc).symm.trans hM
              refine lv_iconst (v := (0 : Int32)) hx hb dX3_addPerson_41 (by decide) ?_
              obtain rfl := Option.some.inj hM
              exact g_reti X hW rfl rfl dX3_addPerson_42
        · have hM := (if_neg hc).symm.trans hM
          refine lv_iconst (v := (0 : Int32)) hx hb dX3_addPerson_26 (by decide) ?_
          obtain rfl := Option.some.inj hM
          exact g_reti X hW rfl rfl dX3_addPerson_27

def MX3_setBaker (N : Nat) (P : PlanV) (p1 : Int32) (p2 : Int32) : Option (Int32 × Int32 × Int32) :=
  if p1 < (1 : Int32) then some ((0 : Int32), P.2.2.2.2.1, P.2.2.2.2.2.1) else (if (9 : Int32) < p1 then some ((0 : Int32), P.2.2.2.2.1, P.2.2.2.2.2.1) else (if p2 ≤ (40 : Int32) then some ((1 : Int32), p1, p2) else some ((0 : Int32), P.2.2.2.2.1, P.2.2.2.2.2.1)))
set_option maxHeartbeats 4000000 in
set_option maxRecDepth 100000 in
theorem c_X3_setBaker (l : Launch) (G : va_G) (cI cZ cL : ClassId) (N : Nat) (aP : Nat → Nat) (P : PlanV) (p1 : Int32) (p2 : Int32) (rr : Int32 × Int32 × Int32) (hM : MX3_setBaker N P p1 p2 = some rr) : CtI l yX3_setBaker cX3_setBaker 3 .boolean 0 0 G cI cZ cL [.ref (aP 0), .int p1, .int p2] [wPlan cI aP P] rr.1 [wPlan cI aP (P.1, P.2.1, P.2.2.1, P.2.2.2.1, rr.2.1, rr.2.2, P.2.2.2.2.2.2)] := by
  refine ct_body (fun A => qI G rr.1 [wPlan cI aP (P.1, P.2.1, P.2.2.1, P.2.2.2.1, rr.2.1, rr.2.2, P.2.2.2.2.2.2)] A) (by decide) (Nat.le_of_ble_eq_true rfl) (fun p e s m below meth c A ls X hW hl => ?_)
  have hx := X.1
  have hb := X.2.1
  have hts := X.2.2.2.2.2.1
  have hown := X.2.2.2.2.2.2.1
  have hl : lv_has ls 3 [(0, .ref (aP 0)), (1, .int p1), (2, .int p2)] := hl
  unfold MX3_setBaker at hM
  refine lv_iload_n hx hb dX3_setBaker_0 rfl (lv_at hl 1 rfl) ?_
  refine lv_iconst (v := (1 : Int32)) hx hb dX3_setBaker_1 (by decide) ?_
  refine lv_icmp_lt (tgt := 17) hx hb dX3_setBaker_2 (by decide) (fun hc => ?_) (fun hc => ?_)
  · have hM := (if_pos hc).symm.trans hM
    refine lv_iconst (v := (0 : Int32)) hx hb dX3_setBaker_17 (by decide) ?_
    obtain rfl := Option.some.inj hM
    exact g_reti X hW rfl rfl dX3_setBaker_18
  · have hM := (if_neg hc).symm.trans hM
    refine lv_iload_n hx hb dX3_setBaker_5 rfl (lv_at hl 1 rfl) ?_
    refine lv_bipush (v := (9 : Int32)) hx hb dX3_setBaker_6 (by decide) ?_
    refine lv_icmp_gt (tgt := 17) hx hb dX3_setBaker_8 (by decide) (fun hc => ?_) (fun hc => ?_)
    · have hM := (if_pos hc).symm.trans hM
      refine lv_iconst (v := (0 : Int32)) hx hb dX3_setBaker_17 (by decide) ?_
      obtain rfl := Option.some.inj hM
      exact g_reti X hW rfl rfl dX3_setBaker_18
    · have hM := (if_neg hc).symm.trans hM
      refine lv_iload_n hx hb dX3_setBaker_11 rfl (lv_at hl 2 rfl) ?_
      refine lv_bipush (v := (40 : Int32)) hx hb dX3_setBaker_12 (by decide) ?_
      refine lv_icmp_le (tgt := 19) hx hb dX3_setBaker_14 (by decide) (fun hc => ?_) (fun hc => ?_)
      · have hM := (if_pos hc).symm.trans hM
        refine lv_aload_n hx hb dX3_setBaker_19 rfl (lv_at hl 0 rfl) ?_
        refine lv_iload_n hx hb dX3_setBaker_20 rfl (lv_at hl 1 rfl) ?_
        refine g_put X hW 0 rfl rfl inX3 tyX3 tyX3_ok nmX3 4 (by decide) q_112 rfl rfl (Nat.le_of_ble_eq_true rfl) [wPlan cI aP (P.1, P.2.1, P.2.2.1, P.2.2.2.1, p1, P.2.2.2.2.2)] rfl dX3_setBaker_21 (fun H locs hW => ?_)
        refine lv_aload_n hx hb dX3_setBaker_24 rfl (lv_at hl 0 rfl) ?_
        refine lv_iload_n hx hb dX3_setBaker_25 rfl (lv_at hl 2 rfl) ?_
        refine g_put X hW 0 rfl rfl inX3 tyX3 tyX3_ok nmX3 5 (by decide) q_113 rfl rfl (Nat.le_of_ble_eq_true rfl) [wPlan cI aP (P.1, P.2.1, P.2.2.1, P.2.2.2.1, p1, p2, P.2.2.2.2.2.2)] rfl dX3_setBaker_26 (fun H locs hW => ?_)
        refine lv_iconst (v := (1 : Int32)) hx hb dX3_setBaker_29 (by decide) ?_
        obtain rfl := Option.some.inj hM
        exact g_reti X hW rfl rfl dX3_setBaker_30
      · have hM := (if_neg hc).symm.trans hM
        refine lv_iconst (v := (0 : Int32)) hx hb dX3_setBaker_17 (by decide) ?_
        obtain rfl := Option.some.inj hM
        exact g_reti X hW rfl rfl dX3_setBaker_18

def MX3_setRumour (N : Nat) (P : PlanV) (p1 : Int32) : Option (Int32 × Int32) :=
  if p1 < (2 : Int32) then some ((0 : Int32), P.2.2.2.2.2.2) else (if p1 ≤ (30 : Int32) then some ((1 : Int32), p1) else some ((0 : Int32), P.2.2.2.2.2.2))
set_option maxHeartbeats 4000000 in
set_option maxRecDepth 100000 in
theorem c_X3_setRumour (l : Launch) (G : va_G) (cI cZ cL : ClassId) (N : Nat) (aP : Nat → Nat) (P : PlanV) (p1 : Int32) (rr : Int32 × Int32) (hM : MX3_setRumour N P p1 = some rr) : CtI l yX3_setRumour cX3_setRumour 2 .boolean 0 0 G cI cZ cL [.ref (aP 0), .int p1] [wPlan cI aP P] rr.1 [wPlan cI aP (P.1, P.2.1, P.2.2.1, P.2.2.2.1, P.2.2.2.2.1, P.2.2.2.2.2.1, rr.2)] := by
  refine ct_body (fun A => qI G rr.1 [wPlan cI aP (P.1, P.2.1, P.2.2.1, P.2.2.2.1, P.2.2.2.2.1, P.2.2.2.2.2.1, rr.2)] A) (by decide) (Nat.le_of_ble_eq_true rfl) (fun p e s m below meth c A ls X hW hl => ?_)
  have hx := X.1
  have hb := X.2.1
  have hts := X.2.2.2.2.2.1
  have hown := X.2.2.2.2.2.2.1
  have hl : lv_has ls 2 [(0, .ref (aP 0)), (1, .int p1)] := hl
  unfold MX3_setRumour at hM
  refine lv_iload_n hx hb dX3_setRumour_0 rfl (lv_at hl 1 rfl) ?_
  refine lv_iconst (v := (2 : Int32)) hx hb dX3_setRumour_1 (by decide) ?_
  refine lv_icmp_lt (tgt := 11) hx hb dX3_setRumour_2 (by decide) (fun hc => ?_) (fun hc => ?_)
  · have hM := (if_pos hc).symm.trans hM
    refine lv_iconst (v := (0 : Int32)) hx hb dX3_setRumour_11 (by decide) ?_
    obtain rfl := Option.some.inj hM
    exact g_reti X hW rfl rfl dX3_setRumour_12
  · have hM := (if_neg hc).symm.trans hM
    refine lv_iload_n hx hb dX3_setRumour_5 rfl (lv_at hl 1 rfl) ?_
    refine lv_bipush (v := (30 : Int32)) hx hb dX3_setRumour_6 (by decide) ?_
    refine lv_icmp_le (tgt := 13) hx hb dX3_setRumour_8 (by decide) (fun hc => ?_) (fun hc => ?_)
    · have hM := (if_pos hc).symm.trans hM
      refine lv_aload_n hx hb dX3_setRumour_13 rfl (lv_at hl 0 rfl) ?_
      refine lv_iload_n hx hb dX3_setRumour_14 rfl (lv_at hl 1 rfl) ?_
      refine g_put X hW 0 rfl rfl inX3 tyX3 tyX3_ok nmX3 6 (by decide) q_115 rfl rfl (Nat.le_of_ble_eq_true rfl) [wPlan cI aP (P.1, P.2.1, P.2.2.1, P.2.2.2.1, P.2.2.2.2.1, P.2.2.2.2.2.1, p1)] rfl dX3_setRumour_15 (fun H locs hW => ?_)
      refine lv_iconst (v := (1 : Int32)) hx hb dX3_setRumour_18 (by decide) ?_
      obtain rfl := Option.some.inj hM
      exact g_reti X hW rfl rfl dX3_setRumour_19
    · have hM := (if_neg hc).symm.trans hM
      refine lv_iconst (v := (0 : Int32)) hx hb dX3_setRumour_11 (by decide) ?_
      obtain rfl := Option.some.inj hM
      exact g_reti X hW rfl rfl dX3_setRumour_12

def MX3_has_j16 : Option (Int32) :=
  some ((0 : Int32))
def MX3_has (N : Nat) (P : PlanV) (p1 : Int32) : Option (Int32) :=
  if p1 < 0 then (MX3_has_j16) else (if P.2.2.2.1 ≤ p1 then (MX3_has_j16) else some ((1 : Int32)))
set_option maxHeartbeats 4000000 in
set_option maxRecDepth 100000 in
theorem c_X3_has (l : Launch) (G : va_G) (cI cZ cL : ClassId) (N : Nat) (aP : Nat → Nat) (P : PlanV) (p1 : Int32) (rr : Int32) (hM : MX3_has N P p1 = some rr) : CtI l yX3_has cX3_has 2 .boolean 0 0 G cI cZ cL [.ref (aP 0), .int p1] [wPlan cI aP P] rr [wPlan cI aP P] := by
  refine ct_body (fun A => qI G rr [wPlan cI aP P] A) (by decide) (Nat.le_of_ble_eq_true rfl) (fun p e s m below meth c A ls X hW hl => ?_)
  have hx := X.1
  have hb := X.2.1
  have hts := X.2.2.2.2.2.1
  have hown := X.2.2.2.2.2.2.1
  have hl : lv_has ls 2 [(0, .ref (aP 0)), (1, .int p1)] := hl
  unfold MX3_has at hM
  refine lv_iload_n hx hb dX3_has_0 rfl (lv_at hl 1 rfl) ?_
  have j16 : ∀ (H : Heap) (locs : List Loc) (ls : Array Slot), Wd G A s [wPlan cI aP P] H locs → lv_has ls 2 [] → MX3_has_j16 = some rr → W p l e (rmO 0 0) s m ([.ref (aP 0), .int p1] : List Value).toArray below meth c H locs 0 0 (MQ below (qI G rr [wPlan cI aP P] A) ([.ref (aP 0), .int p1] : List Value).toArray s 0 0 A) (F0 m 16 ls []) := by
    intro H locs ls hW hl hM
    unfold MX3_has_j16 at hM
    refine lv_iconst (v := (0 : Int32)) hx hb dX3_has_16 (by decide) ?_
    obtain rfl := Option.some.inj hM
    exact g_reti X hW rfl rfl dX3_has_17
  refine lv_if_lt (tgt := 16) hx hb dX3_has_1 (by decide) (fun hc => ?_) (fun hc => ?_)
  · have hM := (if_pos hc).symm.trans hM
    exact j16 _ _ _ hW (lv_sub hl [] rfl) hM
  · have hM := (if_neg hc).symm.trans hM
    refine lv_iload_n hx hb dX3_has_4 rfl (lv_at hl 1 rfl) ?_
    refine lv_aload_n hx hb dX3_has_5 rfl (lv_at hl 0 rfl) ?_
    refine g_get X hW 0 rfl rfl inX3 3 (by decide) q_107 rfl dX3_has_6 ?_
    refine lv_icmp_ge (tgt := 16) hx hb dX3_has_9 (by decide) (fun hc => ?_) (fun hc => ?_)
    · have hM := (if_pos hc).symm.trans hM
      exact j16 _ _ _ hW (lv_sub hl [] rfl) hM
    · have hM := (if_neg hc).symm.trans hM
      refine lv_iconst (v := (1 : Int32)) hx hb dX3_has_12 (by decide) ?_
      refine lv_goto (tgt := 17) hx hb dX3_has_13 (by decide) ?_
      obtain rfl := Option.some.inj hM
      exact g_reti X hW rfl rfl dX3_has_17

def MX3_kindOf_j19 : Option (Int32) :=
  some ((0 : Int32))
def MX3_kindOf (N : Nat) (P : PlanV) (p1 : Int32) : Option (Int32) :=
  if p1 < 0 then (MX3_kindOf_j19) else (if (9 : Int32) ≤ p1 then (MX3_kindOf_j19) else MG p1 9 (some (P.1 p1.toNatClampNeg)))
set_option maxHeartbeats 4000000 in
set_option maxRecDepth 100000 in
theorem c_X3_kindOf (l : Launch) (G : va_G) (cI cZ cL : ClassId) (N : Nat) (aP : Nat → Nat) (P : PlanV) (p1 : Int32) (rr : Int32) (hM : MX3_kindOf N P p1 = some rr) : CtI l yX3_kindOf cX3_kindOf 2 .int 0 0 G cI cZ cL [.ref (aP 0), .int p1] [wPlan cI aP P] rr [wPlan cI aP P] := by
  refine ct_body (fun A => qI G rr [wPlan cI aP P] A) (by decide) (Nat.le_of_ble_eq_true rfl) (fun p e s m below meth c A ls X hW hl => ?_)
  have hx := X.1
  have hb := X.2.1
  have hts := X.2.2.2.2.2.1
  have hown := X.2.2.2.2.2.2.1
  have hl : lv_has ls 2 [(0, .ref (aP 0)), (1, .int p1)] := hl
  unfold MX3_kindOf at hM
  refine lv_iload_n hx hb dX3_kindOf_0 rfl (lv_at hl 1 rfl) ?_
  have j19 : ∀ (H : Heap) (locs : List Loc) (ls : Array Slot), Wd G A s [wPlan cI aP P] H locs → lv_has ls 2 [] → MX3_kindOf_j19 = some rr → W p l e (rmO 0 0) s m ([.ref (aP 0), .int p1] : List Value).toArray below meth c H locs 0 0 (MQ below (qI G rr [wPlan cI aP P] A) ([.ref (aP 0), .int p1] : List Value).toArray s 0 0 A) (F0 m 19 ls []) := by
    intro H locs ls hW hl hM
    unfold MX3_kindOf_j19 at hM
    refine lv_iconst (v := (0 : Int32)) hx hb dX3_kindOf_19 (by decide) ?_
    obtain rfl := Option.some.inj hM
    exact g_reti X hW rfl rfl dX3_kindOf_20
  refine lv_if_lt (tgt := 19) hx hb dX3_kindOf_1 (by decide) (fun hc => ?_) (fun hc => ?_)
  · have hM := (if_pos hc).symm.trans hM
    exact j19 _ _ _ hW (lv_sub hl [] rfl) hM
  · have hM := (if_neg hc).symm.trans hM
    refine lv_iload_n hx hb dX3_kindOf_4 rfl (lv_at hl 1 rfl) ?_
    refine lv_bipush (v := (9 : Int32)) hx hb dX3_kindOf_5 (by decide) ?_
    refine lv_icmp_ge (tgt := 19) hx hb dX3_kindOf_7 (by decide) (fun hc => ?_) (fun hc => ?_)
    · have hM := (if_pos hc).symm.trans hM
      exact j19 _ _ _ hW (lv_sub hl [] rfl) hM
    · have hM := (if_neg hc).symm.trans hM
      refine lv_aload_n hx hb dX3_kindOf_10 rfl (lv_at hl 0 rfl) ?_
      refine g_get X hW 0 rfl rfl inX3 0 (by decide) q_102 rfl dX3_kindOf_11 ?_
      refine lv_iload_n hx hb dX3_kindOf_14 rfl (lv_at hl 1 rfl) ?_
      obtain ⟨hi15, hM⟩ := MG_some hM
      refine g_ald X hW 1 rfl hi15 dX3_kindOf_15 ?_
      refine lv_goto (tgt := 20) hx hb dX3_kindOf_16 (by decide) ?_
      obtain rfl := Option.some.inj hM
      exact g_reti X hW rfl rfl dX3_kindOf_20

def MX3_comingOf_j19 : Option (Int32) :=
  some ((0 : Int32))
def MX3_comingOf (N : Nat) (P : PlanV) (p1 : Int32) : Option (Int32) :=
  if p1 < 0 then (MX3_comingOf_j19) else (if (9 : Int32) ≤ p1 then (MX3_comingOf_j19) else MG p1 9 (some (P.2.1 p1.toNatClampNeg)))
set_option maxHeartbeats 4000000 in
set_option maxRecDepth 100000 in
theorem c_X3_comingOf (l : Launch) (G : va_G) (cI cZ cL : ClassId) (N : Nat) (aP : Nat → Nat) (P : PlanV) (p1 : Int32) (rr : Int32) (hM : MX3_comingOf N P p1 = some rr) : CtI l yX3_comingOf cX3_comingOf 2 .int 0 0 G cI cZ cL [.ref (aP 0), .int p1] [wPlan cI aP P] rr [wPlan cI aP P] := by
  refine ct_body (fun A => qI G rr [wPlan cI aP P] A) (by decide) (Nat.le_of_ble_eq_true rfl) (fun p e s m below meth c A ls X hW hl => ?_)
  have hx := X.1
  have hb := X.2.1
  have hts := X.2.2.2.2.2.1
  have hown := X.2.2.2.2.2.2.1
  have hl : lv_has ls 2 [(0, .ref (aP 0)), (1, .int p1)] := hl
  unfold MX3_comingOf at hM
  refine lv_iload_n hx hb dX3_comingOf_0 rfl (lv_at hl 1 rfl) ?_
  have j19 : ∀ (H : Heap) (locs : List Loc) (ls : Array Slot), Wd G A s [wPlan cI aP P] H locs → lv_has ls 2 [] → MX3_comingOf_j19 = some rr → W p l e (rmO 0 0) s m ([.ref (aP 0), .int p1] : List Value).toArray below meth c H locs 0 0 (MQ below (qI G rr [wPlan cI aP P] A) ([.ref (aP 0), .int p1] : List Value).toArray s 0 0 A) (F0 m 19 ls []) := by
    intro H locs ls hW hl hM
    unfold MX3_comingOf_j19 at hM
    refine lv_iconst (v := (0 : Int32)) hx hb dX3_comingOf_19 (by decide) ?_
    obtain rfl := Option.some.inj hM
    exact g_reti X hW rfl rfl dX3_comingOf_20
  refine lv_if_lt (tgt := 19) hx hb dX3_comingOf_1 (by decide) (fun hc => ?_) (fun hc => ?_)
  · have hM := (if_pos hc).symm.trans hM
    exact j19 _ _ _ hW (lv_sub hl [] rfl) hM
  · have hM := (if_neg hc).symm.trans hM
    refine lv_iload_n hx hb dX3_comingOf_4 rfl (lv_at hl 1 rfl) ?_
    refine lv_bipush (v := (9 : Int32)) hx hb dX3_comingOf_5 (by decide) ?_
    refine lv_icmp_ge (tgt := 19) hx hb dX3_comingOf_7 (by decide) (fun hc => ?_) (fun hc => ?_)
    · have hM := (if_pos hc).symm.trans hM
      exact j19 _ _ _ hW (lv_sub hl [] rfl) hM
    · have hM := (if_neg hc).symm.trans hM
      refine lv_aload_n hx hb dX3_comingOf_10 rfl (lv_at hl 0 rfl) ?_
      refine g_get X hW 0 rfl rfl inX3 1 (by decide) q_104 rfl dX3_comingOf_11 ?_
      refine lv_iload_n hx hb dX3_comingOf_14 rfl (lv_at hl 1 rfl) ?_
      obtain ⟨hi15, hM⟩ := MG_some hM
      refine g_ald X hW 2 rfl hi15 dX3_comingOf_15 ?_
      refine lv_goto (tgt := 20) hx hb dX3_comingOf_16 (by decide) ?_
      obtain rfl := Option.some.inj hM
      exact g_reti X hW rfl rfl dX3_comingOf_20

def MX3_kinOf_j19 : Option (Int32) :=
  some ((0 : Int32))
def MX3_kinOf (N : Nat) (P : PlanV) (p1 : Int32) : Option (Int32) :=
  if p1 < 0 then (MX3_kinOf_j19) else (if (9 : Int32) ≤ p1 then (MX3_kinOf_j19) else MG p1 9 (some (P.2.2.1 p1.toNatClampNeg)))
set_option maxHeartbeats 4000000 in
set_option maxRecDepth 100000 in
theorem c_X3_kinOf (l : Launch) (G : va_G) (cI cZ cL : ClassId) (N : Nat) (aP : Nat → Nat) (P : PlanV) (p1 : Int32) (rr : Int32) (hM : MX3_kinOf N P p1 = some rr) : CtI l yX3_kinOf cX3_kinOf 2 .int 0 0 G cI cZ cL [.ref (aP 0), .int p1] [wPlan cI aP P] rr [wPlan cI aP P] := by
  refine ct_body (fun A => qI G rr [wPlan cI aP P] A) (by decide) (Nat.le_of_ble_eq_true rfl) (fun p e s m below meth c A ls X hW hl => ?_)
  have hx := X.1
  have hb := X.2.1
  have hts := X.2.2.2.2.2.1
  have hown := X.2.2.2.2.2.2.1
  have hl : lv_has ls 2 [(0, .ref (aP 0)), (1, .int p1)] := hl
  unfold MX3_kinOf at hM
  refine lv_iload_n hx hb dX3_kinOf_0 rfl (lv_at hl 1 rfl) ?_
  have j19 : ∀ (H : Heap) (locs : List Loc) (ls : Array Slot), Wd G A s [wPlan cI aP P] H locs → lv_has ls 2 [] → MX3_kinOf_j19 = some rr → W p l e (rmO 0 0) s m ([.ref (aP 0), .int p1] : List Value).toArray below meth c H locs 0 0 (MQ below (qI G rr [wPlan cI aP P] A) ([.ref (aP 0), .int p1] : List Value).toArray s 0 0 A) (F0 m 19 ls []) := by
    intro H locs ls hW hl hM
    unfold MX3_kinOf_j19 at hM
    refine lv_iconst (v := (0 : Int32)) hx hb dX3_kinOf_19 (by decide) ?_
    obtain rfl := Option.some.inj hM
    exact g_reti X hW rfl rfl dX3_kinOf_20
  refine lv_if_lt (tgt := 19) hx hb dX3_kinOf_1 (by decide) (fun hc => ?_) (fun hc => ?_)
  · have hM := (if_pos hc).symm.trans hM
    exact j19 _ _ _ hW (lv_sub hl [] rfl) hM
  · have hM := (if_neg hc).symm.trans hM
    refine lv_iload_n hx hb dX3_kinOf_4 rfl (lv_at hl 1 rfl) ?_
    refine lv_bipush (v := (9 : Int32)) hx hb dX3_kinOf_5 (by decide) ?_
    refine lv_icmp_ge (tgt := 19) hx hb dX3_kinOf_7 (by decide) (fun hc => ?_) (fun hc => ?_)
    · have hM := (if_pos hc).symm.trans hM
      exact j19 _ _ _ hW (lv_sub hl [] rfl) hM
    · have hM := (if_neg hc).symm.trans hM
      refine lv_aload_n hx hb dX3_kinOf_10 rfl (lv_at hl 0 rfl) ?_
      refine g_get X hW 0 rfl rfl inX3 2 (by decide) q_106 rfl dX3_kinOf_11 ?_
      refine lv_iload_n hx hb dX3_kinOf_14 rfl (lv_at hl 1 rfl) ?_
      obtain ⟨hi15, hM⟩ := MG_some hM
      refine g_ald X hW 3 rfl hi15 dX3_kinOf_15 ?_
      refine lv_goto (tgt := 20) hx hb dX3_kinOf_16 (by decide) ?_
      obtain rfl := Option.some.inj hM
      exact g_reti X hW rfl rfl dX3_kinOf_20

def MX3_setKind (N : Nat) (P : PlanV) (p1 : Int32) (p2 : Int32) : Option ((Nat → Int32)) :=
  if p1 < 0 then some (P.1) else (if (9 : Int32) ≤ p1 then some (P.1) else MG p1 9 (some ((upd P.1 p1.toNatClampNeg p2))))
set_option maxHeartbeats 4000000 in
set_option maxRecDepth 100000 in
theorem c_X3_setKind (l : Launch) (G : va_G) (cI cZ cL : ClassId) (N : Nat) (aP : Nat → Nat) (P : PlanV) (p1 : Int32) (p2 : Int32) (rr : (Nat → Int32)) (hM : MX3_setKind N P p1 p2 = some rr) : CtV l yX3_setKind cX3_setKind 3 0 0 G cI cZ cL [.ref (aP 0), .int p1, .int p2] [wPlan cI aP P] [wPlan cI aP (rr, P.2)] := by
  refine ct_body (fun A => qV G [wPlan cI aP (rr, P.2)] A) (by decide) (Nat.le_of_ble_eq_true rfl) (fun p e s m below meth c A ls X hW hl => ?_)
  have hx := X.1
  have hb := X.2.1
  have hts := X.2.2.2.2.2.1
  have hown := X.2.2.2.2.2.2.1
  have hl : lv_has ls 3 [(0, .ref (aP 0)), (1, .int p1), (2, .int p2)] := hl
  unfold MX3_setKind at hM
  refine lv_iload_n hx hb dX3_setKind_0 rfl (lv_at hl 1 rfl) ?_
  refine lv_if_lt (tgt := 17) hx hb dX3_setKind_1 (by decide) (fun hc => ?_) (fun hc => ?_)
  · have hM := (if_pos hc).symm.trans hM
    obtain rfl := Option.some.inj hM
    exact g_retv X hW dX3_setKind_17
  · have hM := (if_neg hc).symm.trans hM
    refine lv_iload_n hx hb dX3_setKind_4 rfl (lv_at hl 1 rfl) ?_
    refine lv_bipush (v := (9 : Int32)) hx hb dX3_setKind_5 (by decide) ?_
    refine lv_icmp_ge (tgt := 17) hx hb dX3_setKind_7 (by decide) (fun hc => ?_) (fun hc => ?_)
    · have hM := (if_pos hc).symm.trans hM
      obtain rfl := Option.some.inj hM
      exact g_retv X hW dX3_setKind_17
    · have hM := (if_neg hc).symm.trans hM
      refine lv_aload_n hx hb dX3_setKind_10 rfl (lv_at hl 0 rfl) ?_
      refine g_get X hW 0 rfl rfl inX3 0 (by decide) q_102 rfl dX3_setKind_11 ?_
      refine lv_iload_n hx hb dX3_setKind_14 rfl (lv_at hl 1 rfl) ?_
      refine lv_iload_n hx hb dX3_setKind_15 rfl (lv_at hl 2 rfl) ?_
      obtain ⟨hi16, hM⟩ := MG_some hM
      refine g_ast X hW 1 rfl hi16 [wPlan cI aP ((upd P.1 p1.toNatClampNeg p2), P.2)] rfl dX3_setKind_16 (fun H locs hW => ?_)
      obtain rfl := Option.some.inj hM
      exact g_retv X hW dX3_setKind_17

def MX3_setComing (N : Nat) (P : PlanV) (p1 : Int32) (p2 : Int32) : Option ((Nat → Int32)) :=
  if p1 < 0 then some (P.2.1) else (if (9 : Int32) ≤ p1 then some (P.2.1) else MG p1 9 (some ((upd P.2.1 p1.toNatClampNeg p2))))
set_option maxHeartbeats 4000000 in
set_option maxRecDepth 100000 in
theorem c_X3_setComing (l : Launch) (G : va_G) (cI cZ cL : ClassId) (N : Nat) (aP : Nat → Nat) (P : PlanV) (p1 : Int32) (p2 : Int32) (rr : (Nat → Int32)) (hM : MX3_setComing N P p1 p2 = some rr) : CtV l yX3_setComing cX3_setComing 3 0 0 G cI cZ cL [.ref (aP 0), .int p1, .int p2] [wPlan cI aP P] [wPlan cI aP (P.1, rr, P.2.2)] := by
  refine ct_body (fun A => qV G [wPlan cI aP (P.1, rr, P.2.2)] A) (by decide) (Nat.le_of_ble_eq_true rfl) (fun p e s m below meth c A ls X hW hl => ?_)
  have hx := X.1
  have hb := X.2.1
  have hts := X.2.2.2.2.2.1
  have hown := X.2.2.2.2.2.2.1
  have hl : lv_has ls 3 [(0, .ref (aP 0)), (1, .int p1), (2, .int p2)] := hl
  unfold MX3_setComing at hM
  refine lv_iload_n hx hb dX3_setComing_0 rfl (lv_at hl 1 rfl) ?_
  refine lv_if_lt (tgt := 17) hx hb dX3_setComing_1 (by decide) (fun hc => ?_) (fun hc => ?_)
  · have hM := (if_pos hc).symm.trans hM
    obtain rfl := Option.some.inj hM
    exact g_retv X hW dX3_setComing_17
  · have hM := (if_neg hc).symm.trans hM
    refine lv_iload_n hx hb dX3_setComing_4 rfl (lv_at hl 1 rfl) ?_
    refine lv_bipush (v := (9 : Int32)) hx hb dX3_setComing_5 (by decide) ?_
    refine lv_icmp_ge (tgt := 17) hx hb dX3_setComing_7 (by decide) (fun hc => ?_) (fun hc => ?_)
    · have hM := (if_pos hc).symm.trans hM
      obtain rfl := Option.some.inj hM
      exact g_retv X hW dX3_setComing_17
    · have hM := (if_neg hc).symm.trans hM
      refine lv_aload_n hx hb dX3_setComing_10 rfl (lv_at hl 0 rfl) ?_
      refine g_get X hW 0 rfl rfl inX3 1 (by decide) q_104 rfl dX3_setComing_11 ?_
      refine lv_iload_n hx hb dX3_setComing_14 rfl (lv_at hl 1 rfl) ?_
      refine lv_iload_n hx hb dX3_setComing_15 rfl (lv_at hl 2 rfl) ?_
      obtain ⟨hi16, hM⟩ := MG_some hM
      refine g_ast X hW 2 rfl hi16 [wPlan cI aP (P.1, (upd P.2.1 p1.toNatClampNeg p2), P.2.2)] rfl dX3_setComing_16 (fun H locs hW => ?_)
      obtain rfl := Option.some.inj hM
      exact g_retv X hW dX3_setComing_17

def MX3_letsPass_j56 : Option (Int32) :=
  some ((1 : Int32))
def MX3_letsPass (N : Nat) (P : PlanV) (p1 : Int32) (p2 : Int32) : Option (Int32) :=
  if p1 < 0 then some ((0 : Int32)) else (if (9 : Int32) ≤ p1 then some ((0 : Int32)) else (if p2 < 0 then some ((0 : Int32)) else (if (9 : Int32) ≤ p2 then some ((0 : Int32)) else MG p1 9 (if (P.1 p1.toNatClampNeg) = (1 : Int32) then MG p1 9 (if (P.2.2.1 p1.toNatClampNeg) = 0 then (MX3_letsPass_j56) else MG p1 9 (MG p2 9 (if (P.2.2.1 p1.toNatClampNeg) = (P.2.2.1 p2.toNatClampNeg) then some ((0 : Int32)) else (MX3_letsPass_j56)))) else some ((0 : Int32))))))
set_option maxHeartbeats 4000000 in
set_option maxRecDepth 100000 in
theorem c_X3_letsPass (l : Launch) (G : va_G) (cI cZ cL : ClassId) (N : Nat) (aP : Nat → Nat) (P : PlanV) (p1 : Int32) (p2 : Int32) (rr : Int32) (hM : MX3_letsPass N P p1 p2 = some rr) : CtI l yX3_letsPass cX3_letsPass 3 .boolean 0 0 G cI cZ cL [.ref (aP 0), .int p1, .int p2] [wPlan cI aP P] rr [wPlan cI aP P] := by
  refine ct_body (fun A => qI G rr [wPlan cI aP P] A) (by decide) (Nat.le_of_ble_eq_true rfl) (fun p e s m below meth c A ls X hW hl => ?_)
  have hx := X.1
  have hb := X.2.1
  have hts := X.2.2.2.2.2.1
  have hown := X.2.2.2.2.2.2.1
  have hl : lv_has ls 3 [(0, .ref (aP 0)), (1, .int p1), (2, .int p2)] := hl
  unfold MX3_letsPass at hM
  refine lv_iload_n hx hb dX3_letsPass_0 rfl (lv_at hl 1 rfl) ?_
  refine lv_if_lt (tgt := 30) hx hb dX3_letsPass_1 (by decide) (fun hc => ?_) (fun hc => ?_)
  · have hM := (if_pos hc).symm.trans hM
    refine lv_iconst (v := (0 : Int32)) hx hb dX3_letsPass_30 (by decide) ?_
    obtain rfl := Option.some.inj hM
    exact g_reti X hW rfl rfl dX3_letsPass_31
  · have hM := (if_neg hc).symm.trans hM
    refine lv_iload_n hx hb dX3_letsPass_4 rfl (lv_at hl 1 rfl) ?_
    refine lv_bipush (v := (9 : Int32)) hx hb dX3_letsPass_5 (by decide) ?_
    refine lv_icmp_ge (tgt := 30) hx hb dX3_letsPass_7 (by decide) (fun hc => ?_) (fun hc => ?_)
    · have hM := (if_pos hc).symm.trans hM
      refine lv_iconst (v := (0 : Int32)) hx hb dX3_letsPass_30 (by decide) ?_
      obtain rfl := Option.some.inj hM
      exact g_reti X hW rfl rfl dX3_letsPass_31
    · have hM := (if_neg hc).symm.trans hM
      refine lv_iload_n hx hb dX3_letsPass_10 rfl (lv_at hl 2 rfl) ?_
      refine lv_if_lt (tgt := 30) hx hb dX3_letsPass_11 (by decide) (fun hc => ?_) (fun hc => ?_)
      · have hM := (if_pos hc).symm.trans hM
        refine lv_iconst (v := (0 : Int32)) hx hb dX3_letsPass_30 (by decide) ?_
        obtain rfl := Option.some.inj hM
        exact g_reti X hW rfl rfl dX3_letsPass_31
      · have hM := (if_neg hc).symm.trans hM
        refine lv_iload_n hx hb dX3_letsPass_14 rfl (lv_at hl 2 rfl) ?_
        refine lv_bipush (v := (9 : Int32)) hx hb dX3_letsPass_15 (by decide) ?_
        refine lv_icmp_ge (tgt := 30) hx hb dX3_letsPass_17 (by decide) (fun hc => ?_) (fun hc => ?_)
        · have hM := (if_pos hc).symm.trans hM
          refine lv_iconst (v := (0 : Int32)) hx hb dX3_letsPass_30 (by decide) ?_
          obtain rfl := Option.some.inj hM
          exact g_reti X hW rfl rfl dX3_letsPass_31
        · have hM := (if_neg hc).symm.trans hM
          refine lv_aload_n hx hb dX3_letsPass_20 rfl (lv_at hl 0 rfl) ?_
          refine g_get X hW 0 rfl rfl inX3 0 (by decide) q_102 rfl dX3_letsPass_21 ?_
          refine lv_iload_n hx hb dX3_letsPass_24 rfl (lv_at hl 1 rfl) ?_
          obtain ⟨hi25, hM⟩ := MG_some hM
          refine g_ald X hW 1 rfl hi25 dX3_letsPass_25 ?_
          refine lv_iconst (v := (1 : Int32)) hx hb dX3_letsPass_26 (by decide) ?_
          refine lv_icmp_eq (tgt := 32) hx hb dX3_letsPass_27 (by decide) (fun hc => ?_) (fun hc => ?_)
          · have hM := (if_pos hc).symm.trans hM
            refine lv_aload_n hx hb dX3_letsPass_32 rfl (lv_at hl 0 rfl) ?_
            refine g_get X hW 0 rfl rfl inX3 2 (by decide) q_106 rfl dX3_letsPass_33 ?_
            refine lv_iload_n hx hb dX3_letsPass_36 rfl (lv_at hl 1 rfl) ?_
            obtain ⟨hi37, hM⟩ := MG_some hM
            refine g_ald X hW 3 rfl hi37 dX3_letsPass_37 ?_
            have j56 : ∀ (H : Heap) (locs : List Loc) (ls : Array Slot), Wd G A s [wPlan cI aP P] H locs → lv_has ls 3 [] → MX3_letsPass_j56 = some rr → W p l e (rmO 0 0) s m ([.ref (aP 0), .int p1, .int p2] : List Value).toArray below meth c H locs 0 0 (MQ below (qI G rr [wPlan cI aP P] A) ([.ref (aP 0), .int p1, .int p2] : List Value).toArray s 0 0 A) (F0 m 56 ls []) := by
              intro H locs ls hW hl hM
              unfold MX3_letsPass_j56 at hM
              refine lv_iconst (v := (1 : Int32)) hx hb dX3_letsPass_56 (by decide) ?_
              refine lv_goto (tgt := 61) hx hb dX3_letsPass_57 (by decide) ?_
              obtain rfl := Option.some.inj hM
              exact g_reti X hW rfl rfl dX3_letsPass_61
            refine lv_if_eq (tgt := 56) hx hb dX3_letsPass_38 (by decide) (fun hc => ?_) (fun hc => ?_)
            · have hM := (if_pos hc).symm.trans hM
              exact j56 _ _ _ hW (lv_sub hl [] rfl) hM
            · have hM := (if_neg hc).symm.trans hM
              refine lv_aload_n hx hb dX3_letsPass_41 rfl (lv_at hl 0 rfl) ?_
              refine g_get X hW 0 rfl rfl inX3 2 (by decide) q_106 rfl dX3_letsPass_42 ?_
              refine lv_iload_n hx hb dX3_letsPass_45 rfl (lv_at hl 1 rfl) ?_
              obtain ⟨hi46, hM⟩ := MG_some hM
              refine g_ald X hW 3 rfl hi46 dX3_letsPass_46 ?_
              refine lv_aload_n hx hb dX3_letsPass_47 rfl (lv_at hl 0 rfl) ?_
              refine g_get X hW 0 rfl rfl inX3 2 (by decide) q_106 rfl dX3_letsPass_48 ?_
              refine lv_iload_n hx hb dX3_letsPass_51 rfl (lv_at hl 2 rfl) ?_
              obtain ⟨hi52, hM⟩ := MG_some hM
              refine g_ald X hW 3 rfl hi52 dX3_letsPass_52 ?_
              refine lv_icmp_eq (tgt := 60) hx hb dX3_letsPass_53 (by decide) (fun hc => ?_) (fun hc => ?_)
              · have hM := (if_pos hc).symm.trans hM
                refine lv_iconst (v := (0 : Int32)) hx hb dX3_letsPass_60 (by decide) ?_
                obtain rfl := Option.some.inj hM
                exact g_reti X hW rfl rfl dX3_letsPass_61
              · have hM := (if_neg hc).symm.trans hM
                exact j56 _ _ _ hW (lv_sub hl [] rfl) hM
          · have hM := (if_neg hc).symm.trans hM
            refine lv_iconst (v := (0 : Int32)) hx hb dX3_letsPass_30 (by decide) ?_
            obtain rfl := Option.some.inj hM
            exact g_reti X hW rfl rfl dX3_letsPass_31

def MX3_givesIn_j20 : Option (Int32) :=
  some ((0 : Int32))
def MX3_givesIn (N : Nat) (P : PlanV) (p1 : Int32) : Option (Int32) :=
  if P.2.2.2.2.1 ≤ 0 then (MX3_givesIn_j20) else MD P.2.2.2.2.1 (if (p1 - p1 / P.2.2.2.2.1 * P.2.2.2.2.1) = 0 then some ((1 : Int32)) else (MX3_givesIn_j20))
set_option maxHeartbeats 4000000 in
set_option maxRecDepth 100000 in
theorem c_X3_givesIn (l : Launch) (G : va_G) (cI cZ cL : ClassId) (N : Nat) (aP : Nat → Nat) (P : PlanV) (p1 : Int32) (rr : Int32) (hM : MX3_givesIn N P p1 = some rr) : CtI l yX3_givesIn cX3_givesIn 2 .boolean 0 0 G cI cZ cL [.ref (aP 0), .int p1] [wPlan cI aP P] rr [wPlan cI aP P] := by
  refine ct_body (fun A => qI G rr [wPlan cI aP P] A) (by decide) (Nat.le_of_ble_eq_true rfl) (fun p e s m below meth c A ls X hW hl => ?_)
  have hx := X.1
  have hb := X.2.1
  have hts := X.2.2.2.2.2.1
  have hown := X.2.2.2.2.2.2.1
  have hl : lv_has ls 2 [(0, .ref (aP 0)), (1, .int p1)] := hl
  unfold MX3_givesIn at hM
  refine lv_aload_n hx hb dX3_givesIn_0 rfl (lv_at hl 0 rfl) ?_
  refine g_get X hW 0 rfl rfl inX3 4 (by decide) q_112 rfl dX3_givesIn_1 ?_
  have j20 : ∀ (H : Heap) (locs : List Loc) (ls : Array Slot), Wd G A s [wPlan cI aP P] H locs → lv_has ls 2 [] → MX3_givesIn_j20 = some rr → W p l e (rmO 0 0) s m ([.ref (aP 0), .int p1] : List Value).toArray below meth c H locs 0 0 (MQ below (qI G rr [wPlan cI aP P] A) ([.ref (aP 0), .int p1] : List Value).toArray s 0 0 A) (F0 m 20 ls []) := by
    intro H locs ls hW hl hM
    unfold MX3_givesIn_j20 at hM
    refine lv_iconst (v := (0 : Int32)) hx hb dX3_givesIn_20 (by decide) ?_
    obtain rfl := Option.some.inj hM
    exact g_reti X hW rfl rfl dX3_givesIn_21
  refine lv_if_le (tgt := 20) hx hb dX3_givesIn_4 (by decide) (fun hc => ?_) (fun hc => ?_)
  · have hM := (if_pos hc).symm.trans hM
    exact j20 _ _ _ hW (lv_sub hl [] rfl) hM
  · have hM := (if_neg hc).symm.trans hM
    refine lv_iload_n hx hb dX3_givesIn_7 rfl (lv_at hl 1 rfl) ?_
    refine lv_aload_n hx hb dX3_givesIn_8 rfl (lv_at hl 0 rfl) ?_
    refine g_get X hW 0 rfl rfl inX3 4 (by decide) q_112 rfl dX3_givesIn_9 ?_
    obtain ⟨hz12, hM⟩ := MD_some hM
    refine lv_irem hx hb dX3_givesIn_12 hz12 ?_
    refine lv_if_ne (tgt := 20) hx hb dX3_givesIn_13 (by decide) (fun hc => ?_) (fun hc => ?_)
    · have hM := (if_neg hc).symm.trans hM
      exact j20 _ _ _ hW (lv_sub hl [] rfl) hM
    · have hM := (if_pos hc).symm.trans hM
      refine lv_iconst (v := (1 : Int32)) hx hb dX3_givesIn_16 (by decide) ?_
      refine lv_goto (tgt := 21) hx hb dX3_givesIn_17 (by decide) ?_
      obtain rfl := Option.some.inj hM
      exact g_reti X hW rfl rfl dX3_givesIn_21

def MX3_rumourIn_j20 : Option (Int32) :=
  some ((0 : Int32))
def MX3_rumourIn (N : Nat) (P : PlanV) (p1 : Int32) : Option (Int32) :=
  if P.2.2.2.2.2.2 ≤ 0 then (MX3_rumourIn_j20) else MD P.2.2.2.2.2.2 (if (p1 - p1 / P.2.2.2.2.2.2 * P.2.2.2.2.2.2) = 0 then some ((1 : Int32)) else (MX3_rumourIn_j20))
set_option maxHeartbeats 4000000 in
set_option maxRecDepth 100000 in
theorem c_X3_rumourIn (l : Launch) (G : va_G) (cI cZ cL : ClassId) (N : Nat) (aP : Nat → Nat) (P : PlanV) (p1 : Int32) (rr : Int32) (hM : MX3_rumourIn N P p1 = some rr) : CtI l yX3_rumourIn cX3_rumourIn 2 .boolean 0 0 G cI cZ cL [.ref (aP 0), .int p1] [wPlan cI aP P] rr [wPlan cI aP P] := by
  refine ct_body (fun A => qI G rr [wPlan cI aP P] A) (by decide) (Nat.le_of_ble_eq_true rfl) (fun p e s m below meth c A ls X hW hl => ?_)
  have hx := X.1
  have hb := X.2.1
  have hts := X.2.2.2.2.2.1
  have hown := X.2.2.2.2.2.2.1
  have hl : lv_has ls 2 [(0, .ref (aP 0)), (1, .int p1)] := hl
  unfold MX3_rumourIn at hM
  refine lv_aload_n hx hb dX3_rumourIn_0 rfl (lv_at hl 0 rfl) ?_
  refine g_get X hW 0 rfl rfl inX3 6 (by decide) q_115 rfl dX3_rumourIn_1 ?_
  have j20 : ∀ (H : Heap) (locs : List Loc) (ls : Array Slot), Wd G A s [wPlan cI aP P] H locs → lv_has ls 2 [] → MX3_rumourIn_j20 = some rr → W p l e (rmO 0 0) s m ([.ref (aP 0), .int p1] : List Value).toArray below meth c H locs 0 0 (MQ below (qI G rr [wPlan cI aP P] A) ([.ref (aP 0), .int p1] : List Value).toArray s 0 0 A) (F0 m 20 ls []) := by
    intro H locs ls hW hl hM
    unfold MX3_rumourIn_j20 at hM
    refine lv_iconst (v := (0 : Int32)) hx hb dX3_rumourIn_20 (by decide) ?_
    obtain rfl := Option.some.inj hM
    exact g_reti X hW rfl rfl dX3_rumourIn_21
  refine lv_if_le (tgt := 20) hx hb dX3_rumourIn_4 (by decide) (fun hc => ?_) (fun hc => ?_)
  · have hM := (if_pos hc).symm.trans hM
    exact j20 _ _ _ hW (lv_sub hl [] rfl) hM
  · have hM := (if_neg hc).symm.trans hM
    refine lv_iload_n hx hb dX3_rumourIn_7 rfl (lv_at hl 1 rfl) ?_
    refine lv_aload_n hx hb dX3_rumourIn_8 rfl (lv_at hl 0 rfl) ?_
    refine g_get X hW 0 rfl rfl inX3 6 (by decide) q_115 rfl dX3_rumourIn_9 ?_
    obtain ⟨hz12, hM⟩ := MD_some hM
    refine lv_irem hx hb dX3_rumourIn_12 hz12 ?_
    refine lv_if_ne (tgt := 20) hx hb dX3_rumourIn_13 (by decide) (fun hc => ?_) (fun hc => ?_)
    · have hM := (if_neg hc).symm.trans hM
      exact j20 _ _ _ hW (lv_sub hl [] rfl) hM
    · have hM := (if_pos hc).symm.trans hM
      refine lv_iconst (v := (1 : Int32)) hx hb dX3_rumourIn_16 (by decide) ?_
      refine lv_goto (tgt := 21) hx hb dX3_rumourIn_17 (by decide) ?_
      obtain rfl := Option.some.inj hM
      exact g_reti X hW rfl rfl dX3_rumourIn_21
