def MX1_clear_j49 (yL0_49 : (Nat → Int32)) (yL1_49 : (Nat → Int32)) (yL2_49 : (Nat → Int32)) (yL3_49 : (Nat → Int32)) (yL4_49 : (Nat → Int32)) : Option ((Nat → Int32) × (Nat → Int32) × (Nat → Int32) × (Nat → Int32) × (Nat → Int32) × Int32 × Int32 × Int32 × Int32) :=
  some (yL0_49, yL1_49, yL2_49, yL3_49, yL4_49, (0 : Int32), (0 : Int32), (0 : Int32), (0 : Int32))
def MX1_clear_l2 : Nat → Int32 → (Nat → Int32) → (Nat → Int32) → (Nat → Int32) → (Nat → Int32) → (Nat → Int32) → Option ((Nat → Int32) × (Nat → Int32) × (Nat → Int32) × (Nat → Int32) × (Nat → Int32) × Int32 × Int32 × Int32 × Int32)
  | 0, _, _, _, _, _, _ => none
  | n2 + 1, x1_2, yL0_2, yL1_2, yL2_2, yL3_2, yL4_2 =>
    if (9 : Int32) ≤ x1_2 then (MX1_clear_j49 yL0_2 yL1_2 yL2_2 yL3_2 yL4_2) else MG x1_2 9 (MG x1_2 9 (MG x1_2 9 (MG x1_2 9 (MG x1_2 9 ((MX1_clear_l2 n2) (x1_2 + (1 : Int32)) (upd yL0_2 x1_2.toNatClampNeg (0 : Int32)) (upd yL1_2 x1_2.toNatClampNeg (0 : Int32)) (upd yL2_2 x1_2.toNatClampNeg (0 : Int32)) (upd yL3_2 x1_2.toNatClampNeg (0 : Int32)) (upd yL4_2 x1_2.toNatClampNeg (0 : Int32)))))))
def MX1_clear (N : Nat) (L : LineV) : Option ((Nat → Int32) × (Nat → Int32) × (Nat → Int32) × (Nat → Int32) × (Nat → Int32) × Int32 × Int32 × Int32 × Int32) :=
  MX1_clear_l2 N (0 : Int32) L.1 L.2.1 L.2.2.1 L.2.2.2.1 L.2.2.2.2.1
set_option maxHeartbeats 4000000 in
set_option maxRecDepth 100000 in
theorem c_X1_clear (l : Launch) (G : va_G) (cI cZ cL : ClassId) (N : Nat) (aL : Nat → Nat) (L : LineV) (rr : (Nat → Int32) × (Nat → Int32) × (Nat → Int32) × (Nat → Int32) × (Nat → Int32) × Int32 × Int32 × Int32 × Int32) (hM : MX1_clear N L = some rr) : CtV l yX1_clear cX1_clear 2 0 0 G cI cZ cL [.ref (aL 0)] [wLine cI aL L] [wLine cI aL rr] := by
  refine ct_body (fun A => qV G [wLine cI aL rr] A) (by decide) (Nat.le_of_ble_eq_true rfl) (fun p e s m below meth c A ls X hW hl => ?_)
  have hx := X.1
  have hb := X.2.1
  have hts := X.2.2.2.2.2.1
  have hown := X.2.2.2.2.2.2.1
  have hl : lv_has ls 2 [(0, .ref (aL 0))] := hl
  unfold MX1_clear at hM
  refine lv_iconst (v := (0 : Int32)) hx hb dX1_clear_0 (by decide) ?_
  refine lv_istore_n (lv' := [(1, .int (0 : Int32)), (0, .ref (aL 0))]) hx hb dX1_clear_1 rfl hl (by decide) rfl (fun ls hl => ?_)
  have j49 : ∀ (yL0_49 : (Nat → Int32)) (yL1_49 : (Nat → Int32)) (yL2_49 : (Nat → Int32)) (yL3_49 : (Nat → Int32)) (yL4_49 : (Nat → Int32)) (H : Heap) (locs : List Loc) (ls : Array Slot), Wd G A s [wLine cI aL (yL0_49, yL1_49, yL2_49, yL3_49, yL4_49, L.2.2.2.2.2)] H locs → lv_has ls 2 [(0, .ref (aL 0))] → MX1_clear_j49 yL0_49 yL1_49 yL2_49 yL3_49 yL4_49 = some rr → W p l e (rmO 0 0) s m ([.ref (aL 0)] : List Value).toArray below meth c H locs 0 0 (MQ below (qV G [wLine cI aL rr] A) ([.ref (aL 0)] : List Value).toArray s 0 0 A) (F0 m 49 ls []) := by
    intro yL0_49 yL1_49 yL2_49 yL3_49 yL4_49 H locs ls hW hl hM
    unfold MX1_clear_j49 at hM
    refine lv_aload_n hx hb dX1_clear_49 rfl (lv_at hl 0 rfl) ?_
    refine lv_iconst (v := (0 : Int32)) hx hb dX1_clear_50 (by decide) ?_
    refine g_put X hW 0 rfl rfl inX1 tyX1 tyX1_ok nmX1 5 (by decide) q_150 rfl rfl (Nat.le_of_ble_eq_true rfl) [wLine cI aL (yL0_49, yL1_49, yL2_49, yL3_49, yL4_49, (0 : Int32), L.2.2.2.2.2.2)] rfl dX1_clear_51 (fun H locs hW => ?_)
    refine lv_aload_n hx hb dX1_clear_54 rfl (lv_at hl 0 rfl) ?_
    refine lv_iconst (v := (0 : Int32)) hx hb dX1_clear_55 (by decide) ?_
    refine g_put X hW 0 rfl rfl inX1 tyX1 tyX1_ok nmX1 6 (by decide) q_152 rfl rfl (Nat.le_of_ble_eq_true rfl) [wLine cI aL (yL0_49, yL1_49, yL2_49, yL3_49, yL4_49, (0 : Int32), (0 : Int32), L.2.2.2.2.2.2.2)] rfl dX1_clear_56 (fun H locs hW => ?_)
    refine lv_aload_n hx hb dX1_clear_59 rfl (lv_at hl 0 rfl) ?_
    refine lv_iconst (v := (0 : Int32)) hx hb dX1_clear_60 (by decide) ?_
    refine g_put X hW 0 rfl rfl inX1 tyX1 tyX1_ok nmX1 7 (by decide) q_156 rfl rfl (Nat.le_of_ble_eq_true rfl) [wLine cI aL (yL0_49, yL1_49, yL2_49, yL3_49, yL4_49, (0 : Int32), (0 : Int32), (0 : Int32), L.2.2.2.2.2.2.2.2)] rfl dX1_clear_61 (fun H locs hW => ?_)
    refine lv_aload_n hx hb dX1_clear_64 rfl (lv_at hl 0 rfl) ?_
    refine lv_iconst (v := (0 : Int32)) hx hb dX1_clear_65 (by decide) ?_
    refine g_put X hW 0 rfl rfl inX1 tyX1 tyX1_ok nmX1 8 (by decide) q_158 rfl rfl (Nat.le_of_ble_eq_true rfl) [wLine cI aL (yL0_49, yL1_49, yL2_49, yL3_49, yL4_49, (0 : Int32), (0 : Int32), (0 : Int32), (0 : Int32))] rfl dX1_clear_66 (fun H locs hW => ?_)
    obtain rfl := Option.some.inj hM
    exact g_retv X hW dX1_clear_69
  have lp2 : ∀ (n2 : Nat) (x1_2 : Int32) (yL0_2 : (Nat → Int32)) (yL1_2 : (Nat → Int32)) (yL2_2 : (Nat → Int32)) (yL3_2 : (Nat → Int32)) (yL4_2 : (Nat → Int32)) (H : Heap) (locs : List Loc) (ls : Array Slot), Wd G A s [wLine cI aL (yL0_2, yL1_2, yL2_2, yL3_2, yL4_2, L.2.2.2.2.2)] H locs → lv_has ls 2 [(0, .ref (aL 0)), (1, .int x1_2)] → MX1_clear_l2 n2 x1_2 yL0_2 yL1_2 yL2_2 yL3_2 yL4_2 = some rr → W p l e (rmO 0 0) s m ([.ref (aL 0)] : List Value).toArray below meth c H locs 0 0 (MQ below (qV G [wLine cI aL rr] A) ([.ref (aL 0)] : List Value).toArray s 0 0 A) (F0 m 2 ls []) := by
    intro n2
    induction n2 with
    | zero =>
      intro x1_2 yL0_2 yL1_2 yL2_2 yL3_2 yL4_2 H locs ls hW hl hM
      rw [MX1_clear_l2] at hM
      cases hM
    | succ n2 ih2 =>
      intro x1_2 yL0_2 yL1_2 yL2_2 yL3_2 yL4_2 H locs ls hW hl hM
      rw [MX1_clear_l2] at hM
      refine lv_iload_n hx hb dX1_clear_2 rfl (lv_at hl 1 rfl) ?_
      refine lv_bipush (v := (9 : Int32)) hx hb dX1_clear_3 (by decide) ?_
      refine lv_icmp_ge (tgt := 49) hx hb dX1_clear_5 (by decide) (fun hc => ?_) (fun hc => ?_)
      · have hM := (if_pos hc).symm.trans hM
        exact j49 yL0_2 yL1_2 yL2_2 yL3_2 yL4_2 _ _ _ hW (lv_sub hl [0] rfl) hM
      · have hM := (if_neg hc).symm.trans hM
        refine lv_aload_n hx hb dX1_clear_8 rfl (lv_at hl 0 rfl) ?_
        refine g_get X hW 0 rfl rfl inX1 0 (by decide) q_145 rfl dX1_clear_9 ?_
        refine lv_iload_n hx hb dX1_clear_12 rfl (lv_at hl 1 rfl) ?_
        refine lv_iconst (v := (0 : Int32)) hx hb dX1_clear_13 (by decide) ?_
        obtain ⟨hi14, hM⟩ := MG_some hM
        refine g_ast X hW 1 rfl hi14 [wLine cI aL ((upd yL0_2 x1_2.toNatClampNeg (0 : Int32)), yL1_2, yL2_2, yL3_2, yL4_2, L.2.2.2.2.2)] rfl dX1_clear_14 (fun H locs hW => ?_)
        refine lv_aload_n hx hb dX1_clear_15 rfl (lv_at hl 0 rfl) ?_
        refine g_get X hW 0 rfl rfl inX1 1 (by decide) q_146 rfl dX1_clear_16 ?_
        refine lv_iload_n hx hb dX1_clear_19 rfl (lv_at hl 1 rfl) ?_
        refine lv_iconst (v := (0 : Int32)) hx hb dX1_clear_20 (by decide) ?_
        obtain ⟨hi21, hM⟩ := MG_some hM
        refine g_ast X hW 2 rfl hi21 [wLine cI aL ((upd yL0_2 x1_2.toNatClampNeg (0 : Int32)), (upd yL1_2 x1_2.toNatClampNeg (0 : Int32)), yL2_2, yL3_2, yL4_2, L.2.2.2.2.2)] rfl dX1_clear_21 (fun H locs hW => ?_)
        refine lv_aload_n hx hb dX1_clear_22 rfl (lv_at hl 0 rfl) ?_
        refine g_get X hW 0 rfl rfl inX1 2 (by decide) q_147 rfl dX1_clear_23 ?_
        refine lv_iload_n hx hb dX1_clear_26 rfl (lv_at hl 1 rfl) ?_
        refine lv_iconst (v := (0 : Int32)) hx hb dX1_clear_27 (by decide) ?_
        obtain ⟨hi28, hM⟩ := MG_some hM
        refine g_ast X hW 3 rfl hi28 [wLine cI aL ((upd yL0_2 x1_2.toNatClampNeg (0 : Int32)), (upd yL1_2 x1_2.toNatClampNeg (0 : Int32)), (upd yL2_2 x1_2.toNatClampNeg (0 : Int32)), yL3_2, yL4_2, L.2.2.2.2.2)] rfl dX1_clear_28 (fun H locs hW => ?_)
        refine lv_aload_n hx hb dX1_clear_29 rfl (lv_at hl 0 rfl) ?_
        refine g_get X hW 0 rfl rfl inX1 3 (by decide) q_148 rfl dX1_clear_30 ?_
        refine lv_iload_n hx hb dX1_clear_33 rfl (lv_at hl 1 rfl) ?_
        refine lv_iconst (v := (0 : Int32)) hx hb dX1_clear_34 (by decide) ?_
        obtain ⟨hi35, hM⟩ := MG_some hM
        refine g_ast X hW 4 rfl hi35 [wLine cI aL ((upd yL0_2 x1_2.toNatClampNeg (0 : Int32)), (upd yL1_2 x1_2.toNatClampNeg (0 : Int32)), (upd yL2_2 x1_2.toNatClampNeg (0 : Int32)), (upd yL3_2 x1_2.toNatClampNeg (0 : Int32)), yL4_2, L.2.2.2.2.2)] rfl dX1_clear_35 (fun H locs hW => ?_)
        refine lv_aload_n hx hb dX1_clear_36 rfl (lv_at hl 0 rfl) ?_
        refine g_get X hW 0 rfl rfl inX1 4 (by decide) q_149 rfl dX1_clear_37 ?_
        refine lv_iload_n hx hb dX1_clear_40 rfl (lv_at hl 1 rfl) ?_
        refine lv_iconst (v := (0 : Int32)) hx hb dX1_clear_41 (by decide) ?_
        obtain ⟨hi42, hM⟩ := MG_some hM
        refine g_ast X hW 5 rfl hi42 [wLine cI aL ((upd yL0_2 x1_2.toNatClampNeg (0 : Int32)), (upd yL1_2 x1_2.toNatClampNeg (0 : Int32)), (upd yL2_2 x1_2.toNatClampNeg (0 : Int32)), (upd yL3_2 x1_2.toNatClampNeg (0 : Int32)), (upd yL4_2 x1_2.toNatClampNeg (0 : Int32)), L.2.2.2.2.2)] rfl dX1_clear_42 (fun H locs hW => ?_)
        refine lv_iinc (v := x1_2 + (1 : Int32)) (lv' := [(1, .int (x1_2 + (1 : Int32))), (0, .ref (aL 0))]) hx hb dX1_clear_43 hl (k := 1) rfl rfl (by decide) rfl (fun ls hl => ?_)
        refine lv_goto (tgt := 2) hx hb dX1_clear_46 (by decide) ?_
        exact ih2 (x1_2 + (1 : Int32)) (upd yL0_2 x1_2.toNatClampNeg (0 : Int32)) (upd yL1_2 x1_2.toNatClampNeg (0 : Int32)) (upd yL2_2 x1_2.toNatClampNeg (0 : Int32)) (upd yL3_2 x1_2.toNatClampNeg (0 : Int32)) (upd yL4_2 x1_2.toNatClampNeg (0 : Int32)) _ _ _ hW (lv_sub hl [1, 0] rfl) hM
  exact lp2 N (0 : Int32) L.1 L.2.1 L.2.2.1 L.2.2.2.1 L.2.2.2.2.1 _ _ _ hW (lv_sub hl [1, 0] rfl) hM

def MX1_copyFrom (N : Nat) (L : LineV) (L2 : LineV) : Option ((Nat → Int32) × (Nat → Int32) × (Nat → Int32) × (Nat → Int32) × (Nat → Int32) × Int32 × Int32 × Int32 × Int32) :=
  some ((va_cpy L2.1 L.1 0 0 9), (va_cpy L2.2.1 L.2.1 0 0 9), (va_cpy L2.2.2.1 L.2.2.1 0 0 9), (va_cpy L2.2.2.2.1 L.2.2.2.1 0 0 9), (va_cpy L2.2.2.2.2.1 L.2.2.2.2.1 0 0 9), L2.2.2.2.2.2.1, L2.2.2.2.2.2.2.1, L2.2.2.2.2.2.2.2.1, L2.2.2.2.2.2.2.2.2)
set_option maxHeartbeats 4000000 in
set_option maxRecDepth 100000 in
theorem c_X1_copyFrom (l : Launch) (G : va_G) (cI cZ cL : ClassId) (N : Nat) (aL : Nat → Nat) (aL2 : Nat → Nat) (L : LineV) (L2 : LineV) (rr : (Nat → Int32) × (Nat → Int32) × (Nat → Int32) × (Nat → Int32) × (Nat → Int32) × Int32 × Int32 × Int32 × Int32) (hM : MX1_copyFrom N L L2 = some rr) : CtV l yX1_copyFrom cX1_copyFrom 2 1 18 G cI cZ cL [.ref (aL 0), .ref (aL2 0)] [wLine cI aL L, wLine cI aL2 L2] [wLine cI aL rr, wLine cI aL2 L2] := by
  refine ct_body (fun A => qV G [wLine cI aL rr, wLine cI aL2 L2] A) (by decide) (Nat.le_of_ble_eq_true rfl) (fun p e s m below meth c A ls X hW hl => ?_)
  have hx := X.1
  have hb := X.2.1
  have hts := X.2.2.2.2.2.1
  have hown := X.2.2.2.2.2.2.1
  have hl : lv_has ls 2 [(0, .ref (aL 0)), (1, .ref (aL2 0))] := hl
  unfold MX1_copyFrom at hM
  refine lv_aload_n hx hb dX1_copyFrom_0 rfl (lv_at hl 1 rfl) ?_
  refine g_get X hW 6 rfl rfl inX1 0 (by decide) q_145 rfl dX1_copyFrom_1 ?_
  refine lv_iconst (v := (0 : Int32)) hx hb dX1_copyFrom_4 (by decide) ?_
  refine lv_aload_n hx hb dX1_copyFrom_5 rfl (lv_at hl 0 rfl) ?_
  refine g_get X hW 0 rfl rfl inX1 0 (by decide) q_145 rfl dX1_copyFrom_6 ?_
  refine lv_iconst (v := (0 : Int32)) hx hb dX1_copyFrom_9 (by decide) ?_
  refine lv_bipush (v := (9 : Int32)) hx hb dX1_copyFrom_10 (by decide) ?_
  refine g_copy X hl.1 hW q_487 q_414 q_413 q_68 7 1 rfl rfl (by decide) (N := 9) (by decide) (by decide) (by decide) [wLine cI aL ((va_cpy L2.1 L.1 0 0 9), L.2), wLine cI aL2 L2] rfl (Nat.le_of_ble_eq_true rfl) (Nat.le_of_ble_eq_true rfl) dX1_copyFrom_12 (fun H locs hW => ?_)
  refine lv_aload_n hx hb dX1_copyFrom_15 rfl (lv_at hl 1 rfl) ?_
  refine g_get X hW 6 rfl rfl inX1 1 (by decide) q_146 rfl dX1_copyFrom_16 ?_
  refine lv_iconst (v := (0 : Int32)) hx hb dX1_copyFrom_19 (by decide) ?_
  refine lv_aload_n hx hb dX1_copyFrom_20 rfl (lv_at hl 0 rfl) ?_
  refine g_get X hW 0 rfl rfl inX1 1 (by decide) q_146 rfl dX1_copyFrom_21 ?_
  refine lv_iconst (v := (0 : Int32)) hx hb dX1_copyFrom_24 (by decide) ?_
  refine lv_bipush (v := (9 : Int32)) hx hb dX1_copyFrom_25 (by decide) ?_
  refine g_copy X hl.1 hW q_487 q_414 q_413 q_68 8 2 rfl rfl (by decide) (N := 9) (by decide) (by decide) (by decide) [wLine cI aL ((va_cpy L2.1 L.1 0 0 9), (va_cpy L2.2.1 L.2.1 0 0 9), L.2.2), wLine cI aL2 L2] rfl (Nat.le_of_ble_eq_true rfl) (Nat.le_of_ble_eq_true rfl) dX1_copyFrom_27 (fun H locs hW => ?_)
  refine lv_aload_n hx hb dX1_copyFrom_30 rfl (lv_at hl 1 rfl) ?_
  refine g_get X hW 6 rfl rfl inX1 2 (by decide) q_147 rfl dX1_copyFrom_31 ?_
  refine lv_iconst (v := (0 : Int32)) hx hb dX1_copyFrom_34 (by decide) ?_
  refine lv_aload_n hx hb dX1_copyFrom_35 rfl (lv_at hl 0 rfl) ?_
  refine g_get X hW 0 rfl rfl inX1 2 (by decide) q_147 rfl dX1_copyFrom_36 ?_
  refine lv_iconst (v := (0 : Int32)) hx hb dX1_copyFrom_39 (by decide) ?_
  refine lv_bipush (v := (9 : Int32)) hx hb dX1_copyFrom_40 (by decide) ?_
  refine g_copy X hl.1 hW q_487 q_414 q_413 q_68 9 3 rfl rfl (by decide) (N := 9) (by decide) (by decide) (by decide) [wLine cI aL ((va_cpy L2.1 L.1 0 0 9), (va_cpy L2.2.1 L.2.1 0 0 9), (va_cpy L2.2.2.1 L.2.2.1 0 0 9), L.2.2.2), wLine cI aL2 L2] rfl (Nat.le_of_ble_eq_true rfl) (Nat.le_of_ble_eq_true rfl) dX1_copyFrom_42 (fun H locs hW => ?_)
  refine lv_aload_n hx hb dX1_copyFrom_45 rfl (lv_at hl 1 rfl) ?_
  refine g_get X hW 6 rfl rfl inX1 3 (by decide) q_148 rfl dX1_copyFrom_46 ?_
  refine lv_iconst (v := (0 : Int32)) hx hb dX1_copyFrom_49 (by decide) ?_
  refine lv_aload_n hx hb dX1_copyFrom_50 rfl (lv_at hl 0 rfl) ?_
  refine g_get X hW 0 rfl rfl inX1 3 (by decide) q_148 rfl dX1_copyFrom_51 ?_
  refine lv_iconst (v := (0 : Int32)) hx hb dX1_copyFrom_54 (by decide) ?_
  refine lv_bipush (v := (9 : Int32)) hx hb dX1_copyFrom_55 (by decide) ?_
  refine g_copy X hl.1 hW q_487 q_414 q_413 q_68 10 4 rfl rfl (by decide) (N := 9) (by decide) (by decide) (by decide) [wLine cI aL ((va_cpy L2.1 L.1 0 0 9), (va_cpy L2.2.1 L.2.1 0 0 9), (va_cpy L2.2.2.1 L.2.2.1 0 0 9), (va_cpy L2.2.2.2.1 L.2.2.2.1 0 0 9), L.2.2.2.2), wLine cI aL2 L2] rfl (Nat.le_of_ble_eq_true rfl) (Nat.le_of_ble_eq_true rfl) dX1_copyFrom_57 (fun H locs hW => ?_)
  refine lv_aload_n hx hb dX1_copyFrom_60 rfl (lv_at hl 1 rfl) ?_
  refine g_get X hW 6 rfl rfl inX1 4 (by decide) q_149 rfl dX1_copyFrom_61 ?_
  refine lv_iconst (v := (0 : Int32)) hx hb dX1_copyFrom_64 (by decide) ?_
  refine lv_aload_n hx hb dX1_copyFrom_65 rfl (lv_at hl 0 rfl) ?_
  refine g_get X hW 0 rfl rfl inX1 4 (by decide) q_149 rfl dX1_copyFrom_66 ?_
  refine lv_iconst (v := (0 : Int32)) hx hb dX1_copyFrom_69 (by decide) ?_
  refine lv_bipush (v := (9 : Int32)) hx hb dX1_copyFrom_70 (by decide) ?_
  refine g_copy X hl.1 hW q_487 q_414 q_413 q_68 11 5 rfl rfl (by decide) (N := 9) (by decide) (by decide) (by decide) [wLine cI aL ((va_cpy L2.1 L.1 0 0 9), (va_cpy L2.2.1 L.2.1 0 0 9), (va_cpy L2.2.2.1 L.2.2.1 0 0 9), (va_cpy L2.2.2.2.1 L.2.2.2.1 0 0 9), (va_cpy L2.2.2.2.2.1 L.2.2.2.2.1 0 0 9), L.2.2.2.2.2), wLine cI aL2 L2] rfl (Nat.le_of_ble_eq_true rfl) (Nat.le_of_ble_eq_true rfl) dX1_copyFrom_72 (fun H locs hW => ?_)
  refine lv_aload_n hx hb dX1_copyFrom_75 rfl (lv_at hl 0 rfl) ?_
  refine lv_aload_n hx hb dX1_copyFrom_76 rfl (lv_at hl 1 rfl) ?_
  refine g_get X hW 6 rfl rfl inX1 5 (by decide) q_150 rfl dX1_copyFrom_77 ?_
  refine g_put X hW 0 rfl rfl inX1 tyX1 tyX1_ok nmX1 5 (by decide) q_150 rfl rfl (Nat.le_of_ble_eq_true rfl) [wLine cI aL ((va_cpy L2.1 L.1 0 0 9), (va_cpy L2.2.1 L.2.1 0 0 9), (va_cpy L2.2.2.1 L.2.2.1 0 0 9), (va_cpy L2.2.2.2.1 L.2.2.2.1 0 0 9), (va_cpy L2.2.2.2.2.1 L.2.2.2.2.1 0 0 9), L2.2.2.2.2.2.1, L.2.2.2.2.2.2), wLine cI aL2 L2] rfl dX1_copyFrom_80 (fun H locs hW => ?_)
  refine lv_aload_n hx hb dX1_copyFrom_83 rfl (lv_at hl 0 rfl) ?_
  refine lv_aload_n hx hb dX1_copyFrom_84 rfl (lv_at hl 1 rfl) ?_
  refine g_get X hW 6 rfl rfl inX1 6 (by decide) q_152 rfl dX1_copyFrom_85 ?_
  refine g_put X hW 0 rfl rfl inX1 tyX1 tyX1_ok nmX1 6 (by decide) q_152 rfl rfl (Nat.le_of_ble_eq_true rfl) [wLine cI aL ((va_cpy L2.1 L.1 0 0 9), (va_cpy L2.2.1 L.2.1 0 0 9), (va_cpy L2.2.2.1 L.2.2.1 0 0 9), (va_cpy L2.2.2.2.1 L.2.2.2.1 0 0 9), (va_cpy L2.2.2.2.2.1 L.2.2.2.2.1 0 0 9), L2.2.2.2.2.2.1, L2.2.2.2.2.2.2.1, L.2.2.2.2.2.2.2), wLine cI aL2 L2] rfl dX1_copyFrom_88 (fun H locs hW => ?_)
  refine lv_aload_n hx hb dX1_copyFrom_91 rfl (lv_at hl 0 rfl) ?_
  refine lv_aload_n hx hb dX1_copyFrom_92 rfl (lv_at hl 1 rfl) ?_
  refine g_get X hW 6 rfl rfl inX1 7 (by decide) q_156 rfl dX1_copyFrom_93 ?_
  refine g_put X hW 0 rfl rfl inX1 tyX1 tyX1_ok nmX1 7 (by decide) q_156 rfl rfl (Nat.le_of_ble_eq_true rfl) [wLine cI aL ((va_cpy L2.1 L.1 0 0 9), (va_cpy L2.2.1 L.2.1 0 0 9), (va_cpy L2.2.2.1 L.2.2.1 0 0 9), (va_cpy L2.2.2.2.1 L.2.2.2.1 0 0 9), (va_cpy L2.2.2.2.2.1 L.2.2.2.2.1 0 0 9), L2.2.2.2.2.2.1, L2.2.2.2.2.2.2.1, L2.2.2.2.2.2.2.2.1, L.2.2.2.2.2.2.2.2), wLine cI aL2 L2] rfl dX1_copyFrom_96 (fun H locs hW => ?_)
  refine lv_aload_n hx hb dX1_copyFrom_99 rfl (lv_at hl 0 rfl) ?_
  refine lv_aload_n hx hb dX1_copyFrom_100 rfl (lv_at hl 1 rfl) ?_
  refine g_get X hW 6 rfl rfl inX1 8 (by decide) q_158 rfl dX1_copyFrom_101 ?_
  refine g_put X hW 0 rfl rfl inX1 tyX1 tyX1_ok nmX1 8 (by decide) q_158 rfl rfl (Nat.le_of_ble_eq_true rfl) [wLine cI aL ((va_cpy L2.1 L.1 0 0 9), (va_cpy L2.2.1 L.2.1 0 0 9), (va_cpy L2.2.2.1 L.2.2.1 0 0 9), (va_cpy L2.2.2.2.1 L.2.2.2.1 0 0 9), (va_cpy L2.2.2.2.2.1 L.2.2.2.2.1 0 0 9), L2.2.2.2.2.2.1, L2.2.2.2.2.2.2.1, L2.2.2.2.2.2.2.2.1, L2.2.2.2.2.2.2.2.2), wLine cI aL2 L2] rfl dX1_copyFrom_104 (fun H locs hW => ?_)
  obtain rfl := Option.some.inj hM
  exact g_retv X hW dX1_copyFrom_107

def MX1_whoAt_j27 : Option (Int32) :=
  some ((-4 : Int32))
def MX1_whoAt (N : Nat) (L : LineV) (p1 : Int32) : Option (Int32) :=
  if p1 < 0 then (MX1_whoAt_j27) else (if L.2.2.2.2.2.1 ≤ p1 then (MX1_whoAt_j27) else (if (9 : Int32) ≤ p1 then (MX1_whoAt_j27) else MG p1 9 (some (L.1 p1.toNatClampNeg))))
set_option maxHeartbeats 4000000 in
set_option maxRecDepth 100000 in
theorem c_X1_whoAt (l : Launch) (G : va_G) (cI cZ cL : ClassId) (N : Nat) (aL : Nat → Nat) (L : LineV) (p1 : Int32) (rr : Int32) (hM : MX1_whoAt N L p1 = some rr) : CtI l yX1_whoAt cX1_whoAt 2 .int 0 0 G cI cZ cL [.ref (aL 0), .int p1] [wLine cI aL L] rr [wLine cI aL L] := by
  refine ct_body (fun A => qI G rr [wLine cI aL L] A) (by decide) (Nat.le_of_ble_eq_true rfl) (fun p e s m below meth c A ls X hW hl => ?_)
  have hx := X.1
  have hb := X.2.1
  have hts := X.2.2.2.2.2.1
  have hown := X.2.2.2.2.2.2.1
  have hl : lv_has ls 2 [(0, .ref (aL 0)), (1, .int p1)] := hl
  unfold MX1_whoAt at hM
  refine lv_iload_n hx hb dX1_whoAt_0 rfl (lv_at hl 1 rfl) ?_
  have j27 : ∀ (H : Heap) (locs : List Loc) (ls : Array Slot), Wd G A s [wLine cI aL L] H locs → lv_has ls 2 [] → MX1_whoAt_j27 = some rr → W p l e (rmO 0 0) s m ([.ref (aL 0), .int p1] : List Value).toArray below meth c H locs 0 0 (MQ below (qI G rr [wLine cI aL L] A) ([.ref (aL 0), .int p1] : List Value).toArray s 0 0 A) (F0 m 27 ls []) := by
    intro H locs ls hW hl hM
    unfold MX1_whoAt_j27 at hM
    refine lv_bipush (v := (-4 : Int32)) hx hb dX1_whoAt_27 (by decide) ?_
    obtain rfl := Option.some.inj hM
    exact g_reti X hW rfl rfl dX1_whoAt_29
  refine lv_if_lt (tgt := 27) hx hb dX1_whoAt_1 (by decide) (fun hc => ?_) (fun hc => ?_)
  · have hM := (if_pos hc).symm.trans hM
    exact j27 _ _ _ hW (lv_sub hl [] rfl) hM
  · have hM := (if_neg hc).symm.trans hM
    refine lv_iload_n hx hb dX1_whoAt_4 rfl (lv_at hl 1 rfl) ?_
    refine lv_aload_n hx hb dX1_whoAt_5 rfl (lv_at hl 0 rfl) ?_
    refine g_get X hW 0 rfl rfl inX1 5 (by decide) q_150 rfl dX1_whoAt_6 ?_
    refine lv_icmp_ge (tgt := 27) hx hb dX1_whoAt_9 (by decide) (fun hc => ?_) (fun hc => ?_)
    · have hM := (if_pos hc).symm.trans hM
      exact j27 _ _ _ hW (lv_sub hl [] rfl) hM
    · have hM := (if_neg hc).symm.trans hM
      refine lv_iload_n hx hb dX1_whoAt_12 rfl (lv_at hl 1 rfl) ?_
      refine lv_bipush (v := (9 : Int32)) hx hb dX1_whoAt_13 (by decide) ?_
      refine lv_icmp_ge (tgt := 27) hx hb dX1_whoAt_15 (by decide) (fun hc => ?_) (fun hc => ?_)
      · have hM := (if_pos hc).symm.trans hM
        exact j27 _ _ _ hW (lv_sub hl [] rfl) hM
      · have hM := (if_neg hc).symm.trans hM
        refine lv_aload_n hx hb dX1_whoAt_18 rfl (lv_at hl 0 rfl) ?_
        refine g_get X hW 0 rfl rfl inX1 0 (by decide) q_145 rfl dX1_whoAt_19 ?_
        refine lv_iload_n hx hb dX1_whoAt_22 rfl (lv_at hl 1 rfl) ?_
        obtain ⟨hi23, hM⟩ := MG_some hM
        refine g_ald X hW 1 rfl hi23 dX1_whoAt_23 ?_
        refine lv_goto (tgt := 29) hx hb dX1_whoAt_24 (by decide) ?_
        obtain rfl := Option.some.inj hM
        exact g_reti X hW rfl rfl dX1_whoAt_29

def MX1_placeOf_j34 : Option (Int32) :=
  some ((-4 : Int32))
def MX1_placeOf_l2 (L : LineV) (p1 : Int32) : Nat → Int32 → Option (Int32)
  | 0, _ => none
  | n2 + 1, x2_2 =>
    if L.2.2.2.2.2.1 ≤ x2_2 then (MX1_placeOf_j34) else (if (9 : Int32) ≤ x2_2 then (MX1_placeOf_j34) else MG x2_2 9 (if (L.1 x2_2.toNatClampNeg) = p1 then some (x2_2) else ((MX1_placeOf_l2 L p1 n2) (x2_2 + (1 : Int32)))))
def MX1_placeOf (N : Nat) (L : LineV) (p1 : Int32) : Option (Int32) :=
  MX1_placeOf_l2 L p1 N (0 : Int32)
set_option maxHeartbeats 4000000 in
set_option maxRecDepth 100000 in
theorem c_X1_placeOf (l : Launch) (G : va_G) (cI cZ cL : ClassId) (N : Nat) (aL : Nat → Nat) (L : LineV) (p1 : Int32) (rr : Int32) (hM : MX1_placeOf N L p1 = some rr) : CtI l yX1_placeOf cX1_placeOf 3 .int 0 0 G cI cZ cL [.ref (aL 0), .int p1] [wLine cI aL L] rr [wLine cI aL L] := by
  refine ct_body (fun A => qI G rr [wLine cI aL L] A) (by decide) (Nat.le_of_ble_eq_true rfl) (fun p e s m below meth c A ls X hW hl => ?_)
  have hx := X.1
  have hb := X.2.1
  have hts := X.2.2.2.2.2.1
  have hown := X.2.2.2.2.2.2.1
  have hl : lv_has ls 3 [(0, .ref (aL 0)), (1, .int p1)] := hl
  unfold MX1_placeOf at hM
  refine lv_iconst (v := (0 : Int32)) hx hb dX1_placeOf_0 (by decide) ?_
  refine lv_istore_n (lv' := [(2, .int (0 : Int32)), (0, .ref (aL 0)), (1, .int p1)]) hx hb dX1_placeOf_1 rfl hl (by decide) rfl (fun ls hl => ?_)
  have j34 : ∀ (H : Heap) (locs : List Loc) (ls : Array Slot), Wd G A s [wLine cI aL L] H locs → lv_has ls 3 [] → MX1_placeOf_j34 = some rr → W p l e (rmO 0 0) s m ([.ref (aL 0), .int p1] : List Value).toArray below meth c H locs 0 0 (MQ below (qI G rr [wLine cI aL L] A) ([.ref (aL 0), .int p1] : List Value).toArray s 0 0 A) (F0 m 34 ls []) := by
    intro H locs ls hW hl hM
    unfold MX1_placeOf_j34 at hM
    refine lv_bipush (v := (-4 : Int32)) hx hb dX1_placeOf_34 (by decide) ?_
    obtain rfl := Option.some.inj hM
    exact g_reti X hW rfl rfl dX1_placeOf_36
  have lp2 : ∀ (n2 : Nat) (x2_2 : Int32) (H : Heap) (locs : List Loc) (ls : Array Slot), Wd G A s [wLine cI aL L] H locs → lv_has ls 3 [(0, .ref (aL 0)), (1, .int p1), (2, .int x2_2)] → MX1_placeOf_l2 L p1 n2 x2_2 = some rr → W p l e (rmO 0 0) s m ([.ref (aL 0), .int p1] : List Value).toArray below meth c H locs 0 0 (MQ below (qI G rr [wLine cI aL L] A) ([.ref (aL 0), .int p1] : List Value).toArray s 0 0 A) (F0 m 2 ls []) := by
    intro n2
    induction n2 with
    | zero =>
      intro x2_2 H locs ls hW hl hM
      rw [MX1_placeOf_l2] at hM
      cases hM
    | succ n2 ih2 =>
      intro x2_2 H locs ls hW hl hM
      rw [MX1_placeOf_l2] at hM
      refine lv_iload_n hx hb dX1_placeOf_2 rfl (lv_at hl 2 rfl) ?_
      refine lv_aload_n hx hb dX1_placeOf_3 rfl (lv_at hl 0 rfl) ?_
      refine g_get X hW 0 rfl rfl inX1 5 (by decide) q_150 rfl dX1_placeOf_4 ?_
      refine lv_icmp_ge (tgt := 34) hx hb dX1_placeOf_7 (by decide) (fun hc => ?_) (fun hc => ?_)
      · have hM := (if_pos hc).symm.trans hM
        exact j34 _ _ _ hW (lv_sub hl [] rfl) hM
      · have hM := (if_neg hc).symm.trans hM
        refine lv_iload_n hx hb dX1_placeOf_10 rfl (lv_at hl 2 rfl) ?_
        refine lv_bipush (v := (9 : Int32)) hx hb dX1_placeOf_11 (by decide) ?_
        refine lv_icmp_ge (tgt := 34) hx hb dX1_placeOf_13 (by decide) (fun hc => ?_) (fun hc => ?_)
        · have hM := (if_pos hc).symm.trans hM
          exact j34 _ _ _ hW (lv_sub hl [] rfl) hM
        · have hM := (if_neg hc).symm.trans hM
          refine lv_aload_n hx hb dX1_placeOf_16 rfl (lv_at hl 0 rfl) ?_
          refine g_get X hW 0 rfl rfl inX1 0 (by decide) q_145 rfl dX1_placeOf_17 ?_
          refine lv_iload_n hx hb dX1_placeOf_20 rfl (lv_at hl 2 rfl) ?_
          obtain ⟨hi21, hM⟩ := MG_some hM
          refine g_ald X hW 1 rfl hi21 dX1_placeOf_21 ?_
          refine lv_iload_n hx hb dX1_placeOf_22 rfl (lv_at hl 1 rfl) ?_
          refine lv_icmp_ne (tgt := 28) hx hb dX1_placeOf_23 (by decide) (fun hc => ?_) (fun hc => ?_)
          · have hM := (if_neg hc).symm.trans hM
            refine lv_iinc (v := x2_2 + (1 : Int32)) (lv' := [(2, .int (x2_2 + (1 : Int32))), (0, .ref (aL 0)), (1, .int p1)]) hx hb dX1_placeOf_28 hl (k := 2) rfl rfl (by decide) rfl (fun ls hl => ?_)
            refine lv_goto (tgt := 2) hx hb dX1_placeOf_31 (by decide) ?_
            exact ih2 (x2_2 + (1 : Int32)) _ _ _ hW (lv_sub hl [1, 2, 0] rfl) hM
          · have hM := (if_pos hc).symm.trans hM
            refine lv_iload_n hx hb dX1_placeOf_26 rfl (lv_at hl 2 rfl) ?_
            obtain rfl := Option.some.inj hM
            exact g_reti X hW rfl rfl dX1_placeOf_27
  exact lp2 N (0 : Int32) _ _ _ hW (lv_sub hl [1, 2, 0] rfl) hM

def MX1_whereIs_j19 : Option (Int32) :=
  some ((0 : Int32))
def MX1_whereIs (N : Nat) (L : LineV) (p1 : Int32) : Option (Int32) :=
  if p1 < 0 then (MX1_whereIs_j19) else (if (9 : Int32) ≤ p1 then (MX1_whereIs_j19) else MG p1 9 (some (L.2.1 p1.toNatClampNeg)))
set_option maxHeartbeats 4000000 in
set_option maxRecDepth 100000 in
theorem c_X1_whereIs (l : Launch) (G : va_G) (cI cZ cL : ClassId) (N : Nat) (aL : Nat → Nat) (L : LineV) (p1 : Int32) (rr : Int32) (hM : MX1_whereIs N L p1 = some rr) : CtI l yX1_whereIs cX1_whereIs 2 .int 0 0 G cI cZ cL [.ref (aL 0), .int p1] [wLine cI aL L] rr [wLine cI aL L] := by
  refine ct_body (fun A => qI G rr [wLine cI aL L] A) (by decide) (Nat.le_of_ble_eq_true rfl) (fun p e s m below meth c A ls X hW hl => ?_)
  have hx := X.1
  have hb := X.2.1
  have hts := X.2.2.2.2.2.1
  have hown := X.2.2.2.2.2.2.1
  have hl : lv_has ls 2 [(0, .ref (aL 0)), (1, .int p1)] := hl
  unfold MX1_whereIs at hM
  refine lv_iload_n hx hb dX1_whereIs_0 rfl (lv_at hl 1 rfl) ?_
  have j19 : ∀ (H : Heap) (locs : List Loc) (ls : Array Slot), Wd G A s [wLine cI aL L] H locs → lv_has ls 2 [] → MX1_whereIs_j19 = some rr → W p l e (rmO 0 0) s m ([.ref (aL 0), .int p1] : List Value).toArray below meth c H locs 0 0 (MQ below (qI G rr [wLine cI aL L] A) ([.ref (aL 0), .int p1] : List Value).toArray s 0 0 A) (F0 m 19 ls []) := by
    intro H locs ls hW hl hM
    unfold MX1_whereIs_j19 at hM
    refine lv_iconst (v := (0 : Int32)) hx hb dX1_whereIs_19 (by decide) ?_
    obtain rfl := Option.some.inj hM
    exact g_reti X hW rfl rfl dX1_whereIs_20
  refine lv_if_lt (tgt := 19) hx hb dX1_whereIs_1 (by decide) (fun hc => ?_) (fun hc => ?_)
  · have hM := (if_pos hc).symm.trans hM
    exact j19 _ _ _ hW (lv_sub hl [] rfl) hM
  · have hM := (if_neg hc).symm.trans hM
    refine lv_iload_n hx hb dX1_whereIs_4 rfl (lv_at hl 1 rfl) ?_
    refine lv_bipush (v := (9 : Int32)) hx hb dX1_whereIs_5 (by decide) ?_
    refine lv_icmp_ge (tgt := 19) hx hb dX1_whereIs_7 (by decide) (fun hc => ?_) (fun hc => ?_)
    · have hM := (if_pos hc).symm.trans hM
      exact j19 _ _ _ hW (lv_sub hl [] rfl) hM
    · have hM := (if_neg hc).symm.trans hM
      refine lv_aload_n hx hb dX1_whereIs_10 rfl (lv_at hl 0 rfl) ?_
      refine g_get X hW 0 rfl rfl inX1 1 (by decide) q_146 rfl dX1_whereIs_11 ?_
      refine lv_iload_n hx hb dX1_whereIs_14 rfl (lv_at hl 1 rfl) ?_
      obtain ⟨hi15, hM⟩ := MG_some hM
      refine g_ald X hW 2 rfl hi15 dX1_whereIs_15 ?_
      refine lv_goto (tgt := 20) hx hb dX1_whereIs_16 (by decide) ?_
      obtain rfl := Option.some.inj hM
      exact g_reti X hW rfl rfl dX1_whereIs_20

def MX1_stoodOf_j29 : Option (Int32) :=
  some ((0 : Int32))
def MX1_stoodOf (N : Nat) (L : LineV) (p1 : Int32) : Option (Int32) :=
  if p1 < 0 then (MX1_stoodOf_j29) else (if (9 : Int32) ≤ p1 then (MX1_stoodOf_j29) else MG p1 9 (if (L.2.1 p1.toNatClampNeg) = (1 : Int32) then MG p1 9 (some (L.2.2.1 p1.toNatClampNeg)) else (MX1_stoodOf_j29)))
set_option maxHeartbeats 4000000 in
set_option maxRecDepth 100000 in
theorem c_X1_stoodOf (l : Launch) (G : va_G) (cI cZ cL : ClassId) (N : Nat) (aL : Nat → Nat) (L : LineV) (p1 : Int32) (rr : Int32) (hM : MX1_stoodOf N L p1 = some rr) : CtI l yX1_stoodOf cX1_stoodOf 2 .int 0 0 G cI cZ cL [.ref (aL 0), .int p1] [wLine cI aL L] rr [wLine cI aL L] := by
  refine ct_body (fun A => qI G rr [wLine cI aL L] A) (by decide) (Nat.le_of_ble_eq_true rfl) (fun p e s m below meth c A ls X hW hl => ?_)
  have hx := X.1
  have hb := X.2.1
  have hts := X.2.2.2.2.2.1
  have hown := X.2.2.2.2.2.2.1
  have hl : lv_has ls 2 [(0, .ref (aL 0)), (1, .int p1)] := hl
  unfold MX1_stoodOf at hM
  refine lv_iload_n hx hb dX1_stoodOf_0 rfl (lv_at hl 1 rfl) ?_
  have j29 : ∀ (H : Heap) (locs : List Loc) (ls : Array Slot), Wd G A s [wLine cI aL L] H locs → lv_has ls 2 [] → MX1_stoodOf_j29 = some rr → W p l e (rmO 0 0) s m ([.ref (aL 0), .int p1] : List Value).toArray below meth c H locs 0 0 (MQ below (qI G rr [wLine cI aL L] A) ([.ref (aL 0), .int p1] : List Value).toArray s 0 0 A) (F0 m 29 ls []) := by
    intro H locs ls hW hl hM
    unfold MX1_stoodOf_j29 at hM
    refine lv_iconst (v := (0 : Int32)) hx hb dX1_stoodOf_29 (by decide) ?_
    obtain rfl := Option.some.inj hM
    exact g_reti X hW rfl rfl dX1_stoodOf_30
  refine lv_if_lt (tgt := 29) hx hb dX1_stoodOf_1 (by decide) (fun hc => ?_) (fun hc => ?_)
  · have hM := (if_pos hc).symm.trans hM
    exact j29 _ _ _ hW (lv_sub hl [] rfl) hM
  · have hM := (if_neg hc).symm.trans hM
    refine lv_iload_n hx hb dX1_stoodOf_4 rfl (lv_at hl 1 rfl) ?_
    refine lv_bipush (v := (9 : Int32)) hx hb dX1_stoodOf_5 (by decide) ?_
    refine lv_icmp_ge (tgt := 29) hx hb dX1_stoodOf_7 (by decide) (fun hc => ?_) (fun hc => ?_)
    · have hM := (if_pos hc).symm.trans hM
      exact j29 _ _ _ hW (lv_sub hl [] rfl) hM
    · have hM := (if_neg hc).symm.trans hM
      refine lv_aload_n hx hb dX1_stoodOf_10 rfl (lv_at hl 0 rfl) ?_
      refine g_get X hW 0 rfl rfl inX1 1 (by decide) q_146 rfl dX1_stoodOf_11 ?_
      refine lv_iload_n hx hb dX1_stoodOf_14 rfl (lv_at hl 1 rfl) ?_
      obtain ⟨hi15, hM⟩ := MG_some hM
      refine g_ald X hW 2 rfl hi15 dX1_stoodOf_15 ?_
      refine lv_iconst (v := (1 : Int32)) hx hb dX1_stoodOf_16 (by decide) ?_
      refine lv_icmp_ne (tgt := 29) hx hb dX1_stoodOf_17 (by decide) (fun hc => ?_) (fun hc => ?_)
      · have hM := (if_neg hc).symm.trans hM
        exact j29 _ _ _ hW (lv_sub hl [] rfl) hM
      · have hM := (if_pos hc).symm.trans hM
        refine lv_aload_n hx hb dX1_stoodOf_20 rfl (lv_at hl 0 rfl) ?_
        refine g_get X hW 0 rfl rfl inX1 2 (by decide) q_147 rfl dX1_stoodOf_21 ?_
        refine lv_iload_n hx hb dX1_stoodOf_24 rfl (lv_at hl 1 rfl) ?_
        obtain ⟨hi25, hM⟩ := MG_some hM
        refine g_ald X hW 3 rfl hi25 dX1_stoodOf_25 ?_
        refine lv_goto (tgt := 30) hx hb dX1_stoodOf_26 (by decide) ?_
        obtain rfl := Option.some.inj hM
        exact g_reti X hW rfl rfl dX1_stoodOf_30

def MX1_ateInOf_j29 : Option (Int32) :=
  some ((-4 : Int32))
def MX1_ateInOf (N : Nat) (L : LineV) (p1 : Int32) : Option (Int32) :=
  if p1 < 0 then (MX1_ateInOf_j29) else (if (9 : Int32) ≤ p1 then (MX1_ateInOf_j29) else MG p1 9 (if (L.2.1 p1.toNatClampNeg) = (3 : Int32) then MG p1 9 (some (L.2.2.2.1 p1.toNatClampNeg)) else (MX1_ateInOf_j29)))
set_option maxHeartbeats 4000000 in
set_option maxRecDepth 100000 in
theorem c_X1_ateInOf (l : Launch) (G : va_G) (cI cZ cL : ClassId) (N : Nat) (aL : Nat → Nat) (L : LineV) (p1 : Int32) (rr : Int32) (hM : MX1_ateInOf N L p1 = some rr) : CtI l yX1_ateInOf cX1_ateInOf 2 .int 0 0 G cI cZ cL [.ref (aL 0), .int p1] [wLine cI aL L] rr [wLine cI aL L] := by
  refine ct_body (fun A => qI G rr [wLine cI aL L] A) (by decide) (Nat.le_of_ble_eq_true rfl) (fun p e s m below meth c A ls X hW hl => ?_)
  have hx := X.1
  have hb := X.2.1
  have hts := X.2.2.2.2.2.1
  have hown := X.2.2.2.2.2.2.1
  have hl : lv_has ls 2 [(0, .ref (aL 0)), (1, .int p1)] := hl
  unfold MX1_ateInOf at hM
  refine lv_iload_n hx hb dX1_ateInOf_0 rfl (lv_at hl 1 rfl) ?_
  have j29 : ∀ (H : Heap) (locs : List Loc) (ls : Array Slot), Wd G A s [wLine cI aL L] H locs → lv_has ls 2 [] → MX1_ateInOf_j29 = some rr → W p l e (rmO 0 0) s m ([.ref (aL 0), .int p1] : List Value).toArray below meth c H locs 0 0 (MQ below (qI G rr [wLine cI aL L] A) ([.ref (aL 0), .int p1] : List Value).toArray s 0 0 A) (F0 m 29 ls []) := by
    intro H locs ls hW hl hM
    unfold MX1_ateInOf_j29 at hM
    refine lv_bipush (v := (-4 : Int32)) hx hb dX1_ateInOf_29 (by decide) ?_
    obtain rfl := Option.some.inj hM
    exact g_reti X hW rfl rfl dX1_ateInOf_31
  refine lv_if_lt (tgt := 29) hx hb dX1_ateInOf_1 (by decide) (fun hc => ?_) (fun hc => ?_)
  · have hM := (if_pos hc).symm.trans hM
    exact j29 _ _ _ hW (lv_sub hl [] rfl) hM
  · have hM := (if_neg hc).symm.trans hM
    refine lv_iload_n hx hb dX1_ateInOf_4 rfl (lv_at hl 1 rfl) ?_
    refine lv_bipush (v := (9 : Int32)) hx hb dX1_ateInOf_5 (by decide) ?_
    refine lv_icmp_ge (tgt := 29) hx hb dX1_ateInOf_7 (by decide) (fun hc => ?_) (fun hc => ?_)
    · have hM := (if_pos hc).symm.trans hM
      exact j29 _ _ _ hW (lv_sub hl [] rfl) hM
    · have hM := (if_neg hc).symm.trans hM
      refine lv_aload_n hx hb dX1_ateInOf_10 rfl (lv_at hl 0 rfl) ?_
      refine g_get X hW 0 rfl rfl inX1 1 (by decide) q_146 rfl dX1_ateInOf_11 ?_
      refine lv_iload_n hx hb dX1_ateInOf_14 rfl (lv_at hl 1 rfl) ?_
      obtain ⟨hi15, hM⟩ := MG_some hM
      refine g_ald X hW 2 rfl hi15 dX1_ateInOf_15 ?_
      refine lv_iconst (v := (3 : Int32)) hx hb dX1_ateInOf_16 (by decide) ?_
      refine lv_icmp_ne (tgt := 29) hx hb dX1_ateInOf_17 (by decide) (fun hc => ?_) (fun hc => ?_)
      · have hM := (if_neg hc).symm.trans hM
        exact j29 _ _ _ hW (lv_sub hl [] rfl) hM
      · have hM := (if_pos hc).symm.trans hM
        refine lv_aload_n hx hb dX1_ateInOf_20 rfl (lv_at hl 0 rfl) ?_
        refine g_get X hW 0 rfl rfl inX1 3 (by decide) q_148 rfl dX1_ateInOf_21 ?_
        refine lv_iload_n hx hb dX1_ateInOf_24 rfl (lv_at hl 1 rfl) ?_
        obtain ⟨hi25, hM⟩ := MG_some hM
        refine g_ald X hW 4 rfl hi25 dX1_ateInOf_25 ?_
        refine lv_goto (tgt := 31) hx hb dX1_ateInOf_26 (by decide) ?_
        obtain rfl := Option.some.inj hM
        exact g_reti X hW rfl rfl dX1_ateInOf_31

def MX1_warmOf_j29 : Option (Int32) :=
  some ((-4 : Int32))
def MX1_warmOf (N : Nat) (L : LineV) (p1 : Int32) : Option (Int32) :=
  if p1 < 0 then (MX1_warmOf_j29) else (if (9 : Int32) ≤ p1 then (MX1_warmOf_j29) else MG p1 9 (if (L.2.1 p1.toNatClampNeg) = (3 : Int32) then MG p1 9 (some (L.2.2.2.2.1 p1.toNatClampNeg)) else (MX1_warmOf_j29)))
set_option maxHeartbeats 4000000 in
set_option maxRecDepth 100000 in
theorem c_X1_warmOf (l : Launch) (G : va_G) (cI cZ cL : ClassId) (N : Nat) (aL : Nat → Nat) (L : LineV) (p1 : Int32) (rr : Int32) (hM : MX1_warmOf N L p1 = some rr) : CtI l yX1_warmOf cX1_warmOf 2 .int 0 0 G cI cZ cL [.ref (aL 0), .int p1] [wLine cI aL L] rr [wLine cI aL L] := by
  refine ct_body (fun A => qI G rr [wLine cI aL L] A) (by decide) (Nat.le_of_ble_eq_true rfl) (fun p e s m below meth c A ls X hW hl => ?_)
  have hx := X.1
  have hb := X.2.1
  have hts := X.2.2.2.2.2.1
  have hown := X.2.2.2.2.2.2.1
  have hl : lv_has ls 2 [(0, .ref (aL 0)), (1, .int p1)] := hl
  unfold MX1_warmOf at hM
  refine lv_iload_n hx hb dX1_warmOf_0 rfl (lv_at hl 1 rfl) ?_
  have j29 : ∀ (H : Heap) (locs : List Loc) (ls : Array Slot), Wd G A s [wLine cI aL L] H locs → lv_has ls 2 [] → MX1_warmOf_j29 = some rr → W p l e (rmO 0 0) s m ([.ref (aL 0), .int p1] : List Value).toArray below meth c H locs 0 0 (MQ below (qI G rr [wLine cI aL L] A) ([.ref (aL 0), .int p1] : List Value).toArray s 0 0 A) (F0 m 29 ls []) := by
    intro H locs ls hW hl hM
    unfold MX1_warmOf_j29 at hM
    refine lv_bipush (v := (-4 : Int32)) hx hb dX1_warmOf_29 (by decide) ?_
    obtain rfl := Option.some.inj hM
    exact g_reti X hW rfl rfl dX1_warmOf_31
  refine lv_if_lt (tgt := 29) hx hb dX1_warmOf_1 (by decide) (fun hc => ?_) (fun hc => ?_)
  · have hM := (if_pos hc).symm.trans hM
    exact j29 _ _ _ hW (lv_sub hl [] rfl) hM
  · have hM := (if_neg hc).symm.trans hM
    refine lv_iload_n hx hb dX1_warmOf_4 rfl (lv_at hl 1 rfl) ?_
    refine lv_bipush (v := (9 : Int32)) hx hb dX1_warmOf_5 (by decide) ?_
    refine lv_icmp_ge (tgt := 29) hx hb dX1_warmOf_7 (by decide) (fun hc => ?_) (fun hc => ?_)
    · have hM := (if_pos hc).symm.trans hM
      exact j29 _ _ _ hW (lv_sub hl [] rfl) hM
    · have hM := (if_neg hc).symm.trans hM
      refine lv_aload_n hx hb dX1_warmOf_10 rfl (lv_at hl 0 rfl) ?_
      refine g_get X hW 0 rfl rfl inX1 1 (by decide) q_146 rfl dX1_warmOf_11 ?_
      refine lv_iload_n hx hb dX1_warmOf_14 rfl (lv_at hl 1 rfl) ?_
      obtain ⟨hi15, hM⟩ := MG_some hM
      refine g_ald X hW 2 rfl hi15 dX1_warmOf_15 ?_
      refine lv_iconst (v := (3 : Int32)) hx hb dX1_warmOf_16 (by decide) ?_
      refine lv_icmp_ne (tgt := 29) hx hb dX1_warmOf_17 (by decide) (fun hc => ?_) (fun hc => ?_)
      · have hM := (if_neg hc).symm.trans hM
        exact j29 _ _ _ hW (lv_sub hl [] rfl) hM
      · have hM := (if_pos hc).symm.trans hM
        refine lv_aload_n hx hb dX1_warmOf_20 rfl (lv_at hl 0 rfl) ?_
        refine g_get X hW 0 rfl rfl inX1 4 (by decide) q_149 rfl dX1_warmOf_21 ?_
        refine lv_iload_n hx hb dX1_warmOf_24 rfl (lv_at hl 1 rfl) ?_
        obtain ⟨hi25, hM⟩ := MG_some hM
        refine g_ald X hW 5 rfl hi25 dX1_warmOf_25 ?_
        refine lv_goto (tgt := 31) hx hb dX1_warmOf_26 (by decide) ?_
        obtain rfl := Option.some.inj hM
        exact g_reti X hW rfl rfl dX1_warmOf_31

def MX1_howMany_j29 (x2_29 : Int32) : Option (Int32) :=
  some (x2_29)
def MX1_howMany_j23 (x3_4 : Int32) (rc4 : (Int32 → Int32 → Option (Int32))) (x2_23 : Int32) : Option (Int32) :=
  rc4 x2_23 (x3_4 + (1 : Int32))
def MX1_howMany_l4 (L : LineV) (p1 : Int32) : Nat → Int32 → Int32 → Option (Int32)
  | 0, _, _ => none
  | n4 + 1, x2_4, x3_4 =>
    if (9 : Int32) ≤ x3_4 then (MX1_howMany_j29 x2_4) else MG x3_4 9 (if (L.2.1 x3_4.toNatClampNeg) = p1 then (MX1_howMany_j23 x3_4 (MX1_howMany_l4 L p1 n4) (x2_4 + (1 : Int32))) else (MX1_howMany_j23 x3_4 (MX1_howMany_l4 L p1 n4) x2_4))
def MX1_howMany (N : Nat) (L : LineV) (p1 : Int32) : Option (Int32) :=
  MX1_howMany_l4 L p1 N (0 : Int32) (0 : Int32)
set_option maxHeartbeats 4000000 in
set_option maxRecDepth 100000 in
theorem c_X1_howMany (l : Launch) (G : va_G) (cI cZ cL : ClassId) (N : Nat) (aL : Nat → Nat) (L : LineV) (p1 : Int32) (rr : Int32) (hM : MX1_howMany N L p1 = some rr) : CtI l yX1_howMany cX1_howMany 4 .int 0 0 G cI cZ cL [.ref (aL 0), .int p1] [wLine cI aL L] rr [wLine cI aL L] := by
  refine ct_body (fun A => qI G rr [wLine cI aL L] A) (by decide) (Nat.le_of_ble_eq_true rfl) (fun p e s m below meth c A ls X hW hl => ?_)
  have hx := X.1
  have hb := X.2.1
  have hts := X.2.2.2.2.2.1
  have hown := X.2.2.2.2.2.2.1
  have hl : lv_has ls 4 [(0, .ref (aL 0)), (1, .int p1)] := hl
  unfold MX1_howMany at hM
  refine lv_iconst (v := (0 : Int32)) hx hb dX1_howMany_0 (by decide) ?_
  refine lv_istore_n (lv' := [(2, .int (0 : Int32)), (0, .ref (aL 0)), (1, .int p1)]) hx hb dX1_howMany_1 rfl hl (by decide) rfl (fun ls hl => ?_)
  refine lv_iconst (v := (0 : Int32)) hx hb dX1_howMany_2 (by decide) ?_
  refine lv_istore_n (lv' := [(3, .int (0 : Int32)), (2, .int (0 : Int32)), (0, .ref (aL 0)), (1, .int p1)]) hx hb dX1_howMany_3 rfl hl (by decide) rfl (fun ls hl => ?_)
  have j29 : ∀ (x2_29 : Int32) (H : Heap) (locs : List Loc) (ls : Array Slot), Wd G A s [wLine cI aL L] H locs → lv_has ls 4 [(2, .int x2_29)] → MX1_howMany_j29 x2_29 = some rr → W p l e (rmO 0 0) s m ([.ref (aL 0), .int p1] : List Value).toArray below meth c H locs 0 0 (MQ below (qI G rr [wLine cI aL L] A) ([.ref (aL 0), .int p1] : List Value).toArray s 0 0 A) (F0 m 29 ls []) := by
    intro x2_29 H locs ls hW hl hM
    unfold MX1_howMany_j29 at hM
    refine lv_iload_n hx hb dX1_howMany_29 rfl (lv_at hl 0 rfl) ?_
    obtain rfl := Option.some.inj hM
    exact g_reti X hW rfl rfl dX1_howMany_30
  have lp4 : ∀ (n4 : Nat) (x2_4 : Int32) (x3_4 : Int32) (H : Heap) (locs : List Loc) (ls : Array Slot), Wd G A s [wLine cI aL L] H locs → lv_has ls 4 [(0, .ref (aL 0)), (1, .int p1), (2, .int x2_4), (3, .int x3_4)] → MX1_howMany_l4 L p1 n4 x2_4 x3_4 = some rr → W p l e (rmO 0 0) s m ([.ref (aL 0), .int p1] : List Value).toArray below meth c H locs 0 0 (MQ below (qI G rr [wLine cI aL L] A) ([.ref (aL 0), .int p1] : List Value).toArray s 0 0 A) (F0 m 4 ls []) := by
    intro n4
    induction n4 with
    | zero =>
      intro x2_4 x3_4 H locs ls hW hl hM
      rw [MX1_howMany_l4] at hM
      cases hM
    | succ n4 ih4 =>
      intro x2_4 x3_4 H locs ls hW hl hM
      rw [MX1_howMany_l4] at hM
      refine lv_iload_n hx hb dX1_howMany_4 rfl (lv_at hl 3 rfl) ?_
      refine lv_bipush (v := (9 : Int32)) hx hb dX1_howMany_5 (by decide) ?_
      refine lv_icmp_ge (tgt := 29) hx hb dX1_howMany_7 (by decide) (fun hc => ?_) (fun hc => ?_)
      · have hM := (if_pos hc).symm.trans hM
        exact j29 x2_4 _ _ _ hW (lv_sub hl [2] rfl) hM
      · have hM := (if_neg hc).symm.trans hM
        refine lv_aload_n hx hb dX1_howMany_10 rfl (lv_at hl 0 rfl) ?_
        refine g_get X hW 0 rfl rfl inX1 1 (by decide) q_146 rfl dX1_howMany_11 ?_
        refine lv_iload_n hx hb dX1_howMany_14 rfl (lv_at hl 3 rfl) ?_
        obtain ⟨hi15, hM⟩ := MG_some hM
        refine g_ald X hW 2 rfl hi15 dX1_howMany_15 ?_
        refine lv_iload_n hx hb dX1_howMany_16 rfl (lv_at hl 1 rfl) ?_
        have j23 : ∀ (x2_23 : Int32) (H : Heap) (locs : List Loc) (ls : Array Slot), Wd G A s [wLine cI aL L] H locs → lv_has ls 4 [(0, .ref (aL 0)), (1, .int p1), (2, .int x2_23), (3, .int x3_4)] → MX1_howMany_j23 x3_4 (MX1_howMany_l4 L p1 n4) x2_23 = some rr → W p l e (rmO 0 0) s m ([.ref (aL 0), .int p1] : List Value).toArray below meth c H locs 0 0 (MQ below (qI G rr [wLine cI aL L] A) ([.ref (aL 0), .int p1] : List Value).toArray s 0 0 A) (F0 m 23 ls []) := by
          intro x2_23 H locs ls hW hl hM
          unfold MX1_howMany_j23 at hM
          refine lv_iinc (v := x3_4 + (1 : Int32)) (lv' := [(3, .int (x3_4 + (1 : Int32))), (0, .ref (aL 0)), (1, .int p1), (2, .int x2_23)]) hx hb dX1_howMany_23 hl (k := 3) rfl rfl (by decide) rfl (fun ls hl => ?_)
          refine lv_goto (tgt := 4) hx hb dX1_howMany_26 (by decide) ?_
          exact ih4 x2_23 (x3_4 + (1 : Int32)) _ _ _ hW (lv_sub hl [1, 2, 3, 0] rfl) hM
        refine lv_icmp_ne (tgt := 23) hx hb dX1_howMany_17 (by decide) (fun hc => ?_) (fun hc => ?_)
        · have hM := (if_neg hc).symm.trans hM
          exact j23 x2_4 _ _ _ hW (lv_sub hl [0, 1, 2, 3] rfl) hM
        · have hM := (if_pos hc).symm.trans hM
          refine lv_iinc (v := x2_4 + (1 : Int32)) (lv' := [(2, .int (x2_4 + (1 : Int32))), (0, .ref (aL 0)), (1, .int p1), (3, .int x3_4)]) hx hb dX1_howMany_20 hl (k := 2) rfl rfl (by decide) rfl (fun ls hl => ?_)
          exact j23 (x2_4 + (1 : Int32)) _ _ _ hW (lv_sub hl [1, 2, 0, 3] rfl) hM
  exact lp4 N (0 : Int32) (0 : Int32) _ _ _ hW (lv_sub hl [2, 3, 1, 0] rfl) hM

def MX1_join_j88 (L : LineV) (p2 : Int32) (t0_53 : Int32) (yL0_88 : (Nat → Int32)) : Option ((Nat → Int32) × (Nat → Int32) × (Nat → Int32) × Int32) :=
  MG t0_53 9 (MG p2 9 (MG p2 9 (some ((upd yL0_88 t0_53.toNatClampNeg p2), (upd L.2.1 p2.toNatClampNeg (1 : Int32)), (upd L.2.2.1 p2.toNatClampNeg (0 : Int32)), (L.2.2.2.2.2.1 + (1 : Int32))))))
def MX1_join_l60 (L : LineV) (p2 : Int32) (t0_53 : Int32) : Nat → Int32 → (Nat → Int32) → Option ((Nat → Int32) × (Nat → Int32) × (Nat → Int32) × Int32)
  | 0, _, _ => none
  | n60 + 1, x4_60, yL0_60 =>
    if x4_60 ≤ t0_53 then (MX1_join_j88 L p2 t0_53 yL0_60) else (MG (x4_60 - (1 : Int32)) 9 (MG x4_60 9 ((MX1_join_l60 L p2 t0_53 n60) (x4_60 + (-1 : Int32)) (upd yL0_60 x4_60.toNatClampNeg (yL0_60 (x4_60 - (1 : Int32)).toNatClampNeg)))))
def MX1_join_j53 (N : Nat) (L : LineV) (p2 : Int32) (t0_53 : Int32) : Option ((Nat → Int32) × (Nat → Int32) × (Nat → Int32) × Int32) :=
  MX1_join_l60 L p2 t0_53 N L.2.2.2.2.2.1 L.1
def MX1_join_j52 (N : Nat) (L : LineV) (p2 : Int32) : Option ((Nat → Int32) × (Nat → Int32) × (Nat → Int32) × Int32) :=
  MX1_join_j53 N L p2 (0 : Int32)
def MX1_join (N : Nat) (L : LineV) (P : PlanV) (p2 : Int32) : Option ((Nat → Int32) × (Nat → Int32) × (Nat → Int32) × Int32) :=
  if p2 < 0 then some (L.1, L.2.1, L.2.2.1, L.2.2.2.2.2.1) else (if (9 : Int32) ≤ p2 then some (L.1, L.2.1, L.2.2.1, L.2.2.2.2.2.1) else (if L.2.2.2.2.2.1 < 0 then some (L.1, L.2.1, L.2.2.1, L.2.2.2.2.2.1) else (if L.2.2.2.2.2.1 < (9 : Int32) then (if L.2.2.2.2.2.1 ≤ 0 then (MX1_join_j52 N L p2) else (MG (0 : Int32) 9 ((MX3_letsPass N P (L.1 (0 : Int32).toNatClampNeg) p2).bind (fun u42 => if u42 = 0 then (MX1_join_j52 N L p2) else MX1_join_j53 N L p2 (1 : Int32))))) else some (L.1, L.2.1, L.2.2.1, L.2.2.2.2.2.1))))
set_option maxHeartbeats 4000000 in
set_option maxRecDepth 100000 in
theorem c_X1_join (l : Launch) (G : va_G) (cI cZ cL : ClassId) (N : Nat) (aL : Nat → Nat) (aP : Nat → Nat) (L : LineV) (P : PlanV) (p2 : Int32) (rr : (Nat → Int32) × (Nat → Int32) × (Nat → Int32) × Int32) (hM : MX1_join N L P p2 = some rr) : CtV l yX1_join cX1_join 5 1 22 G cI cZ cL [.ref (aL 0), .ref (aP 0), .int p2] [wLine cI aL L, wPlan cI aP P] [wLine cI aL (rr.1, rr.2.1, rr.2.2.1, L.2.2.2.1, L.2.2.2.2.1, rr.2.2.2, L.2.2.2.2.2.2), wPlan cI aP P] := by
  refine ct_body (fun A => qV G [wLine cI aL (rr.1, rr.2.1, rr.2.2.1, L.2.2.2.1, L.2.2.2.2.1, rr.2.2.2, L.2.2.2.2.2.2), wPlan cI aP P] A) (by decide) (Nat.le_of_ble_eq_true rfl) (fun p e s m below meth c A ls X hW hl => ?_)
  have hx := X.1
  have hb := X.2.1
  have hts := X.2.2.2.2.2.1
  have hown := X.2.2.2.2.2.2.1
  have hl : lv_has ls 5 [(0, .ref (aL 0)), (1, .ref (aP 0)), (2, .int p2)] := hl
  unfold MX1_join at hM
  refine lv_iload_n hx hb dX1_join_0 rfl (lv_at hl 2 rfl) ?_
  refine lv_if_lt (tgt := 26) hx hb dX1_join_1 (by decide) (fun hc => ?_) (fun hc => ?_)
  · have hM := (if_pos hc).symm.trans hM
    obtain rfl := Option.some.inj hM
    exact g_retv X hW dX1_join_26
  · have hM := (if_neg hc).symm.trans hM
    refine lv_iload_n hx hb dX1_join_4 rfl (lv_at hl 2 rfl) ?_
    refine lv_bipush (v := (9 : Int32)) hx hb dX1_join_5 (by decide) ?_
    refine lv_icmp_ge (tgt := 26) hx hb dX1_join_7 (by decide) (fun hc => ?_) (fun hc => ?_)
    · have hM := (if_pos hc).symm.trans hM
      obtain rfl := Option.some.inj hM
      exact g_retv X hW dX1_join_26
    · have hM := (if_neg hc).symm.trans hM
      refine lv_aload_n hx hb dX1_join_10 rfl (lv_at hl 0 rfl) ?_
      refine g_get X hW 0 rfl rfl inX1 5 (by decide) q_150 rfl dX1_join_11 ?_
      refine lv_if_lt (tgt := 26) hx hb dX1_join_14 (by decide) (fun hc => ?_) (fun hc => ?_)
      · have hM := (if_pos hc).symm.trans hM
        obtain rfl := Option.some.inj hM
        exact g_retv X hW dX1_join_26
      · have hM := (if_neg hc).symm.trans hM
        refine lv_aload_n hx hb dX1_join_17 rfl (lv_at hl 0 rfl) ?_
        refine g_get X hW 0 rfl rfl inX1 5 (by decide) q_150 rfl dX1_join_18 ?_
        refine lv_bipush (v := (9 : Int32)) hx hb dX1_join_21 (by decide) ?_
        refine lv_icmp_lt (tgt := 27) hx hb dX1_join_23 (by decide) (fun hc => ?_) (fun hc => ?_)
        · have hM := (if_pos hc).symm.trans hM
          refine lv_aload_n hx hb dX1_join_27 rfl (lv_at hl 0 rfl) ?_
          refine g_get X hW 0 rfl rfl inX1 5 (by decide) q_150 rfl dX1_join_28 ?_
          have j53 : ∀ (t0_53 : Int32) (H : Heap) (locs : List Loc) (ls : Array Slot), Wd G A s [wLine cI aL L, wPlan cI aP P] H locs → lv_has ls 5 [(0, .ref (aL 0)), (2, .int p2)] → MX1_join_j53 N L p2 t0_53 = some rr → W p l e (rmO 1 22) s m ([.ref (aL 0), .ref (aP 0), .int p2] : List Value).toArray below meth c H locs 0 0 (MQ below (qV G [wLine cI aL (rr.1, rr.2.1, rr.2.2.1, L.2.2.2.1, L.2.2.2.2.1, rr.2.2.2, L.2.2.2.2.2.2), wPlan cI aP P] A) ([.ref (aL 0), .ref (aP 0), .int p2] : List Value).toArray s 0 0 A) (F0 m 53 ls [.int t0_53]) := by
            intro t0_53 H locs ls hW hl hM
            unfold MX1_join_j53 at hM
            refine lv_istore_n (lv' := [(3, .int t0_53), (0, .ref (aL 0)), (2, .int p2)]) hx hb dX1_join_53 rfl hl (by decide) rfl (fun ls hl => ?_)
            refine lv_aload_n hx hb dX1_join_54 rfl (lv_at hl 1 rfl) ?_
            refine g_get X hW 0 rfl rfl inX1 5 (by decide) q_150 rfl dX1_join_55 ?_
            refine lv_istore (lv' := [(4, .int L.2.2.2.2.2.1), (3, .int t0_53), (0, .ref (aL 0)), (2, .int p2)]) hx hb dX1_join_58 hl (by decide) rfl (fun ls hl => ?_)
            have j88 : ∀ (yL0_88 : (Nat → Int32)) (H : Heap) (locs : List Loc) (ls : Array Slot), Wd G A s [wLine cI aL (yL0_88, L.2), wPlan cI aP P] H locs → lv_has ls 5 [(0, .ref (aL 0)), (2, .int p2), (3, .int t0_53)] → MX1_join_j88 L p2 t0_53 yL0_88 = some rr → W p l e (rmO 1 22) s m ([.ref (aL 0), .ref (aP 0), .int p2] : List Value).toArray below meth c H locs 0 0 (MQ below (qV G [wLine cI aL (rr.1, rr.2.1, rr.2.2.1, L.2.2.2.1, L.2.2.2.2.1, rr.2.2.2, L.2.2.2.2.2.2), wPlan cI aP P] A) ([.ref (aL 0), .ref (aP 0), .int p2] : List Value).toArray s 0 0 A) (F0 m 88 ls []) := by
              intro yL0_88 H locs ls hW hl hM
              unfold MX1_join_j88 at hM
              refine lv_aload_n hx hb dX1_join_88 rfl (lv_at hl 0 rfl) ?_
              refine g_get X hW 0 rfl rfl inX1 0 (by decide) q_145 rfl dX1_join_89 ?_
              refine lv_iload_n hx hb dX1_join_92 rfl (lv_at hl 2 rfl) ?_
              refine lv_iload_n hx hb dX1_join_93 rfl (lv_at hl 1 rfl) ?_
              obtain ⟨hi94, hM⟩ := MG_some hM
              refine g_ast X hW 1 rfl hi94 [wLine cI aL ((upd yL0_88 t0_53.toNatClampNeg p2), L.2), wPlan cI aP P] rfl dX1_join_94 (fun H locs hW => ?_)
              refine lv_aload_n hx hb dX1_join_95 rfl (lv_at hl 0 rfl) ?_
              refine lv_dup hx hb dX1_join_96 rfl ?_
              refine g_get X hW 0 rfl rfl inX1 5 (by decide) q_150 rfl dX1_join_97 ?_
              refine lv_iconst (v := (1 : Int32)) hx hb dX1_join_100 (by decide) ?_
              refine lv_iadd hx hb dX1_join_101 ?_
              refine g_put X hW 0 rfl rfl inX1 tyX1 tyX1_ok nmX1 5 (by decide) q_150 rfl rfl (Nat.le_of_ble_eq_true rfl) [wLine cI aL ((upd yL0_88 t0_53.toNatClampNeg p2), L.2.1, L.2.2.1, L.2.2.2.1, L.2.2.2.2.1, (L.2.2.2.2.2.1 + (1 : Int32)), L.2.2.2.2.2.2), wPlan cI aP P] rfl dX1_join_102 (fun H locs hW => ?_)
              refine lv_aload_n hx hb dX1_join_105 rfl (lv_at hl 0 rfl) ?_
              refine g_get X hW 0 rfl rfl inX1 1 (by decide) q_146 rfl dX1_join_106 ?_
              refine lv_iload_n hx hb dX1_join_109 rfl (lv_at hl 1 rfl) ?_
              refine lv_iconst (v := (1 : Int32)) hx hb dX1_join_110 (by decide) ?_
              obtain ⟨hi111, hM⟩ := MG_some hM
              refine g_ast X hW 2 rfl hi111 [wLine cI aL ((upd yL0_88 t0_53.toNatClampNeg p2), (upd L.2.1 p2.toNatClampNeg (1 : Int32)), L.2.2.1, L.2.2.2.1, L.2.2.2.2.1, (L.2.2.2.2.2.1 + (1 : Int32)), L.2.2.2.2.2.2), wPlan cI aP P] rfl dX1_join_111 (fun H locs hW => ?_)
              refine lv_aload_n hx hb dX1_join_112 rfl (lv_at hl 0 rfl) ?_
              refine g_get X hW 0 rfl rfl inX1 2 (by decide) q_147 rfl dX1_join_113 ?_
              refine lv_iload_n hx hb dX1_join_116 rfl (lv_at hl 1 rfl) ?_
              refine lv_iconst (v := (0 : Int32)) hx hb dX1_join_117 (by decide) ?_
              obtain ⟨hi118, hM⟩ := MG_some hM
              refine g_ast X hW 3 rfl hi118 [wLine cI aL ((upd yL0_88 t0_53.toNatClampNeg p2), (upd L.2.1 p2.toNatClampNeg (1 : Int32)), (upd L.2.2.1 p2.toNatClampNeg (0 : Int32)), L.2.2.2.1, L.2.2.2.2.1, (L.2.2.2.2.2.1 + (1 : Int32)), L.2.2.2.2.2.2), wPlan cI aP P] rfl dX1_join_118 (fun H locs hW => ?_)
              obtain rfl := Option.some.inj hM
              exact g_retv X hW dX1_join_119
            have lp60 : ∀ (n60 : Nat) (x4_60 : Int32) (yL0_60 : (Nat → Int32)) (H : Heap) (locs : List Loc) (ls : Array Slot), Wd G A s [wLine cI aL (yL0_60, L.2), wPlan cI aP P] H locs → lv_has ls 5 [(0, .ref (aL 0)), (2, .int p2), (3, .int t0_53), (4, .int x4_60)] → MX1_join_l60 L p2 t0_53 n60 x4_60 yL0_60 = some rr → W p l e (rmO 1 22) s m ([.ref (aL 0), .ref (aP 0), .int p2] : List Value).toArray below meth c H locs 0 0 (MQ below (qV G [wLine cI aL (rr.1, rr.2.1, rr.2.2.1, L.2.2.2.1, L.2.2.2.2.1, rr.2.2.2, L.2.2.2.2.2.2), wPlan cI aP P] A) ([.ref (aL 0), .ref (aP 0), .int p2] : List Value).toArray s 0 0 A) (F0 m 60 ls []) := by
              intro n60
              induction n60 with
              | zero =>
                intro x4_60 yL0_60 H locs ls hW hl hM
                rw [MX1_join_l60] at hM
                cases hM
              | succ n60 ih60 =>
                intro x4_60 yL0_60 H locs ls hW hl hM
                rw [MX1_join_l60] at hM
                refine lv_iload hx hb dX1_join_60 (lv_at hl 3 rfl) ?_
                refine lv_iload_n hx hb dX1_join_62 rfl (lv_at hl 2 rfl) ?_
                refine lv_icmp_le (tgt := 88) hx hb dX1_join_63 (by decide) (fun hc => ?_) (fun hc => ?_)
                · have hM := (if_pos hc).symm.trans hM
                  exact j88 yL0_60 _ _ _ hW (lv_sub hl [0, 1, 2] rfl) hM
                · have hM := (if_neg hc).symm.trans hM
                  refine lv_aload_n hx hb dX1_join_66 rfl (lv_at hl 0 rfl) ?_
                  refine g_get X hW 0 rfl rfl inX1 0 (by decide) q_145 rfl dX1_join_67 ?_
                  refine lv_iload hx hb dX1_join_70 (lv_at hl 3 rfl) ?_
                  refine lv_aload_n hx hb dX1_join_72 rfl (lv_at hl 0 rfl) ?_
                  refine g_get X hW 0 rfl rfl inX1 0 (by decide) q_145 rfl dX1_join_73 ?_
                  refine lv_iload hx hb dX1_join_76 (lv_at hl 3 rfl) ?_
                  refine lv_iconst (v := (1 : Int32)) hx hb dX1_join_78 (by decide) ?_
                  refine lv_isub hx hb dX1_join_79 ?_
                  obtain ⟨hi80, hM⟩ := MG_some hM
                  refine g_ald X hW 1 rfl hi80 dX1_join_80 ?_
                  obtain ⟨hi81, hM⟩ := MG_some hM
                  refine g_ast X hW 1 rfl hi81 [wLine cI aL ((upd yL0_60 x4_60.toNatClampNeg (yL0_60 (x4_60 - (1 : Int32)).toNatClampNeg)), L.2), wPlan cI aP P] rfl dX1_join_81 (fun H locs hW => ?_)
                  refine lv_iinc (v := x4_60 + (-1 : Int32)) (lv' := [(4, .int (x4_60 + (-1 : Int32))), (0, .ref (aL 0)), (2, .int p2), (3, .int t0_53)]) hx hb dX1_join_82 hl (k := 3) rfl rfl (by decide) rfl (fun ls hl => ?_)
                  refine lv_goto (tgt := 60) hx hb dX1_join_85 (by decide) ?_
                  exact ih60 (x4_60 + (-1 : Int32)) (upd yL0_60 x4_60.toNatClampNeg (yL0_60 (x4_60 - (1 : Int32)).toNatClampNeg)) _ _ _ hW (lv_sub hl [1, 2, 3, 0] rfl) hM
            exact lp60 N L.2.2.2.2.2.1 L.1 _ _ _ hW (lv_sub hl [2, 3, 1, 0] rfl) hM
          have j52 : ∀ (H : Heap) (locs : List Loc) (ls : Array Slot), Wd G A s [wLine cI aL L, wPlan cI aP P] H locs → lv_has ls 5 [(0, .ref (aL 0)), (2, .int p2)] → MX1_join_j52 N L p2 = some rr → W p l e (rmO 1 22) s m ([.ref (aL 0), .ref (aP 0), .int p2] : List Value).toArray below meth c H locs 0 0 (MQ below (qV G [wLine cI aL (rr.1, rr.2.1, rr.2.2.1, L.2.2.2.1, L.2.2.2.2.1, rr.2.2.2, L.2.2.2.2.2.2), wPlan cI aP P] A) ([.ref (aL 0), .ref (aP 0), .int p2] : List Value).toArray s 0 0 A) (F0 m 52 ls []) := by
            intro H locs ls hW hl hM
            unfold MX1_join_j52 at hM
            refine lv_iconst (v := (0 : Int32)) hx hb dX1_join_52 (by decide) ?_
            exact j53 (0 : Int32) _ _ _ hW (lv_sub hl [0, 1] rfl) hM
          refine lv_if_le (tgt := 52) hx hb dX1_join_31 (by decide) (fun hc => ?_) (fun hc => ?_)
          · have hM := (if_pos hc).symm.trans hM
            exact j52 _ _ _ hW (lv_sub hl [0, 2] rfl) hM
          · have hM := (if_neg hc).symm.trans hM
            refine lv_aload_n hx hb dX1_join_34 rfl (lv_at hl 1 rfl) ?_
            refine lv_aload_n hx hb dX1_join_35 rfl (lv_at hl 0 rfl) ?_
            refine g_get X hW 0 rfl rfl inX1 0 (by decide) q_145 rfl dX1_join_36 ?_
            refine lv_iconst (v := (0 : Int32)) hx hb dX1_join_39 (by decide) ?_
            obtain ⟨hi40, hM⟩ := MG_some hM
            refine g_ald X hW 1 rfl hi40 dX1_join_40 ?_
            refine lv_iload_n hx hb dX1_join_41 rfl (lv_at hl 2 rfl) ?_
            obtain ⟨u42, hu42, hM⟩ := bind_some hM
            refine g_callVi (rest := []) (gr := [wLine cI aL L]) X hl.1 hW (c_X3_letsPass l G cI cZ cL N aP P (L.1 (0 : Int32).toNatClampNeg) p2 u42 hu42) q_514 q_511 q_512 q_513 q_56 hd_X3_letsPass rfl ⟨Nat.le_of_ble_eq_true rfl, Nat.le_of_ble_eq_true rfl⟩ ⟨Nat.zero_le _, Nat.zero_le _⟩ [1] [0] [wLine cI aL L, wPlan cI aP P] ⟨pm_2_1, rfl, rfl, rfl⟩ ⟨pm_2_1, rfl, rfl, rfl⟩ (q0 := 6) rfl rfl rfl (Nat.le_of_ble_eq_true rfl) dX1_join_42 (fun H locs hW => ?_)
            refine lv_if_eq (tgt := 52) hx hb dX1_join_45 (by decide) (fun hc => ?_) (fun hc => ?_)
            · have hM := (if_pos hc).symm.trans hM
              exact j52 _ _ _ hW (lv_sub hl [0, 2] rfl) hM
            · have hM := (if_neg hc).symm.trans hM
              refine lv_iconst (v := (1 : Int32)) hx hb dX1_join_48 (by decide) ?_
              refine lv_goto (tgt := 53) hx hb dX1_join_49 (by decide) ?_
              exact j53 (1 : Int32) _ _ _ hW (lv_sub hl [0, 2] rfl) hM
        · have hM := (if_neg hc).symm.trans hM
          obtain rfl := Option.some.inj hM
          exact g_retv X hW dX1_join_26

def MX1_goToHead_j62 (L : LineV) (p1 : Int32) (yL0_62 : (Nat → Int32)) : Option ((Nat → Int32) × (Nat → Int32)) :=
  MG (L.2.2.2.2.2.1 - (1 : Int32)) 9 (MG p1 9 (some ((upd yL0_62 (L.2.2.2.2.2.1 - (1 : Int32)).toNatClampNeg p1), (upd L.2.2.1 p1.toNatClampNeg (0 : Int32)))))
def MX1_goToHead_l32 (L : LineV) (p1 : Int32) : Nat → Int32 → (Nat → Int32) → Option ((Nat → Int32) × (Nat → Int32))
  | 0, _, _ => none
  | n32 + 1, x3_32, yL0_32 =>
    if (L.2.2.2.2.2.1 - (1 : Int32)) ≤ x3_32 then (MX1_goToHead_j62 L p1 yL0_32) else (MG (x3_32 + (1 : Int32)) 9 (MG x3_32 9 ((MX1_goToHead_l32 L p1 n32) (x3_32 + (1 : Int32)) (upd yL0_32 x3_32.toNatClampNeg (yL0_32 (x3_32 + (1 : Int32)).toNatClampNeg)))))
def MX1_goToHead (N : Nat) (L : LineV) (p1 : Int32) : Option ((Nat → Int32) × (Nat → Int32)) :=
  (MX1_placeOf N L p1).bind (fun u2 => if p1 < 0 then some (L.1, L.2.2.1) else (if (9 : Int32) ≤ p1 then some (L.1, L.2.2.1) else (if u2 < 0 then some (L.1, L.2.2.1) else (if L.2.2.2.2.2.1 ≤ (9 : Int32) then (MX1_goToHead_l32 L p1 N u2 L.1) else some (L.1, L.2.2.1)))))
set_option maxHeartbeats 4000000 in
set_option maxRecDepth 100000 in
theorem c_X1_goToHead (l : Launch) (G : va_G) (cI cZ cL : ClassId) (N : Nat) (aL : Nat → Nat) (L : LineV) (p1 : Int32) (rr : (Nat → Int32) × (Nat → Int32)) (hM : MX1_goToHead N L p1 = some rr) : CtV l yX1_goToHead cX1_goToHead 4 1 22 G cI cZ cL [.ref (aL 0), .int p1] [wLine cI aL L] [wLine cI aL (rr.1, L.2.1, rr.2, L.2.2.2)] := by
  refine ct_body (fun A => qV G [wLine cI aL (rr.1, L.2.1, rr.2, L.2.2.2)] A) (by decide) (Nat.le_of_ble_eq_true rfl) (fun p e s m below meth c A ls X hW hl => ?_)
  have hx := X.1
  have hb := X.2.1
  have hts := X.2.2.2.2.2.1
  have hown := X.2.2.2.2.2.2.1
  have hl : lv_has ls 4 [(0, .ref (aL 0)), (1, .int p1)] := hl
  unfold MX1_goToHead at hM
  refine lv_aload_n hx hb dX1_goToHead_0 rfl (lv_at hl 0 rfl) ?_
  refine lv_iload_n hx hb dX1_goToHead_1 rfl (lv_at hl 1 rfl) ?_
  obtain ⟨u2, hu2, hM⟩ := bind_some hM
  refine g_callVi (rest := []) (gr := []) X hl.1 hW (c_X1_placeOf l G cI cZ cL N aL L p1 u2 hu2) q_454 q_523 q_452 q_453 q_58 hd_X1_placeOf rfl ⟨Nat.le_of_ble_eq_true rfl, Nat.le_of_ble_eq_true rfl⟩ ⟨Nat.zero_le _, Nat.zero_le _⟩ [0] [] [wLine cI aL L] ⟨pm_1_0, rfl, rfl, rfl⟩ ⟨pm_1_0, rfl, rfl, rfl⟩ (q0 := 0) rfl rfl rfl (Nat.le_of_ble_eq_true rfl) dX1_goToHead_2 (fun H locs hW => ?_)
  refine lv_istore_n (lv' := [(2, .int u2), (0, .ref (aL 0)), (1, .int p1)]) hx hb dX1_goToHead_5 rfl hl (by decide) rfl (fun ls hl => ?_)
  refine lv_iload_n hx hb dX1_goToHead_6 rfl (lv_at hl 2 rfl) ?_
  refine lv_if_lt (tgt := 29) hx hb dX1_goToHead_7 (by decide) (fun hc => ?_) (fun hc => ?_)
  · have hM := (if_pos hc).symm.trans hM
    obtain rfl := Option.some.inj hM
    exact g_retv X hW dX1_goToHead_29
  · have hM := (if_neg hc).symm.trans hM
    refine lv_iload_n hx hb dX1_goToHead_10 rfl (lv_at hl 2 rfl) ?_
    refine lv_bipush (v := (9 : Int32)) hx hb dX1_goToHead_11 (by decide) ?_
    refine lv_icmp_ge (tgt := 29) hx hb dX1_goToHead_13 (by decide) (fun hc => ?_) (fun hc => ?_)
    · have hM := (if_pos hc).symm.trans hM
      obtain rfl := Option.some.inj hM
      exact g_retv X hW dX1_goToHead_29
    · have hM := (if_neg hc).symm.trans hM
      refine lv_iload_n hx hb dX1_goToHead_16 rfl (lv_at hl 0 rfl) ?_
      refine lv_if_lt (tgt := 29) hx hb dX1_goToHead_17 (by decide) (fun hc => ?_) (fun hc => ?_)
      · have hM := (if_pos hc).symm.trans hM
        obtain rfl := Option.some.inj hM
        exact g_retv X hW dX1_goToHead_29
      · have hM := (if_neg hc).symm.trans hM
        refine lv_aload_n hx hb dX1_goToHead_20 rfl (lv_at hl 1 rfl) ?_
        refine g_get X hW 0 rfl rfl inX1 5 (by decide) q_150 rfl dX1_goToHead_21 ?_
        refine lv_bipush (v := (9 : Int32)) hx hb dX1_goToHead_24 (by decide) ?_
        refine lv_icmp_le (tgt := 30) hx hb dX1_goToHead_26 (by decide) (fun hc => ?_) (fun hc => ?_)
        · have hM := (if_pos hc).symm.trans hM
          refine lv_iload_n hx hb dX1_goToHead_30 rfl (lv_at hl 0 rfl) ?_
          refine lv_istore_n (lv' := [(3, .int u2), (2, .int u2), (0, .ref (aL 0)), (1, .int p1)]) hx hb dX1_goToHead_31 rfl hl (by decide) rfl (fun ls hl => ?_)
          have j62 : ∀ (yL0_62 : (Nat → Int32)) (H : Heap) (locs : List Loc) (ls : Array Slot), Wd G A s [wLine cI aL (yL0_62, L.2)] H locs → lv_has ls 4 [(0, .ref (aL 0)), (1, .int p1)] → MX1_goToHead_j62 L p1 yL0_62 = some rr → W p l e (rmO 1 22) s m ([.ref (aL 0), .int p1] : List Value).toArray below meth c H locs 0 0 (MQ below (qV G [wLine cI aL (rr.1, L.2.1, rr.2, L.2.2.2)] A) ([.ref (aL 0), .int p1] : List Value).toArray s 0 0 A) (F0 m 62 ls []) := by
            intro yL0_62 H locs ls hW hl hM
            unfold MX1_goToHead_j62 at hM
            refine lv_aload_n hx hb dX1_goToHead_62 rfl (lv_at hl 0 rfl) ?_
            refine g_get X hW 0 rfl rfl inX1 0 (by decide) q_145 rfl dX1_goToHead_63 ?_
            refine lv_aload_n hx hb dX1_goToHead_66 rfl (lv_at hl 0 rfl) ?_
            refine g_get X hW 0 rfl rfl inX1 5 (by decide) q_150 rfl dX1_goToHead_67 ?_
            refine lv_iconst (v := (1 : Int32)) hx hb dX1_goToHead_70 (by decide) ?_
            refine lv_isub hx hb dX1_goToHead_71 ?_
            refine lv_iload_n hx hb dX1_goToHead_72 rfl (lv_at hl 1 rfl) ?_
            obtain ⟨hi73, hM⟩ := MG_some hM
            refine g_ast X hW 1 rfl hi73 [wLine cI aL ((upd yL0_62 (L.2.2.2.2.2.1 - (1 : Int32)).toNatClampNeg p1), L.2)] rfl dX1_goToHead_73 (fun H locs hW => ?_)
            refine lv_aload_n hx hb dX1_goToHead_74 rfl (lv_at hl 0 rfl) ?_
            refine g_get X hW 0 rfl rfl inX1 2 (by decide) q_147 rfl dX1_goToHead_75 ?_
            refine lv_iload_n hx hb dX1_goToHead_78 rfl (lv_at hl 1 rfl) ?_
            refine lv_iconst (v := (0 : Int32)) hx hb dX1_goToHead_79 (by decide) ?_
            obtain ⟨hi80, hM⟩ := MG_some hM
            refine g_ast X hW 3 rfl hi80 [wLine cI aL ((upd yL0_62 (L.2.2.2.2.2.1 - (1 : Int32)).toNatClampNeg p1), L.2.1, (upd L.2.2.1 p1.toNatClampNeg (0 : Int32)), L.2.2.2)] rfl dX1_goToHead_80 (fun H locs hW => ?_)
            obtain rfl := Option.some.inj hM
            exact g_retv X hW dX1_goToHead_81
          have lp32 : ∀ (n32 : Nat) (x3_32 : Int32) (yL0_32 : (Nat → Int32)) (H : Heap) (locs : List Loc) (ls : Array Slot), Wd G A s [wLine cI aL (yL0_32, L.2)] H locs → lv_has ls 4 [(0, .ref (aL 0)), (1, .int p1), (3, .int x3_32)] → MX1_goToHead_l32 L p1 n32 x3_32 yL0_32 = some rr → W p l e (rmO 1 22) s m ([.ref (aL 0), .int p1] : List Value).toArray below meth c H locs 0 0 (MQ below (qV G [wLine cI aL (rr.1, L.2.1, rr.2, L.2.2.2)] A) ([.ref (aL 0), .int p1] : List Value).toArray s 0 0 A) (F0 m 32 ls []) := by
            intro n32
            induction n32 with
            | zero =>
              intro x3_32 yL0_32 H locs ls hW hl hM
              rw [MX1_goToHead_l32] at hM
              cases hM
            | succ n32 ih32 =>
              intro x3_32 yL0_32 H locs ls hW hl hM
              rw [MX1_goToHead_l32] at hM
              refine lv_iload_n hx hb dX1_goToHead_32 rfl (lv_at hl 2 rfl) ?_
              refine lv_aload_n hx hb dX1_goToHead_33 rfl (lv_at hl 0 rfl) ?_
              refine g_get X hW 0 rfl rfl inX1 5 (by decide) q_150 rfl dX1_goToHead_34 ?_
              refine lv_iconst (v := (1 : Int32)) hx hb dX1_goToHead_37 (by decide) ?_
              refine lv_isub hx hb dX1_goToHead_38 ?_
              refine lv_icmp_ge (tgt := 62) hx hb dX1_goToHead_39 (by decide) (fun hc => ?_) (fun hc => ?_)
              · have hM := (if_pos hc).symm.trans hM
                exact j62 yL0_32 _ _ _ hW (lv_sub hl [0, 1] rfl) hM
              · have hM := (if_neg hc).symm.trans hM
                refine lv_aload_n hx hb dX1_goToHead_42 rfl (lv_at hl 0 rfl) ?_
                refine g_get X hW 0 rfl rfl inX1 0 (by decide) q_145 rfl dX1_goToHead_43 ?_
                refine lv_iload_n hx hb dX1_goToHead_46 rfl (lv_at hl 2 rfl) ?_
                refine lv_aload_n hx hb dX1_goToHead_47 rfl (lv_at hl 0 rfl) ?_
                refine g_get X hW 0 rfl rfl inX1 0 (by decide) q_145 rfl dX1_goToHead_48 ?_
                refine lv_iload_n hx hb dX1_goToHead_51 rfl (lv_at hl 2 rfl) ?_
                refine lv_iconst (v := (1 : Int32)) hx hb dX1_goToHead_52 (by decide) ?_
                refine lv_iadd hx hb dX1_goToHead_53 ?_
                obtain ⟨hi54, hM⟩ := MG_some hM
                refine g_ald X hW 1 rfl hi54 dX1_goToHead_54 ?_
                obtain ⟨hi55, hM⟩ := MG_some hM
                refine g_ast X hW 1 rfl hi55 [wLine cI aL ((upd yL0_32 x3_32.toNatClampNeg (yL0_32 (x3_32 + (1 : Int32)).toNatClampNeg)), L.2)] rfl dX1_goToHead_55 (fun H locs hW => ?_)
                refine lv_iinc (v := x3_32 + (1 : Int32)) (lv' := [(3, .int (x3_32 + (1 : Int32))), (0, .ref (aL 0)), (1, .int p1)]) hx hb dX1_goToHead_56 hl (k := 2) rfl rfl (by decide) rfl (fun ls hl => ?_)
                refine lv_goto (tgt := 32) hx hb dX1_goToHead_59 (by decide) ?_
                exact ih32 (x3_32 + (1 : Int32)) (upd yL0_32 x3_32.toNatClampNeg (yL0_32 (x3_32 + (1 : Int32)).toNatClampNeg)) _ _ _ hW (lv_sub hl [1, 2, 0] rfl) hM
          exact lp32 N u2 L.1 _ _ _ hW (lv_sub hl [2, 3, 0] rfl) hM
        · have hM := (if_neg hc).symm.trans hM
          obtain rfl := Option.some.inj hM
          exact g_retv X hW dX1_goToHead_29

def MX1_takeOut_j62 (L : LineV) (yL0_62 : (Nat → Int32)) : Option ((Nat → Int32) × Int32) :=
  some (yL0_62, (L.2.2.2.2.2.1 - (1 : Int32)))
def MX1_takeOut_l34 (L : LineV) : Nat → Int32 → (Nat → Int32) → Option ((Nat → Int32) × Int32)
  | 0, _, _ => none
  | n34 + 1, x2_34, yL0_34 =>
    if (L.2.2.2.2.2.1 - (1 : Int32)) ≤ x2_34 then (MX1_takeOut_j62 L yL0_34) else (MG (x2_34 + (1 : Int32)) 9 (MG x2_34 9 ((MX1_takeOut_l34 L n34) (x2_34 + (1 : Int32)) (upd yL0_34 x2_34.toNatClampNeg (yL0_34 (x2_34 + (1 : Int32)).toNatClampNeg)))))
def MX1_takeOut (N : Nat) (L : LineV) (p1 : Int32) : Option ((Nat → Int32) × Int32) :=
  if p1 < 0 then some (L.1, L.2.2.2.2.2.1) else (if L.2.2.2.2.2.1 ≤ p1 then some (L.1, L.2.2.2.2.2.1) else (if L.2.2.2.2.2.1 ≤ (9 : Int32) then (MX1_takeOut_l34 L N p1 L.1) else some (L.1, L.2.2.2.2.2.1)))
set_option maxHeartbeats 4000000 in
set_option maxRecDepth 100000 in
theorem c_X1_takeOut (l : Launch) (G : va_G) (cI cZ cL : ClassId) (N : Nat) (aL : Nat → Nat) (L : LineV) (p1 : Int32) (rr : (Nat → Int32) × Int32) (hM : MX1_takeOut N L p1 = some rr) : CtV l yX1_takeOut cX1_takeOut 3 0 0 G cI cZ cL [.ref (aL 0), .int p1] [wLine cI aL L] [wLine cI aL (rr.1, L.2.1, L.2.2.1, L.2.2.2.1, L.2.2.2.2.1, rr.2, L.2.2.2.2.2.2)] := by
  refine ct_body (fun A => qV G [wLine cI aL (rr.1, L.2.1, L.2.2.1, L.2.2.2.1, L.2.2.2.2.1, rr.2, L.2.2.2.2.2.2)] A) (by decide) (Nat.le_of_ble_eq_true rfl) (fun p e s m below meth c A ls X hW hl => ?_)
  have hx := X.1
  have hb := X.2.1
  have hts := X.2.2.2.2.2.1
  have hown := X.2.2.2.2.2.2.1
  have hl : lv_has ls 3 [(0, .ref (aL 0)), (1, .int p1)] := hl
  unfold MX1_takeOut at hM
  refine lv_iload_n hx hb dX1_takeOut_0 rfl (lv_at hl 1 rfl) ?_
  refine lv_if_lt (tgt := 21) hx hb dX1_takeOut_1 (by decide) (fun hc => ?_) (fun hc => ?_)
  · have hM := (if_pos hc).symm.trans hM
    obtain rfl := Option.some.inj hM
    exact g_retv X hW dX1_takeOut_21
  · have hM := (if_neg hc).symm.trans hM
    refine lv_iload_n hx hb dX1_takeOut_4 rfl (lv_at hl 1 rfl) ?_
    refine lv_aload_n hx hb dX1_takeOut_5 rfl (lv_at hl 0 rfl) ?_
    refine g_get X hW 0 rfl rfl inX1 5 (by decide) q_150 rfl dX1_takeOut_6 ?_
    refine lv_icmp_ge (tgt := 21) hx hb dX1_takeOut_9 (by decide) (fun hc => ?_) (fun hc => ?_)
    · have hM := (if_pos hc).symm.trans hM
      obtain rfl := Option.some.inj hM
      exact g_retv X hW dX1_takeOut_21
    · have hM := (if_neg hc).symm.trans hM
      refine lv_aload_n hx hb dX1_takeOut_12 rfl (lv_at hl 0 rfl) ?_
      refine g_get X hW 0 rfl rfl inX1 5 (by decide) q_150 rfl dX1_takeOut_13 ?_
      refine lv_bipush (v := (9 : Int32)) hx hb dX1_takeOut_16 (by decide) ?_
      refine lv_icmp_le (tgt := 22) hx hb dX1_takeOut_18 (by decide) (fun hc => ?_) (fun hc => ?_)
      · have hM := (if_pos hc).symm.trans hM
        refine lv_aload_n hx hb dX1_takeOut_22 rfl (lv_at hl 0 rfl) ?_
        refine lv_dup hx hb dX1_takeOut_23 rfl ?_
        refine g_get X hW 0 rfl rfl inX1 5 (by decide) q_150 rfl dX1_takeOut_24 ?_
        refine lv_iconst (v := (1 : Int32)) hx hb dX1_takeOut_27 (by decide) ?_
        refine lv_isub hx hb dX1_takeOut_28 ?_
        refine g_put X hW 0 rfl rfl inX1 tyX1 tyX1_ok nmX1 5 (by decide) q_150 rfl rfl (Nat.le_of_ble_eq_true rfl) [wLine cI aL (L.1, L.2.1, L.2.2.1, L.2.2.2.1, L.2.2.2.2.1, (L.2.2.2.2.2.1 - (1 : Int32)), L.2.2.2.2.2.2)] rfl dX1_takeOut_29 (fun H locs hW => ?_)
        refine lv_iload_n hx hb dX1_takeOut_32 rfl (lv_at hl 1 rfl) ?_
        refine lv_istore_n (lv' := [(2, .int p1), (0, .ref (aL 0)), (1, .int p1)]) hx hb dX1_takeOut_33 rfl hl (by decide) rfl (fun ls hl => ?_)
        have j62 : ∀ (yL0_62 : (Nat → Int32)) (H : Heap) (locs : List Loc) (ls : Array Slot), Wd G A s [wLine cI aL (yL0_62, L.2.1, L.2.2.1, L.2.2.2.1, L.2.2.2.2.1, (L.2.2.2.2.2.1 - (1 : Int32)), L.2.2.2.2.2.2)] H locs → lv_has ls 3 [] → MX1_takeOut_j62 L yL0_62 = some rr → W p l e (rmO 0 0) s m ([.ref (aL 0), .int p1] : List Value).toArray below meth c H locs 0 0 (MQ below (qV G [wLine cI aL (rr.1, L.2.1, L.2.2.1, L.2.2.2.1, L.2.2.2.2.1, rr.2, L.2.2.2.2.2.2)] A) ([.ref (aL 0), .int p1] : List Value).toArray s 0 0 A) (F0 m 62 ls []) := by
          intro yL0_62 H locs ls hW hl hM
          unfold MX1_takeOut_j62 at hM
          obtain rfl := Option.some.inj hM
          exact g_retv X hW dX1_takeOut_62
        have lp34 : ∀ (n34 : Nat) (x2_34 : Int32) (yL0_34 : (Nat → Int32)) (H : Heap) (locs : List Loc) (ls : Array Slot), Wd G A s [wLine cI aL (yL0_34, L.2.1, L.2.2.1, L.2.2.2.1, L.2.2.2.2.1, (L.2.2.2.2.2.1 - (1 : Int32)), L.2.2.2.2.2.2)] H locs → lv_has ls 3 [(0, .ref (aL 0)), (2, .int x2_34)] → MX1_takeOut_l34 L n34 x2_34 yL0_34 = some rr → W p l e (rmO 0 0) s m ([.ref (aL 0), .int p1] : List Value).toArray below meth c H locs 0 0 (MQ below (qV G [wLine cI aL (rr.1, L.2.1, L.2.2.1, L.2.2.2.1, L.2.2.2.2.1, rr.2, L.2.2.2.2.2.2)] A) ([.ref (aL 0), .int p1] : List Value).toArray s 0 0 A) (F0 m 34 ls []) := by
          intro n34
          induction n34 with
          | zero =>
            intro x2_34 yL0_34 H locs ls hW hl hM
            rw [MX1_takeOut_l34] at hM
            cases hM
          | succ n34 ih34 =>
            intro x2_34 yL0_34 H locs ls hW hl hM
            rw [MX1_takeOut_l34] at hM
            refine lv_iload_n hx hb dX1_takeOut_34 rfl (lv_at hl 1 rfl) ?_
            refine lv_aload_n hx hb dX1_takeOut_35 rfl (lv_at hl 0 rfl) ?_
            refine g_get X hW 0 rfl rfl inX1 5 (by decide) q_150 rfl dX1_takeOut_36 ?_
            refine lv_icmp_ge (tgt := 62) hx hb dX1_takeOut_39 (by decide) (fun hc => ?_) (fun hc => ?_)
            · have hM := (if_pos hc).symm.trans hM
              exact j62 yL0_34 _ _ _ hW (lv_sub hl [] rfl) hM
            · have hM := (if_neg hc).symm.trans hM
              refine lv_aload_n hx hb dX1_takeOut_42 rfl (lv_at hl 0 rfl) ?_
              refine g_get X hW 0 rfl rfl inX1 0 (by decide) q_145 rfl dX1_takeOut_43 ?_
              refine lv_iload_n hx hb dX1_takeOut_46 rfl (lv_at hl 1 rfl) ?_
              refine lv_aload_n hx hb dX1_takeOut_47 rfl (lv_at hl 0 rfl) ?_
              refine g_get X hW 0 rfl rfl inX1 0 (by decide) q_145 rfl dX1_takeOut_48 ?_
              refine lv_iload_n hx hb dX1_takeOut_51 rfl (lv_at hl 1 rfl) ?_
              refine lv_iconst (v := (1 : Int32)) hx hb dX1_takeOut_52 (by decide) ?_
              refine lv_iadd hx hb dX1_takeOut_53 ?_
              obtain ⟨hi54, hM⟩ := MG_some hM
              refine g_ald X hW 1 rfl hi54 dX1_takeOut_54 ?_
              obtain ⟨hi55, hM⟩ := MG_some hM
              refine g_ast X hW 1 rfl hi55 [wLine cI aL ((upd yL0_34 x2_34.toNatClampNeg (yL0_34 (x2_34 + (1 : Int32)).toNatClampNeg)), L.2.1, L.2.2.1, L.2.2.2.1, L.2.2.2.2.1, (L.2.2.2.2.2.1 - (1 : Int32)), L.2.2.2.2.2.2)] rfl dX1_takeOut_55 (fun H locs hW => ?_)
              refine lv_iinc (v := x2_34 + (1 : Int32)) (lv' := [(2, .int (x2_34 + (1 : Int32))), (0, .ref (aL 0))]) hx hb dX1_takeOut_56 hl (k := 1) rfl rfl (by decide) rfl (fun ls hl => ?_)
              refine lv_goto (tgt := 34) hx hb dX1_takeOut_59 (by decide) ?_
              exact ih34 (x2_34 + (1 : Int32)) (upd yL0_34 x2_34.toNatClampNeg (yL0_34 (x2_34 + (1 : Int32)).toNatClampNeg)) _ _ _ hW (lv_sub hl [1, 0] rfl) hM
        exact lp34 N p1 L.1 _ _ _ hW (lv_sub hl [1, 0] rfl) hM
      · have hM := (if_neg hc).symm.trans hM
        obtain rfl := Option.some.inj hM
        exact g_retv X hW dX1_takeOut_21

def MX1_goAway (N : Nat) (L : LineV) (p1 : Int32) : Option ((Nat → Int32) × (Nat → Int32) × Int32) :=
  (MX1_placeOf N L p1).bind (fun u2 => if p1 < 0 then some (L.1, L.2.1, L.2.2.2.2.2.1) else (if (9 : Int32) ≤ p1 then some (L.1, L.2.1, L.2.2.2.2.2.1) else (if 0 ≤ u2 then ((MX1_takeOut N L u2).bind (fun u23 => MG p1 9 (some (u23.1, (upd L.2.1 p1.toNatClampNeg (2 : Int32)), u23.2)))) else some (L.1, L.2.1, L.2.2.2.2.2.1))))
set_option maxHeartbeats 4000000 in
set_option maxRecDepth 100000 in
theorem c_X1_goAway (l : Launch) (G : va_G) (cI cZ cL : ClassId) (N : Nat) (aL : Nat → Nat) (L : LineV) (p1 : Int32) (rr : (Nat → Int32) × (Nat → Int32) × Int32) (hM : MX1_goAway N L p1 = some rr) : CtV l yX1_goAway cX1_goAway 3 1 22 G cI cZ cL [.ref (aL 0), .int p1] [wLine cI aL L] [wLine cI aL (rr.1, rr.2.1, L.2.2.1, L.2.2.2.1, L.2.2.2.2.1, rr.2.2, L.2.2.2.2.2.2)] := by
  refine ct_body (fun A => qV G [wLine cI aL (rr.1, rr.2.1, L.2.2.1, L.2.2.2.1, L.2.2.2.2.1, rr.2.2, L.2.2.2.2.2.2)] A) (by decide) (Nat.le_of_ble_eq_true rfl) (fun p e s m below meth c A ls X hW hl => ?_)
  have hx := X.1
  have hb := X.2.1
  have hts := X.2.2.2.2.2.1
  have hown := X.2.2.2.2.2.2.1
  have hl : lv_has ls 3 [(0, .ref (aL 0)), (1, .int p1)] := hl
  unfold MX1_goAway at hM
  refine lv_aload_n hx hb dX1_goAway_0 rfl (lv_at hl 0 rfl) ?_
  refine lv_iload_n hx hb dX1_goAway_1 rfl (lv_at hl 1 rfl) ?_
  obtain ⟨u2, hu2, hM⟩ := bind_some hM
  refine g_callVi (rest := []) (gr := []) X hl.1 hW (c_X1_placeOf l G cI cZ cL N aL L p1 u2 hu2) q_454 q_523 q_452 q_453 q_58 hd_X1_placeOf rfl ⟨Nat.le_of_ble_eq_true rfl, Nat.le_of_ble_eq_true rfl⟩ ⟨Nat.zero_le _, Nat.zero_le _⟩ [0] [] [wLine cI aL L] ⟨pm_1_0, rfl, rfl, rfl⟩ ⟨pm_1_0, rfl, rfl, rfl⟩ (q0 := 0) rfl rfl rfl (Nat.le_of_ble_eq_true rfl) dX1_goAway_2 (fun H locs hW => ?_)
  refine lv_istore_n (lv' := [(2, .int u2), (0, .ref (aL 0)), (1, .int p1)]) hx hb dX1_goAway_5 rfl hl (by decide) rfl (fun ls hl => ?_)
  refine lv_iload_n hx hb dX1_goAway_6 rfl (lv_at hl 2 rfl) ?_
  refine lv_if_lt (tgt := 20) hx hb dX1_goAway_7 (by decide) (fun hc => ?_) (fun hc => ?_)
  · have hM := (if_pos hc).symm.trans hM
    obtain rfl := Option.some.inj hM
    exact g_retv X hW dX1_goAway_20
  · have hM := (if_neg hc).symm.trans hM
    refine lv_iload_n hx hb dX1_goAway_10 rfl (lv_at hl 2 rfl) ?_
    refine lv_bipush (v := (9 : Int32)) hx hb dX1_goAway_11 (by decide) ?_
    refine lv_icmp_ge (tgt := 20) hx hb dX1_goAway_13 (by decide) (fun hc => ?_) (fun hc => ?_)
    · have hM := (if_pos hc).symm.trans hM
      obtain rfl := Option.some.inj hM
      exact g_retv X hW dX1_goAway_20
    · have hM := (if_neg hc).symm.trans hM
      refine lv_iload_n hx hb dX1_goAway_16 rfl (lv_at hl 0 rfl) ?_
      refine lv_if_ge (tgt := 21) hx hb dX1_goAway_17 (by decide) (fun hc => ?_) (fun hc => ?_)
      · have hM := (if_pos hc).symm.trans hM
        refine lv_aload_n hx hb dX1_goAway_21 rfl (lv_at hl 1 rfl) ?_
        refine lv_iload_n hx hb dX1_goAway_22 rfl (lv_at hl 0 rfl) ?_
        obtain ⟨u23, hu23, hM⟩ := bind_some hM
        refine g_callVv (rest := []) (gr := []) X hl.1 hW (c_X1_takeOut l G cI cZ cL N aL L u2 u23 hu23) q_541 q_538 q_540 q_10 q_58 hd_X1_takeOut rfl ⟨Nat.le_of_ble_eq_true rfl, Nat.le_of_ble_eq_true rfl⟩ ⟨Nat.zero_le _, Nat.zero_le _⟩ [0] [] [wLine cI aL (u23.1, L.2.1, L.2.2.1, L.2.2.2.1, L.2.2.2.2.1, u23.2, L.2.2.2.2.2.2)] ⟨pm_1_0, rfl, rfl, rfl⟩ ⟨pm_1_0, rfl, rfl, rfl⟩ (q0 := 0) rfl rfl rfl (Nat.le_of_ble_eq_true rfl) dX1_goAway_23 (fun H locs hW => ?_)
        refine lv_aload_n hx hb dX1_goAway_26 rfl (lv_at hl 1 rfl) ?_
        refine g_get X hW 0 rfl rfl inX1 1 (by decide) q_146 rfl dX1_goAway_27 ?_
        refine lv_iload_n hx hb dX1_goAway_30 rfl (lv_at hl 2 rfl) ?_
        refine lv_iconst (v := (2 : Int32)) hx hb dX1_goAway_31 (by decide) ?_
        obtain ⟨hi32, hM⟩ := MG_some hM
        refine g_ast X hW 2 rfl hi32 [wLine cI aL (u23.1, (upd L.2.1 p1.toNatClampNeg (2 : Int32)), L.2.2.1, L.2.2.2.1, L.2.2.2.2.1, u23.2, L.2.2.2.2.2.2)] rfl dX1_goAway_32 (fun H locs hW => ?_)
        obtain rfl := Option.some.inj hM
        exact g_retv X hW dX1_goAway_33
      · have hM := (if_neg hc).symm.trans hM
        obtain rfl := Option.some.inj hM
        exact g_retv X hW dX1_goAway_20

def MX1_canYield_j24 : Option (Int32) :=
  some ((0 : Int32))
def MX1_canYield (N : Nat) (L : LineV) (p1 : Int32) : Option (Int32) :=
  (MX1_placeOf N L p1).bind (fun u2 => if u2 < 0 then (MX1_canYield_j24) else (if (L.2.2.2.2.2.1 - (1 : Int32)) ≤ u2 then (MX1_canYield_j24) else some ((1 : Int32))))
set_option maxHeartbeats 4000000 in
set_option maxRecDepth 100000 in
theorem c_X1_canYield (l : Launch) (G : va_G) (cI cZ cL : ClassId) (N : Nat) (aL : Nat → Nat) (L : LineV) (p1 : Int32) (rr : Int32) (hM : MX1_canYield N L p1 = some rr) : CtI l yX1_canYield cX1_canYield 3 .boolean 1 22 G cI cZ cL [.ref (aL 0), .int p1] [wLine cI aL L] rr [wLine cI aL L] := by
  refine ct_body (fun A => qI G rr [wLine cI aL L] A) (by decide) (Nat.le_of_ble_eq_true rfl) (fun p e s m below meth c A ls X hW hl => ?_)
  have hx := X.1
  have hb := X.2.1
  have hts := X.2.2.2.2.2.1
  have hown := X.2.2.2.2.2.2.1
  have hl : lv_has ls 3 [(0, .ref (aL 0)), (1, .int p1)] := hl
  unfold MX1_canYield at hM
  refine lv_aload_n hx hb dX1_canYield_0 rfl (lv_at hl 0 rfl) ?_
  refine lv_iload_n hx hb dX1_canYield_1 rfl (lv_at hl 1 rfl) ?_
  obtain ⟨u2, hu2, hM⟩ := bind_some hM
  refine g_callVi (rest := []) (gr := []) X hl.1 hW (c_X1_placeOf l G cI cZ cL N aL L p1 u2 hu2) q_454 q_523 q_452 q_453 q_58 hd_X1_placeOf rfl ⟨Nat.le_of_ble_eq_true rfl, Nat.le_of_ble_eq_true rfl⟩ ⟨Nat.zero_le _, Nat.zero_le _⟩ [0] [] [wLine cI aL L] ⟨pm_1_0, rfl, rfl, rfl⟩ ⟨pm_1_0, rfl, rfl, rfl⟩ (q0 := 0) rfl rfl rfl (Nat.le_of_ble_eq_true rfl) dX1_canYield_2 (fun H locs hW => ?_)
  refine lv_istore_n (lv' := [(2, .int u2), (0, .ref (aL 0)), (1, .int p1)]) hx hb dX1_canYield_5 rfl hl (by decide) rfl (fun ls hl => ?_)
  refine lv_iload_n hx hb dX1_canYield_6 rfl (lv_at hl 0 rfl) ?_
  have j24 : ∀ (H : Heap) (locs : List Loc) (ls : Array Slot), Wd G A s [wLine cI aL L] H locs → lv_has ls 3 [] → MX1_canYield_j24 = some rr → W p l e (rmO 1 22) s m ([.ref (aL 0), .int p1] : List Value).toArray below meth c H locs 0 0 (MQ below (qI G rr [wLine cI aL L] A) ([.ref (aL 0), .int p1] : List Value).toArray s 0 0 A) (F0 m 24 ls []) := by
    intro H locs ls hW hl hM
    unfold MX1_canYield_j24 at hM
    refine lv_iconst (v := (0 : Int32)) hx hb dX1_canYield_24 (by decide) ?_
    obtain rfl := Option.some.inj hM
    exact g_reti X hW rfl rfl dX1_canYield_25
  refine lv_if_lt (tgt := 24) hx hb dX1_canYield_7 (by decide) (fun hc => ?_) (fun hc => ?_)
  · have hM := (if_pos hc).symm.trans hM
    exact j24 _ _ _ hW (lv_sub hl [] rfl) hM
  · have hM := (if_neg hc).symm.trans hM
    refine lv_iload_n hx hb dX1_canYield_10 rfl (lv_at hl 0 rfl) ?_
    refine lv_aload_n hx hb dX1_canYield_11 rfl (lv_at hl 1 rfl) ?_
    refine g_get X hW 0 rfl rfl inX1 5 (by decide) q_150 rfl dX1_canYield_12 ?_
    refine lv_iconst (v := (1 : Int32)) hx hb dX1_canYield_15 (by decide) ?_
    refine lv_isub hx hb dX1_canYield_16 ?_
    refine lv_icmp_ge (tgt := 24) hx hb dX1_canYield_17 (by decide) (fun hc => ?_) (fun hc => ?_)
    · have hM := (if_pos hc).symm.trans hM
      exact j24 _ _ _ hW (lv_sub hl [] rfl) hM
    · have hM := (if_neg hc).symm.trans hM
      refine lv_iconst (v := (1 : Int32)) hx hb dX1_canYield_20 (by decide) ?_
      refine lv_goto (tgt := 25) hx hb dX1_canYield_21 (by decide) ?_
      obtain rfl := Option.some.inj hM
      exact g_reti X hW rfl rfl dX1_canYield_25

def MX1_yieldPlace (N : Nat) (L : LineV) (p1 : Int32) : Option ((Nat → Int32)) :=
  (MX1_placeOf N L p1).bind (fun u2 => if u2 < 0 then some (L.1) else (if (L.2.2.2.2.2.1 - (1 : Int32)) ≤ u2 then some (L.1) else (if L.2.2.2.2.2.1 ≤ (9 : Int32) then (MG (u2 + (1 : Int32)) 9 (MG u2 9 (MG (u2 + (1 : Int32)) 9 (some ((upd (upd L.1 u2.toNatClampNeg (L.1 (u2 + (1 : Int32)).toNatClampNeg)) (u2 + (1 : Int32)).toNatClampNeg p1)))))) else some (L.1))))
set_option maxHeartbeats 4000000 in
set_option maxRecDepth 100000 in
theorem c_X1_yieldPlace (l : Launch) (G : va_G) (cI cZ cL : ClassId) (N : Nat) (aL : Nat → Nat) (L : LineV) (p1 : Int32) (rr : (Nat → Int32)) (hM : MX1_yieldPlace N L p1 = some rr) : CtV l yX1_yieldPlace cX1_yieldPlace 3 1 22 G cI cZ cL [.ref (aL 0), .int p1] [wLine cI aL L] [wLine cI aL (rr, L.2)] := by
  refine ct_body (fun A => qV G [wLine cI aL (rr, L.2)] A) (by decide) (Nat.le_of_ble_eq_true rfl) (fun p e s m below meth c A ls X hW hl => ?_)
  have hx := X.1
  have hb := X.2.1
  have hts := X.2.2.2.2.2.1
  have hown := X.2.2.2.2.2.2.1
  have hl : lv_has ls 3 [(0, .ref (aL 0)), (1, .int p1)] := hl
  unfold MX1_yieldPlace at hM
  refine lv_aload_n hx hb dX1_yieldPlace_0 rfl (lv_at hl 0 rfl) ?_
  refine lv_iload_n hx hb dX1_yieldPlace_1 rfl (lv_at hl 1 rfl) ?_
  obtain ⟨u2, hu2, hM⟩ := bind_some hM
  refine g_callVi (rest := []) (gr := []) X hl.1 hW (c_X1_placeOf l G cI cZ cL N aL L p1 u2 hu2) q_454 q_523 q_452 q_453 q_58 hd_X1_placeOf rfl ⟨Nat.le_of_ble_eq_true rfl, Nat.le_of_ble_eq_true rfl⟩ ⟨Nat.zero_le _, Nat.zero_le _⟩ [0] [] [wLine cI aL L] ⟨pm_1_0, rfl, rfl, rfl⟩ ⟨pm_1_0, rfl, rfl, rfl⟩ (q0 := 0) rfl rfl rfl (Nat.le_of_ble_eq_true rfl) dX1_yieldPlace_2 (fun H locs hW => ?_)
  refine lv_istore_n (lv' := [(2, .int u2), (0, .ref (aL 0)), (1, .int p1)]) hx hb dX1_yieldPlace_5 rfl hl (by decide) rfl (fun ls hl => ?_)
  refine lv_iload_n hx hb dX1_yieldPlace_6 rfl (lv_at hl 0 rfl) ?_
  refine lv_if_lt (tgt := 29) hx hb dX1_yieldPlace_7 (by decide) (fun hc => ?_) (fun hc => ?_)
  · have hM := (if_pos hc).symm.trans hM
    obtain rfl := Option.some.inj hM
    exact g_retv X hW dX1_yieldPlace_29
  · have hM := (if_neg hc).symm.trans hM
    refine lv_iload_n hx hb dX1_yieldPlace_10 rfl (lv_at hl 0 rfl) ?_
    refine lv_aload_n hx hb dX1_yieldPlace_11 rfl (lv_at hl 1 rfl) ?_
    refine g_get X hW 0 rfl rfl inX1 5 (by decide) q_150 rfl dX1_yieldPlace_12 ?_
    refine lv_iconst (v := (1 : Int32)) hx hb dX1_yieldPlace_15 (by decide) ?_
    refine lv_isub hx hb dX1_yieldPlace_16 ?_
    refine lv_icmp_ge (tgt := 29) hx hb dX1_yieldPlace_17 (by decide) (fun hc => ?_) (fun hc => ?_)
    · have hM := (if_pos hc).symm.trans hM
      obtain rfl := Option.some.inj hM
      exact g_retv X hW dX1_yieldPlace_29
    · have hM := (if_neg hc).symm.trans hM
      refine lv_aload_n hx hb dX1_yieldPlace_20 rfl (lv_at hl 1 rfl) ?_
      refine g_get X hW 0 rfl rfl inX1 5 (by decide) q_150 rfl dX1_yieldPlace_21 ?_
      refine lv_bipush (v := (9 : Int32)) hx hb dX1_yieldPlace_24 (by decide) ?_
      refine lv_icmp_le (tgt := 30) hx hb dX1_yieldPlace_26 (by decide) (fun hc => ?_) (fun hc => ?_)
      · have hM := (if_pos hc).symm.trans hM
        refine lv_aload_n hx hb dX1_yieldPlace_30 rfl (lv_at hl 1 rfl) ?_
        refine g_get X hW 0 rfl rfl inX1 0 (by decide) q_145 rfl dX1_yieldPlace_31 ?_
        refine lv_iload_n hx hb dX1_yieldPlace_34 rfl (lv_at hl 0 rfl) ?_
        refine lv_aload_n hx hb dX1_yieldPlace_35 rfl (lv_at hl 1 rfl) ?_
        refine g_get X hW 0 rfl rfl inX1 0 (by decide) q_145 rfl dX1_yieldPlace_36 ?_
        refine lv_iload_n hx hb dX1_yieldPlace_39 rfl (lv_at hl 0 rfl) ?_
        refine lv_iconst (v := (1 : Int32)) hx hb dX1_yieldPlace_40 (by decide) ?_
        refine lv_iadd hx hb dX1_yieldPlace_41 ?_
        obtain ⟨hi42, hM⟩ := MG_some hM
        refine g_ald X hW 1 rfl hi42 dX1_yieldPlace_42 ?_
        obtain ⟨hi43, hM⟩ := MG_some hM
        refine g_ast X hW 1 rfl hi43 [wLine cI aL ((upd L.1 u2.toNatClampNeg (L.1 (u2 + (1 : Int32)).toNatClampNeg)), L.2)] rfl dX1_yieldPlace_43 (fun H locs hW => ?_)
        refine lv_aload_n hx hb dX1_yieldPlace_44 rfl (lv_at hl 1 rfl) ?_
        refine g_get X hW 0 rfl rfl inX1 0 (by decide) q_145 rfl dX1_yieldPlace_45 ?_
        refine lv_iload_n hx hb dX1_yieldPlace_48 rfl (lv_at hl 0 rfl) ?_
        refine lv_iconst (v := (1 : Int32)) hx hb dX1_yieldPlace_49 (by decide) ?_
        refine lv_iadd hx hb dX1_yieldPlace_50 ?_
        refine lv_iload_n hx hb dX1_yieldPlace_51 rfl (lv_at hl 2 rfl) ?_
        obtain ⟨hi52, hM⟩ := MG_some hM
        refine g_ast X hW 1 rfl hi52 [wLine cI aL ((upd (upd L.1 u2.toNatClampNeg (L.1 (u2 + (1 : Int32)).toNatClampNeg)) (u2 + (1 : Int32)).toNatClampNeg p1), L.2)] rfl dX1_yieldPlace_52 (fun H locs hW => ?_)
        obtain rfl := Option.some.inj hM
        exact g_retv X hW dX1_yieldPlace_53
      · have hM := (if_neg hc).symm.trans hM
        obtain rfl := Option.some.inj hM
        exact g_retv X hW dX1_yieldPlace_29

def MX1_placeServed_j61 (L : LineV) (p2 : Int32) : Option (Int32) :=
  if p2 = 0 then some ((0 : Int32)) else some (L.2.2.2.2.2.1 - (1 : Int32))
def MX1_placeServed_j35 (N : Nat) (L : LineV) (P : PlanV) (x3_2 : Int32) (rc2 : (Int32 → Option (Int32))) (t0_35 : Int32) : Option (Int32) :=
  MG t0_35 9 ((MX3_kindOf N P (L.1 t0_35.toNatClampNeg)).bind (fun u45 => if u45 = (3 : Int32) then rc2 (x3_2 + (1 : Int32)) else some (t0_35)))
def MX1_placeServed_l2 (N : Nat) (L : LineV) (P : PlanV) (p2 : Int32) : Nat → Int32 → Option (Int32)
  | 0, _ => none
  | n2 + 1, x3_2 =>
    if L.2.2.2.2.2.1 ≤ x3_2 then (MX1_placeServed_j61 L p2) else (if (9 : Int32) < L.2.2.2.2.2.1 then (MX1_placeServed_j61 L p2) else (if p2 = 0 then (MX1_placeServed_j35 N L P x3_2 (MX1_placeServed_l2 N L P p2 n2) x3_2) else (MX1_placeServed_j35 N L P x3_2 (MX1_placeServed_l2 N L P p2 n2) ((L.2.2.2.2.2.1 - (1 : Int32)) - x3_2))))
def MX1_placeServed (N : Nat) (L : LineV) (P : PlanV) (p2 : Int32) : Option (Int32) :=
  MX1_placeServed_l2 N L P p2 N (0 : Int32)
set_option maxHeartbeats 4000000 in
set_option maxRecDepth 100000 in
theorem c_X1_placeServed (l : Launch) (G : va_G) (cI cZ cL : ClassId) (N : Nat) (aL : Nat → Nat) (aP : Nat → Nat) (L : LineV) (P : PlanV) (p2 : Int32) (rr : Int32) (hM : MX1_placeServed N L P p2 = some rr) : CtI l yX1_placeServed cX1_placeServed 5 .int 1 21 G cI cZ cL [.ref (aL 0), .ref (aP 0), .int p2] [wLine cI aL L, wPlan cI aP P] rr [wLine cI aL L, wPlan cI aP P] := by
  refine ct_body (fun A => qI G rr [wLine cI aL L, wPlan cI aP P] A) (by decide) (Nat.le_of_ble_eq_true rfl) (fun p e s m below meth c A ls X hW hl => ?_)
  have hx := X.1
  have hb := X.2.1
  have hts := X.2.2.2.2.2.1
  have hown := X.2.2.2.2.2.2.1
  have hl : lv_has ls 5 [(0, .ref (aL 0)), (1, .ref (aP 0)), (2, .int p2)] := hl
  unfold MX1_placeServed at hM
  refine lv_iconst (v := (0 : Int32)) hx hb dX1_placeServed_0 (by decide) ?_
  refine lv_istore_n (lv' := [(3, .int (0 : Int32)), (0, .ref (aL 0)), (1, .ref (aP 0)), (2, .int p2)]) hx hb dX1_placeServed_1 rfl hl (by decide) rfl (fun ls hl => ?_)
  have j61 : ∀ (H : Heap) (locs : List Loc) (ls : Array Slot), Wd G A s [wLine cI aL L, wPlan cI aP P] H locs → lv_has ls 5 [(0, .ref (aL 0)), (2, .int p2)] → MX1_placeServed_j61 L p2 = some rr → W p l e (rmO 1 21) s m ([.ref (aL 0), .ref (aP 0), .int p2] : List Value).toArray below meth c H locs 0 0 (MQ below (qI G rr [wLine cI aL L, wPlan cI aP P] A) ([.ref (aL 0), .ref (aP 0), .int p2] : List Value).toArray s 0 0 A) (F0 m 61 ls []) := by
    intro H locs ls hW hl hM
    unfold MX1_placeServed_j61 at hM
    refine lv_iload_n hx hb dX1_placeServed_61 rfl (lv_at hl 1 rfl) ?_
    refine lv_if_eq (tgt := 74) hx hb dX1_placeServed_62 (by decide) (fun hc => ?_) (fun hc => ?_)
    · have hM := (if_pos hc).symm.trans hM
      refine lv_iconst (v := (0 : Int32)) hx hb dX1_placeServed_74 (by decide) ?_
      obtain rfl := Option.some.inj hM
      exact g_reti X hW rfl rfl dX1_placeServed_75
    · have hM := (if_neg hc).symm.trans hM
      refine lv_aload_n hx hb dX1_placeServed_65 rfl (lv_at hl 0 rfl) ?_
      refine g_get X hW 0 rfl rfl inX1 5 (by decide) q_150 rfl dX1_placeServed_66 ?_
      refine lv_iconst (v := (1 : Int32)) hx hb dX1_placeServed_69 (by decide) ?_
      refine lv_isub hx hb dX1_placeServed_70 ?_
      refine lv_goto (tgt := 75) hx hb dX1_placeServed_71 (by decide) ?_
      obtain rfl := Option.some.inj hM
      exact g_reti X hW rfl rfl dX1_placeServed_75
  have lp2 : ∀ (n2 : Nat) (x3_2 : Int32) (H : Heap) (locs : List Loc) (ls : Array Slot), Wd G A s [wLine cI aL L, wPlan cI aP P] H locs → lv_has ls 5 [(0, .ref (aL 0)), (1, .ref (aP 0)), (2, .int p2), (3, .int x3_2)] → MX1_placeServed_l2 N L P p2 n2 x3_2 = some rr → W p l e (rmO 1 21) s m ([.ref (aL 0), .ref (aP 0), .int p2] : List Value).toArray below meth c H locs 0 0 (MQ below (qI G rr [wLine cI aL L, wPlan cI aP P] A) ([.ref (aL 0), .ref (aP 0), .int p2] : List Value).toArray s 0 0 A) (F0 m 2 ls []) := by
    intro n2
    induction n2 with
    | zero =>
      intro x3_2 H locs ls hW hl hM
      rw [MX1_placeServed_l2] at hM
      cases hM
    | succ n2 ih2 =>
      intro x3_2 H locs ls hW hl hM
      rw [MX1_placeServed_l2] at hM
      refine lv_iload_n hx hb dX1_placeServed_2 rfl (lv_at hl 3 rfl) ?_
      refine lv_aload_n hx hb dX1_placeServed_3 rfl (lv_at hl 0 rfl) ?_
      refine g_get X hW 0 rfl rfl inX1 5 (by decide) q_150 rfl dX1_placeServed_4 ?_
      refine lv_icmp_ge (tgt := 61) hx hb dX1_placeServed_7 (by decide) (fun hc => ?_) (fun hc => ?_)
      · have hM := (if_pos hc).symm.trans hM
        exact j61 _ _ _ hW (lv_sub hl [0, 2] rfl) hM
      · have hM := (if_neg hc).symm.trans hM
        refine lv_aload_n hx hb dX1_placeServed_10 rfl (lv_at hl 0 rfl) ?_
        refine g_get X hW 0 rfl rfl inX1 5 (by decide) q_150 rfl dX1_placeServed_11 ?_
        refine lv_bipush (v := (9 : Int32)) hx hb dX1_placeServed_14 (by decide) ?_
        refine lv_icmp_gt (tgt := 61) hx hb dX1_placeServed_16 (by decide) (fun hc => ?_) (fun hc => ?_)
        · have hM := (if_pos hc).symm.trans hM
          exact j61 _ _ _ hW (lv_sub hl [0, 2] rfl) hM
        · have hM := (if_neg hc).symm.trans hM
          refine lv_iload_n hx hb dX1_placeServed_19 rfl (lv_at hl 2 rfl) ?_
          have j35 : ∀ (t0_35 : Int32) (H : Heap) (locs : List Loc) (ls : Array Slot), Wd G A s [wLine cI aL L, wPlan cI aP P] H locs → lv_has ls 5 [(0, .ref (aL 0)), (1, .ref (aP 0)), (2, .int p2), (3, .int x3_2)] → MX1_placeServed_j35 N L P x3_2 (MX1_placeServed_l2 N L P p2 n2) t0_35 = some rr → W p l e (rmO 1 21) s m ([.ref (aL 0), .ref (aP 0), .int p2] : List Value).toArray below meth c H locs 0 0 (MQ below (qI G rr [wLine cI aL L, wPlan cI aP P] A) ([.ref (aL 0), .ref (aP 0), .int p2] : List Value).toArray s 0 0 A) (F0 m 35 ls [.int t0_35]) := by
            intro t0_35 H locs ls hW hl hM
            unfold MX1_placeServed_j35 at hM
            refine lv_istore (lv' := [(4, .int t0_35), (0, .ref (aL 0)), (1, .ref (aP 0)), (2, .int p2), (3, .int x3_2)]) hx hb dX1_placeServed_35 hl (by decide) rfl (fun ls hl => ?_)
            refine lv_aload_n hx hb dX1_placeServed_37 rfl (lv_at hl 2 rfl) ?_
            refine lv_aload_n hx hb dX1_placeServed_38 rfl (lv_at hl 1 rfl) ?_
            refine g_get X hW 0 rfl rfl inX1 0 (by decide) q_145 rfl dX1_placeServed_39 ?_
            refine lv_iload hx hb dX1_placeServed_42 (lv_at hl 0 rfl) ?_
            obtain ⟨hi44, hM⟩ := MG_some hM
            refine g_ald X hW 1 rfl hi44 dX1_placeServed_44 ?_
            obtain ⟨u45, hu45, hM⟩ := bind_some hM
            refine g_callVi (rest := []) (gr := [wLine cI aL L]) X hl.1 hW (c_X3_kindOf l G cI cZ cL N aP P (L.1 t0_35.toNatClampNeg) u45 hu45) q_438 q_536 q_436 q_437 q_56 hd_X3_kindOf rfl ⟨Nat.le_of_ble_eq_true rfl, Nat.le_of_ble_eq_true rfl⟩ ⟨Nat.zero_le _, Nat.zero_le _⟩ [1] [0] [wLine cI aL L, wPlan cI aP P] ⟨pm_2_1, rfl, rfl, rfl⟩ ⟨pm_2_1, rfl, rfl, rfl⟩ (q0 := 6) rfl rfl rfl (Nat.le_of_ble_eq_true rfl) dX1_placeServed_45 (fun H locs hW => ?_)
            refine lv_iconst (v := (3 : Int32)) hx hb dX1_placeServed_48 (by decide) ?_
            refine lv_icmp_eq (tgt := 55) hx hb dX1_placeServed_49 (by decide) (fun hc => ?_) (fun hc => ?_)
            · have hM := (if_pos hc).symm.trans hM
              refine lv_iinc (v := x3_2 + (1 : Int32)) (lv' := [(3, .int (x3_2 + (1 : Int32))), (4, .int t0_35), (0, .ref (aL 0)), (1, .ref (aP 0)), (2, .int p2)]) hx hb dX1_placeServed_55 hl (k := 4) rfl rfl (by decide) rfl (fun ls hl => ?_)
              refine lv_goto (tgt := 2) hx hb dX1_placeServed_58 (by decide) ?_
              exact ih2 (x3_2 + (1 : Int32)) _ _ _ hW (lv_sub hl [2, 3, 4, 0] rfl) hM
            · have hM := (if_neg hc).symm.trans hM
              refine lv_iload hx hb dX1_placeServed_52 (lv_at hl 0 rfl) ?_
              obtain rfl := Option.some.inj hM
              exact g_reti X hW rfl rfl dX1_placeServed_54
          refine lv_if_eq (tgt := 34) hx hb dX1_placeServed_20 (by decide) (fun hc => ?_) (fun hc => ?_)
          · have hM := (if_pos hc).symm.trans hM
            refine lv_iload_n hx hb dX1_placeServed_34 rfl (lv_at hl 3 rfl) ?_
            exact j35 x3_2 _ _ _ hW (lv_sub hl [0, 1, 2, 3] rfl) hM
          · have hM := (if_neg hc).symm.trans hM
            refine lv_aload_n hx hb dX1_placeServed_23 rfl (lv_at hl 0 rfl) ?_
            refine g_get X hW 0 rfl rfl inX1 5 (by decide) q_150 rfl dX1_placeServed_24 ?_
            refine lv_iconst (v := (1 : Int32)) hx hb dX1_placeServed_27 (by decide) ?_
            refine lv_isub hx hb dX1_placeServed_28 ?_
            refine lv_iload_n hx hb dX1_placeServed_29 rfl (lv_at hl 3 rfl) ?_
            refine lv_isub hx hb dX1_placeServed_30 ?_
            refine lv_goto (tgt := 35) hx hb dX1_placeServed_31 (by decide) ?_
            exact j35 ((L.2.2.2.2.2.1 - (1 : Int32)) - x3_2) _ _ _ hW (lv_sub hl [0, 1, 2, 3] rfl) hM
  exact lp2 N (0 : Int32) _ _ _ hW (lv_sub hl [1, 2, 3, 0] rfl) hM

def MX1_giveLoaf (N : Nat) (L : LineV) (P : PlanV) (p2 : Int32) : Option ((Nat → Int32) × (Nat → Int32) × (Nat → Int32) × (Nat → Int32) × Int32 × Int32 × Int32) :=
  (MX1_placeServed N L P p2).bind (fun u3 => (MX1_whoAt N L u3).bind (fun u9 => if u9 < 0 then some (L.1, L.2.1, L.2.2.2.1, L.2.2.2.2.1, L.2.2.2.2.2.1, L.2.2.2.2.2.2.2.1, L.2.2.2.2.2.2.2.2) else (if u9 < (9 : Int32) then ((MX1_takeOut N L u3).bind (fun u29 => MG u9 9 (MG u9 9 (MG u9 9 (MG u9 9 (some (u29.1, (upd L.2.1 u9.toNatClampNeg (3 : Int32)), (upd L.2.2.2.1 u9.toNatClampNeg L.2.2.2.2.2.2.1), (upd L.2.2.2.2.1 u9.toNatClampNeg (if (0 : Int32) < (P.2.2.2.2.2.1 - L.2.2.2.2.2.2.2.1) then (P.2.2.2.2.2.1 - L.2.2.2.2.2.2.2.1) else (0 : Int32))), u29.2, (L.2.2.2.2.2.2.2.1 + (1 : Int32)), (L.2.2.2.2.2.2.2.2 + ((upd L.2.2.2.2.1 u9.toNatClampNeg (if (0 : Int32) < (P.2.2.2.2.2.1 - L.2.2.2.2.2.2.2.1) then (P.2.2.2.2.2.1 - L.2.2.2.2.2.2.2.1) else (0 : Int32))) u9.toNatClampNeg))))))))) else some (L.1, L.2.1, L.2.2.2.1, L.2.2.2.2.1, L.2.2.2.2.2.1, L.2.2.2.2.2.2.2.1, L.2.2.2.2.2.2.2.2))))
set_option maxHeartbeats 4000000 in
set_option maxRecDepth 100000 in
theorem c_X1_giveLoaf (l : Launch) (G : va_G) (cI cZ cL : ClassId) (N : Nat) (aL : Nat → Nat) (aP : Nat → Nat) (L : LineV) (P : PlanV) (p2 : Int32) (rr : (Nat → Int32) × (Nat → Int32) × (Nat → Int32) × (Nat → Int32) × Int32 × Int32 × Int32) (hM : MX1_giveLoaf N L P p2 = some rr) : CtV l yX1_giveLoaf cX1_giveLoaf 5 2 45 G cI cZ cL [.ref (aL 0), .ref (aP 0), .int p2] [wLine cI aL L, wPlan cI aP P] [wLine cI aL (rr.1, rr.2.1, L.2.2.1, rr.2.2.1, rr.2.2.2.1, rr.2.2.2.2.1, L.2.2.2.2.2.2.1, rr.2.2.2.2.2.1, rr.2.2.2.2.2.2), wPlan cI aP P] := by
  refine ct_body (fun A => qV G [wLine cI aL (rr.1, rr.2.1, L.2.2.1, rr.2.2.1, rr.2.2.2.1, rr.2.2.2.2.1, L.2.2.2.2.2.2.1, rr.2.2.2.2.2.1, rr.2.2.2.2.2.2), wPlan cI aP P] A) (by decide) (Nat.le_of_ble_eq_true rfl) (fun p e s m below meth c A ls X hW hl => ?_)
  have hx := X.1
  have hb := X.2.1
  have hts := X.2.2.2.2.2.1
  have hown := X.2.2.2.2.2.2.1
  have hl : lv_has ls 5 [(0, .ref (aL 0)), (1, .ref (aP 0)), (2, .int p2)] := hl
  unfold MX1_giveLoaf at hM
  refine lv_aload_n hx hb dX1_giveLoaf_0 rfl (lv_at hl 0 rfl) ?_
  refine lv_aload_n hx hb dX1_giveLoaf_1 rfl (lv_at hl 1 rfl) ?_
  refine lv_iload_n hx hb dX1_giveLoaf_2 rfl (lv_at hl 2 rfl) ?_
  obtain ⟨u3, hu3, hM⟩ := bind_some hM
  refine g_callVi (rest := []) (gr := []) X hl.1 hW (c_X1_placeServed l G cI cZ cL N aL aP L P p2 u3 hu3) q_535 q_532 q_534 q_9 q_58 hd_X1_placeServed rfl ⟨Nat.le_of_ble_eq_true rfl, Nat.le_of_ble_eq_true rfl⟩ ⟨Nat.zero_le _, Nat.zero_le _⟩ [0, 1] [] [wLine cI aL L, wPlan cI aP P] ⟨pm_2_0_1, rfl, rfl, rfl⟩ ⟨pm_2_0_1, rfl, rfl, rfl⟩ (q0 := 0) rfl rfl rfl (Nat.le_of_ble_eq_true rfl) dX1_giveLoaf_3 (fun H locs hW => ?_)
  refine lv_istore_n (lv' := [(3, .int u3), (0, .ref (aL 0)), (1, .ref (aP 0)), (2, .int p2)]) hx hb dX1_giveLoaf_6 rfl hl (by decide) rfl (fun ls hl => ?_)
  refine lv_aload_n hx hb dX1_giveLoaf_7 rfl (lv_at hl 1 rfl) ?_
  refine lv_iload_n hx hb dX1_giveLoaf_8 rfl (lv_at hl 0 rfl) ?_
  obtain ⟨u9, hu9, hM⟩ := bind_some hM
  refine g_callVi (rest := []) (gr := [wPlan cI aP P]) X hl.1 hW (c_X1_whoAt l G cI cZ cL N aL L u3 u9 hu9) q_474 q_537 q_472 q_473 q_58 hd_X1_whoAt rfl ⟨Nat.le_of_ble_eq_true rfl, Nat.le_of_ble_eq_true rfl⟩ ⟨Nat.zero_le _, Nat.zero_le _⟩ [0] [1] [wLine cI aL L, wPlan cI aP P] ⟨pm_2_0, rfl, rfl, rfl⟩ ⟨pm_2_0, rfl, rfl, rfl⟩ (q0 := 0) rfl rfl rfl (Nat.le_of_ble_eq_true rfl) dX1_giveLoaf_9 (fun H locs hW => ?_)
  refine lv_istore (lv' := [(4, .int u9), (3, .int u3), (0, .ref (aL 0)), (1, .ref (aP 0)), (2, .int p2)]) hx hb dX1_giveLoaf_12 hl (by decide) rfl (fun ls hl => ?_)
  refine lv_iload hx hb dX1_giveLoaf_14 (lv_at hl 0 rfl) ?_
  refine lv_if_lt (tgt := 26) hx hb dX1_giveLoaf_16 (by decide) (fun hc => ?_) (fun hc => ?_)
  · have hM := (if_pos hc).symm.trans hM
    obtain rfl := Option.some.inj hM
    exact g_retv X hW dX1_giveLoaf_26
  · have hM := (if_neg hc).symm.trans hM
    refine lv_iload hx hb dX1_giveLoaf_19 (lv_at hl 0 rfl) ?_
    refine lv_bipush (v := (9 : Int32)) hx hb dX1_giveLoaf_21 (by decide) ?_
    refine lv_icmp_lt (tgt := 27) hx hb dX1_giveLoaf_23 (by decide) (fun hc => ?_) (fun hc => ?_)
    · have hM := (if_pos hc).symm.trans hM
      refine lv_aload_n hx hb dX1_giveLoaf_27 rfl (lv_at hl 2 rfl) ?_
      refine lv_iload_n hx hb dX1_giveLoaf_28 rfl (lv_at hl 1 rfl) ?_
      obtain ⟨u29, hu29, hM⟩ := bind_some hM
      refine g_callVv (rest := []) (gr := [wPlan cI aP P]) X hl.1 hW (c_X1_takeOut l G cI cZ cL N aL L u3 u29 hu29) q_541 q_538 q_540 q_10 q_58 hd_X1_takeOut rfl ⟨Nat.le_of_ble_eq_true rfl, Nat.le_of_ble_eq_true rfl⟩ ⟨Nat.zero_le _, Nat.zero_le _⟩ [0] [1] [wLine cI aL (u29.1, L.2.1, L.2.2.1, L.2.2.2.1, L.2.2.2.2.1, u29.2, L.2.2.2.2.2.2), wPlan cI aP P] ⟨pm_2_0, rfl, rfl, rfl⟩ ⟨pm_2_0, rfl, rfl, rfl⟩ (q0 := 0) rfl rfl rfl (Nat.le_of_ble_eq_true rfl) dX1_giveLoaf_29 (fun H locs hW => ?_)
      refine lv_aload_n hx hb dX1_giveLoaf_32 rfl (lv_at hl 2 rfl) ?_
      refine g_get X hW 0 rfl rfl inX1 1 (by decide) q_146 rfl dX1_giveLoaf_33 ?_
      refine lv_iload hx hb dX1_giveLoaf_36 (lv_at hl 0 rfl) ?_
      refine lv_iconst (v := (3 : Int32)) hx hb dX1_giveLoaf_38 (by decide) ?_
      obtain ⟨hi39, hM⟩ := MG_some hM
      refine g_ast X hW 2 rfl hi39 [wLine cI aL (u29.1, (upd L.2.1 u9.toNatClampNeg (3 : Int32)), L.2.2.1, L.2.2.2.1, L.2.2.2.2.1, u29.2, L.2.2.2.2.2.2), wPlan cI aP P] rfl dX1_giveLoaf_39 (fun H locs hW => ?_)
      refine lv_aload_n hx hb dX1_giveLoaf_40 rfl (lv_at hl 2 rfl) ?_
      refine g_get X hW 0 rfl rfl inX1 3 (by decide) q_148 rfl dX1_giveLoaf_41 ?_
      refine lv_iload hx hb dX1_giveLoaf_44 (lv_at hl 0 rfl) ?_
      refine lv_aload_n hx hb dX1_giveLoaf_46 rfl (lv_at hl 2 rfl) ?_
      refine g_get X hW 0 rfl rfl inX1 6 (by decide) q_152 rfl dX1_giveLoaf_47 ?_
      obtain ⟨hi50, hM⟩ := MG_some hM
      refine g_ast X hW 4 rfl hi50 [wLine cI aL (u29.1, (upd L.2.1 u9.toNatClampNeg (3 : Int32)), L.2.2.1, (upd L.2.2.2.1 u9.toNatClampNeg L.2.2.2.2.2.2.1), L.2.2.2.2.1, u29.2, L.2.2.2.2.2.2), wPlan cI aP P] rfl dX1_giveLoaf_50 (fun H locs hW => ?_)
      refine lv_aload_n hx hb dX1_giveLoaf_51 rfl (lv_at hl 2 rfl) ?_
      refine g_get X hW 0 rfl rfl inX1 4 (by decide) q_149 rfl dX1_giveLoaf_52 ?_
      refine lv_iload hx hb dX1_giveLoaf_55 (lv_at hl 0 rfl) ?_
      refine lv_iconst (v := (0 : Int32)) hx hb dX1_giveLoaf_57 (by decide) ?_
      refine lv_aload_n hx hb dX1_giveLoaf_58 rfl (lv_at hl 3 rfl) ?_
      refine g_getN X hW 6 rfl rfl inX3 5 (by decide) nt_9 rfl dX1_giveLoaf_59 ?_
      refine lv_aload_n hx hb dX1_giveLoaf_62 rfl (lv_at hl 2 rfl) ?_
      refine g_get X hW 0 rfl rfl inX1 7 (by decide) q_156 rfl dX1_giveLoaf_63 ?_
      refine lv_isub hx hb dX1_giveLoaf_66 ?_
      refine g_max X hl.1 q_542 q_243 q_62 q_244 (Nat.le_of_ble_eq_true rfl) (Nat.le_of_ble_eq_true rfl) (Nat.zero_le _) (Nat.zero_le _) dX1_giveLoaf_67 ?_
      obtain ⟨hi70, hM⟩ := MG_some hM
      refine g_ast X hW 5 rfl hi70 [wLine cI aL (u29.1, (upd L.2.1 u9.toNatClampNeg (3 : Int32)), L.2.2.1, (upd L.2.2.2.1 u9.toNatClampNeg L.2.2.2.2.2.2.1), (upd L.2.2.2.2.1 u9.toNatClampNeg (if (0 : Int32) < (P.2.2.2.2.2.1 - L.2.2.2.2.2.2.2.1) then (P.2.2.2.2.2.1 - L.2.2.2.2.2.2.2.1) else (0 : Int32))), u29.2, L.2.2.2.2.2.2), wPlan cI aP P] rfl dX1_giveLoaf_70 (fun H locs hW => ?_)
      refine lv_aload_n hx hb dX1_giveLoaf_71 rfl (lv_at hl 2 rfl) ?_
      refine lv_dup hx hb dX1_giveLoaf_72 rfl ?_
      refine g_get X hW 0 rfl rfl inX1 8 (by decide) q_158 rfl dX1_giveLoaf_73 ?_
      refine lv_aload_n hx hb dX1_giveLoaf_76 rfl (lv_at hl 2 rfl) ?_
      refine g_get X hW 0 rfl rfl inX1 4 (by decide) q_149 rfl dX1_giveLoaf_77 ?_
      refine lv_iload hx hb dX1_giveLoaf_80 (lv_at hl 0 rfl) ?_
      obtain ⟨hi82, hM⟩ := MG_some hM
      refine g_ald X hW 5 rfl hi82 dX1_giveLoaf_82 ?_
      refine lv_iadd hx hb dX1_giveLoaf_83 ?_
      refine g_put X hW 0 rfl rfl inX1 tyX1 tyX1_ok nmX1 8 (by decide) q_158 rfl rfl (Nat.le_of_ble_eq_true rfl) [wLine cI aL (u29.1, (upd L.2.1 u9.toNatClampNeg (3 : Int32)), L.2.2.1, (upd L.2.2.2.1 u9.toNatClampNeg L.2.2.2.2.2.2.1), (upd L.2.2.2.2.1 u9.toNatClampNeg (if (0 : Int32) < (P.2.2.2.2.2.1 - L.2.2.2.2.2.2.2.1) then (P.2.2.2.2.2.1 - L.2.2.2.2.2.2.2.1) else (0 : Int32))), u29.2, L.2.2.2.2.2.2.1, L.2.2.2.2.2.2.2.1, (L.2.2.2.2.2.2.2.2 + ((upd L.2.2.2.2.1 u9.toNatClampNeg (if (0 : Int32) < (P.2.2.2.2.2.1 - L.2.2.2.2.2.2.2.1) then (P.2.2.2.2.2.1 - L.2.2.2.2.2.2.2.1) else (0 : Int32))) u9.toNatClampNeg))), wPlan cI aP P] rfl dX1_giveLoaf_84 (fun H locs hW => ?_)
      refine lv_aload_n hx hb dX1_giveLoaf_87 rfl (lv_at hl 2 rfl) ?_
      refine lv_dup hx hb dX1_giveLoaf_88 rfl ?_
      refine g_get X hW 0 rfl rfl inX1 7 (by decide) q_156 rfl dX1_giveLoaf_89 ?_
      refine lv_iconst (v := (1 : Int32)) hx hb dX1_giveLoaf_92 (by decide) ?_
      refine lv_iadd hx hb dX1_giveLoaf_93 ?_
      refine g_put X hW 0 rfl rfl inX1 tyX1 tyX1_ok nmX1 7 (by decide) q_156 rfl rfl (Nat.le_of_ble_eq_true rfl) [wLine cI aL (u29.1, (upd L.2.1 u9.toNatClampNeg (3 : Int32)), L.2.2.1, (upd L.2.2.2.1 u9.toNatClampNeg L.2.2.2.2.2.2.1), (upd L.2.2.2.2.1 u9.toNatClampNeg (if (0 : Int32) < (P.2.2.2.2.2.1 - L.2.2.2.2.2.2.2.1) then (P.2.2.2.2.2.1 - L.2.2.2.2.2.2.2.1) else (0 : Int32))), u29.2, L.2.2.2.2.2.2.1, (L.2.2.2.2.2.2.2.1 + (1 : Int32)), (L.2.2.2.2.2.2.2.2 + ((upd L.2.2.2.2.1 u9.toNatClampNeg (if (0 : Int32) < (P.2.2.2.2.2.1 - L.2.2.2.2.2.2.2.1) then (P.2.2.2.2.2.1 - L.2.2.2.2.2.2.2.1) else (0 : Int32))) u9.toNatClampNeg))), wPlan cI aP P] rfl dX1_giveLoaf_94 (fun H locs hW => ?_)
      obtain rfl := Option.some.inj hM
      exact g_retv X hW dX1_giveLoaf_97
    · have hM := (if_neg hc).symm.trans hM
      obtain rfl := Option.some.inj hM
      exact g_retv X hW dX1_giveLoaf_26

def MX1_standOn_j34 (yL2_34 : (Nat → Int32)) : Option ((Nat → Int32)) :=
  some (yL2_34)
def MX1_standOn_j28 (x1_2 : Int32) (rc2 : (Int32 → (Nat → Int32) → Option ((Nat → Int32)))) (yL2_28 : (Nat → Int32)) : Option ((Nat → Int32)) :=
  rc2 (x1_2 + (1 : Int32)) yL2_28
def MX1_standOn_l2 (L : LineV) : Nat → Int32 → (Nat → Int32) → Option ((Nat → Int32))
  | 0, _, _ => none
  | n2 + 1, x1_2, yL2_2 =>
    if (9 : Int32) ≤ x1_2 then (MX1_standOn_j34 yL2_2) else MG x1_2 9 (if (L.2.1 x1_2.toNatClampNeg) = (1 : Int32) then MG x1_2 9 (MG x1_2 9 (MX1_standOn_j28 x1_2 (MX1_standOn_l2 L n2) (upd yL2_2 x1_2.toNatClampNeg ((yL2_2 x1_2.toNatClampNeg) + (1 : Int32))))) else (MX1_standOn_j28 x1_2 (MX1_standOn_l2 L n2) yL2_2))
def MX1_standOn (N : Nat) (L : LineV) : Option ((Nat → Int32)) :=
  MX1_standOn_l2 L N (0 : Int32) L.2.2.1
set_option maxHeartbeats 4000000 in
set_option maxRecDepth 100000 in
theorem c_X1_standOn (l : Launch) (G : va_G) (cI cZ cL : ClassId) (N : Nat) (aL : Nat → Nat) (L : LineV) (rr : (Nat → Int32)) (hM : MX1_standOn N L = some rr) : CtV l yX1_standOn cX1_standOn 2 0 0 G cI cZ cL [.ref (aL 0)] [wLine cI aL L] [wLine cI aL (L.1, L.2.1, rr, L.2.2.2)] := by
  refine ct_body (fun A => qV G [wLine cI aL (L.1, L.2.1, rr, L.2.2.2)] A) (by decide) (Nat.le_of_ble_eq_true rfl) (fun p e s m below meth c A ls X hW hl => ?_)
  have hx := X.1
  have hb := X.2.1
  have hts := X.2.2.2.2.2.1
  have hown := X.2.2.2.2.2.2.1
  have hl : lv_has ls 2 [(0, .ref (aL 0))] := hl
  unfold MX1_standOn at hM
  refine lv_iconst (v := (0 : Int32)) hx hb dX1_standOn_0 (by decide) ?_
  refine lv_istore_n (lv' := [(1, .int (0 : Int32)), (0, .ref (aL 0))]) hx hb dX1_standOn_1 rfl hl (by decide) rfl (fun ls hl => ?_)
  have j34 : ∀ (yL2_34 : (Nat → Int32)) (H : Heap) (locs : List Loc) (ls : Array Slot), Wd G A s [wLine cI aL (L.1, L.2.1, yL2_34, L.2.2.2)] H locs → lv_has ls 2 [] → MX1_standOn_j34 yL2_34 = some rr → W p l e (rmO 0 0) s m ([.ref (aL 0)] : List Value).toArray below meth c H locs 0 0 (MQ below (qV G [wLine cI aL (L.1, L.2.1, rr, L.2.2.2)] A) ([.ref (aL 0)] : List Value).toArray s 0 0 A) (F0 m 34 ls []) := by
    intro yL2_34 H locs ls hW hl hM
    unfold MX1_standOn_j34 at hM
    obtain rfl := Option.some.inj hM
    exact g_retv X hW dX1_standOn_34
  have lp2 : ∀ (n2 : Nat) (x1_2 : Int32) (yL2_2 : (Nat → Int32)) (H : Heap) (locs : List Loc) (ls : Array Slot), Wd G A s [wLine cI aL (L.1, L.2.1, yL2_2, L.2.2.2)] H locs → lv_has ls 2 [(0, .ref (aL 0)), (1, .int x1_2)] → MX1_standOn_l2 L n2 x1_2 yL2_2 = some rr → W p l e (rmO 0 0) s m ([.ref (aL 0)] : List Value).toArray below meth c H locs 0 0 (MQ below (qV G [wLine cI aL (L.1, L.2.1, rr, L.2.2.2)] A) ([.ref (aL 0)] : List Value).toArray s 0 0 A) (F0 m 2 ls []) := by
    intro n2
    induction n2 with
    | zero =>
      intro x1_2 yL2_2 H locs ls hW hl hM
      rw [MX1_standOn_l2] at hM
      cases hM
    | succ n2 ih2 =>
      intro x1_2 yL2_2 H locs ls hW hl hM
      rw [MX1_standOn_l2] at hM
      refine lv_iload_n hx hb dX1_standOn_2 rfl (lv_at hl 1 rfl) ?_
      refine lv_bipush (v := (9 : Int32)) hx hb dX1_standOn_3 (by decide) ?_
      refine lv_icmp_ge (tgt := 34) hx hb dX1_standOn_5 (by decide) (fun hc => ?_) (fun hc => ?_)
      · have hM := (if_pos hc).symm.trans hM
        exact j34 yL2_2 _ _ _ hW (lv_sub hl [] rfl) hM
      · have hM := (if_neg hc).symm.trans hM
        refine lv_aload_n hx hb dX1_standOn_8 rfl (lv_at hl 0 rfl) ?_
        refine g_get X hW 0 rfl rfl inX1 1 (by decide) q_146 rfl dX1_standOn_9 ?_
        refine lv_iload_n hx hb dX1_standOn_12 rfl (lv_at hl 1 rfl) ?_
        obtain ⟨hi13, hM⟩ := MG_some hM
        refine g_ald X hW 2 rfl hi13 dX1_standOn_13 ?_
        refine lv_iconst (v := (1 : Int32)) hx hb dX1_standOn_14 (by decide) ?_
        have j28 : ∀ (yL2_28 : (Nat → Int32)) (H : Heap) (locs : List Loc) (ls : Array Slot), Wd G A s [wLine cI aL (L.1, L.2.1, yL2_28, L.2.2.2)] H locs → lv_has ls 2 [(0, .ref (aL 0)), (1, .int x1_2)] → MX1_standOn_j28 x1_2 (MX1_standOn_l2 L n2) yL2_28 = some rr → W p l e (rmO 0 0) s m ([.ref (aL 0)] : List Value).toArray below meth c H locs 0 0 (MQ below (qV G [wLine cI aL (L.1, L.2.1, rr, L.2.2.2)] A) ([.ref (aL 0)] : List Value).toArray s 0 0 A) (F0 m 28 ls []) := by
          intro yL2_28 H locs ls hW hl hM
          unfold MX1_standOn_j28 at hM
          refine lv_iinc (v := x1_2 + (1 : Int32)) (lv' := [(1, .int (x1_2 + (1 : Int32))), (0, .ref (aL 0))]) hx hb dX1_standOn_28 hl (k := 1) rfl rfl (by decide) rfl (fun ls hl => ?_)
          refine lv_goto (tgt := 2) hx hb dX1_standOn_31 (by decide) ?_
          exact ih2 (x1_2 + (1 : Int32)) yL2_28 _ _ _ hW (lv_sub hl [1, 0] rfl) hM
        refine lv_icmp_ne (tgt := 28) hx hb dX1_standOn_15 (by decide) (fun hc => ?_) (fun hc => ?_)
        · have hM := (if_neg hc).symm.trans hM
          exact j28 yL2_2 _ _ _ hW (lv_sub hl [0, 1] rfl) hM
        · have hM := (if_pos hc).symm.trans hM
          refine lv_aload_n hx hb dX1_standOn_18 rfl (lv_at hl 0 rfl) ?_
          refine g_get X hW 0 rfl rfl inX1 2 (by decide) q_147 rfl dX1_standOn_19 ?_
          refine lv_iload_n hx hb dX1_standOn_22 rfl (lv_at hl 1 rfl) ?_
          refine lv_dup2_11 hx hb dX1_standOn_23 rfl rfl ?_
          obtain ⟨hi24, hM⟩ := MG_some hM
          refine g_ald X hW 3 rfl hi24 dX1_standOn_24 ?_
          refine lv_iconst (v := (1 : Int32)) hx hb dX1_standOn_25 (by decide) ?_
          refine lv_iadd hx hb dX1_standOn_26 ?_
          obtain ⟨hi27, hM⟩ := MG_some hM
          refine g_ast X hW 3 rfl hi27 [wLine cI aL (L.1, L.2.1, (upd yL2_2 x1_2.toNatClampNeg ((yL2_2 x1_2.toNatClampNeg) + (1 : Int32))), L.2.2.2)] rfl dX1_standOn_27 (fun H locs hW => ?_)
          exact j28 (upd yL2_2 x1_2.toNatClampNeg ((yL2_2 x1_2.toNatClampNeg) + (1 : Int32))) _ _ _ hW (lv_sub hl [0, 1] rfl) hM
  exact lp2 N (0 : Int32) L.2.2.1 _ _ _ hW (lv_sub hl [1, 0] rfl) hM

def MX1_sneezeAll_j57 (yL0_57 : (Nat → Int32)) (yL2_57 : (Nat → Int32)) : Option ((Nat → Int32) × (Nat → Int32)) :=
  some (yL0_57, yL2_57)
def MX1_sneezeAll_j51 (x2_2 : Int32) (rc2 : (Int32 → (Nat → Int32) → (Nat → Int32) → Option ((Nat → Int32) × (Nat → Int32)))) (yL0_51 : (Nat → Int32)) (yL2_51 : (Nat → Int32)) : Option ((Nat → Int32) × (Nat → Int32)) :=
  rc2 (x2_2 + (1 : Int32)) yL0_51 yL2_51
def MX1_sneezeAll_l2 (N : Nat) (L : LineV) (P : PlanV) : Nat → Int32 → (Nat → Int32) → (Nat → Int32) → Option ((Nat → Int32) × (Nat → Int32))
  | 0, _, _, _ => none
  | n2 + 1, x2_2, yL0_2, yL2_2 =>
    if P.2.2.2.1 ≤ x2_2 then (MX1_sneezeAll_j57 yL0_2 yL2_2) else (if (9 : Int32) ≤ x2_2 then (MX1_sneezeAll_j57 yL0_2 yL2_2) else MG x2_2 9 (if (L.2.1 x2_2.toNatClampNeg) = (1 : Int32) then MG x2_2 9 (if (P.1 x2_2.toNatClampNeg) = (2 : Int32) then MG x2_2 9 (if (yL2_2 x2_2.toNatClampNeg) < (4 : Int32) then (MX1_sneezeAll_j51 x2_2 (MX1_sneezeAll_l2 N L P n2) yL0_2 yL2_2) else ((MX1_goToHead N (yL0_2, L.2.1, yL2_2, L.2.2.2) x2_2).bind (fun u48 => MX1_sneezeAll_j51 x2_2 (MX1_sneezeAll_l2 N L P n2) u48.1 u48.2))) else (MX1_sneezeAll_j51 x2_2 (MX1_sneezeAll_l2 N L P n2) yL0_2 yL2_2)) else (MX1_sneezeAll_j51 x2_2 (MX1_sneezeAll_l2 N L P n2) yL0_2 yL2_2)))
def MX1_sneezeAll (N : Nat) (L : LineV) (P : PlanV) : Option ((Nat → Int32) × (Nat → Int32)) :=
  MX1_sneezeAll_l2 N L P N (0 : Int32) L.1 L.2.2.1
set_option maxHeartbeats 4000000 in
set_option maxRecDepth 100000 in
theorem c_X1_sneezeAll (l : Launch) (G : va_G) (cI cZ cL : ClassId) (N : Nat) (aL : Nat → Nat) (aP : Nat → Nat) (L : LineV) (P : PlanV) (rr : (Nat → Int32) × (Nat → Int32)) (hM : MX1_sneezeAll N L P = some rr) : CtV l yX1_sneezeAll cX1_sneezeAll 3 2 45 G cI cZ cL [.ref (aL 0), .ref (aP 0)] [wLine cI aL L, wPlan cI aP P] [wLine cI aL (rr.1, L.2.1, rr.2, L.2.2.2), wPlan cI aP P] := by
  refine ct_body (fun A => qV G [wLine cI aL (rr.1, L.2.1, rr.2, L.2.2.2), wPlan cI aP P] A) (by decide) (Nat.le_of_ble_eq_true rfl) (fun p e s m below meth c A ls X hW hl => ?_)
  have hx := X.1
  have hb := X.2.1
  have hts := X.2.2.2.2.2.1
  have hown := X.2.2.2.2.2.2.1
  have hl : lv_has ls 3 [(0, .ref (aL 0)), (1, .ref (aP 0))] := hl
  unfold MX1_sneezeAll at hM
  refine lv_iconst (v := (0 : Int32)) hx hb dX1_sneezeAll_0 (by decide) ?_
  refine lv_istore_n (lv' := [(2, .int (0 : Int32)), (0, .ref (aL 0)), (1, .ref (aP 0))]) hx hb dX1_sneezeAll_1 rfl hl (by decide) rfl (fun ls hl => ?_)
  have j57 : ∀ (yL0_57 : (Nat → Int32)) (yL2_57 : (Nat → Int32)) (H : Heap) (locs : List Loc) (ls : Array Slot), Wd G A s [wLine cI aL (yL0_57, L.2.1, yL2_57, L.2.2.2), wPlan cI aP P] H locs → lv_has ls 3 [] → MX1_sneezeAll_j57 yL0_57 yL2_57 = some rr → W p l e (rmO 2 45) s m ([.ref (aL 0), .ref (aP 0)] : List Value).toArray below meth c H locs 0 0 (MQ below (qV G [wLine cI aL (rr.1, L.2.1, rr.2, L.2.2.2), wPlan cI aP P] A) ([.ref (aL 0), .ref (aP 0)] : List Value).toArray s 0 0 A) (F0 m 57 ls []) := by
    intro yL0_57 yL2_57 H locs ls hW hl hM
    unfold MX1_sneezeAll_j57 at hM
    obtain rfl := Option.some.inj hM
    exact g_retv X hW dX1_sneezeAll_57
  have lp2 : ∀ (n2 : Nat) (x2_2 : Int32) (yL0_2 : (Nat → Int32)) (yL2_2 : (Nat → Int32)) (H : Heap) (locs : List Loc) (ls : Array Slot), Wd G A s [wLine cI aL (yL0_2, L.2.1, yL2_2, L.2.2.2), wPlan cI aP P] H locs → lv_has ls 3 [(0, .ref (aL 0)), (1, .ref (aP 0)), (2, .int x2_2)] → MX1_sneezeAll_l2 N L P n2 x2_2 yL0_2 yL2_2 = some rr → W p l e (rmO 2 45) s m ([.ref (aL 0), .ref (aP 0)] : List Value).toArray below meth c H locs 0 0 (MQ below (qV G [wLine cI aL (rr.1, L.2.1, rr.2, L.2.2.2), wPlan cI aP P] A) ([.ref (aL 0), .ref (aP 0)] : List Value).toArray s 0 0 A) (F0 m 2 ls []) := by
    intro n2
    induction n2 with
    | zero =>
      intro x2_2 yL0_2 yL2_2 H locs ls hW hl hM
      rw [MX1_sneezeAll_l2] at hM
      cases hM
    | succ n2 ih2 =>
      intro x2_2 yL0_2 yL2_2 H locs ls hW hl hM
      rw [MX1_sneezeAll_l2] at hM
      refine lv_iload_n hx hb dX1_sneezeAll_2 rfl (lv_at hl 2 rfl) ?_
      refine lv_aload_n hx hb dX1_sneezeAll_3 rfl (lv_at hl 1 rfl) ?_
      refine g_getN X hW 6 rfl rfl inX3 3 (by decide) nt_8 rfl dX1_sneezeAll_4 ?_
      refine lv_icmp_ge (tgt := 57) hx hb dX1_sneezeAll_7 (by decide) (fun hc => ?_) (fun hc => ?_)
      · have hM := (if_pos hc).symm.trans hM
        exact j57 yL0_2 yL2_2 _ _ _ hW (lv_sub hl [] rfl) hM
      · have hM := (if_neg hc).symm.trans hM
        refine lv_iload_n hx hb dX1_sneezeAll_10 rfl (lv_at hl 2 rfl) ?_
        refine lv_bipush (v := (9 : Int32)) hx hb dX1_sneezeAll_11 (by decide) ?_
        refine lv_icmp_ge (tgt := 57) hx hb dX1_sneezeAll_13 (by decide) (fun hc => ?_) (fun hc => ?_)
        · have hM := (if_pos hc).symm.trans hM
          exact j57 yL0_2 yL2_2 _ _ _ hW (lv_sub hl [] rfl) hM
        · have hM := (if_neg hc).symm.trans hM
          refine lv_aload_n hx hb dX1_sneezeAll_16 rfl (lv_at hl 0 rfl) ?_
          refine g_get X hW 0 rfl rfl inX1 1 (by decide) q_146 rfl dX1_sneezeAll_17 ?_
          refine lv_iload_n hx hb dX1_sneezeAll_20 rfl (lv_at hl 2 rfl) ?_
          obtain ⟨hi21, hM⟩ := MG_some hM
          refine g_ald X hW 2 rfl hi21 dX1_sneezeAll_21 ?_
          refine lv_iconst (v := (1 : Int32)) hx hb dX1_sneezeAll_22 (by decide) ?_
          have j51 : ∀ (yL0_51 : (Nat → Int32)) (yL2_51 : (Nat → Int32)) (H : Heap) (locs : List Loc) (ls : Array Slot), Wd G A s [wLine cI aL (yL0_51, L.2.1, yL2_51, L.2.2.2), wPlan cI aP P] H locs → lv_has ls 3 [(0, .ref (aL 0)), (1, .ref (aP 0)), (2, .int x2_2)] → MX1_sneezeAll_j51 x2_2 (MX1_sneezeAll_l2 N L P n2) yL0_51 yL2_51 = some rr → W p l e (rmO 2 45) s m ([.ref (aL 0), .ref (aP 0)] : List Value).toArray below meth c H locs 0 0 (MQ below (qV G [wLine cI aL (rr.1, L.2.1, rr.2, L.2.2.2), wPlan cI aP P] A) ([.ref (aL 0), .ref (aP 0)] : List Value).toArray s 0 0 A) (F0 m 51 ls []) := by
            intro yL0_51 yL2_51 H locs ls hW hl hM
            unfold MX1_sneezeAll_j51 at hM
            refine lv_iinc (v := x2_2 + (1 : Int32)) (lv' := [(2, .int (x2_2 + (1 : Int32))), (0, .ref (aL 0)), (1, .ref (aP 0))]) hx hb dX1_sneezeAll_51 hl (k := 2) rfl rfl (by decide) rfl (fun ls hl => ?_)
            refine lv_goto (tgt := 2) hx hb dX1_sneezeAll_54 (by decide) ?_
            exact ih2 (x2_2 + (1 : Int32)) yL0_51 yL2_51 _ _ _ hW (lv_sub hl [1, 2, 0] rfl) hM
          refine lv_icmp_ne (tgt := 51) hx hb dX1_sneezeAll_23 (by decide) (fun hc => ?_) (fun hc => ?_)
          · have hM := (if_neg hc).symm.trans hM
            exact j51 yL0_2 yL2_2 _ _ _ hW (lv_sub hl [0, 1, 2] rfl) hM
          · have hM := (if_pos hc).symm.trans hM
            refine lv_aload_n hx hb dX1_sneezeAll_26 rfl (lv_at hl 1 rfl) ?_
            refine g_getN X hW 6 rfl rfl inX3 0 (by decide) nt_3 rfl dX1_sneezeAll_27 ?_
            refine lv_iload_n hx hb dX1_sneezeAll_30 rfl (lv_at hl 2 rfl) ?_
            obtain ⟨hi31, hM⟩ := MG_some hM
            refine g_ald X hW 7 rfl hi31 dX1_sneezeAll_31 ?_
            refine lv_iconst (v := (2 : Int32)) hx hb dX1_sneezeAll_32 (by decide) ?_
            refine lv_icmp_ne (tgt := 51) hx hb dX1_sneezeAll_33 (by decide) (fun hc => ?_) (fun hc => ?_)
            · have hM := (if_neg hc).symm.trans hM
              exact j51 yL0_2 yL2_2 _ _ _ hW (lv_sub hl [0, 1, 2] rfl) hM
            · have hM := (if_pos hc).symm.trans hM
              refine lv_aload_n hx hb dX1_sneezeAll_36 rfl (lv_at hl 0 rfl) ?_
              refine g_get X hW 0 rfl rfl inX1 2 (by decide) q_147 rfl dX1_sneezeAll_37 ?_
              refine lv_iload_n hx hb dX1_sneezeAll_40 rfl (lv_at hl 2 rfl) ?_
              obtain ⟨hi41, hM⟩ := MG_some hM
              refine g_ald X hW 3 rfl hi41 dX1_sneezeAll_41 ?_
              refine lv_iconst (v := (4 : Int32)) hx hb dX1_sneezeAll_42 (by decide) ?_
              refine lv_icmp_lt (tgt := 51) hx hb dX1_sneezeAll_43 (by decide) (fun hc => ?_) (fun hc => ?_)
              · have hM := (if_pos hc).symm.trans hM
                exact j51 yL0_2 yL2_2 _ _ _ hW (lv_sub hl [0, 1, 2] rfl) hM
              · have hM := (if_neg hc).symm.trans hM
                refine lv_aload_n hx hb dX1_sneezeAll_46 rfl (lv_at hl 0 rfl) ?_
                refine lv_iload_n hx hb dX1_sneezeAll_47 rfl (lv_at hl 2 rfl) ?_
                obtain ⟨u48, hu48, hM⟩ := bind_some hM
                refine g_callVv (rest := []) (gr := [wPlan cI aP P]) X hl.1 hW (c_X1_goToHead l G cI cZ cL N aL (yL0_2, L.2.1, yL2_2, L.2.2.2) x2_2 u48 hu48) q_522 q_519 q_520 q_521 q_58 hd_X1_goToHead rfl ⟨Nat.le_of_ble_eq_true rfl, Nat.le_of_ble_eq_true rfl⟩ ⟨Nat.zero_le _, Nat.zero_le _⟩ [0] [1] [wLine cI aL (u48.1, L.2.1, u48.2, L.2.2.2), wPlan cI aP P] ⟨pm_2_0, rfl, rfl, rfl⟩ ⟨pm_2_0, rfl, rfl, rfl⟩ (q0 := 0) rfl rfl rfl (Nat.le_of_ble_eq_true rfl) dX1_sneezeAll_48 (fun H locs hW => ?_)
                exact j51 u48.1 u48.2 _ _ _ hW (lv_sub hl [0, 1, 2] rfl) hM
  exact lp2 N (0 : Int32) L.1 L.2.2.1 _ _ _ hW (lv_sub hl [1, 2, 0] rfl) hM

def MX1_joinAll_j50 (yL0_50 : (Nat → Int32)) (yL1_50 : (Nat → Int32)) (yL2_50 : (Nat → Int32)) (yL5_50 : Int32) : Option ((Nat → Int32) × (Nat → Int32) × (Nat → Int32) × Int32) :=
  some (yL0_50, yL1_50, yL2_50, yL5_50)
def MX1_joinAll_j44 (x2_2 : Int32) (rc2 : (Int32 → (Nat → Int32) → (Nat → Int32) → (Nat → Int32) → Int32 → Option ((Nat → Int32) × (Nat → Int32) × (Nat → Int32) × Int32))) (yL0_44 : (Nat → Int32)) (yL1_44 : (Nat → Int32)) (yL2_44 : (Nat → Int32)) (yL5_44 : Int32) : Option ((Nat → Int32) × (Nat → Int32) × (Nat → Int32) × Int32) :=
  rc2 (x2_2 + (1 : Int32)) yL0_44 yL1_44 yL2_44 yL5_44
def MX1_joinAll_l2 (N : Nat) (L : LineV) (P : PlanV) : Nat → Int32 → (Nat → Int32) → (Nat → Int32) → (Nat → Int32) → Int32 → Option ((Nat → Int32) × (Nat → Int32) × (Nat → Int32) × Int32)
  | 0, _, _, _, _, _ => none
  | n2 + 1, x2_2, yL0_2, yL1_2, yL2_2, yL5_2 =>
    if P.2.2.2.1 ≤ x2_2 then (MX1_joinAll_j50 yL0_2 yL1_2 yL2_2 yL5_2) else (if (9 : Int32) ≤ x2_2 then (MX1_joinAll_j50 yL0_2 yL1_2 yL2_2 yL5_2) else MG x2_2 9 (if (yL1_2 x2_2.toNatClampNeg) = 0 then MG x2_2 9 (if (P.2.1 x2_2.toNatClampNeg) = L.2.2.2.2.2.2.1 then ((MX1_join N (yL0_2, yL1_2, yL2_2, L.2.2.2.1, L.2.2.2.2.1, yL5_2, L.2.2.2.2.2.2) P x2_2).bind (fun u41 => MX1_joinAll_j44 x2_2 (MX1_joinAll_l2 N L P n2) u41.1 u41.2.1 u41.2.2.1 u41.2.2.2)) else (MX1_joinAll_j44 x2_2 (MX1_joinAll_l2 N L P n2) yL0_2 yL1_2 yL2_2 yL5_2)) else (MX1_joinAll_j44 x2_2 (MX1_joinAll_l2 N L P n2) yL0_2 yL1_2 yL2_2 yL5_2)))
def MX1_joinAll (N : Nat) (L : LineV) (P : PlanV) : Option ((Nat → Int32) × (Nat → Int32) × (Nat → Int32) × Int32) :=
  MX1_joinAll_l2 N L P N (0 : Int32) L.1 L.2.1 L.2.2.1 L.2.2.2.2.2.1
set_option maxHeartbeats 4000000 in
set_option maxRecDepth 100000 in
theorem c_X1_joinAll (l : Launch) (G : va_G) (cI cZ cL : ClassId) (N : Nat) (aL : Nat → Nat) (aP : Nat → Nat) (L : LineV) (P : PlanV) (rr : (Nat → Int32) × (Nat → Int32) × (Nat → Int32) × Int32) (hM : MX1_joinAll N L P = some rr) : CtV l yX1_joinAll cX1_joinAll 3 2 46 G cI cZ cL [.ref (aL 0), .ref (aP 0)] [wLine cI aL L, wPlan cI aP P] [wLine cI aL (rr.1, rr.2.1, rr.2.2.1, L.2.2.2.1, L.2.2.2.2.1, rr.2.2.2, L.2.2.2.2.2.2), wPlan cI aP P] := by
  refine ct_body (fun A => qV G [wLine cI aL (rr.1, rr.2.1, rr.2.2.1, L.2.2.2.1, L.2.2.2.2.1, rr.2.2.2, L.2.2.2.2.2.2), wPlan cI aP P] A) (by decide) (Nat.le_of_ble_eq_true rfl) (fun p e s m below meth c A ls X hW hl => ?_)
  have hx := X.1
  have hb := X.2.1
  have hts := X.2.2.2.2.2.1
  have hown := X.2.2.2.2.2.2.1
  have hl : lv_has ls 3 [(0, .ref (aL 0)), (1, .ref (aP 0))] := hl
  unfold MX1_joinAll at hM
  refine lv_iconst (v := (0 : Int32)) hx hb dX1_joinAll_0 (by decide) ?_
  refine lv_istore_n (lv' := [(2, .int (0 : Int32)), (0, .ref (aL 0)), (1, .ref (aP 0))]) hx hb dX1_joinAll_1 rfl hl (by decide) rfl (fun ls hl => ?_)
  have j50 : ∀ (yL0_50 : (Nat → Int32)) (yL1_50 : (Nat → Int32)) (yL2_50 : (Nat → Int32)) (yL5_50 : Int32) (H : Heap) (locs : List Loc) (ls : Array Slot), Wd G A s [wLine cI aL (yL0_50, yL1_50, yL2_50, L.2.2.2.1, L.2.2.2.2.1, yL5_50, L.2.2.2.2.2.2), wPlan cI aP P] H locs → lv_has ls 3 [] → MX1_joinAll_j50 yL0_50 yL1_50 yL2_50 yL5_50 = some rr → W p l e (rmO 2 46) s m ([.ref (aL 0), .ref (aP 0)] : List Value).toArray below meth c H locs 0 0 (MQ below (qV G [wLine cI aL (rr.1, rr.2.1, rr.2.2.1, L.2.2.2.1, L.2.2.2.2.1, rr.2.2.2, L.2.2.2.2.2.2), wPlan cI aP P] A) ([.ref (aL 0), .ref (aP 0)] : List Value).toArray s 0 0 A) (F0 m 50 ls []) := by
    intro yL0_50 yL1_50 yL2_50 yL5_50 H locs ls hW hl hM
    unfold MX1_joinAll_j50 at hM
    obtain rfl := Option.some.inj hM
    exact g_retv X hW dX1_joinAll_50
  have lp2 : ∀ (n2 : Nat) (x2_2 : Int32) (yL0_2 : (Nat → Int32)) (yL1_2 : (Nat → Int32)) (yL2_2 : (Nat → Int32)) (yL5_2 : Int32) (H : Heap) (locs : List Loc) (ls : Array Slot), Wd G A s [wLine cI aL (yL0_2, yL1_2, yL2_2, L.2.2.2.1, L.2.2.2.2.1, yL5_2, L.2.2.2.2.2.2), wPlan cI aP P] H locs → lv_has ls 3 [(0, .ref (aL 0)), (1, .ref (aP 0)), (2, .int x2_2)] → MX1_joinAll_l2 N L P n2 x2_2 yL0_2 yL1_2 yL2_2 yL5_2 = some rr → W p l e (rmO 2 46) s m ([.ref (aL 0), .ref (aP 0)] : List Value).toArray below meth c H locs 0 0 (MQ below (qV G [wLine cI aL (rr.1, rr.2.1, rr.2.2.1, L.2.2.2.1, L.2.2.2.2.1, rr.2.2.2, L.2.2.2.2.2.2), wPlan cI aP P] A) ([.ref (aL 0), .ref (aP 0)] : List Value).toArray s 0 0 A) (F0 m 2 ls []) := by
    intro n2
    induction n2 with
    | zero =>
      intro x2_2 yL0_2 yL1_2 yL2_2 yL5_2 H locs ls hW hl hM
      rw [MX1_joinAll_l2] at hM
      cases hM
    | succ n2 ih2 =>
      intro x2_2 yL0_2 yL1_2 yL2_2 yL5_2 H locs ls hW hl hM
      rw [MX1_joinAll_l2] at hM
      refine lv_iload_n hx hb dX1_joinAll_2 rfl (lv_at hl 2 rfl) ?_
      refine lv_aload_n hx hb dX1_joinAll_3 rfl (lv_at hl 1 rfl) ?_
      refine g_getN X hW 6 rfl rfl inX3 3 (by decide) nt_8 rfl dX1_joinAll_4 ?_
      refine lv_icmp_ge (tgt := 50) hx hb dX1_joinAll_7 (by decide) (fun hc => ?_) (fun hc => ?_)
      · have hM := (if_pos hc).symm.trans hM
        exact j50 yL0_2 yL1_2 yL2_2 yL5_2 _ _ _ hW (lv_sub hl [] rfl) hM
      · have hM := (if_neg hc).symm.trans hM
        refine lv_iload_n hx hb dX1_joinAll_10 rfl (lv_at hl 2 rfl) ?_
        refine lv_bipush (v := (9 : Int32)) hx hb dX1_joinAll_11 (by decide) ?_
        refine lv_icmp_ge (tgt := 50) hx hb dX1_joinAll_13 (by decide) (fun hc => ?_) (fun hc => ?_)
        · have hM := (if_pos hc).symm.trans hM
          exact j50 yL0_2 yL1_2 yL2_2 yL5_2 _ _ _ hW (lv_sub hl [] rfl) hM
        · have hM := (if_neg hc).symm.trans hM
          refine lv_aload_n hx hb dX1_joinAll_16 rfl (lv_at hl 0 rfl) ?_
          refine g_get X hW 0 rfl rfl inX1 1 (by decide) q_146 rfl dX1_joinAll_17 ?_
          refine lv_iload_n hx hb dX1_joinAll_20 rfl (lv_at hl 2 rfl) ?_
          obtain ⟨hi21, hM⟩ := MG_some hM
          refine g_ald X hW 2 rfl hi21 dX1_joinAll_21 ?_
          have j44 : ∀ (yL0_44 : (Nat → Int32)) (yL1_44 : (Nat → Int32)) (yL2_44 : (Nat → Int32)) (yL5_44 : Int32) (H : Heap) (locs : List Loc) (ls : Array Slot), Wd G A s [wLine cI aL (yL0_44, yL1_44, yL2_44, L.2.2.2.1, L.2.2.2.2.1, yL5_44, L.2.2.2.2.2.2), wPlan cI aP P] H locs → lv_has ls 3 [(0, .ref (aL 0)), (1, .ref (aP 0)), (2, .int x2_2)] → MX1_joinAll_j44 x2_2 (MX1_joinAll_l2 N L P n2) yL0_44 yL1_44 yL2_44 yL5_44 = some rr → W p l e (rmO 2 46) s m ([.ref (aL 0), .ref (aP 0)] : List Value).toArray below meth c H locs 0 0 (MQ below (qV G [wLine cI aL (rr.1, rr.2.1, rr.2.2.1, L.2.2.2.1, L.2.2.2.2.1, rr.2.2.2, L.2.2.2.2.2.2), wPlan cI aP P] A) ([.ref (aL 0), .ref (aP 0)] : List Value).toArray s 0 0 A) (F0 m 44 ls []) := by
            intro yL0_44 yL1_44 yL2_44 yL5_44 H locs ls hW hl hM
            unfold MX1_joinAll_j44 at hM
            refine lv_iinc (v := x2_2 + (1 : Int32)) (lv' := [(2, .int (x2_2 + (1 : Int32))), (0, .ref (aL 0)), (1, .ref (aP 0))]) hx hb dX1_joinAll_44 hl (k := 2) rfl rfl (by decide) rfl (fun ls hl => ?_)
            refine lv_goto (tgt := 2) hx hb dX1_joinAll_47 (by decide) ?_
            exact ih2 (x2_2 + (1 : Int32)) yL0_44 yL1_44 yL2_44 yL5_44 _ _ _ hW (lv_sub hl [1, 2, 0] rfl) hM
          refine lv_if_ne (tgt := 44) hx hb dX1_joinAll_22 (by decide) (fun hc => ?_) (fun hc => ?_)
          · have hM := (if_neg hc).symm.trans hM
            exact j44 yL0_2 yL1_2 yL2_2 yL5_2 _ _ _ hW (lv_sub hl [0, 1, 2] rfl) hM
          · have hM := (if_pos hc).symm.trans hM
            refine lv_aload_n hx hb dX1_joinAll_25 rfl (lv_at hl 1 rfl) ?_
            refine g_getN X hW 6 rfl rfl inX3 1 (by decide) nt_4 rfl dX1_joinAll_26 ?_
            refine lv_iload_n hx hb dX1_joinAll_29 rfl (lv_at hl 2 rfl) ?_
            obtain ⟨hi30, hM⟩ := MG_some hM
            refine g_ald X hW 8 rfl hi30 dX1_joinAll_30 ?_
            refine lv_aload_n hx hb dX1_joinAll_31 rfl (lv_at hl 0 rfl) ?_
            refine g_get X hW 0 rfl rfl inX1 6 (by decide) q_152 rfl dX1_joinAll_32 ?_
            refine lv_icmp_ne (tgt := 44) hx hb dX1_joinAll_35 (by decide) (fun hc => ?_) (fun hc => ?_)
            · have hM := (if_neg hc).symm.trans hM
              exact j44 yL0_2 yL1_2 yL2_2 yL5_2 _ _ _ hW (lv_sub hl [0, 1, 2] rfl) hM
            · have hM := (if_pos hc).symm.trans hM
              refine lv_aload_n hx hb dX1_joinAll_38 rfl (lv_at hl 0 rfl) ?_
              refine lv_aload_n hx hb dX1_joinAll_39 rfl (lv_at hl 1 rfl) ?_
              refine lv_iload_n hx hb dX1_joinAll_40 rfl (lv_at hl 2 rfl) ?_
              obtain ⟨u41, hu41, hM⟩ := bind_some hM
              refine g_callVv (rest := []) (gr := []) X hl.1 hW (c_X1_join l G cI cZ cL N aL aP (yL0_2, yL1_2, yL2_2, L.2.2.2.1, L.2.2.2.2.1, yL5_2, L.2.2.2.2.2.2) P x2_2 u41 hu41) q_510 q_507 q_508 q_509 q_58 hd_X1_join rfl ⟨Nat.le_of_ble_eq_true rfl, Nat.le_of_ble_eq_true rfl⟩ ⟨Nat.zero_le _, Nat.zero_le _⟩ [0, 1] [] [wLine cI aL (u41.1, u41.2.1, u41.2.2.1, L.2.2.2.1, L.2.2.2.2.1, u41.2.2.2, L.2.2.2.2.2.2), wPlan cI aP P] ⟨pm_2_0_1, rfl, rfl, rfl⟩ ⟨pm_2_0_1, rfl, rfl, rfl⟩ (q0 := 0) rfl rfl rfl (Nat.le_of_ble_eq_true rfl) dX1_joinAll_41 (fun H locs hW => ?_)
              exact j44 u41.1 u41.2.1 u41.2.2.1 u41.2.2.2 _ _ _ hW (lv_sub hl [0, 1, 2] rfl) hM
  exact lp2 N (0 : Int32) L.1 L.2.1 L.2.2.1 L.2.2.2.2.2.1 _ _ _ hW (lv_sub hl [1, 2, 0] rfl) hM

def MX1_goOn_j45 (N : Nat) (L : LineV) (u7 : (Nat → Int32) × (Nat → Int32)) (yL0_45 : (Nat → Int32)) (yL1_45 : (Nat → Int32)) (yL3_45 : (Nat → Int32)) (yL4_45 : (Nat → Int32)) (yL5_45 : Int32) (yL7_45 : Int32) (yL8_45 : Int32) : Option ((Nat → Int32) × (Nat → Int32) × (Nat → Int32) × (Nat → Int32) × (Nat → Int32) × Int32 × Int32 × Int32 × Int32) :=
  (MX1_standOn N (yL0_45, yL1_45, u7.2, yL3_45, yL4_45, yL5_45, L.2.2.2.2.2.2.1, yL7_45, yL8_45)).bind (fun u46 => some (yL0_45, yL1_45, u46, yL3_45, yL4_45, yL5_45, (L.2.2.2.2.2.2.1 + (1 : Int32)), yL7_45, yL8_45))
def MX1_goOn_j42 (N : Nat) (L : LineV) (P : PlanV) (u7 : (Nat → Int32) × (Nat → Int32)) (u24 : (Nat → Int32) × (Nat → Int32) × (Nat → Int32) × (Nat → Int32) × Int32 × Int32 × Int32) (t2_42 : Int32) : Option ((Nat → Int32) × (Nat → Int32) × (Nat → Int32) × (Nat → Int32) × (Nat → Int32) × Int32 × Int32 × Int32 × Int32) :=
  (MX1_giveLoaf N (u24.1, u24.2.1, u7.2, u24.2.2.1, u24.2.2.2.1, u24.2.2.2.2.1, L.2.2.2.2.2.2.1, u24.2.2.2.2.2.1, u24.2.2.2.2.2.2) P t2_42).bind (fun u42 => MX1_goOn_j45 N L u7 u42.1 u42.2.1 u42.2.2.1 u42.2.2.2.1 u42.2.2.2.2.1 u42.2.2.2.2.2.1 u42.2.2.2.2.2.2)
def MX1_goOn (N : Nat) (L : LineV) (P : PlanV) (p2 : Int32) (p3 : Int32) : Option ((Nat → Int32) × (Nat → Int32) × (Nat → Int32) × (Nat → Int32) × (Nat → Int32) × Int32 × Int32 × Int32 × Int32) :=
  (MX1_joinAll N L P).bind (fun u2 => (MX1_sneezeAll N (u2.1, u2.2.1, u2.2.2.1, L.2.2.2.1, L.2.2.2.2.1, u2.2.2.2, L.2.2.2.2.2.2) P).bind (fun u7 => (MX3_givesIn N P L.2.2.2.2.2.2.1).bind (fun u15 => if u15 = 0 then (MX1_goOn_j45 N L u7 u7.1 u2.2.1 L.2.2.2.1 L.2.2.2.2.1 u2.2.2.2 L.2.2.2.2.2.2.2.1 L.2.2.2.2.2.2.2.2) else ((MX1_giveLoaf N (u7.1, u2.2.1, u7.2, L.2.2.2.1, L.2.2.2.2.1, u2.2.2.2, L.2.2.2.2.2.2) P p2).bind (fun u24 => if p3 = 0 then (MX1_goOn_j45 N L u7 u24.1 u24.2.1 u24.2.2.1 u24.2.2.2.1 u24.2.2.2.2.1 u24.2.2.2.2.2.1 u24.2.2.2.2.2.2) else (if p2 = 0 then MX1_goOn_j42 N L P u7 u24 (1 : Int32) else MX1_goOn_j42 N L P u7 u24 (0 : Int32)))))))
set_option maxHeartbeats 4000000 in
set_option maxRecDepth 100000 in
theorem c_X1_goOn (l : Launch) (G : va_G) (cI cZ cL : ClassId) (N : Nat) (aL : Nat → Nat) (aP : Nat → Nat) (L : LineV) (P : PlanV) (p2 : Int32) (p3 : Int32) (rr : (Nat → Int32) × (Nat → Int32) × (Nat → Int32) × (Nat → Int32) × (Nat → Int32) × Int32 × Int32 × Int32 × Int32) (hM : MX1_goOn N L P p2 p3 = some rr) : CtV l yX1_goOn cX1_goOn 4 3 69 G cI cZ cL [.ref (aL 0), .ref (aP 0), .int p2, .int p3] [wLine cI aL L, wPlan cI aP P] [wLine cI aL rr, wPlan cI aP P] := by
  refine ct_body (fun A => qV G [wLine cI aL rr, wPlan cI aP P] A) (by decide) (Nat.le_of_ble_eq_true rfl) (fun p e s m below meth c A ls X hW hl => ?_)
  have hx := X.1
  have hb := X.2.1
  have hts := X.2.2.2.2.2.1
  have hown := X.2.2.2.2.2.2.1
  have hl : lv_has ls 4 [(0, .ref (aL 0)), (1, .ref (aP 0)), (2, .int p2), (3, .int p3)] := hl
  unfold MX1_goOn at hM
  refine lv_aload_n hx hb dX1_goOn_0 rfl (lv_at hl 0 rfl) ?_
  refine lv_aload_n hx hb dX1_goOn_1 rfl (lv_at hl 1 rfl) ?_
  obtain ⟨u2, hu2, hM⟩ := bind_some hM
  refine g_callVv (rest := []) (gr := []) X hl.1 hW (c_X1_joinAll l G cI cZ cL N aL aP L P u2 hu2) q_506 q_503 q_505 q_6 q_58 hd_X1_joinAll rfl ⟨Nat.le_of_ble_eq_true rfl, Nat.le_of_ble_eq_true rfl⟩ ⟨Nat.zero_le _, Nat.zero_le _⟩ [0, 1] [] [wLine cI aL (u2.1, u2.2.1, u2.2.2.1, L.2.2.2.1, L.2.2.2.2.1, u2.2.2.2, L.2.2.2.2.2.2), wPlan cI aP P] ⟨pm_2_0_1, rfl, rfl, rfl⟩ ⟨pm_2_0_1, rfl, rfl, rfl⟩ (q0 := 0) rfl rfl rfl (Nat.le_of_ble_eq_true rfl) dX1_goOn_2 (fun H locs hW => ?_)
  refine lv_aload_n hx hb dX1_goOn_5 rfl (lv_at hl 0 rfl) ?_
  refine lv_aload_n hx hb dX1_goOn_6 rfl (lv_at hl 1 rfl) ?_
  obtain ⟨u7, hu7, hM⟩ := bind_some hM
  refine g_callVv (rest := []) (gr := []) X hl.1 hW (c_X1_sneezeAll l G cI cZ cL N aL aP (u2.1, u2.2.1, u2.2.2.1, L.2.2.2.1, L.2.2.2.2.1, u2.2.2.2, L.2.2.2.2.2.2) P u7 hu7) q_518 q_515 q_517 q_7 q_58 hd_X1_sneezeAll rfl ⟨Nat.le_of_ble_eq_true rfl, Nat.le_of_ble_eq_true rfl⟩ ⟨Nat.zero_le _, Nat.zero_le _⟩ [0, 1] [] [wLine cI aL (u7.1, u2.2.1, u7.2, L.2.2.2.1, L.2.2.2.2.1, u2.2.2.2, L.2.2.2.2.2.2), wPlan cI aP P] ⟨pm_2_0_1, rfl, rfl, rfl⟩ ⟨pm_2_0_1, rfl, rfl, rfl⟩ (q0 := 0) rfl rfl rfl (Nat.le_of_ble_eq_true rfl) dX1_goOn_7 (fun H locs hW => ?_)
  refine lv_aload_n hx hb dX1_goOn_10 rfl (lv_at hl 1 rfl) ?_
  refine lv_aload_n hx hb dX1_goOn_11 rfl (lv_at hl 0 rfl) ?_
  refine g_get X hW 0 rfl rfl inX1 6 (by decide) q_152 rfl dX1_goOn_12 ?_
  obtain ⟨u15, hu15, hM⟩ := bind_some hM
  refine g_callVi (rest := []) (gr := [wLine cI aL (u7.1, u2.2.1, u7.2, L.2.2.2.1, L.2.2.2.2.1, u2.2.2.2, L.2.2.2.2.2.2)]) X hl.1 hW (c_X3_givesIn l G cI cZ cL N aP P L.2.2.2.2.2.2.1 u15 hu15) q_527 q_524 q_525 q_526 q_56 hd_X3_givesIn rfl ⟨Nat.le_of_ble_eq_true rfl, Nat.le_of_ble_eq_true rfl⟩ ⟨Nat.zero_le _, Nat.zero_le _⟩ [1] [0] [wLine cI aL (u7.1, u2.2.1, u7.2, L.2.2.2.1, L.2.2.2.2.1, u2.2.2.2, L.2.2.2.2.2.2), wPlan cI aP P] ⟨pm_2_1, rfl, rfl, rfl⟩ ⟨pm_2_1, rfl, rfl, rfl⟩ (q0 := 6) rfl rfl rfl (Nat.le_of_ble_eq_true rfl) dX1_goOn_15 (fun H locs hW => ?_)
  have j45 : ∀ (yL0_45 : (Nat → Int32)) (yL1_45 : (Nat → Int32)) (yL3_45 : (Nat → Int32)) (yL4_45 : (Nat → Int32)) (yL5_45 : Int32) (yL7_45 : Int32) (yL8_45 : Int32) (H : Heap) (locs : List Loc) (ls : Array Slot), Wd G A s [wLine cI aL (yL0_45, yL1_45, u7.2, yL3_45, yL4_45, yL5_45, L.2.2.2.2.2.2.1, yL7_45, yL8_45), wPlan cI aP P] H locs → lv_has ls 4 [(0, .ref (aL 0))] → MX1_goOn_j45 N L u7 yL0_45 yL1_45 yL3_45 yL4_45 yL5_45 yL7_45 yL8_45 = some rr → W p l e (rmO 3 69) s m ([.ref (aL 0), .ref (aP 0), .int p2, .int p3] : List Value).toArray below meth c H locs 0 0 (MQ below (qV G [wLine cI aL rr, wPlan cI aP P] A) ([.ref (aL 0), .ref (aP 0), .int p2, .int p3] : List Value).toArray s 0 0 A) (F0 m 45 ls []) := by
    intro yL0_45 yL1_45 yL3_45 yL4_45 yL5_45 yL7_45 yL8_45 H locs ls hW hl hM
    unfold MX1_goOn_j45 at hM
    refine lv_aload_n hx hb dX1_goOn_45 rfl (lv_at hl 0 rfl) ?_
    obtain ⟨u46, hu46, hM⟩ := bind_some hM
    refine g_callVv (rest := []) (gr := [wPlan cI aP P]) X hl.1 hW (c_X1_standOn l G cI cZ cL N aL (yL0_45, yL1_45, u7.2, yL3_45, yL4_45, yL5_45, L.2.2.2.2.2.2.1, yL7_45, yL8_45) u46 hu46) q_546 q_543 q_545 q_11 q_58 hd_X1_standOn rfl ⟨Nat.le_of_ble_eq_true rfl, Nat.le_of_ble_eq_true rfl⟩ ⟨Nat.zero_le _, Nat.zero_le _⟩ [0] [1] [wLine cI aL (yL0_45, yL1_45, u46, yL3_45, yL4_45, yL5_45, L.2.2.2.2.2.2.1, yL7_45, yL8_45), wPlan cI aP P] ⟨pm_2_0, rfl, rfl, rfl⟩ ⟨pm_2_0, rfl, rfl, rfl⟩ (q0 := 0) rfl rfl rfl (Nat.le_of_ble_eq_true rfl) dX1_goOn_46 (fun H locs hW => ?_)
    refine lv_aload_n hx hb dX1_goOn_49 rfl (lv_at hl 0 rfl) ?_
    refine lv_dup hx hb dX1_goOn_50 rfl ?_
    refine g_get X hW 0 rfl rfl inX1 6 (by decide) q_152 rfl dX1_goOn_51 ?_
    refine lv_iconst (v := (1 : Int32)) hx hb dX1_goOn_54 (by decide) ?_
    refine lv_iadd hx hb dX1_goOn_55 ?_
    refine g_put X hW 0 rfl rfl inX1 tyX1 tyX1_ok nmX1 6 (by decide) q_152 rfl rfl (Nat.le_of_ble_eq_true rfl) [wLine cI aL (yL0_45, yL1_45, u46, yL3_45, yL4_45, yL5_45, (L.2.2.2.2.2.2.1 + (1 : Int32)), yL7_45, yL8_45), wPlan cI aP P] rfl dX1_goOn_56 (fun H locs hW => ?_)
    obtain rfl := Option.some.inj hM
    exact g_retv X hW dX1_goOn_59
  refine lv_if_eq (tgt := 45) hx hb dX1_goOn_18 (by decide) (fun hc => ?_) (fun hc => ?_)
  · have hM := (if_pos hc).symm.trans hM
    exact j45 u7.1 u2.2.1 L.2.2.2.1 L.2.2.2.2.1 u2.2.2.2 L.2.2.2.2.2.2.2.1 L.2.2.2.2.2.2.2.2 _ _ _ hW (lv_sub hl [0] rfl) hM
  · have hM := (if_neg hc).symm.trans hM
    refine lv_aload_n hx hb dX1_goOn_21 rfl (lv_at hl 0 rfl) ?_
    refine lv_aload_n hx hb dX1_goOn_22 rfl (lv_at hl 1 rfl) ?_
    refine lv_iload_n hx hb dX1_goOn_23 rfl (lv_at hl 2 rfl) ?_
    obtain ⟨u24, hu24, hM⟩ := bind_some hM
    refine g_callVv (rest := []) (gr := []) X hl.1 hW (c_X1_giveLoaf l G cI cZ cL N aL aP (u7.1, u2.2.1, u7.2, L.2.2.2.1, L.2.2.2.2.1, u2.2.2.2, L.2.2.2.2.2.2) P p2 u24 hu24) q_531 q_528 q_530 q_8 q_58 hd_X1_giveLoaf rfl ⟨Nat.le_of_ble_eq_true rfl, Nat.le_of_ble_eq_true rfl⟩ ⟨Nat.zero_le _, Nat.zero_le _⟩ [0, 1] [] [wLine cI aL (u24.1, u24.2.1, u7.2, u24.2.2.1, u24.2.2.2.1, u24.2.2.2.2.1, L.2.2.2.2.2.2.1, u24.2.2.2.2.2.1, u24.2.2.2.2.2.2), wPlan cI aP P] ⟨pm_2_0_1, rfl, rfl, rfl⟩ ⟨pm_2_0_1, rfl, rfl, rfl⟩ (q0 := 0) rfl rfl rfl (Nat.le_of_ble_eq_true rfl) dX1_goOn_24 (fun H locs hW => ?_)
    refine lv_iload_n hx hb dX1_goOn_27 rfl (lv_at hl 3 rfl) ?_
    refine lv_if_eq (tgt := 45) hx hb dX1_goOn_28 (by decide) (fun hc => ?_) (fun hc => ?_)
    · have hM := (if_pos hc).symm.trans hM
      exact j45 u24.1 u24.2.1 u24.2.2.1 u24.2.2.2.1 u24.2.2.2.2.1 u24.2.2.2.2.2.1 u24.2.2.2.2.2.2 _ _ _ hW (lv_sub hl [0] rfl) hM
    · have hM := (if_neg hc).symm.trans hM
      refine lv_aload_n hx hb dX1_goOn_31 rfl (lv_at hl 0 rfl) ?_
      refine lv_aload_n hx hb dX1_goOn_32 rfl (lv_at hl 1 rfl) ?_
      refine lv_iload_n hx hb dX1_goOn_33 rfl (lv_at hl 2 rfl) ?_
      have j42 : ∀ (t2_42 : Int32) (H : Heap) (locs : List Loc) (ls : Array Slot), Wd G A s [wLine cI aL (u24.1, u24.2.1, u7.2, u24.2.2.1, u24.2.2.2.1, u24.2.2.2.2.1, L.2.2.2.2.2.2.1, u24.2.2.2.2.2.1, u24.2.2.2.2.2.2), wPlan cI aP P] H locs → lv_has ls 4 [(0, .ref (aL 0))] → MX1_goOn_j42 N L P u7 u24 t2_42 = some rr → W p l e (rmO 3 69) s m ([.ref (aL 0), .ref (aP 0), .int p2, .int p3] : List Value).toArray below meth c H locs 0 0 (MQ below (qV G [wLine cI aL rr, wPlan cI aP P] A) ([.ref (aL 0), .ref (aP 0), .int p2, .int p3] : List Value).toArray s 0 0 A) (F0 m 42 ls [.int t2_42, .ref (aP 0), .ref (aL 0)]) := by
        intro t2_42 H locs ls hW hl hM
        unfold MX1_goOn_j42 at hM
        obtain ⟨u42, hu42, hM⟩ := bind_some hM
        refine g_callVv (rest := []) (gr := []) X hl.1 hW (c_X1_giveLoaf l G cI cZ cL N aL aP (u24.1, u24.2.1, u7.2, u24.2.2.1, u24.2.2.2.1, u24.2.2.2.2.1, L.2.2.2.2.2.2.1, u24.2.2.2.2.2.1, u24.2.2.2.2.2.2) P t2_42 u42 hu42) q_531 q_528 q_530 q_8 q_58 hd_X1_giveLoaf rfl ⟨Nat.le_of_ble_eq_true rfl, Nat.le_of_ble_eq_true rfl⟩ ⟨Nat.zero_le _, Nat.zero_le _⟩ [0, 1] [] [wLine cI aL (u42.1, u42.2.1, u7.2, u42.2.2.1, u42.2.2.2.1, u42.2.2.2.2.1, L.2.2.2.2.2.2.1, u42.2.2.2.2.2.1, u42.2.2.2.2.2.2), wPlan cI aP P] ⟨pm_2_0_1, rfl, rfl, rfl⟩ ⟨pm_2_0_1, rfl, rfl, rfl⟩ (q0 := 0) rfl rfl rfl (Nat.le_of_ble_eq_true rfl) dX1_goOn_42 (fun H locs hW => ?_)
        exact j45 u42.1 u42.2.1 u42.2.2.1 u42.2.2.2.1 u42.2.2.2.2.1 u42.2.2.2.2.2.1 u42.2.2.2.2.2.2 _ _ _ hW (lv_sub hl [0] rfl) hM
      refine lv_if_ne (tgt := 41) hx hb dX1_goOn_34 (by decide) (fun hc => ?_) (fun hc => ?_)
      · have hM := (if_neg hc).symm.trans hM
        refine lv_iconst (v := (0 : Int32)) hx hb dX1_goOn_41 (by decide) ?_
        exact j42 (0 : Int32) _ _ _ hW (lv_sub hl [0] rfl) hM
      · have hM := (if_pos hc).symm.trans hM
        refine lv_iconst (v := (1 : Int32)) hx hb dX1_goOn_37 (by decide) ?_
        refine lv_goto (tgt := 42) hx hb dX1_goOn_38 (by decide) ?_
        exact j42 (1 : Int32) _ _ _ hW (lv_sub hl [0] rfl) hM

def MX1_run_j27 (yL0_27 : (Nat → Int32)) (yL1_27 : (Nat → Int32)) (yL2_27 : (Nat → Int32)) (yL3_27 : (Nat → Int32)) (yL4_27 : (Nat → Int32)) (yL5_27 : Int32) (yL6_27 : Int32) (yL7_27 : Int32) (yL8_27 : Int32) : Option ((Nat → Int32) × (Nat → Int32) × (Nat → Int32) × (Nat → Int32) × (Nat → Int32) × Int32 × Int32 × Int32 × Int32) :=
  some (yL0_27, yL1_27, yL2_27, yL3_27, yL4_27, yL5_27, yL6_27, yL7_27, yL8_27)
def MX1_run_l2 (N : Nat) (P : PlanV) (p2 : Int32) : Nat → Int32 → (Nat → Int32) → (Nat → Int32) → (Nat → Int32) → (Nat → Int32) → (Nat → Int32) → Int32 → Int32 → Int32 → Int32 → Option ((Nat → Int32) × (Nat → Int32) × (Nat → Int32) × (Nat → Int32) × (Nat → Int32) × Int32 × Int32 × Int32 × Int32)
  | 0, _, _, _, _, _, _, _, _, _, _ => none
  | n2 + 1, x3_2, yL0_2, yL1_2, yL2_2, yL3_2, yL4_2, yL5_2, yL6_2, yL7_2, yL8_2 =>
    if p2 ≤ x3_2 then (MX1_run_j27 yL0_2 yL1_2 yL2_2 yL3_2 yL4_2 yL5_2 yL6_2 yL7_2 yL8_2) else ((MX3_rumourIn N P yL6_2).bind (fun u14 => (MX1_goOn N (yL0_2, yL1_2, yL2_2, yL3_2, yL4_2, yL5_2, yL6_2, yL7_2, yL8_2) P u14 (0 : Int32)).bind (fun u18 => (MX1_run_l2 N P p2 n2) (x3_2 + (1 : Int32)) u18.1 u18.2.1 u18.2.2.1 u18.2.2.2.1 u18.2.2.2.2.1 u18.2.2.2.2.2.1 u18.2.2.2.2.2.2.1 u18.2.2.2.2.2.2.2.1 u18.2.2.2.2.2.2.2.2)))
def MX1_run (N : Nat) (L : LineV) (P : PlanV) (p2 : Int32) : Option ((Nat → Int32) × (Nat → Int32) × (Nat → Int32) × (Nat → Int32) × (Nat → Int32) × Int32 × Int32 × Int32 × Int32) :=
  MX1_run_l2 N P p2 N (0 : Int32) L.1 L.2.1 L.2.2.1 L.2.2.2.1 L.2.2.2.2.1 L.2.2.2.2.2.1 L.2.2.2.2.2.2.1 L.2.2.2.2.2.2.2.1 L.2.2.2.2.2.2.2.2
set_option maxHeartbeats 4000000 in
set_option maxRecDepth 100000 in
theorem c_X1_run (l : Launch) (G : va_G) (cI cZ cL : ClassId) (N : Nat) (aL : Nat → Nat) (aP : Nat → Nat) (L : LineV) (P : PlanV) (p2 : Int32) (rr : (Nat → Int32) × (Nat → Int32) × (Nat → Int32) × (Nat → Int32) × (Nat → Int32) × Int32 × Int32 × Int32 × Int32) (hM : MX1_run N L P p2 = some rr) : CtV l yX1_run cX1_run 4 4 92 G cI cZ cL [.ref (aL 0), .ref (aP 0), .int p2] [wLine cI aL L, wPlan cI aP P] [wLine cI aL rr, wPlan cI aP P] := by
  refine ct_body (fun A => qV G [wLine cI aL rr, wPlan cI aP P] A) (by decide) (Nat.le_of_ble_eq_true rfl) (fun p e s m below meth c A ls X hW hl => ?_)
  have hx := X.1
  have hb := X.2.1
  have hts := X.2.2.2.2.2.1
  have hown := X.2.2.2.2.2.2.1
  have hl : lv_has ls 4 [(0, .ref (aL 0)), (1, .ref (aP 0)), (2, .int p2)] := hl
  unfold MX1_run at hM
  refine lv_iconst (v := (0 : Int32)) hx hb dX1_run_0 (by decide) ?_
  refine lv_istore_n (lv' := [(3, .int (0 : Int32)), (0, .ref (aL 0)), (1, .ref (aP 0)), (2, .int p2)]) hx hb dX1_run_1 rfl hl (by decide) rfl (fun ls hl => ?_)
  have j27 : ∀ (yL0_27 : (Nat → Int32)) (yL1_27 : (Nat → Int32)) (yL2_27 : (Nat → Int32)) (yL3_27 : (Nat → Int32)) (yL4_27 : (Nat → Int32)) (yL5_27 : Int32) (yL6_27 : Int32) (yL7_27 : Int32) (yL8_27 : Int32) (H : Heap) (locs : List Loc) (ls : Array Slot), Wd G A s [wLine cI aL (yL0_27, yL1_27, yL2_27, yL3_27, yL4_27, yL5_27, yL6_27, yL7_27, yL8_27), wPlan cI aP P] H locs → lv_has ls 4 [] → MX1_run_j27 yL0_27 yL1_27 yL2_27 yL3_27 yL4_27 yL5_27 yL6_27 yL7_27 yL8_27 = some rr → W p l e (rmO 4 92) s m ([.ref (aL 0), .ref (aP 0), .int p2] : List Value).toArray below meth c H locs 0 0 (MQ below (qV G [wLine cI aL rr, wPlan cI aP P] A) ([.ref (aL 0), .ref (aP 0), .int p2] : List Value).toArray s 0 0 A) (F0 m 27 ls []) := by
    intro yL0_27 yL1_27 yL2_27 yL3_27 yL4_27 yL5_27 yL6_27 yL7_27 yL8_27 H locs ls hW hl hM
    unfold MX1_run_j27 at hM
    obtain rfl := Option.some.inj hM
    exact g_retv X hW dX1_run_27
  have lp2 : ∀ (n2 : Nat) (x3_2 : Int32) (yL0_2 : (Nat → Int32)) (yL1_2 : (Nat → Int32)) (yL2_2 : (Nat → Int32)) (yL3_2 : (Nat → Int32)) (yL4_2 : (Nat → Int32)) (yL5_2 : Int32) (yL6_2 : Int32) (yL7_2 : Int32) (yL8_2 : Int32) (H : Heap) (locs : List Loc) (ls : Array Slot), Wd G A s [wLine cI aL (yL0_2, yL1_2, yL2_2, yL3_2, yL4_2, yL5_2, yL6_2, yL7_2, yL8_2), wPlan cI aP P] H locs → lv_has ls 4 [(0, .ref (aL 0)), (1, .ref (aP 0)), (2, .int p2), (3, .int x3_2)] → MX1_run_l2 N P p2 n2 x3_2 yL0_2 yL1_2 yL2_2 yL3_2 yL4_2 yL5_2 yL6_2 yL7_2 yL8_2 = some rr → W p l e (rmO 4 92) s m ([.ref (aL 0), .ref (aP 0), .int p2] : List Value).toArray below meth c H locs 0 0 (MQ below (qV G [wLine cI aL rr, wPlan cI aP P] A) ([.ref (aL 0), .ref (aP 0), .int p2] : List Value).toArray s 0 0 A) (F0 m 2 ls []) := by
    intro n2
    induction n2 with
    | zero =>
      intro x3_2 yL0_2 yL1_2 yL2_2 yL3_2 yL4_2 yL5_2 yL6_2 yL7_2 yL8_2 H locs ls hW hl hM
      rw [MX1_run_l2] at hM
      cases hM
    | succ n2 ih2 =>
      intro x3_2 yL0_2 yL1_2 yL2_2 yL3_2 yL4_2 yL5_2 yL6_2 yL7_2 yL8_2 H locs ls hW hl hM
      rw [MX1_run_l2] at hM
      refine lv_iload_n hx hb dX1_run_2 rfl (lv_at hl 3 rfl) ?_
      refine lv_iload_n hx hb dX1_run_3 rfl (lv_at hl 2 rfl) ?_
      refine lv_icmp_ge (tgt := 27) hx hb dX1_run_4 (by decide) (fun hc => ?_) (fun hc => ?_)
      · have hM := (if_pos hc).symm.trans hM
        exact j27 yL0_2 yL1_2 yL2_2 yL3_2 yL4_2 yL5_2 yL6_2 yL7_2 yL8_2 _ _ _ hW (lv_sub hl [] rfl) hM
      · have hM := (if_neg hc).symm.trans hM
        refine lv_aload_n hx hb dX1_run_7 rfl (lv_at hl 0 rfl) ?_
        refine lv_aload_n hx hb dX1_run_8 rfl (lv_at hl 1 rfl) ?_
        refine lv_aload_n hx hb dX1_run_9 rfl (lv_at hl 1 rfl) ?_
        refine lv_aload_n hx hb dX1_run_10 rfl (lv_at hl 0 rfl) ?_
        refine g_get X hW 0 rfl rfl inX1 6 (by decide) q_152 rfl dX1_run_11 ?_
        obtain ⟨u14, hu14, hM⟩ := bind_some hM
        refine g_callVi (rest := [.ref (aP 0), .ref (aL 0)]) (gr := [wLine cI aL (yL0_2, yL1_2, yL2_2, yL3_2, yL4_2, yL5_2, yL6_2, yL7_2, yL8_2)]) X hl.1 hW (c_X3_rumourIn l G cI cZ cL N aP P yL6_2 u14 hu14) q_498 q_495 q_496 q_497 q_56 hd_X3_rumourIn rfl ⟨Nat.le_of_ble_eq_true rfl, Nat.le_of_ble_eq_true rfl⟩ ⟨Nat.zero_le _, Nat.zero_le _⟩ [1] [0] [wLine cI aL (yL0_2, yL1_2, yL2_2, yL3_2, yL4_2, yL5_2, yL6_2, yL7_2, yL8_2), wPlan cI aP P] ⟨pm_2_1, rfl, rfl, rfl⟩ ⟨pm_2_1, rfl, rfl, rfl⟩ (q0 := 6) rfl rfl rfl (Nat.le_of_ble_eq_true rfl) dX1_run_14 (fun H locs hW => ?_)
        refine lv_iconst (v := (0 : Int32)) hx hb dX1_run_17 (by decide) ?_
        obtain ⟨u18, hu18, hM⟩ := bind_some hM
        refine g_callVv (rest := []) (gr := []) X hl.1 hW (c_X1_goOn l G cI cZ cL N aL aP (yL0_2, yL1_2, yL2_2, yL3_2, yL4_2, yL5_2, yL6_2, yL7_2, yL8_2) P u14 (0 : Int32) u18 hu18) q_502 q_499 q_500 q_501 q_58 hd_X1_goOn rfl ⟨Nat.le_of_ble_eq_true rfl, Nat.le_of_ble_eq_true rfl⟩ ⟨Nat.zero_le _, Nat.zero_le _⟩ [0, 1] [] [wLine cI aL u18, wPlan cI aP P] ⟨pm_2_0_1, rfl, rfl, rfl⟩ ⟨pm_2_0_1, rfl, rfl, rfl⟩ (q0 := 0) rfl rfl rfl (Nat.le_of_ble_eq_true rfl) dX1_run_18 (fun H locs hW => ?_)
        refine lv_iinc (v := x3_2 + (1 : Int32)) (lv' := [(3, .int (x3_2 + (1 : Int32))), (0, .ref (aL 0)), (1, .ref (aP 0)), (2, .int p2)]) hx hb dX1_run_21 hl (k := 3) rfl rfl (by decide) rfl (fun ls hl => ?_)
        refine lv_goto (tgt := 2) hx hb dX1_run_24 (by decide) ?_
        exact ih2 (x3_2 + (1 : Int32)) u18.1 u18.2.1 u18.2.2.1 u18.2.2.2.1 u18.2.2.2.2.1 u18.2.2.2.2.2.1 u18.2.2.2.2.2.2.1 u18.2.2.2.2.2.2.2.1 u18.2.2.2.2.2.2.2.2 _ _ _ hW (lv_sub hl [1, 2, 3, 0] rfl) hM
  exact lp2 N (0 : Int32) L.1 L.2.1 L.2.2.1 L.2.2.2.1 L.2.2.2.2.1 L.2.2.2.2.2.1 L.2.2.2.2.2.2.1 L.2.2.2.2.2.2.2.1 L.2.2.2.2.2.2.2.2 _ _ _ hW (lv_sub hl [1, 2, 3, 0] rfl) hM
