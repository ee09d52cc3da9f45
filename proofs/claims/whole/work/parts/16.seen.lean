def MX4_add (N : Nat) (S : SeenV) (p1 : Int32) (p2 : Int32) (p3 : Int32) : Option (Int32 × (Nat → Int32) × (Nat → Int32) × (Nat → Int32) × Int32) :=
  if S.2.2.2 < (6 : Int32) then MG S.2.2.2 6 (MG S.2.2.2 6 (MG S.2.2.2 6 (some ((1 : Int32), (upd S.1 S.2.2.2.toNatClampNeg p1), (upd S.2.1 S.2.2.2.toNatClampNeg p2), (upd S.2.2.1 S.2.2.2.toNatClampNeg (vp_nar .boolean p3)), (S.2.2.2 + (1 : Int32)))))) else some ((0 : Int32), S.1, S.2.1, S.2.2.1, S.2.2.2)
set_option maxHeartbeats 4000000 in
set_option maxRecDepth 100000 in
theorem c_X4_add (l : Launch) (G : va_G) (cI cZ cL : ClassId) (N : Nat) (aS : Nat → Nat) (S : SeenV) (p1 : Int32) (p2 : Int32) (p3 : Int32) (rr : Int32 × (Nat → Int32) × (Nat → Int32) × (Nat → Int32) × Int32) (hM : MX4_add N S p1 p2 p3 = some rr) : CtI l yX4_add cX4_add 4 .boolean 0 0 G cI cZ cL [.ref (aS 0), .int p1, .int p2, .int p3] [wSeen cI cZ aS S] rr.1 [wSeen cI cZ aS (rr.2.1, rr.2.2.1, rr.2.2.2.1, rr.2.2.2.2)] := by
  refine ct_body (fun A => qI G rr.1 [wSeen cI cZ aS (rr.2.1, rr.2.2.1, rr.2.2.2.1, rr.2.2.2.2)] A) (by decide) (Nat.le_of_ble_eq_true rfl) (fun p e s m below meth c A ls X hW hl => ?_)
  have hx := X.1
  have hb := X.2.1
  have hts := X.2.2.2.2.2.1
  have hown := X.2.2.2.2.2.2.1
  have hl : lv_has ls 4 [(0, .ref (aS 0)), (1, .int p1), (2, .int p2), (3, .int p3)] := hl
  unfold MX4_add at hM
  refine lv_aload_n hx hb dX4_add_0 rfl (lv_at hl 0 rfl) ?_
  refine g_get X hW 0 rfl rfl inX4 3 (by decide) q_224 rfl dX4_add_1 ?_
  refine lv_bipush (v := (6 : Int32)) hx hb dX4_add_4 (by decide) ?_
  refine lv_icmp_lt (tgt := 11) hx hb dX4_add_6 (by decide) (fun hc => ?_) (fun hc => ?_)
  · have hM := (if_pos hc).symm.trans hM
    refine lv_aload_n hx hb dX4_add_11 rfl (lv_at hl 0 rfl) ?_
    refine g_get X hW 0 rfl rfl inX4 0 (by decide) q_221 rfl dX4_add_12 ?_
    refine lv_aload_n hx hb dX4_add_15 rfl (lv_at hl 0 rfl) ?_
    refine g_get X hW 0 rfl rfl inX4 3 (by decide) q_224 rfl dX4_add_16 ?_
    refine lv_iload_n hx hb dX4_add_19 rfl (lv_at hl 1 rfl) ?_
    obtain ⟨hi20, hM⟩ := MG_some hM
    refine g_ast X hW 1 rfl hi20 [wSeen cI cZ aS ((upd S.1 S.2.2.2.toNatClampNeg p1), S.2)] rfl dX4_add_20 (fun H locs hW => ?_)
    refine lv_aload_n hx hb dX4_add_21 rfl (lv_at hl 0 rfl) ?_
    refine g_get X hW 0 rfl rfl inX4 1 (by decide) q_222 rfl dX4_add_22 ?_
    refine lv_aload_n hx hb dX4_add_25 rfl (lv_at hl 0 rfl) ?_
    refine g_get X hW 0 rfl rfl inX4 3 (by decide) q_224 rfl dX4_add_26 ?_
    refine lv_iload_n hx hb dX4_add_29 rfl (lv_at hl 2 rfl) ?_
    obtain ⟨hi30, hM⟩ := MG_some hM
    refine g_ast X hW 2 rfl hi30 [wSeen cI cZ aS ((upd S.1 S.2.2.2.toNatClampNeg p1), (upd S.2.1 S.2.2.2.toNatClampNeg p2), S.2.2)] rfl dX4_add_30 (fun H locs hW => ?_)
    refine lv_aload_n hx hb dX4_add_31 rfl (lv_at hl 0 rfl) ?_
    refine g_get X hW 0 rfl rfl inX4 2 (by decide) q_223 rfl dX4_add_32 ?_
    refine lv_aload_n hx hb dX4_add_35 rfl (lv_at hl 0 rfl) ?_
    refine g_get X hW 0 rfl rfl inX4 3 (by decide) q_224 rfl dX4_add_36 ?_
    refine lv_iload_n hx hb dX4_add_39 rfl (lv_at hl 3 rfl) ?_
    obtain ⟨hi40, hM⟩ := MG_some hM
    refine g_zast X hW 3 rfl hi40 [wSeen cI cZ aS ((upd S.1 S.2.2.2.toNatClampNeg p1), (upd S.2.1 S.2.2.2.toNatClampNeg p2), (upd S.2.2.1 S.2.2.2.toNatClampNeg (vp_nar .boolean p3)), S.2.2.2)] rfl dX4_add_40 (fun H locs hW => ?_)
    refine lv_aload_n hx hb dX4_add_41 rfl (lv_at hl 0 rfl) ?_
    refine lv_dup hx hb dX4_add_42 rfl ?_
    refine g_get X hW 0 rfl rfl inX4 3 (by decide) q_224 rfl dX4_add_43 ?_
    refine lv_iconst (v := (1 : Int32)) hx hb dX4_add_46 (by decide) ?_
    refine lv_iadd hx hb dX4_add_47 ?_
    refine g_put X hW 0 rfl rfl inX4 tyX4 tyX4_ok nmX4 3 (by decide) q_224 rfl rfl (Nat.le_of_ble_eq_true rfl) [wSeen cI cZ aS ((upd S.1 S.2.2.2.toNatClampNeg p1), (upd S.2.1 S.2.2.2.toNatClampNeg p2), (upd S.2.2.1 S.2.2.2.toNatClampNeg (vp_nar .boolean p3)), (S.2.2.2 + (1 : Int32)))] rfl dX4_add_48 (fun H locs hW => ?_)
    refine lv_iconst (v := (1 : Int32)) hx hb dX4_add_51 (by decide) ?_
    obtain rfl := Option.some.inj hM
    exact g_reti X hW rfl rfl dX4_add_52
  · have hM := (if_neg hc).symm.trans hM
    refine lv_iconst (v := (0 : Int32)) hx hb dX4_add_9 (by decide) ?_
    obtain rfl := Option.some.inj hM
    exact g_reti X hW rfl rfl dX4_add_10

def MX4_empty (N : Nat) : Option (Int32) :=
  some ((0 : Int32))
set_option maxHeartbeats 4000000 in
set_option maxRecDepth 100000 in
theorem c_X4_empty (l : Launch) (G : va_G) (cI cZ cL : ClassId) (N : Nat) (aS : Nat → Nat) (S : SeenV) (rr : Int32) (hM : MX4_empty N = some rr) : CtV l yX4_empty cX4_empty 1 0 0 G cI cZ cL [.ref (aS 0)] [wSeen cI cZ aS S] [wSeen cI cZ aS (S.1, S.2.1, S.2.2.1, rr)] := by
  refine ct_body (fun A => qV G [wSeen cI cZ aS (S.1, S.2.1, S.2.2.1, rr)] A) (by decide) (Nat.le_of_ble_eq_true rfl) (fun p e s m below meth c A ls X hW hl => ?_)
  have hx := X.1
  have hb := X.2.1
  have hts := X.2.2.2.2.2.1
  have hown := X.2.2.2.2.2.2.1
  have hl : lv_has ls 1 [(0, .ref (aS 0))] := hl
  unfold MX4_empty at hM
  refine lv_aload_n hx hb dX4_empty_0 rfl (lv_at hl 0 rfl) ?_
  refine lv_iconst (v := (0 : Int32)) hx hb dX4_empty_1 (by decide) ?_
  refine g_put X hW 0 rfl rfl inX4 tyX4 tyX4_ok nmX4 3 (by decide) q_224 rfl rfl (Nat.le_of_ble_eq_true rfl) [wSeen cI cZ aS (S.1, S.2.1, S.2.2.1, (0 : Int32))] rfl dX4_empty_2 (fun H locs hW => ?_)
  obtain rfl := Option.some.inj hM
  exact g_retv X hW dX4_empty_5

def MX4_latest_j29 (x1_29 : Int32) : Option (Int32) :=
  some (x1_29)
def MX4_latest_l4 (S : SeenV) : Nat → Int32 → Int32 → Option (Int32)
  | 0, _, _ => none
  | n4 + 1, x1_4, x2_4 =>
    if S.2.2.2 ≤ x2_4 then (MX4_latest_j29 x1_4) else MG x2_4 6 (MLet (if x1_4 < (S.2.1 x2_4.toNatClampNeg) then (S.2.1 x2_4.toNatClampNeg) else x1_4) (fun z22 => (MX4_latest_l4 S n4) z22 (x2_4 + (1 : Int32))))
def MX4_latest (N : Nat) (S : SeenV) : Option (Int32) :=
  MX4_latest_l4 S N (0 : Int32) (0 : Int32)
set_option maxHeartbeats 4000000 in
set_option maxRecDepth 100000 in
theorem c_X4_latest (l : Launch) (G : va_G) (cI cZ cL : ClassId) (N : Nat) (aS : Nat → Nat) (S : SeenV) (rr : Int32) (hM : MX4_latest N S = some rr) : CtI l yX4_latest cX4_latest 3 .int 1 13 G cI cZ cL [.ref (aS 0)] [wSeen cI cZ aS S] rr [wSeen cI cZ aS S] := by
  refine ct_body (fun A => qI G rr [wSeen cI cZ aS S] A) (by decide) (Nat.le_of_ble_eq_true rfl) (fun p e s m below meth c A ls X hW hl => ?_)
  have hx := X.1
  have hb := X.2.1
  have hts := X.2.2.2.2.2.1
  have hown := X.2.2.2.2.2.2.1
  have hl : lv_has ls 3 [(0, .ref (aS 0))] := hl
  unfold MX4_latest at hM
  refine lv_iconst (v := (0 : Int32)) hx hb dX4_latest_0 (by decide) ?_
  refine lv_istore_n (lv' := [(1, .int (0 : Int32)), (0, .ref (aS 0))]) hx hb dX4_latest_1 rfl hl (by decide) rfl (fun ls hl => ?_)
  refine lv_iconst (v := (0 : Int32)) hx hb dX4_latest_2 (by decide) ?_
  refine lv_istore_n (lv' := [(2, .int (0 : Int32)), (1, .int (0 : Int32)), (0, .ref (aS 0))]) hx hb dX4_latest_3 rfl hl (by decide) rfl (fun ls hl => ?_)
  have j29 : ∀ (x1_29 : Int32) (H : Heap) (locs : List Loc) (ls : Array Slot), Wd G A s [wSeen cI cZ aS S] H locs → lv_has ls 3 [(1, .int x1_29)] → MX4_latest_j29 x1_29 = some rr → W p l e (rmO 1 13) s m ([.ref (aS 0)] : List Value).toArray below meth c H locs 0 0 (MQ below (qI G rr [wSeen cI cZ aS S] A) ([.ref (aS 0)] : List Value).toArray s 0 0 A) (F0 m 29 ls []) := by
    intro x1_29 H locs ls hW hl hM
    unfold MX4_latest_j29 at hM
    refine lv_iload_n hx hb dX4_latest_29 rfl (lv_at hl 0 rfl) ?_
    obtain rfl := Option.some.inj hM
    exact g_reti X hW rfl rfl dX4_latest_30
  have lp4 : ∀ (n4 : Nat) (x1_4 : Int32) (x2_4 : Int32) (H : Heap) (locs : List Loc) (ls : Array Slot), Wd G A s [wSeen cI cZ aS S] H locs → lv_has ls 3 [(0, .ref (aS 0)), (1, .int x1_4), (2, .int x2_4)] → MX4_latest_l4 S n4 x1_4 x2_4 = some rr → W p l e (rmO 1 13) s m ([.ref (aS 0)] : List Value).toArray below meth c H locs 0 0 (MQ below (qI G rr [wSeen cI cZ aS S] A) ([.ref (aS 0)] : List Value).toArray s 0 0 A) (F0 m 4 ls []) := by
    intro n4
    induction n4 with
    | zero =>
      intro x1_4 x2_4 H locs ls hW hl hM
      rw [MX4_latest_l4] at hM
      cases hM
    | succ n4 ih4 =>
      intro x1_4 x2_4 H locs ls hW hl hM
      rw [MX4_latest_l4] at hM
      refine lv_iload_n hx hb dX4_latest_4 rfl (lv_at hl 2 rfl) ?_
      refine lv_aload_n hx hb dX4_latest_5 rfl (lv_at hl 0 rfl) ?_
      refine g_get X hW 0 rfl rfl inX4 3 (by decide) q_224 rfl dX4_latest_6 ?_
      refine lv_icmp_ge (tgt := 29) hx hb dX4_latest_9 (by decide) (fun hc => ?_) (fun hc => ?_)
      · have hM := (if_pos hc).symm.trans hM
        exact j29 x1_4 _ _ _ hW (lv_sub hl [1] rfl) hM
      · have hM := (if_neg hc).symm.trans hM
        refine lv_iload_n hx hb dX4_latest_12 rfl (lv_at hl 1 rfl) ?_
        refine lv_aload_n hx hb dX4_latest_13 rfl (lv_at hl 0 rfl) ?_
        refine g_get X hW 0 rfl rfl inX4 1 (by decide) q_222 rfl dX4_latest_14 ?_
        refine lv_iload_n hx hb dX4_latest_17 rfl (lv_at hl 2 rfl) ?_
        obtain ⟨hi18, hM⟩ := MG_some hM
        refine g_ald X hW 2 rfl hi18 dX4_latest_18 ?_
        refine g_max X hl.1 q_728 q_540 q_68 q_541 (Nat.le_of_ble_eq_true rfl) (Nat.le_of_ble_eq_true rfl) (Nat.zero_le _) (Nat.zero_le _) dX4_latest_19 ?_
        refine lv_topi (fun z22 ez22 => ?_)
        have hM := MLet_some hM z22 ez22
        refine lv_istore_n (lv' := [(1, .int z22), (0, .ref (aS 0)), (2, .int x2_4)]) hx hb dX4_latest_22 rfl hl (by decide) rfl (fun ls hl => ?_)
        refine lv_iinc (v := x2_4 + (1 : Int32)) (lv' := [(2, .int (x2_4 + (1 : Int32))), (1, .int z22), (0, .ref (aS 0))]) hx hb dX4_latest_23 hl (k := 2) rfl rfl (by decide) rfl (fun ls hl => ?_)
        refine lv_goto (tgt := 4) hx hb dX4_latest_26 (by decide) ?_
        exact ih4 z22 (x2_4 + (1 : Int32)) _ _ _ hW (lv_sub hl [2, 1, 0] rfl) hM
  exact lp4 N (0 : Int32) (0 : Int32) _ _ _ hW (lv_sub hl [2, 1, 0] rfl) hM

def MX4_holdsFor_j96 (S : SeenV) (yL0_41 : (Nat → Int32)) (yL1_41 : (Nat → Int32)) (yL2_41 : (Nat → Int32)) (yL3_41 : (Nat → Int32)) (yL4_41 : (Nat → Int32)) (yL5_41 : Int32) (yL6_41 : Int32) (yL7_41 : Int32) (yL8_41 : Int32) (x5_44 : Int32) (rc44 : (Int32 → Option (Int32 × (Nat → Int32) × (Nat → Int32) × (Nat → Int32) × (Nat → Int32) × (Nat → Int32) × Int32 × Int32 × Int32 × Int32))) (t0_96 : Int32) : Option (Int32 × (Nat → Int32) × (Nat → Int32) × (Nat → Int32) × (Nat → Int32) × (Nat → Int32) × Int32 × Int32 × Int32 × Int32) :=
  MG x5_44 6 (if t0_96 = (S.2.2.1 x5_44.toNatClampNeg) then rc44 (x5_44 + (1 : Int32)) else some ((0 : Int32), yL0_41, yL1_41, yL2_41, yL3_41, yL4_41, yL5_41, yL6_41, yL7_41, yL8_41))
def MX4_holdsFor_j95 (S : SeenV) (yL0_41 : (Nat → Int32)) (yL1_41 : (Nat → Int32)) (yL2_41 : (Nat → Int32)) (yL3_41 : (Nat → Int32)) (yL4_41 : (Nat → Int32)) (yL5_41 : Int32) (yL6_41 : Int32) (yL7_41 : Int32) (yL8_41 : Int32) (x5_44 : Int32) (rc44 : (Int32 → Option (Int32 × (Nat → Int32) × (Nat → Int32) × (Nat → Int32) × (Nat → Int32) × (Nat → Int32) × Int32 × Int32 × Int32 × Int32))) : Option (Int32 × (Nat → Int32) × (Nat → Int32) × (Nat → Int32) × (Nat → Int32) × (Nat → Int32) × Int32 × Int32 × Int32 × Int32) :=
  MX4_holdsFor_j96 S yL0_41 yL1_41 yL2_41 yL3_41 yL4_41 yL5_41 yL6_41 yL7_41 yL8_41 x5_44 rc44 (0 : Int32)
def MX4_holdsFor_l44 (N : Nat) (S : SeenV) (L : LineV) (yL0_41 : (Nat → Int32)) (yL1_41 : (Nat → Int32)) (yL2_41 : (Nat → Int32)) (yL3_41 : (Nat → Int32)) (yL4_41 : (Nat → Int32)) (yL5_41 : Int32) (yL6_41 : Int32) (yL7_41 : Int32) (yL8_41 : Int32) : Nat → Int32 → Option (Int32 × (Nat → Int32) × (Nat → Int32) × (Nat → Int32) × (Nat → Int32) × (Nat → Int32) × Int32 × Int32 × Int32 × Int32)
  | 0, _ => none
  | n44 + 1, x5_44 =>
    if S.2.2.2 ≤ x5_44 then some ((1 : Int32), yL0_41, yL1_41, yL2_41, yL3_41, yL4_41, yL5_41, yL6_41, yL7_41, yL8_41) else MG x5_44 6 ((MX1_whereIs N (yL0_41, yL1_41, yL2_41, yL3_41, yL4_41, yL5_41, yL6_41, yL7_41, yL8_41) (S.1 x5_44.toNatClampNeg)).bind (fun u61 => if u61 = (3 : Int32) then MG x5_44 6 ((MX1_ateInOf N (yL0_41, yL1_41, yL2_41, yL3_41, yL4_41, yL5_41, yL6_41, yL7_41, yL8_41) (S.1 x5_44.toNatClampNeg)).bind (fun u76 => MG x5_44 6 (if (L.2.2.2.2.2.2.1 + (S.2.1 x5_44.toNatClampNeg)) ≤ u76 then MX4_holdsFor_j95 S yL0_41 yL1_41 yL2_41 yL3_41 yL4_41 yL5_41 yL6_41 yL7_41 yL8_41 x5_44 (MX4_holdsFor_l44 N S L yL0_41 yL1_41 yL2_41 yL3_41 yL4_41 yL5_41 yL6_41 yL7_41 yL8_41 n44) else (MX4_holdsFor_j96 S yL0_41 yL1_41 yL2_41 yL3_41 yL4_41 yL5_41 yL6_41 yL7_41 yL8_41 x5_44 (MX4_holdsFor_l44 N S L yL0_41 yL1_41 yL2_41 yL3_41 yL4_41 yL5_41 yL6_41 yL7_41 yL8_41 n44) (1 : Int32))))) else MX4_holdsFor_j95 S yL0_41 yL1_41 yL2_41 yL3_41 yL4_41 yL5_41 yL6_41 yL7_41 yL8_41 x5_44 (MX4_holdsFor_l44 N S L yL0_41 yL1_41 yL2_41 yL3_41 yL4_41 yL5_41 yL6_41 yL7_41 yL8_41 n44)))
def MX4_holdsFor_j41 (N : Nat) (S : SeenV) (L : LineV) (yL0_41 : (Nat → Int32)) (yL1_41 : (Nat → Int32)) (yL2_41 : (Nat → Int32)) (yL3_41 : (Nat → Int32)) (yL4_41 : (Nat → Int32)) (yL5_41 : Int32) (yL6_41 : Int32) (yL7_41 : Int32) (yL8_41 : Int32) : Option (Int32 × (Nat → Int32) × (Nat → Int32) × (Nat → Int32) × (Nat → Int32) × (Nat → Int32) × Int32 × Int32 × Int32 × Int32) :=
  MX4_holdsFor_l44 N S L yL0_41 yL1_41 yL2_41 yL3_41 yL4_41 yL5_41 yL6_41 yL7_41 yL8_41 N (0 : Int32)
def MX4_holdsFor_l14 (N : Nat) (S : SeenV) (P : PlanV) (L : LineV) (u6 : Int32) : Nat → Int32 → (Nat → Int32) → (Nat → Int32) → (Nat → Int32) → (Nat → Int32) → (Nat → Int32) → Int32 → Int32 → Int32 → Int32 → Option (Int32 × (Nat → Int32) × (Nat → Int32) × (Nat → Int32) × (Nat → Int32) × (Nat → Int32) × Int32 × Int32 × Int32 × Int32)
  | 0, _, _, _, _, _, _, _, _, _, _ => none
  | n14 + 1, x5_14, yL0_14, yL1_14, yL2_14, yL3_14, yL4_14, yL5_14, yL6_14, yL7_14, yL8_14 =>
    if u6 ≤ x5_14 then (MX4_holdsFor_j41 N S L yL0_14 yL1_14 yL2_14 yL3_14 yL4_14 yL5_14 yL6_14 yL7_14 yL8_14) else ((MX3_rumourIn N P yL6_14).bind (fun u28 => (MX1_goOn N (yL0_14, yL1_14, yL2_14, yL3_14, yL4_14, yL5_14, yL6_14, yL7_14, yL8_14) P u28 (0 : Int32)).bind (fun u32 => (MX4_holdsFor_l14 N S P L u6 n14) (x5_14 + (1 : Int32)) u32.1 u32.2.1 u32.2.2.1 u32.2.2.2.1 u32.2.2.2.2.1 u32.2.2.2.2.2.1 u32.2.2.2.2.2.2.1 u32.2.2.2.2.2.2.2.1 u32.2.2.2.2.2.2.2.2)))
def MX4_holdsFor (N : Nat) (S : SeenV) (P : PlanV) (L : LineV) : Option (Int32 × (Nat → Int32) × (Nat → Int32) × (Nat → Int32) × (Nat → Int32) × (Nat → Int32) × Int32 × Int32 × Int32 × Int32) :=
  (MX4_latest N S).bind (fun u6 => MX4_holdsFor_l14 N S P L u6 N (0 : Int32) L.1 L.2.1 L.2.2.1 L.2.2.2.1 L.2.2.2.2.1 L.2.2.2.2.2.1 L.2.2.2.2.2.2.1 L.2.2.2.2.2.2.2.1 L.2.2.2.2.2.2.2.2)
set_option maxHeartbeats 4000000 in
set_option maxRecDepth 100000 in
theorem c_X4_holdsFor (l : Launch) (G : va_G) (cI cZ cL : ClassId) (N : Nat) (aS : Nat → Nat) (aP : Nat → Nat) (aL : Nat → Nat) (S : SeenV) (P : PlanV) (L : LineV) (rr : Int32 × (Nat → Int32) × (Nat → Int32) × (Nat → Int32) × (Nat → Int32) × (Nat → Int32) × Int32 × Int32 × Int32 × Int32) (hM : MX4_holdsFor N S P L = some rr) : CtI l yX4_holdsFor cX4_holdsFor 7 .boolean 4 92 G cI cZ cL [.ref (aS 0), .ref (aP 0), .ref (aL 0)] [wSeen cI cZ aS S, wPlan cI aP P, wLine cI aL L] rr.1 [wSeen cI cZ aS S, wPlan cI aP P, wLine cI aL (rr.2.1, rr.2.2.1, rr.2.2.2.1, rr.2.2.2.2.1, rr.2.2.2.2.2.1, rr.2.2.2.2.2.2.1, rr.2.2.2.2.2.2.2.1, rr.2.2.2.2.2.2.2.2.1, rr.2.2.2.2.2.2.2.2.2)] := by
  refine ct_body (fun A => qI G rr.1 [wSeen cI cZ aS S, wPlan cI aP P, wLine cI aL (rr.2.1, rr.2.2.1, rr.2.2.2.1, rr.2.2.2.2.1, rr.2.2.2.2.2.1, rr.2.2.2.2.2.2.1, rr.2.2.2.2.2.2.2.1, rr.2.2.2.2.2.2.2.2.1, rr.2.2.2.2.2.2.2.2.2)] A) (by decide) (Nat.le_of_ble_eq_true rfl) (fun p e s m below meth c A ls X hW hl => ?_)
  have hx := X.1
  have hb := X.2.1
  have hts := X.2.2.2.2.2.1
  have hown := X.2.2.2.2.2.2.1
  have hl : lv_has ls 7 [(0, .ref (aS 0)), (1, .ref (aP 0)), (2, .ref (aL 0))] := hl
  unfold MX4_holdsFor at hM
  refine lv_aload_n hx hb dX4_holdsFor_0 rfl (lv_at hl 2 rfl) ?_
  refine g_getN X hW 8 rfl rfl inX1 6 (by decide) nt_14 rfl dX4_holdsFor_1 ?_
  refine lv_istore_n (lv' := [(3, .int L.2.2.2.2.2.2.1), (0, .ref (aS 0)), (1, .ref (aP 0)), (2, .ref (aL 0))]) hx hb dX4_holdsFor_4 rfl hl (by decide) rfl (fun ls hl => ?_)
  refine lv_aload_n hx hb dX4_holdsFor_5 rfl (lv_at hl 1 rfl) ?_
  obtain ⟨u6, hu6, hM⟩ := bind_some hM
  refine g_callVi (rest := []) (gr := [wPlan cI aP P, wLine cI aL L]) X hl.1 hW (c_X4_latest l G cI cZ cL N aS S u6 hu6) q_727 q_724 q_726 q_16 q_60 hd_X4_latest rfl ⟨Nat.le_of_ble_eq_true rfl, Nat.le_of_ble_eq_true rfl⟩ ⟨Nat.zero_le _, Nat.zero_le _⟩ [0] [1, 2] [wSeen cI cZ aS S, wPlan cI aP P, wLine cI aL L] ⟨pm_3_0, rfl, rfl, rfl⟩ ⟨pm_3_0, rfl, rfl, rfl⟩ (q0 := 0) rfl rfl rfl (Nat.le_of_ble_eq_true rfl) dX4_holdsFor_6 (fun H locs hW => ?_)
  refine lv_istore (lv' := [(4, .int u6), (3, .int L.2.2.2.2.2.2.1), (0, .ref (aS 0)), (1, .ref (aP 0)), (2, .ref (aL 0))]) hx hb dX4_holdsFor_9 hl (by decide) rfl (fun ls hl => ?_)
  refine lv_iconst (v := (0 : Int32)) hx hb dX4_holdsFor_11 (by decide) ?_
  refine lv_istore (lv' := [(5, .int (0 : Int32)), (4, .int u6), (3, .int L.2.2.2.2.2.2.1), (0, .ref (aS 0)), (1, .ref (aP 0)), (2, .ref (aL 0))]) hx hb dX4_holdsFor_12 hl (by decide) rfl (fun ls hl => ?_)
  have j41 : ∀ (yL0_41 : (Nat → Int32)) (yL1_41 : (Nat → Int32)) (yL2_41 : (Nat → Int32)) (yL3_41 : (Nat → Int32)) (yL4_41 : (Nat → Int32)) (yL5_41 : Int32) (yL6_41 : Int32) (yL7_41 : Int32) (yL8_41 : Int32) (H : Heap) (locs : List Loc) (ls : Array Slot), Wd G A s [wSeen cI cZ aS S, wPlan cI aP P, wLine cI aL (yL0_41, yL1_41, yL2_41, yL3_41, yL4_41, yL5_41, yL6_41, yL7_41, yL8_41)] H locs → lv_has ls 7 [(0, .ref (aS 0)), (2, .ref (aL 0)), (3, .int L.2.2.2.2.2.2.1)] → MX4_holdsFor_j41 N S L yL0_41 yL1_41 yL2_41 yL3_41 yL4_41 yL5_41 yL6_41 yL7_41 yL8_41 = some rr → W p l e (rmO 4 92) s m ([.ref (aS 0), .ref (aP 0), .ref (aL 0)] : List Value).toArray below meth c H locs 0 0 (MQ below (qI G rr.1 [wSeen cI cZ aS S, wPlan cI aP P, wLine cI aL (rr.2.1, rr.2.2.1, rr.2.2.2.1, rr.2.2.2.2.1, rr.2.2.2.2.2.1, rr.2.2.2.2.2.2.1, rr.2.2.2.2.2.2.2.1, rr.2.2.2.2.2.2.2.2.1, rr.2.2.2.2.2.2.2.2.2)] A) ([.ref (aS 0), .ref (aP 0), .ref (aL 0)] : List Value).toArray s 0 0 A) (F0 m 41 ls []) := by
    intro yL0_41 yL1_41 yL2_41 yL3_41 yL4_41 yL5_41 yL6_41 yL7_41 yL8_41 H locs ls hW hl hM
    unfold MX4_holdsFor_j41 at hM
    refine lv_iconst (v := (0 : Int32)) hx hb dX4_holdsFor_41 (by decide) ?_
    refine lv_istore (lv' := [(5, .int (0 : Int32)), (0, .ref (aS 0)), (2, .ref (aL 0)), (3, .int L.2.2.2.2.2.2.1)]) hx hb dX4_holdsFor_42 hl (by decide) rfl (fun ls hl => ?_)
    have lp44 : ∀ (n44 : Nat) (x5_44 : Int32) (H : Heap) (locs : List Loc) (ls : Array Slot), Wd G A s [wSeen cI cZ aS S, wPlan cI aP P, wLine cI aL (yL0_41, yL1_41, yL2_41, yL3_41, yL4_41, yL5_41, yL6_41, yL7_41, yL8_41)] H locs → lv_has ls 7 [(0, .ref (aS 0)), (2, .ref (aL 0)), (3, .int L.2.2.2.2.2.2.1), (5, .int x5_44)] → MX4_holdsFor_l44 N S L yL0_41 yL1_41 yL2_41 yL3_41 yL4_41 yL5_41 yL6_41 yL7_41 yL8_41 n44 x5_44 = some rr → W p l e (rmO 4 92) s m ([.ref (aS 0), .ref (aP 0), .ref (aL 0)] : List Value).toArray below meth c H locs 0 0 (MQ below (qI G rr.1 [wSeen cI cZ aS S, wPlan cI aP P, wLine cI aL (rr.2.1, rr.2.2.1, rr.2.2.2.1, rr.2.2.2.2.1, rr.2.2.2.2.2.1, rr.2.2.2.2.2.2.1, rr.2.2.2.2.2.2.2.1, rr.2.2.2.2.2.2.2.2.1, rr.2.2.2.2.2.2.2.2.2)] A) ([.ref (aS 0), .ref (aP 0), .ref (aL 0)] : List Value).toArray s 0 0 A) (F0 m 44 ls []) := by
      intro n44
      induction n44 with
      | zero =>
        intro x5_44 H locs ls hW hl hM
        rw [MX4_holdsFor_l44] at hM
        cases hM
      | succ n44 ih44 =>
        intro x5_44 H locs ls hW hl hM
        rw [MX4_holdsFor_l44] at hM
        refine lv_iload hx hb dX4_holdsFor_44 (lv_at hl 3 rfl) ?_
        refine lv_aload_n hx hb dX4_holdsFor_46 rfl (lv_at hl 0 rfl) ?_
        refine g_get X hW 0 rfl rfl inX4 3 (by decide) q_224 rfl dX4_holdsFor_47 ?_
        refine lv_icmp_ge (tgt := 118) hx hb dX4_holdsFor_50 (by decide) (fun hc => ?_) (fun hc => ?_)
        · have hM := (if_pos hc).symm.trans hM
          refine lv_iconst (v := (1 : Int32)) hx hb dX4_holdsFor_118 (by decide) ?_
          obtain rfl := Option.some.inj hM
          exact g_reti X hW rfl rfl dX4_holdsFor_119
        · have hM := (if_neg hc).symm.trans hM
          refine lv_aload_n hx hb dX4_holdsFor_53 rfl (lv_at hl 1 rfl) ?_
          refine lv_aload_n hx hb dX4_holdsFor_54 rfl (lv_at hl 0 rfl) ?_
          refine g_get X hW 0 rfl rfl inX4 0 (by decide) q_221 rfl dX4_holdsFor_55 ?_
          refine lv_iload hx hb dX4_holdsFor_58 (lv_at hl 3 rfl) ?_
          obtain ⟨hi60, hM⟩ := MG_some hM
          refine g_ald X hW 1 rfl hi60 dX4_holdsFor_60 ?_
          obtain ⟨u61, hu61, hM⟩ := bind_some hM
          refine g_callVi (rest := []) (gr := [wSeen cI cZ aS S, wPlan cI aP P]) X hl.1 hW (c_X1_whereIs l G cI cZ cL N aL (yL0_41, yL1_41, yL2_41, yL3_41, yL4_41, yL5_41, yL6_41, yL7_41, yL8_41) (S.1 x5_44.toNatClampNeg) u61 hu61) q_447 q_731 q_445 q_446 q_58 hd_X1_whereIs rfl ⟨Nat.le_of_ble_eq_true rfl, Nat.le_of_ble_eq_true rfl⟩ ⟨Nat.zero_le _, Nat.zero_le _⟩ [2] [0, 1] [wSeen cI cZ aS S, wPlan cI aP P, wLine cI aL (yL0_41, yL1_41, yL2_41, yL3_41, yL4_41, yL5_41, yL6_41, yL7_41, yL8_41)] ⟨pm_3_2, rfl, rfl, rfl⟩ ⟨pm_3_2, rfl, rfl, rfl⟩ (q0 := 8) rfl rfl rfl (Nat.le_of_ble_eq_true rfl) dX4_holdsFor_61 (fun H locs hW => ?_)
          refine lv_iconst (v := (3 : Int32)) hx hb dX4_holdsFor_64 (by decide) ?_
          have j96 : ∀ (t0_96 : Int32) (H : Heap) (locs : List Loc) (ls : Array Slot), Wd G A s [wSeen cI cZ aS S, wPlan cI aP P, wLine cI aL (yL0_41, yL1_41, yL2_41, yL3_41, yL4_41, yL5_41, yL6_41, yL7_41, yL8_41)] H locs → lv_has ls 7 [(0, .ref (aS 0)), (2, .ref (aL 0)), (3, .int L.2.2.2.2.2.2.1), (5, .int x5_44)] → MX4_holdsFor_j96 S yL0_41 yL1_41 yL2_41 yL3_41 yL4_41 yL5_41 yL6_41 yL7_41 yL8_41 x5_44 (MX4_holdsFor_l44 N S L yL0_41 yL1_41 yL2_41 yL3_41 yL4_41 yL5_41 yL6_41 yL7_41 yL8_41 n44) t0_96 = some rr → W p l e (rmO 4 92) s m ([.ref (aS 0), .ref (aP 0), .ref (aL 0)] : List Value).toArray below meth c H locs 0 0 (MQ below (qI G rr.1 [wSeen cI cZ aS S, wPlan cI aP P, wLine cI aL (rr.2.1, rr.2.2.1, rr.2.2.2.1, rr.2.2.2.2.1, rr.2.2.2.2.2.1, rr.2.2.2.2.2.2.1, rr.2.2.2.2.2.2.2.1, rr.2.2.2.2.2.2.2.2.1, rr.2.2.2.2.2.2.2.2.2)] A) ([.ref (aS 0), .ref (aP 0), .ref (aL 0)] : List Value).toArray s 0 0 A) (F0 m 96 ls [.int t0_96]) := by
            intro t0_96 H locs ls hW hl hM
            unfold MX4_holdsFor_j96 at hM
            refine lv_istore (lv' := [(6, .int t0_96), (0, .ref (aS 0)), (2, .ref (aL 0)), (3, .int L.2.2.2.2.2.2.1), (5, .int x5_44)]) hx hb dX4_holdsFor_96 hl (by decide) rfl (fun ls hl => ?_)
            refine lv_iload hx hb dX4_holdsFor_98 (lv_at hl 0 rfl) ?_
            refine lv_aload_n hx hb dX4_holdsFor_100 rfl (lv_at hl 1 rfl) ?_
            refine g_get X hW 0 rfl rfl inX4 2 (by decide) q_223 rfl dX4_holdsFor_101 ?_
            refine lv_iload hx hb dX4_holdsFor_104 (lv_at hl 4 rfl) ?_
            obtain ⟨hi106, hM⟩ := MG_some hM
            refine g_zald X hW 3 rfl hi106 dX4_holdsFor_106 ?_
            refine lv_icmp_eq (tgt := 112) hx hb dX4_holdsFor_107 (by decide) (fun hc => ?_) (fun hc => ?_)
            · have hM := (if_pos hc).symm.trans hM
              refine lv_iinc (v := x5_44 + (1 : Int32)) (lv' := [(5, .int (x5_44 + (1 : Int32))), (6, .int t0_96), (0, .ref (aS 0)), (2, .ref (aL 0)), (3, .int L.2.2.2.2.2.2.1)]) hx hb dX4_holdsFor_112 hl (k := 4) rfl rfl (by decide) rfl (fun ls hl => ?_)
              refine lv_goto (tgt := 44) hx hb dX4_holdsFor_115 (by decide) ?_
              exact ih44 (x5_44 + (1 : Int32)) _ _ _ hW (lv_sub hl [2, 3, 4, 0] rfl) hM
            · have hM := (if_neg hc).symm.trans hM
              refine lv_iconst (v := (0 : Int32)) hx hb dX4_holdsFor_110 (by decide) ?_
              obtain rfl := Option.some.inj hM
              exact g_reti X hW rfl rfl dX4_holdsFor_111
          have j95 : ∀ (H : Heap) (locs : List Loc) (ls : Array Slot), Wd G A s [wSeen cI cZ aS S, wPlan cI aP P, wLine cI aL (yL0_41, yL1_41, yL2_41, yL3_41, yL4_41, yL5_41, yL6_41, yL7_41, yL8_41)] H locs → lv_has ls 7 [(0, .ref (aS 0)), (2, .ref (aL 0)), (3, .int L.2.2.2.2.2.2.1), (5, .int x5_44)] → MX4_holdsFor_j95 S yL0_41 yL1_41 yL2_41 yL3_41 yL4_41 yL5_41 yL6_41 yL7_41 yL8_41 x5_44 (MX4_holdsFor_l44 N S L yL0_41 yL1_41 yL2_41 yL3_41 yL4_41 yL5_41 yL6_41 yL7_41 yL8_41 n44) = some rr → W p l e (rmO 4 92) s m ([.ref (aS 0), .ref (aP 0), .ref (aL 0)] : List Value).toArray below meth c H locs 0 0 (MQ below (qI G rr.1 [wSeen cI cZ aS S, wPlan cI aP P, wLine cI aL (rr.2.1, rr.2.2.1, rr.2.2.2.1, rr.2.2.2.2.1, rr.2.2.2.2.2.1, rr.2.2.2.2.2.2.1, rr.2.2.2.2.2.2.2.1, rr.2.2.2.2.2.2.2.2.1, rr.2.2.2.2.2.2.2.2.2)] A) ([.ref (aS 0), .ref (aP 0), .ref (aL 0)] : List Value).toArray s 0 0 A) (F0 m 95 ls []) := by
            intro H locs ls hW hl hM
            unfold MX4_holdsFor_j95 at hM
            refine lv_iconst (v := (0 : Int32)) hx hb dX4_holdsFor_95 (by decide) ?_
            exact j96 (0 : Int32) _ _ _ hW (lv_sub hl [0, 1, 2, 3] rfl) hM
          refine lv_icmp_ne (tgt := 95) hx hb dX4_holdsFor_65 (by decide) (fun hc => ?_) (fun hc => ?_)
          · have hM := (if_neg hc).symm.trans hM
            exact j95 _ _ _ hW (lv_sub hl [0, 1, 2, 3] rfl) hM
          · have hM := (if_pos hc).symm.trans hM
            refine lv_aload_n hx hb dX4_holdsFor_68 rfl (lv_at hl 1 rfl) ?_
            refine lv_aload_n hx hb dX4_holdsFor_69 rfl (lv_at hl 0 rfl) ?_
            refine g_get X hW 0 rfl rfl inX4 0 (by decide) q_221 rfl dX4_holdsFor_70 ?_
            refine lv_iload hx hb dX4_holdsFor_73 (lv_at hl 3 rfl) ?_
            obtain ⟨hi75, hM⟩ := MG_some hM
            refine g_ald X hW 1 rfl hi75 dX4_holdsFor_75 ?_
            obtain ⟨u76, hu76, hM⟩ := bind_some hM
            refine g_callVi (rest := []) (gr := [wSeen cI cZ aS S, wPlan cI aP P]) X hl.1 hW (c_X1_ateInOf l G cI cZ cL N aL (yL0_41, yL1_41, yL2_41, yL3_41, yL4_41, yL5_41, yL6_41, yL7_41, yL8_41) (S.1 x5_44.toNatClampNeg) u76 hu76) q_459 q_732 q_457 q_458 q_58 hd_X1_ateInOf rfl ⟨Nat.le_of_ble_eq_true rfl, Nat.le_of_ble_eq_true rfl⟩ ⟨Nat.zero_le _, Nat.zero_le _⟩ [2] [0, 1] [wSeen cI cZ aS S, wPlan cI aP P, wLine cI aL (yL0_41, yL1_41, yL2_41, yL3_41, yL4_41, yL5_41, yL6_41, yL7_41, yL8_41)] ⟨pm_3_2, rfl, rfl, rfl⟩ ⟨pm_3_2, rfl, rfl, rfl⟩ (q0 := 8) rfl rfl rfl (Nat.le_of_ble_eq_true rfl) dX4_holdsFor_76 (fun H locs hW => ?_)
            refine lv_iload_n hx hb dX4_holdsFor_79 rfl (lv_at hl 2 rfl) ?_
            refine lv_aload_n hx hb dX4_holdsFor_80 rfl (lv_at hl 0 rfl) ?_
            refine g_get X hW 0 rfl rfl inX4 1 (by decide) q_222 rfl dX4_holdsFor_81 ?_
            refine lv_iload hx hb dX4_holdsFor_84 (lv_at hl 3 rfl) ?_
            obtain ⟨hi86, hM⟩ := MG_some hM
            refine g_ald X hW 2 rfl hi86 dX4_holdsFor_86 ?_
            refine lv_iadd hx hb dX4_holdsFor_87 ?_
            refine lv_icmp_ge (tgt := 95) hx hb dX4_holdsFor_88 (by decide) (fun hc => ?_) (fun hc => ?_)
            · have hM := (if_pos hc).symm.trans hM
              exact j95 _ _ _ hW (lv_sub hl [0, 1, 2, 3] rfl) hM
            · have hM := (if_neg hc).symm.trans hM
              refine lv_iconst (v := (1 : Int32)) hx hb dX4_holdsFor_91 (by decide) ?_
              refine lv_goto (tgt := 96) hx hb dX4_holdsFor_92 (by decide) ?_
              exact j96 (1 : Int32) _ _ _ hW (lv_sub hl [0, 1, 2, 3] rfl) hM
    exact lp44 N (0 : Int32) _ _ _ hW (lv_sub hl [1, 2, 3, 0] rfl) hM
  have lp14 : ∀ (n14 : Nat) (x5_14 : Int32) (yL0_14 : (Nat → Int32)) (yL1_14 : (Nat → Int32)) (yL2_14 : (Nat → Int32)) (yL3_14 : (Nat → Int32)) (yL4_14 : (Nat → Int32)) (yL5_14 : Int32) (yL6_14 : Int32) (yL7_14 : Int32) (yL8_14 : Int32) (H : Heap) (locs : List Loc) (ls : Array Slot), Wd G A s [wSeen cI cZ aS S, wPlan cI aP P, wLine cI aL (yL0_14, yL1_14, yL2_14, yL3_14, yL4_14, yL5_14, yL6_14, yL7_14, yL8_14)] H locs → lv_has ls 7 [(0, .ref (aS 0)), (1, .ref (aP 0)), (2, .ref (aL 0)), (3, .int L.2.2.2.2.2.2.1), (4, .int u6), (5, .int x5_14)] → MX4_holdsFor_l14 N S P L u6 n14 x5_14 yL0_14 yL1_14 yL2_14 yL3_14 yL4_14 yL5_14 yL6_14 yL7_14 yL8_14 = some rr → W p l e (rmO 4 92) s m ([.ref (aS 0), .ref (aP 0), .ref (aL 0)] : List Value).toArray below meth c H locs 0 0 (MQ below (qI G rr.1 [wSeen cI cZ aS S, wPlan cI aP P, wLine cI aL (rr.2.1, rr.2.2.1, rr.2.2.2.1, rr.2.2.2.2.1, rr.2.2.2.2.2.1, rr.2.2.2.2.2.2.1, rr.2.2.2.2.2.2.2.1, rr.2.2.2.2.2.2.2.2.1, rr.2.2.2.2.2.2.2.2.2)] A) ([.ref (aS 0), .ref (aP 0), .ref (aL 0)] : List Value).toArray s 0 0 A) (F0 m 14 ls []) := by
    intro n14
    induction n14 with
    | zero =>
      intro x5_14 yL0_14 yL1_14 yL2_14 yL3_14 yL4_14 yL5_14 yL6_14 yL7_14 yL8_14 H locs ls hW hl hM
      rw [MX4_holdsFor_l14] at hM
      cases hM
    | succ n14 ih14 =>
      intro x5_14 yL0_14 yL1_14 yL2_14 yL3_14 yL4_14 yL5_14 yL6_14 yL7_14 yL8_14 H locs ls hW hl hM
      rw [MX4_holdsFor_l14] at hM
      refine lv_iload hx hb dX4_holdsFor_14 (lv_at hl 5 rfl) ?_
      refine lv_iload hx hb dX4_holdsFor_16 (lv_at hl 4 rfl) ?_
      refine lv_icmp_ge (tgt := 41) hx hb dX4_holdsFor_18 (by decide) (fun hc => ?_) (fun hc => ?_)
      · have hM := (if_pos hc).symm.trans hM
        exact j41 yL0_14 yL1_14 yL2_14 yL3_14 yL4_14 yL5_14 yL6_14 yL7_14 yL8_14 _ _ _ hW (lv_sub hl [0, 2, 3] rfl) hM
      · have hM := (if_neg hc).symm.trans hM
        refine lv_aload_n hx hb dX4_holdsFor_21 rfl (lv_at hl 2 rfl) ?_
        refine lv_aload_n hx hb dX4_holdsFor_22 rfl (lv_at hl 1 rfl) ?_
        refine lv_aload_n hx hb dX4_holdsFor_23 rfl (lv_at hl 1 rfl) ?_
        refine lv_aload_n hx hb dX4_holdsFor_24 rfl (lv_at hl 2 rfl) ?_
        refine g_getN X hW 8 rfl rfl inX1 6 (by decide) nt_14 rfl dX4_holdsFor_25 ?_
        obtain ⟨u28, hu28, hM⟩ := bind_some hM
        refine g_callVi (rest := [.ref (aP 0), .ref (aL 0)]) (gr := [wSeen cI cZ aS S, wLine cI aL (yL0_14, yL1_14, yL2_14, yL3_14, yL4_14, yL5_14, yL6_14, yL7_14, yL8_14)]) X hl.1 hW (c_X3_rumourIn l G cI cZ cL N aP P yL6_14 u28 hu28) q_495 q_729 q_493 q_494 q_56 hd_X3_rumourIn rfl ⟨Nat.le_of_ble_eq_true rfl, Nat.le_of_ble_eq_true rfl⟩ ⟨Nat.zero_le _, Nat.zero_le _⟩ [1] [0, 2] [wSeen cI cZ aS S, wPlan cI aP P, wLine cI aL (yL0_14, yL1_14, yL2_14, yL3_14, yL4_14, yL5_14, yL6_14, yL7_14, yL8_14)] ⟨pm_3_1, rfl, rfl, rfl⟩ ⟨pm_3_1, rfl, rfl, rfl⟩ (q0 := 4) rfl rfl rfl (Nat.le_of_ble_eq_true rfl) dX4_holdsFor_28 (fun H locs hW => ?_)
        refine lv_iconst (v := (0 : Int32)) hx hb dX4_holdsFor_31 (by decide) ?_
        obtain ⟨u32, hu32, hM⟩ := bind_some hM
        refine g_callVv (rest := []) (gr := [wSeen cI cZ aS S]) X hl.1 hW (c_X1_goOn l G cI cZ cL N aL aP (yL0_14, yL1_14, yL2_14, yL3_14, yL4_14, yL5_14, yL6_14, yL7_14, yL8_14) P u28 (0 : Int32) u32 hu32) q_499 q_730 q_497 q_498 q_58 hd_X1_goOn rfl ⟨Nat.le_of_ble_eq_true rfl, Nat.le_of_ble_eq_true rfl⟩ ⟨Nat.zero_le _, Nat.zero_le _⟩ [2, 1] [0] [wSeen cI cZ aS S, wPlan cI aP P, wLine cI aL u32] ⟨pm_3_2_1, rfl, rfl, rfl⟩ ⟨pm_3_2_1, rfl, rfl, rfl⟩ (q0 := 8) rfl rfl rfl (Nat.le_of_ble_eq_true rfl) dX4_holdsFor_32 (fun H locs hW => ?_)
        refine lv_iinc (v := x5_14 + (1 : Int32)) (lv' := [(5, .int (x5_14 + (1 : Int32))), (0, .ref (aS 0)), (1, .ref (aP 0)), (2, .ref (aL 0)), (3, .int L.2.2.2.2.2.2.1), (4, .int u6)]) hx hb dX4_holdsFor_35 hl (k := 5) rfl rfl (by decide) rfl (fun ls hl => ?_)
        refine lv_goto (tgt := 14) hx hb dX4_holdsFor_38 (by decide) ?_
        exact ih14 (x5_14 + (1 : Int32)) u32.1 u32.2.1 u32.2.2.1 u32.2.2.2.1 u32.2.2.2.2.1 u32.2.2.2.2.2.1 u32.2.2.2.2.2.2.1 u32.2.2.2.2.2.2.2.1 u32.2.2.2.2.2.2.2.2 _ _ _ hW (lv_sub hl [1, 2, 3, 4, 5, 0] rfl) hM
  exact lp14 N (0 : Int32) L.1 L.2.1 L.2.2.1 L.2.2.2.1 L.2.2.2.2.1 L.2.2.2.2.2.1 L.2.2.2.2.2.2.1 L.2.2.2.2.2.2.2.1 L.2.2.2.2.2.2.2.2 _ _ _ hW (lv_sub hl [3, 4, 5, 2, 1, 0] rfl) hM
