def MX4_add (N : Nat) (S : SeenV) (p1 : Int32) (p2 : Int32) (p3 : Int32) : Option (Int32 × (Nat → Int32) × (Nat → Int32) × (Nat → Int32) × Int32) :=
  if S.2.2.2 < 0 then some ((0 : Int32), S.1, S.2.1, S.2.2.1, S.2.2.2) else (if S.2.2.2 < (6 : Int32) then MG S.2.2.2 6 (MG S.2.2.2 6 (MG S.2.2.2 6 (some ((1 : Int32), (upd S.1 S.2.2.2.toNatClampNeg p1), (upd S.2.1 S.2.2.2.toNatClampNeg p2), (upd S.2.2.1 S.2.2.2.toNatClampNeg (vp_nar .boolean p3)), (S.2.2.2 + (1 : Int32)))))) else some ((0 : Int32), S.1, S.2.1, S.2.2.1, S.2.2.2))
set_option maxHeartbeats 4000000 in
set_option maxRecDepth 100000 in
theorem c_X4_add (l : Launch) (G : va_G) (cI cZ cL : ClassId) (N : Nat) (aS : Nat → Nat) (S : SeenV) (p1 : Int32) (p2 : Int32) (p3 : Int32) (rr : Int32 × (Nat → Int32) × (Nat → Int32) × (Nat → Int32) × Int32) (hM : MX4_add N S p1 p2 p3 = some rr) : CtI l yX4_add cX4_add 4 .boolean 0 0 G cI cZ cL [.ref (aS 0), .int p1, .int p2, .int p3] [wSeen cI cZ aS S] rr.1 [wSeen cI cZ aS (rr.2.1, rr.2.2.1, rr.2.2.2.1, rr.2.2.2.2)] := by
  refine ct_body (fun A => qI G rr.1 [wSeen cI cZ aS (rr.2.1, rr.2.2.1, rr.2.2.2.1, rr.2.2.2.2)] A) (by decide) (Nat.le_of_ble_eq_true rfl) (fun p e s m below meth c A ls X hW hl => ?_)
  have hx := X.1
  have hb := X.2.1
  have hts := X.2.2.2.2.2.1
  have hown := X.2.2.2.2.2.2.1
  have hl : lv_has ls 4 [(0, .ref (aS 0)), (1, .int p1), (2, .int p2), (3, .int p3)] := hl
  unfold MX4_add at hM
  refine lv_aload_n hx hb dX4_add_0 rfl (lv_at hl 0 rfl) ?_
  refine g_get X hW 0 rfl rfl inX4 3 (by decide) q_224 rfl dX4_add_1 ?_
  refine lv_if_lt (tgt := 16) hx hb dX4_add_4 (by decide) (fun hc => ?_) (fun hc => ?_)
  · have hM := (if_pos hc).symm.trans hM
    refine lv_iconst (v := (0 : Int32)) hx hb dX4_add_16 (by decide) ?_
    obtain rfl := Option.some.inj hM
    exact g_reti X hW rfl rfl dX4_add_17
  · have hM := (if_neg hc).symm.trans hM
    refine lv_aload_n hx hb dX4_add_7 rfl (lv_at hl 0 rfl) ?_
    refine g_get X hW 0 rfl rfl inX4 3 (by decide) q_224 rfl dX4_add_8 ?_
    refine lv_bipush (v := (6 : Int32)) hx hb dX4_add_11 (by decide) ?_
    refine lv_icmp_lt (tgt := 18) hx hb dX4_add_13 (by decide) (fun hc => ?_) (fun hc => ?_)
    · have hM := (if_pos hc).symm.trans hM
      refine lv_aload_n hx hb dX4_add_18 rfl (lv_at hl 0 rfl) ?_
      refine g_get X hW 0 rfl rfl inX4 0 (by decide) q_221 rfl dX4_add_19 ?_
      refine lv_aload_n hx hb dX4_add_22 rfl (lv_at hl 0 rfl) ?_
      refine g_get X hW 0 rfl rfl inX4 3 (by decide) q_224 rfl dX4_add_23 ?_
      refine lv_iload_n hx hb dX4_add_26 rfl (lv_at hl 1 rfl) ?_
      obtain ⟨hi27, hM⟩ := MG_some hM
      refine g_ast X hW 1 rfl hi27 [wSeen cI cZ aS ((upd S.1 S.2.2.2.toNatClampNeg p1), S.2)] rfl dX4_add_27 (fun H locs hW => ?_)
      refine lv_aload_n hx hb dX4_add_28 rfl (lv_at hl 0 rfl) ?_
      refine g_get X hW 0 rfl rfl inX4 1 (by decide) q_222 rfl dX4_add_29 ?_
      refine lv_aload_n hx hb dX4_add_32 rfl (lv_at hl 0 rfl) ?_
      refine g_get X hW 0 rfl rfl inX4 3 (by decide) q_224 rfl dX4_add_33 ?_
      refine lv_iload_n hx hb dX4_add_36 rfl (lv_at hl 2 rfl) ?_
      obtain ⟨hi37, hM⟩ := MG_some hM
      refine g_ast X hW 2 rfl hi37 [wSeen cI cZ aS ((upd S.1 S.2.2.2.toNatClampNeg p1), (upd S.2.1 S.2.2.2.toNatClampNeg p2), S.2.2)] rfl dX4_add_37 (fun H locs hW => ?_)
      refine lv_aload_n hx hb dX4_add_38 rfl (lv_at hl 0 rfl) ?_
      refine g_get X hW 0 rfl rfl inX4 2 (by decide) q_223 rfl dX4_add_39 ?_
      refine lv_aload_n hx hb dX4_add_42 rfl (lv_at hl 0 rfl) ?_
      refine g_get X hW 0 rfl rfl inX4 3 (by decide) q_224 rfl dX4_add_43 ?_
      refine lv_iload_n hx hb dX4_add_46 rfl (lv_at hl 3 rfl) ?_
      obtain ⟨hi47, hM⟩ := MG_some hM
      refine g_zast X hW 3 rfl hi47 [wSeen cI cZ aS ((upd S.1 S.2.2.2.toNatClampNeg p1), (upd S.2.1 S.2.2.2.toNatClampNeg p2), (upd S.2.2.1 S.2.2.2.toNatClampNeg (vp_nar .boolean p3)), S.2.2.2)] rfl dX4_add_47 (fun H locs hW => ?_)
      refine lv_aload_n hx hb dX4_add_48 rfl (lv_at hl 0 rfl) ?_
      refine lv_dup hx hb dX4_add_49 rfl ?_
      refine g_get X hW 0 rfl rfl inX4 3 (by decide) q_224 rfl dX4_add_50 ?_
      refine lv_iconst (v := (1 : Int32)) hx hb dX4_add_53 (by decide) ?_
      refine lv_iadd hx hb dX4_add_54 ?_
      refine g_put X hW 0 rfl rfl inX4 tyX4 tyX4_ok nmX4 3 (by decide) q_224 rfl rfl (Nat.le_of_ble_eq_true rfl) [wSeen cI cZ aS ((upd S.1 S.2.2.2.toNatClampNeg p1), (upd S.2.1 S.2.2.2.toNatClampNeg p2), (upd S.2.2.1 S.2.2.2.toNatClampNeg (vp_nar .boolean p3)), (S.2.2.2 + (1 : Int32)))] rfl dX4_add_55 (fun H locs hW => ?_)
      refine lv_iconst (v := (1 : Int32)) hx hb dX4_add_58 (by decide) ?_
      obtain rfl := Option.some.inj hM
      exact g_reti X hW rfl rfl dX4_add_59
    · have hM := (if_neg hc).symm.trans hM
      refine lv_iconst (v := (0 : Int32)) hx hb dX4_add_16 (by decide) ?_
      obtain rfl := Option.some.inj hM
      exact g_reti X hW rfl rfl dX4_add_17

def MX4_empty (N : Nat) : Option (Int32) :=
  some ((0 : Int32))
set_option maxHeartbeats 4000000 in
set_option maxRecDepth 100000 in
theorem c_X4_empty (l : Launch) (G : va_G) (cI cZ cL : ClassId) (N : Nat) (aS : Nat → Nat) (S : SeenV) (rr : Int32) (hM : MX4_empty N = some rr) : CtV l yX4_empty cX4_empty 1 0 0 G cI cZ cL [.ref (aS 0)] [wSeen cI cZ aS S] [wSeen cI cZ aS (S.1, S.2.1, S.2.2.1, rr)] := by
  refine ct_body (fun A => qV G [wSeen cI cZ aS (S.1, S.2.1, S.2.2.1, rr)] A) (by decide) (Nat.le_of_ble_eq_true rfl) (fun p e s m below meth c A ls X hW hl => ?_)
  have hx := X.1
  have hb := X.2.1
  have hts := X.2.2.2.2.2.1
  have hown := X.2.2.2.2.2.2.1
  have hl : lv_has ls 1 [(0, .ref (aS 0))] := hl
  unfold MX4_empty at hM
  refine lv_aload_n hx hb dX4_empty_0 rfl (lv_at hl 0 rfl) ?_
  refine lv_iconst (v := (0 : Int32)) hx hb dX4_empty_1 (by decide) ?_
  refine g_put X hW 0 rfl rfl inX4 tyX4 tyX4_ok nmX4 3 (by decide) q_224 rfl rfl (Nat.le_of_ble_eq_true rfl) [wSeen cI cZ aS (S.1, S.2.1, S.2.2.1, (0 : Int32))] rfl dX4_empty_2 (fun H locs hW => ?_)
  obtain rfl := Option.some.inj hM
  exact g_retv X hW dX4_empty_5

def MX4_latest_j35 (x1_35 : Int32) : Option (Int32) :=
  some (x1_35)
def MX4_latest_l4 (S : SeenV) : Nat → Int32 → Int32 → Option (Int32)
  | 0, _, _ => none
  | n4 + 1, x1_4, x2_4 =>
    if S.2.2.2 ≤ x2_4 then (MX4_latest_j35 x1_4) else (if (6 : Int32) ≤ x2_4 then (MX4_latest_j35 x1_4) else MG x2_4 6 (MLet (if x1_4 < (S.2.1 x2_4.toNatClampNeg) then (S.2.1 x2_4.toNatClampNeg) else x1_4) (fun z28 => (MX4_latest_l4 S n4) z28 (x2_4 + (1 : Int32)))))
def MX4_latest (N : Nat) (S : SeenV) : Option (Int32) :=
  MX4_latest_l4 S N (0 : Int32) (0 : Int32)
set_option maxHeartbeats 4000000 in
set_option maxRecDepth 100000 in
theorem c_X4_latest (l : Launch) (G : va_G) (cI cZ cL : ClassId) (N : Nat) (aS : Nat → Nat) (S : SeenV) (rr : Int32) (hM : MX4_latest N S = some rr) : CtI l yX4_latest cX4_latest 3 .int 1 13 G cI cZ cL [.ref (aS 0)] [wSeen cI cZ aS S] rr [wSeen cI cZ aS S] := by
  refine ct_body (fun A => qI G rr [wSeen cI cZ aS S] A) (by decide) (Nat.le_of_ble_eq_true rfl) (fun p e s m below meth c A ls X hW hl => ?_)
  have hx := X.1
  have hb := X.2.1
  have hts := X.2.2.2.2.2.1
  have hown := X.2.2.2.2.2.2.1
  have hl : lv_has ls 3 [(0, .ref (aS 0))] := hl
  unfold MX4_latest at hM
  refine lv_iconst (v := (0 : Int32)) hx hb dX4_latest_0 (by decide) ?_
  refine lv_istore_n (lv' := [(1, .int (0 : Int32)), (0, .ref (aS 0))]) hx hb dX4_latest_1 rfl hl (by decide) rfl (fun ls hl => ?_)
  refine lv_iconst (v := (0 : Int32)) hx hb dX4_latest_2 (by decide) ?_
  refine lv_istore_n (lv' := [(2, .int (0 : Int32)), (1, .int (0 : Int32)), (0, .ref (aS 0))]) hx hb dX4_latest_3 rfl hl (by decide) rfl (fun ls hl => ?_)
  have j35 : ∀ (x1_35 : Int32) (H : Heap) (locs : List Loc) (ls : Array Slot), Wd G A s [wSeen cI cZ aS S] H locs → lv_has ls 3 [(1, .int x1_35)] → MX4_latest_j35 x1_35 = some rr → W p l e (rmO 1 13) s m ([.ref (aS 0)] : List Value).toArray below meth c H locs 0 0 (MQ below (qI G rr [wSeen cI cZ aS S] A) ([.ref (aS 0)] : List Value).toArray s 0 0 A) (F0 m 35 ls []) := by
    intro x1_35 H locs ls hW hl hM
    unfold MX4_latest_j35 at hM
    refine lv_iload_n hx hb dX4_latest_35 rfl (lv_at hl 0 rfl) ?_
    obtain rfl := Option.some.inj hM
    exact g_reti X hW rfl rfl dX4_latest_36
  have lp4 : ∀ (n4 : Nat) (x1_4 : Int32) (x2_4 : Int32) (H : Heap) (locs : List Loc) (ls : Array Slot), Wd G A s [wSeen cI cZ aS S] H locs → lv_has ls 3 [(0, .ref (aS 0)), (1, .int x1_4), (2, .int x2_4)] → MX4_latest_l4 S n4 x1_4 x2_4 = some rr → W p l e (rmO 1 13) s m ([.ref (aS 0)] : List Value).toArray below meth c H locs 0 0 (MQ below (qI G rr [wSeen cI cZ aS S] A) ([.ref (aS 0)] : List Value).toArray s 0 0 A) (F0 m 4 ls []) := by
    intro n4
    induction n4 with
    | zero =>
      intro x1_4 x2_4 H locs ls hW hl hM
      rw [MX4_latest_l4] at hM
      cases hM
    | succ n4 ih4 =>
      intro x1_4 x2_4 H locs ls hW hl hM
      rw [MX4_latest_l4] at hM
      refine lv_iload_n hx hb dX4_latest_4 rfl (lv_at hl 2 rfl) ?_
      refine lv_aload_n hx hb dX4_latest_5 rfl (lv_at hl 0 rfl) ?_
      refine g_get X hW 0 rfl rfl inX4 3 (by decide) q_224 rfl dX4_latest_6 ?_
      refine lv_icmp_ge (tgt := 35) hx hb dX4_latest_9 (by decide) (fun hc => ?_) (fun hc => ?_)
      · have hM := (if_pos hc).symm.trans hM
        exact j35 x1_4 _ _ _ hW (lv_sub hl [1] rfl) hM
      · have hM := (if_neg hc).symm.trans hM
        refine lv_iload_n hx hb dX4_latest_12 rfl (lv_at hl 2 rfl) ?_
        refine lv_bipush (v := (6 : Int32)) hx hb dX4_latest_13 (by decide) ?_
        refine lv_icmp_ge (tgt := 35) hx hb dX4_latest_15 (by decide) (fun hc => ?_) (fun hc => ?_)
        · have hM := (if_pos hc).symm.trans hM
          exact j35 x1_4 _ _ _ hW (lv_sub hl [1] rfl) hM
        · have hM := (if_neg hc).symm.trans hM
          refine lv_iload_n hx hb dX4_latest_18 rfl (lv_at hl 1 rfl) ?_
          refine lv_aload_n hx hb dX4_latest_19 rfl (lv_at hl 0 rfl) ?_
          refine g_get X hW 0 rfl rfl inX4 1 (by decide) q_222 rfl dX4_latest_20 ?_
          refine lv_iload_n hx hb dX4_latest_23 rfl (lv_at hl 2 rfl) ?_
          obtain ⟨hi24, hM⟩ := MG_some hM
          refine g_ald X hW 2 rfl hi24 dX4_latest_24 ?_
          refine g_max X hl.1 q_729 q_243 q_62 q_244 (Nat.le_of_ble_eq_true rfl) (Nat.le_of_ble_eq_true rfl) (Nat.zero_le _) (Nat.zero_le _) dX4_latest_25 ?_
          refine lv_topi (fun z28 ez28 => ?_)
          have hM := MLet_some hM z28 ez28
          refine lv_istore_n (lv' := [(1, .int z28), (0, .ref (aS 0)), (2, .int x2_4)]) hx hb dX4_latest_28 rfl hl (by decide) rfl (fun ls hl => ?_)
          refine lv_iinc (v := x2_4 + (1 : Int32)) (lv' := [(2, .int (x2_4 + (1 : Int32))), (1, .int z28), (0, .ref (aS 0))]) hx hb dX4_latest_29 hl (k := 2) rfl rfl (by decide) rfl (fun ls hl => ?_)
          refine lv_goto (tgt := 4) hx hb dX4_latest_32 (by decide) ?_
          exact ih4 z28 (x2_4 + (1 : Int32)) _ _ _ hW (lv_sub hl [2, 1, 0] rfl) hM
  exact lp4 N (0 : Int32) (0 : Int32) _ _ _ hW (lv_sub hl [2, 1, 0] rfl) hM

def MX4_holdsFor_j125 (yL0_41 : (Nat → Int32)) (yL1_41 : (Nat → Int32)) (yL2_41 : (Nat → Int32)) (yL3_41 : (Nat → Int32)) (yL4_41 : (Nat → Int32)) (yL5_41 : Int32) (yL6_41 : Int32) (yL7_41 : Int32) (yL8_41 : Int32) : Option (Int32 × (Nat → Int32) × (Nat → Int32) × (Nat → Int32) × (Nat → Int32) × (Nat → Int32) × Int32 × Int32 × Int32 × Int32) :=
  some ((1 : Int32), yL0_41, yL1_41, yL2_41, yL3_41, yL4_41, yL5_41, yL6_41, yL7_41, yL8_41)
def MX4_holdsFor_j103 (S : SeenV) (yL0_41 : (Nat → Int32)) (yL1_41 : (Nat → Int32)) (yL2_41 : (Nat → Int32)) (yL3_41 : (Nat → Int32)) (yL4_41 : (Nat → Int32)) (yL5_41 : Int32) (yL6_41 : Int32) (yL7_41 : Int32) (yL8_41 : Int32) (x5_44 : Int32) (rc44 : (Int32 → Option (Int32 × (Nat → Int32) × (Nat → Int32) × (Nat → Int32) × (Nat → Int32) × (Nat → Int32) × Int32 × Int32 × Int32 × Int32))) (t0_103 : Int32) : Option (Int32 × (Nat → Int32) × (Nat → Int32) × (Nat → Int32) × (Nat → Int32) × (Nat → Int32) × Int32 × Int32 × Int32 × Int32) :=
  MG x5_44 6 (if t0_103 = (S.2.2.1 x5_44.toNatClampNeg) then rc44 (x5_44 + (1 : Int32)) else some ((0 : Int32), yL0_41, yL1_41, yL2_41, yL3_41, yL4_41, yL5_41, yL6_41, yL7_41, yL8_41))
def MX4_holdsFor_j102 (S : SeenV) (yL0_41 : (Nat → Int32)) (yL1_41 : (Nat → Int32)) (yL2_41 : (Nat → Int32)) (yL3_41 : (Nat → Int32)) (yL4_41 : (Nat → Int32)) (yL5_41 : Int32) (yL6_41 : Int32) (yL7_41 : Int32) (yL8_41 : Int32) (x5_44 : Int32) (rc44 : (Int32 → Option (Int32 × (Nat → Int32) × (Nat → Int32) × (Nat → Int32) × (Nat → Int32) × (Nat → Int32) × Int32 × Int32 × Int32 × Int32))) : Option (Int32 × (Nat → Int32) × (Nat → Int32) × (Nat → Int32) × (Nat → Int32) × (Nat → Int32) × Int32 × Int32 × Int32 × Int32) :=
  MX4_holdsFor_j103 S yL0_41 yL1_41 yL2_41 yL3_41 yL4_41 yL5_41 yL6_41 yL7_41 yL8_41 x5_44 rc44 (0 : Int32)
def MX4_holdsFor_l44 (N : Nat) (S : SeenV) (L : LineV) (yL0_41 : (Nat → Int32)) (yL1_41 : (Nat → Int32)) (yL2_41 : (Nat → Int32)) (yL3_41 : (Nat → Int32)) (yL4_41 : (Nat → Int32)) (yL5_41 : Int32) (yL6_41 : Int32) (yL7_41 : Int32) (yL8_41 : Int32) : Nat → Int32 → Option (Int32 × (Nat → Int32) × (Nat → Int32) × (Nat → Int32) × (Nat → Int32) × (Nat → Int32) × Int32 × Int32 × Int32 × Int32)
  | 0, _ => none
  | n44 + 1, x5_44 =>
    if S.2.2.2 ≤ x5_44 then (MX4_holdsFor_j125 yL0_41 yL1_41 yL2_41 yL3_41 yL4_41 yL5_41 yL6_41 yL7_41 yL8_41) else (if (6 : Int32) ≤ x5_44 then (MX4_holdsFor_j125 yL0_41 yL1_41 yL2_41 yL3_41 yL4_41 yL5_41 yL6_41 yL7_41 yL8_41) else MG x5_44 6 ((MX1_whereIs N (yL0_41, yL1_41, yL2_41, yL3_41, yL4_41, yL5_41, yL6_41, yL7_41, yL8_41) (S.1 x5_44.toNatClampNeg)).bind (fun u68 => if u68 = (3 : Int32) then MG x5_44 6 ((MX1_ateInOf N (yL0_41, yL1_41, yL2_41, yL3_41, yL4_41, yL5_41, yL6_41, yL7_41, yL8_41) (S.1 x5_44.toNatClampNeg)).bind (fun u83 => MG x5_44 6 (if (L.2.2.2.2.2.2.1 + (S.2.1 x5_44.toNatClampNeg)) ≤ u83 then MX4_holdsFor_j102 S yL0_41 yL1_41 yL2_41 yL3_41 yL4_41 yL5_41 yL6_41 yL7_41 yL8_41 x5_44 (MX4_holdsFor_l44 N S L yL0_41 yL1_41 yL2_41 yL3_41 yL4_41 yL5_41 yL6_41 yL7_41 yL8_41 n44) else (MX4_holdsFor_j103 S yL0_41 yL1_41 yL2_41 yL3_41 yL4_41 yL5_41 yL6_41 yL7_41 yL8_41 x5_44 (MX4_holdsFor_l44 N S L yL0_41 yL1_41 yL2_41 yL3_41 yL4_41 yL5_41 yL6_41 yL7_41 yL8_41 n44) (1 : Int32))))) else MX4_holdsFor_j102 S yL0_41 yL1_41 yL2_41 yL3_41 yL4_41 yL5_41 yL6_41 yL7_41 yL8_41 x5_44 (MX4_holdsFor_l44 N S L yL0_41 yL1_41 yL2_41 yL3_41 yL4_41 yL5_41 yL6_41 yL7_41 yL8_41 n44))))
def MX4_holdsFor_j41 (N : Nat) (S : SeenV) (L : LineV) (yL0_41 : (Nat → Int32)) (yL1_41 : (Nat → Int32)) (yL2_41 : (Nat → Int32)) (yL3_41 : (Nat → Int32)) (yL4_41 : (Nat → Int32)) (yL5_41 : Int32) (yL6_41 : Int32) (yL7_41 : Int32) (yL8_41 : Int32) : Option (Int32 × (Nat → Int32) × (Nat → Int32) × (Nat → Int32) × (Nat → Int32) × (Nat → Int32) × Int32 × Int32 × Int32 × Int32) :=
  MX4_holdsFor_l44 N S L yL0_41 yL1_41 yL2_41 yL3_41 yL4_41 yL5_41 yL6_41 yL7_41 yL8_41 N (0 : Int32)
def MX4_holdsFor_l14 (N : Nat) (S : SeenV) (P : PlanV) (L : LineV) (u6 : Int32) : Nat → Int32 → (Nat → Int32) → (Nat → Int32) → (Nat → Int32) → (Nat → Int32) → (Nat → Int32) → Int32 → Int32 → Int32 → Int32 → Option (Int32 × (Nat → Int32) × (Nat → Int32) × (Nat → Int32) × (Nat → Int32) × (Nat → Int32) × Int32 × Int32 × Int32 × Int32)
  | 0, _, _, _, _, _, _, _, _, _, _ => none
  | n14 + 1, x5_14, yL0_14, yL1_14, yL2_14, yL3_14, yL4_14, yL5_14, yL6_14, yL7_14, yL8_14 =>
    if u6 ≤ x5_14 then (MX4_holdsFor_j41 N S L yL0_14 yL1_14 yL2_14 yL3_14 yL4_14 yL5_14 yL6_14 yL7_14 yL8_14) else ((MX3_rumourIn N P yL6_14).bind (fun u28 => (MX1_goOn N (yL0_14, yL1_14, yL2_14, yL3_14, yL4_14, yL5_14, yL6_14, yL7_14, yL8_14) P u28 (0 : Int32)).bind (fun u32 => (MX4_holdsFor_l14 N S P L u6 n14) (x5_14 + (1 : Int32)) u32.1 u32.2.1 u32.2.2.1 u32.2.2.2.1 u32.2.2.2.2.1 u32.2.2.2.2.2.1 u32.2.2.2.2.2.2.1 u32.2.2.2.2.2.2.2.1 u32.2.2.2.2.2.2.2.2)))
def MX4_holdsFor (N : Nat) (S : SeenV) (P : PlanV) (L : LineV) : Option (Int32 × (Nat → Int32) × (Nat → Int32) × (Nat → Int32) × (Nat → Int32) × (Nat → Int32) × Int32 × Int32 × Int32 × Int32) :=
  (MX4_latest N S).bind (fun u6 => MX4_holdsFor_l14 N S P L u6 N (0 : Int32) L.1 L.2.1 L.2.2.1 L.2.2.2.1 L.2.2.2.2.1 L.2.2.2.2.2.1 L.2.2.2.2.2.2.1 L.2.2.2.2.2.2.2.1 L.2.2.2.2.2.2.2.2)
set_option maxHeartbeats 4000000 in
set_option maxRecDepth 100000 in
theorem c_X4_holdsFor (l : Launch) (G : va_G) (cI cZ cL : ClassId) (N : Nat) (aS : Nat → Nat) (aP : Nat → Nat) (aL : Nat → Nat) (S : SeenV) (P : PlanV) (L : LineV) (rr : Int32 × (Nat → Int32) × (Nat → Int32) × (Nat → Int32) × (Nat → Int32) × (Nat → Int32) × Int32 × Int32 × Int32 × Int32) (hM : MX4_holdsFor N S P L = some rr) : CtI l yX4_holdsFor cX4_holdsFor 7 .boolean 4 92 G cI cZ cL [.ref (aS 0), .ref (aP 0), .ref (aL 0)] [wSeen cI cZ aS S, wPlan cI aP P, wLine cI aL L] rr.1 [wSeen cI cZ aS S, wPlan cI aP P, wLine cI aL (rr.2.1, rr.2.2.1, rr.2.2.2.1, rr.2.2.2.2.1, rr.2.2.2.2.2.1, rr.2.2.2.2.2.2.1, rr.2.2.2.2.2.2.2.1, rr.2.2.2.2.2.2.2.2.1, rr.2.2.2.2.2.2.2.2.2)] := by
  refine ct_body (fun A => qI G rr.1 [wSeen cI cZ aS S, wPlan cI aP P, wLine cI aL (rr.2.1, rr.2.2.1, rr.2.2.2.1, rr.2.2.2.2.1, rr.2.2.2.2.2.1, rr.2.2.2.2.2.2.1, rr.2.2.2.2.2.2.2.1, rr.2.2.2.2.2.2.2.2.1, rr.2.2.2.2.2.2.2.2.2)] A) (by decide) (Nat.le_of_ble_eq_true rfl) (fun p e s m below meth c A ls X hW hl => ?_)
  have hx := X.1
  have hb := X.2.1
  have hts := X.2.2.2.2.2.1
  have hown := X.2.2.2.2.2.2.1
  have hl : lv_has ls 7 [(0, .ref (aS 0)), (1, .ref (aP 0)), (2, .ref (aL 0))] := hl
  unfold MX4_holdsFor at hM
  refine lv_aload_n hx hb dX4_holdsFor_0 rfl (lv_at hl 2 rfl) ?_
  refine g_getN X hW 8 rfl rfl inX1 6 (by decide) nt_14 rfl dX4_holdsFor_1 ?_
  refine lv_istore_n (lv' := [(3, .int L.2.2.2.2.2.2.1), (0, .ref (aS 0)), (1, .ref (aP 0)), (2, .ref (aL 0))]) hx hb dX4_holdsFor_4 rfl hl (by decide) rfl (fun ls hl => ?_)
  refine lv_aload_n hx hb dX4_holdsFor_5 rfl (lv_at hl 1 rfl) ?_
  obtain ⟨u6, hu6, hM⟩ := bind_some hM
  refine g_callVi (rest := []) (gr := [wPlan cI aP P, wLine cI aL L]) X hl.1 hW (c_X4_latest l G cI cZ cL N aS S u6 hu6) q_728 q_725 q_727 q_16 q_60 hd_X4_latest rfl ⟨Nat.le_of_ble_eq_true rfl, Nat.le_of_ble_eq_true rfl⟩ ⟨Nat.zero_le _, Nat.zero_le _⟩ [0] [1, 2] [wSeen cI cZ aS S, wPlan cI aP P, wLine cI aL L] ⟨pm_3_0, rfl, rfl, rfl⟩ ⟨pm_3_0, rfl, rfl, rfl⟩ (q0 := 0) rfl rfl rfl (Nat.le_of_ble_eq_true rfl) dX4_holdsFor_6 (fun H locs hW => ?_)
  refine lv_istore (lv' := [(4, .int u6), (3, .int L.2.2.2.2.2.2.1), (0, .ref (aS 0)), (1, .ref (aP 0)), (2, .ref (aL 0))]) hx hb dX4_holdsFor_9 hl (by decide) rfl (fun ls hl => ?_)
  refine lv_iconst (v := (0 : Int32)) hx hb dX4_holdsFor_11 (by decide) ?_
  refine lv_istore (lv' := [(5, .int (0 : Int32)), (4, .int u6), (3, .int L.2.2.2.2.2.2.1), (0, .ref (aS 0)), (1, .ref (aP 0)), (2, .ref (aL 0))]) hx hb dX4_holdsFor_12 hl (by decide) rfl (fun ls hl => ?_)
  have j41 : ∀ (yL0_41 : (Nat → Int32)) (yL1_41 : (Nat → Int32)) (yL2_41 : (Nat → Int32)) (yL3_41 : (Nat → Int32)) (yL4_41 : (Nat → Int32)) (yL5_41 : Int32) (yL6_41 : Int32) (yL7_41 : Int32) (yL8_41 : Int32) (H : Heap) (locs : List Loc) (ls : Array Slot), Wd G A s [wSeen cI cZ aS S, wPlan cI aP P, wLine cI aL (yL0_41, yL1_41, yL2_41, yL3_41, yL4_41, yL5_41, yL6_41, yL7_41, yL8_41)] H locs → lv_has ls 7 [(0, .ref (aS 0)), (2, .ref (aL 0)), (3, .int L.2.2.2.2.2.2.1)] → MX4_holdsFor_j41 N S L yL0_41 yL1_41 yL2_41 yL3_41 yL4_41 yL5_41 yL6_41 yL7_41 yL8_41 = some rr → W p l e (rmO 4 92) s m ([.ref (aS 0), .ref (aP 0), .ref (aL 0)] : List Value).toArray below meth c H locs 0 0 (MQ below (qI G rr.1 [wSeen cI cZ aS S, wPlan cI aP P, wLine cI aL (rr.2.1, rr.2.2.1, rr.2.2.2.1, rr.2.2.2.2.1, rr.2.2.2.2.2.1, rr.2.2.2.2.2.2.1, rr.2.2.2.2.2.2.2.1, rr.2.2.2.2.2.2.2.2.1, rr.2.2.2.2.2.2.2.2.2)] A) ([.ref (aS 0), .ref (aP 0), .ref (aL 0)] : List Value).toArray s 0 0 A) (F0 m 41 ls []) := by
    intro yL0_41 yL1_41 yL2_41 yL3_41 yL4_41 yL5_41 yL6_41 yL7_41 yL8_41 H locs ls hW hl hM
    unfold MX4_holdsFor_j41 at hM
    refine lv_iconst (v := (0 : Int32)) hx hb dX4_holdsFor_41 (by decide) ?_
    refine lv_istore (lv' := [(5, .int (0 : Int32)), (0, .ref (aS 0)), (2, .ref (aL 0)), (3, .int L.2.2.2.2.2.2.1)]) hx hb dX4_holdsFor_42 hl (by decide) rfl (fun ls hl => ?_)
    have j125 : ∀ (H : Heap) (locs : List Loc) (ls : Array Slot), Wd G A s [wSeen cI cZ aS S, wPlan cI aP P, wLine cI aL (yL0_41, yL1_41, yL2_41, yL3_41, yL4_41, yL5_41, yL6_41, yL7_41, yL8_41)] H locs → lv_has ls 7 [] → MX4_holdsFor_j125 yL0_41 yL1_41 yL2_41 yL3_41 yL4_41 yL5_41 yL6_41 yL7_41 yL8_41 = some rr → W p l e (rmO 4 92) s m ([.ref (aS 0), .ref (aP 0), .ref (aL 0)] : List Value).toArray below meth c H locs 0 0 (MQ below (qI G rr.1 [wSeen cI cZ aS S, wPlan cI aP P, wLine cI aL (rr.2.1, rr.2.2.1, rr.2.2.2.1, rr.2.2.2.2.1, rr.2.2.2.2.2.1, rr.2.2.2.2.2.2.1, rr.2.2.2.2.2.2.2.1, rr.2.2.2.2.2.2.2.2.1, rr.2.2.2.2.2.2.2.2.2)] A) ([.ref (aS 0), .ref (aP 0), .ref (aL 0)] : List Value).toArray s 0 0 A) (F0 m 125 ls []) := by
      intro H locs ls hW hl hM
      unfold MX4_holdsFor_j125 at hM
      refine lv_iconst (v := (1 : Int32)) hx hb dX4_holdsFor_125 (by decide) ?_
      obtain rfl := Option.some.inj hM
      exact g_reti X hW rfl rfl dX4_holdsFor_126
    have lp44 : ∀ (n44 : Nat) (x5_44 : Int32) (H : Heap) (locs : List Loc) (ls : Array Slot), Wd G A s [wSeen cI cZ aS S, wPlan cI aP P, wLine cI aL (yL0_41, yL1_41, yL2_41, yL3_41, yL4_41, yL5_41, yL6_41, yL7_41, yL8_41)] H locs → lv_has ls 7 [(0, .ref (aS 0)), (2, .ref (aL 0)), (3, .int L.2.2.2.2.2.2.1), (5, .int x5_44)] → MX4_holdsFor_l44 N S L yL0_41 yL1_41 yL2_41 yL3_41 yL4_41 yL5_41 yL6_41 yL7_41 yL8_41 n44 x5_44 = some rr → W p l e (rmO 4 92) s m ([.ref (aS 0), .ref (aP 0), .ref (aL 0)] : List Value).toArray below meth c H locs 0 0 (MQ below (qI G rr.1 [wSeen cI cZ aS S, wPlan cI aP P, wLine cI aL (rr.2.1, rr.2.2.1, rr.2.2.2.1, rr.2.2.2.2.1, rr.2.2.2.2.2.1, rr.2.2.2.2.2.2.1, rr.2.2.2.2.2.2.2.1, rr.2.2.2.2.2.2.2.2.1, rr.2.2.2.2.2.2.2.2.2)] A) ([.ref (aS 0), .ref (aP 0), .ref (aL 0)] : List Value).toArray s 0 0 A) (F0 m 44 ls []) := by
      intro n44
      induction n44 with
      | zero =>
        intro x5_44 H locs ls hW hl hM
        rw [MX4_holdsFor_l44] at hM
        cases hM
      | succ n44 ih44 =>
        intro x5_44 H locs ls hW hl hM
        rw [MX4_holdsFor_l44] at hM
        refine lv_iload hx hb dX4_holdsFor_44 (lv_at hl 3 rfl) ?_
        refine lv_aload_n hx hb dX4_holdsFor_46 rfl (lv_at hl 0 rfl) ?_
        refine g_get X hW 0 rfl rfl inX4 3 (by decide) q_224 rfl dX4_holdsFor_47 ?_
        refine lv_icmp_ge (tgt := 125) hx hb dX4_holdsFor_50 (by decide) (fun hc => ?_) (fun hc => ?_)
        · have hM := (if_pos hc).symm.trans hM
          exact j125 _ _ _ hW (lv_sub hl [] rfl) hM
        · have hM := (if_neg hc).symm.trans hM
          refine lv_iload hx hb dX4_holdsFor_53 (lv_at hl 3 rfl) ?_
          refine lv_bipush (v := (6 : Int32)) hx hb dX4_holdsFor_55 (by decide) ?_
          refine lv_icmp_ge (tgt := 125) hx hb dX4_holdsFor_57 (by decide) (fun hc => ?_) (fun hc => ?_)
          · have hM := (if_pos hc).symm.trans hM
            exact j125 _ _ _ hW (lv_sub hl [] rfl) hM
          · have hM := (if_neg hc).symm.trans hM
            refine lv_aload_n hx hb dX4_holdsFor_60 rfl (lv_at hl 1 rfl) ?_
            refine lv_aload_n hx hb dX4_holdsFor_61 rfl (lv_at hl 0 rfl) ?_
            refine g_get X hW 0 rfl rfl inX4 0 (by decide) q_221 rfl dX4_holdsFor_62 ?_
            refine lv_iload hx hb dX4_holdsFor_65 (lv_at hl 3 rfl) ?_
            obtain ⟨hi67, hM⟩ := MG_some hM
            refine g_ald X hW 1 rfl hi67 dX4_holdsFor_67 ?_
            obtain ⟨u68, hu68, hM⟩ := bind_some hM
            refine g_callVi (rest := []) (gr := [wSeen cI cZ aS S, wPlan cI aP P]) X hl.1 hW (c_X1_whereIs l G cI cZ cL N aL (yL0_41, yL1_41, yL2_41, yL3_41, yL4_41, yL5_41, yL6_41, yL7_41, yL8_41) (S.1 x5_44.toNatClampNeg) u68 hu68) q_450 q_732 q_448 q_449 q_58 hd_X1_whereIs rfl ⟨Nat.le_of_ble_eq_true rfl, Nat.le_of_ble_eq_true rfl⟩ ⟨Nat.zero_le _, Nat.zero_le _⟩ [2] [0, 1] [wSeen cI cZ aS S, wPlan cI aP P, wLine cI aL (yL0_41, yL1_41, yL2_41, yL3_41, yL4_41, yL5_41, yL6_41, yL7_41, yL8_41)] ⟨pm_3_2, rfl, rfl, rfl⟩ ⟨pm_3_2, rfl, rfl, rfl⟩ (q0 := 8) rfl rfl rfl (Nat.le_of_ble_eq_true rfl) dX4_holdsFor_68 (fun H locs hW => ?_)
            refine lv_iconst (v := (3 : Int32)) hx hb dX4_holdsFor_71 (by decide) ?_
            have j103 : ∀ (t0_103 : Int32) (H : Heap) (locs : List Loc) (ls : Array Slot), Wd G A s [wSeen cI cZ aS S, wPlan cI aP P, wLine cI aL (yL0_41, yL1_41, yL2_41, yL3_41, yL4_41, yL5_41, yL6_41, yL7_41, yL8_41)] H locs → lv_has ls 7 [(0, .ref (aS 0)), (2, .ref (aL 0)), (3, .int L.2.2.2.2.2.2.1), (5, .int x5_44)] → MX4_holdsFor_j103 S yL0_41 yL1_41 yL2_41 yL3_41 yL4_41 yL5_41 yL6_41 yL7_41 yL8_41 x5_44 (MX4_holdsFor_l44 N S L yL0_41 yL1_41 yL2_41 yL3_41 yL4_41 yL5_41 yL6_41 yL7_41 yL8_41 n44) t0_103 = some rr → W p l e (rmO 4 92) s m ([.ref (aS 0), .ref (aP 0), .ref (aL 0)] : List Value).toArray below meth c H locs 0 0 (MQ below (qI G rr.1 [wSeen cI cZ aS S, wPlan cI aP P, wLine cI aL (rr.2.1, rr.2.2.1, rr.2.2.2.1, rr.2.2.2.2.1, rr.2.2.2.2.2.1, rr.2.2.2.2.2.2.1, rr.2.2.2.2.2.2.2.1, rr.2.2.2.2.2.2.2.2.1, rr.2.2.2.2.2.2.2.2.2)] A) ([.ref (aS 0), .ref (aP 0), .ref (aL 0)] : List Value).toArray s 0 0 A) (F0 m 103 ls [.int t0_103]) := by
              intro t0_103 H locs ls hW hl hM
              unfold MX4_holdsFor_j103 at hM
              refine lv_istore (lv' := [(6, .int t0_103), (0, .ref (aS 0)), (2, .ref (aL 0)), (3, .int L.2.2.2.2.2.2.1), (5, .int x5_44)]) hx hb dX4_holdsFor_103 hl (by decide) rfl (fun ls hl => ?_)
              refine lv_iload hx hb dX4_holdsFor_105 (lv_at hl 0 rfl) ?_
              refine lv_aload_n hx hb dX4_holdsFor_107 rfl (lv_at hl 1 rfl) ?_
              refine g_get X hW 0 rfl rfl inX4 2 (by decide) q_223 rfl dX4_holdsFor_108 ?_
              refine lv_iload hx hb dX4_holdsFor_111 (lv_at hl 4 rfl) ?_
              obtain ⟨hi113, hM⟩ := MG_some hM
              refine g_zald X hW 3 rfl hi113 dX4_holdsFor_113 ?_
              refine lv_icmp_eq (tgt := 119) hx hb dX4_holdsFor_114 (by decide) (fun hc => ?_) (fun hc => ?_)
              · have hM := (if_pos hc).symm.trans hM
                refine lv_iinc (v := x5_44 + (1 : Int32)) (lv' := [(5, .int (x5_44 + (1 : Int32))), (6, .int t0_103), (0, .ref (aS 0)), (2, .ref (aL 0)), (3, .int L.2.2.2.2.2.2.1)]) hx hb dX4_holdsFor_119 hl (k := 4) rfl rfl (by decide) rfl (fun ls hl => ?_)
                refine lv_goto (tgt := 44) hx hb dX4_holdsFor_122 (by decide) ?_
                exact ih44 (x5_44 + (1 : Int32)) _ _ _ hW (lv_sub hl [2, 3, 4, 0] rfl) hM
              · have hM := (if_neg hc).symm.trans hM
                refine lv_iconst (v := (0 : Int32)) hx hb dX4_holdsFor_117 (by decide) ?_
                obtain rfl := Option.some.inj hM
                exact g_reti X hW rfl rfl dX4_holdsFor_118
            have j102 : ∀ (H : Heap) (locs : List Loc) (ls : Array Slot), Wd G A s [wSeen cI cZ aS S, wPlan cI aP P, wLine cI aL (yL0_41, yL1_41, yL2_41, yL3_41, yL4_41, yL5_41, yL6_41, yL7_41, yL8_41)] H locs → lv_has ls 7 [(0, .ref (aS 0)), (2, .ref (aL 0)), (3, .int L.2.2.2.2.2.2.1), (5, .int x5_44)] → MX4_holdsFor_j102 S yL0_41 yL1_41 yL2_41 yL3_41 yL4_41 yL5_41 yL6_41 yL7_41 yL8_41 x5_44 (MX4_holdsFor_l44 N S L yL0_41 yL1_41 yL2_41 yL3_41 yL4_41 yL5_41 yL6_41 yL7_41 yL8_41 n44) = some rr → W p l e (rmO 4 92) s m ([.ref (aS 0), .ref (aP 0), .ref (aL 0)] : List Value).toArray below meth c H locs 0 0 (MQ below (qI G rr.1 [wSeen cI cZ aS S, wPlan cI aP P, wLine cI aL (rr.2.1, rr.2.2.1, rr.2.2.2.1, rr.2.2.2.2.1, rr.2.2.2.2.2.1, rr.2.2.2.2.2.2.1, rr.2.2.2.2.2.2.2.1, rr.2.2.2.2.2.2.2.2.1, rr.2.2.2.2.2.2.2.2.2)] A) ([.ref (aS 0), .ref (aP 0), .ref (aL 0)] : List Value).toArray s 0 0 A) (F0 m 102 ls []) := by
              intro H locs ls hW hl hM
              unfold MX4_holdsFor_j102 at hM
              refine lv_iconst (v := (0 : Int32)) hx hb dX4_holdsFor_102 (by decide) ?_
              exact j103 (0 : Int32) _ _ _ hW (lv_sub hl [0, 1, 2, 3] rfl) hM
            refine lv_icmp_ne (tgt := 102) hx hb dX4_holdsFor_72 (by decide) (fun hc => ?_) (fun hc => ?_)
            · have hM := (if_neg hc).symm.trans hM
              exact j102 _ _ _ hW (lv_sub hl [0, 1, 2, 3] rfl) hM
            · have hM := (if_pos hc).symm.trans hM
              refine lv_aload_n hx hb dX4_holdsFor_75 rfl (lv_at hl 1 rfl) ?_
              refine lv_aload_n hx hb dX4_holdsFor_76 rfl (lv_at hl 0 rfl) ?_
              refine g_get X hW 0 rfl rfl inX4 0 (by decide) q_221 rfl dX4_holdsFor_77 ?_
              refine lv_iload hx hb dX4_holdsFor_80 (lv_at hl 3 rfl) ?_
              obtain ⟨hi82, hM⟩ := MG_some hM
              refine g_ald X hW 1 rfl hi82 dX4_holdsFor_82 ?_
              obtain ⟨u83, hu83, hM⟩ := bind_some hM
              refine g_callVi (rest := []) (gr := [wSeen cI cZ aS S, wPlan cI aP P]) X hl.1 hW (c_X1_ateInOf l G cI cZ cL N aL (yL0_41, yL1_41, yL2_41, yL3_41, yL4_41, yL5_41, yL6_41, yL7_41, yL8_41) (S.1 x5_44.toNatClampNeg) u83 hu83) q_462 q_733 q_460 q_461 q_58 hd_X1_ateInOf rfl ⟨Nat.le_of_ble_eq_true rfl, Nat.le_of_ble_eq_true rfl⟩ ⟨Nat.zero_le _, Nat.zero_le _⟩ [2] [0, 1] [wSeen cI cZ aS S, wPlan cI aP P, wLine cI aL (yL0_41, yL1_41, yL2_41, yL3_41, yL4_41, yL5_41, yL6_41, yL7_41, yL8_41)] ⟨pm_3_2, rfl, rfl, rfl⟩ ⟨pm_3_2, rfl, rfl, rfl⟩ (q0 := 8) rfl rfl rfl (Nat.le_of_ble_eq_true rfl) dX4_holdsFor_83 (fun H locs hW => ?_)
              refine lv_iload_n hx hb dX4_holdsFor_86 rfl (lv_at hl 2 rfl) ?_
              refine lv_aload_n hx hb dX4_holdsFor_87 rfl (lv_at hl 0 rfl) ?_
              refine g_get X hW 0 rfl rfl inX4 1 (by decide) q_222 rfl dX4_holdsFor_88 ?_
              refine lv_iload hx hb dX4_holdsFor_91 (lv_at hl 3 rfl) ?_
              obtain ⟨hi93, hM⟩ := MG_some hM
              refine g_ald X hW 2 rfl hi93 dX4_holdsFor_93 ?_
              refine lv_iadd hx hb dX4_holdsFor_94 ?_
              refine lv_icmp_ge (tgt := 102) hx hb dX4_holdsFor_95 (by decide) (fun hc => ?_) (fun hc => ?_)
              · have hM := (if_pos hc).symm.trans hM
                exact j102 _ _ _ hW (lv_sub hl [0, 1, 2, 3] rfl) hM
              · have hM := (if_neg hc).symm.trans hM
                refine lv_iconst (v := (1 : Int32)) hx hb dX4_holdsFor_98 (by decide) ?_
                refine lv_goto (tgt := 103) hx hb dX4_holdsFor_99 (by decide) ?_
                exact j103 (1 : Int32) _ _ _ hW (lv_sub hl [0, 1, 2, 3] rfl) hM
    exact lp44 N (0 : Int32) _ _ _ hW (lv_sub hl [1, 2, 3, 0] rfl) hM
  have lp14 : ∀ (n14 : Nat) (x5_14 : Int32) (yL0_14 : (Nat → Int32)) (yL1_14 : (Nat → Int32)) (yL2_14 : (Nat → Int32)) (yL3_14 : (Nat → Int32)) (yL4_14 : (Nat → Int32)) (yL5_14 : Int32) (yL6_14 : Int32) (yL7_14 : Int32) (yL8_14 : Int32) (H : Heap) (locs : List Loc) (ls : Array Slot), Wd G A s [wSeen cI cZ aS S, wPlan cI aP P, wLine cI aL (yL0_14, yL1_14, yL2_14, yL3_14, yL4_14, yL5_14, yL6_14, yL7_14, yL8_14)] H locs → lv_has ls 7 [(0, .ref (aS 0)), (1, .ref (aP 0)), (2, .ref (aL 0)), (3, .int L.2.2.2.2.2.2.1), (4, .int u6), (5, .int x5_14)] → MX4_holdsFor_l14 N S P L u6 n14 x5_14 yL0_14 yL1_14 yL2_14 yL3_14 yL4_14 yL5_14 yL6_14 yL7_14 yL8_14 = some rr → W p l e (rmO 4 92) s m ([.ref (aS 0), .ref (aP 0), .ref (aL 0)] : List Value).toArray below meth c H locs 0 0 (MQ below (qI G rr.1 [wSeen cI cZ aS S, wPlan cI aP P, wLine cI aL (rr.2.1, rr.2.2.1, rr.2.2.2.1, rr.2.2.2.2.1, rr.2.2.2.2.2.1, rr.2.2.2.2.2.2.1, rr.2.2.2.2.2.2.2.1, rr.2.2.2.2.2.2.2.2.1, rr.2.2.2.2.2.2.2.2.2)] A) ([.ref (aS 0), .ref (aP 0), .ref (aL 0)] : List Value).toArray s 0 0 A) (F0 m 14 ls []) := by
    intro n14
    induction n14 with
    | zero =>
      intro x5_14 yL0_14 yL1_14 yL2_14 yL3_14 yL4_14 yL5_14 yL6_14 yL7_14 yL8_14 H locs ls hW hl hM
      rw [MX4_holdsFor_l14] at hM
      cases hM
    | succ n14 ih14 =>
      intro x5_14 yL0_14 yL1_14 yL2_14 yL3_14 yL4_14 yL5_14 yL6_14 yL7_14 yL8_14 H locs ls hW hl hM
      rw [MX4_holdsFor_l14] at hM
      refine lv_iload hx hb dX4_holdsFor_14 (lv_at hl 5 rfl) ?_
      refine lv_iload hx hb dX4_holdsFor_16 (lv_at hl 4 rfl) ?_
      refine lv_icmp_ge (tgt := 41) hx hb dX4_holdsFor_18 (by decide) (fun hc => ?_) (fun hc => ?_)
      · have hM := (if_pos hc).symm.trans hM
        exact j41 yL0_14 yL1_14 yL2_14 yL3_14 yL4_14 yL5_14 yL6_14 yL7_14 yL8_14 _ _ _ hW (lv_sub hl [0, 2, 3] rfl) hM
      · have hM := (if_neg hc).symm.trans hM
        refine lv_aload_n hx hb dX4_holdsFor_21 rfl (lv_at hl 2 rfl) ?_
        refine lv_aload_n hx hb dX4_holdsFor_22 rfl (lv_at hl 1 rfl) ?_
        refine lv_aload_n hx hb dX4_holdsFor_23 rfl (lv_at hl 1 rfl) ?_
        refine lv_aload_n hx hb dX4_holdsFor_24 rfl (lv_at hl 2 rfl) ?_
        refine g_getN X hW 8 rfl rfl inX1 6 (by decide) nt_14 rfl dX4_holdsFor_25 ?_
        obtain ⟨u28, hu28, hM⟩ := bind_some hM
        refine g_callVi (rest := [.ref (aP 0), .ref (aL 0)]) (gr := [wSeen cI cZ aS S, wLine cI aL (yL0_14, yL1_14, yL2_14, yL3_14, yL4_14, yL5_14, yL6_14, yL7_14, yL8_14)]) X hl.1 hW (c_X3_rumourIn l G cI cZ cL N aP P yL6_14 u28 hu28) q_498 q_730 q_496 q_497 q_56 hd_X3_rumourIn rfl ⟨Nat.le_of_ble_eq_true rfl, Nat.le_of_ble_eq_true rfl⟩ ⟨Nat.zero_le _, Nat.zero_le _⟩ [1] [0, 2] [wSeen cI cZ aS S, wPlan cI aP P, wLine cI aL (yL0_14, yL1_14, yL2_14, yL3_14, yL4_14, yL5_14, yL6_14, yL7_14, yL8_14)] ⟨pm_3_1, rfl, rfl, rfl⟩ ⟨pm_3_1, rfl, rfl, rfl⟩ (q0 := 4) rfl rfl rfl (Nat.le_of_ble_eq_true rfl) dX4_holdsFor_28 (fun H locs hW => ?_)
        refine lv_iconst (v := (0 : Int32)) hx hb dX4_holdsFor_31 (by decide) ?_
        obtain ⟨u32, hu32, hM⟩ := bind_some hM
        refine g_callVv (rest := []) (gr := [wSeen cI cZ aS S]) X hl.1 hW (c_X1_goOn l G cI cZ cL N aL aP (yL0_14, yL1_14, yL2_14, yL3_14, yL4_14, yL5_14, yL6_14, yL7_14, yL8_14) P u28 (0 : Int32) u32 hu32) q_502 q_731 q_500 q_501 q_58 hd_X1_goOn rfl ⟨Nat.le_of_ble_eq_true rfl, Nat.le_of_ble_eq_true rfl⟩ ⟨Nat.zero_le _, Nat.zero_le _⟩ [2, 1] [0] [wSeen cI cZ aS S, wPlan cI aP P, wLine cI aL u32] ⟨pm_3_2_1, rfl, rfl, rfl⟩ ⟨pm_3_2_1, rfl, rfl, rfl⟩ (q0 := 8) rfl rfl rfl (Nat.le_of_ble_eq_true rfl) dX4_holdsFor_32 (fun H locs hW => ?_)
        refine lv_iinc (v := x5_14 + (1 : Int32)) (lv' := [(5, .int (x5_14 + (1 : Int32))), (0, .ref (aS 0)), (1, .ref (aP 0)), (2, .ref (aL 0)), (3, .int L.2.2.2.2.2.2.1), (4, .int u6)]) hx hb dX4_holdsFor_35 hl (k := 5) rfl rfl (by decide) rfl (fun ls hl => ?_)
        refine lv_goto (tgt := 14) hx hb dX4_holdsFor_38 (by decide) ?_
        exact ih14 (x5_14 + (1 : Int32)) u32.1 u32.2.1 u32.2.2.1 u32.2.2.2.1 u32.2.2.2.2.1 u32.2.2.2.2.2.1 u32.2.2.2.2.2.2.1 u32.2.2.2.2.2.2.2.1 u32.2.2.2.2.2.2.2.2 _ _ _ hW (lv_sub hl [1, 2, 3, 4, 5, 0] rfl) hM
  exact lp14 N (0 : Int32) L.1 L.2.1 L.2.2.1 L.2.2.2.1 L.2.2.2.2.1 L.2.2.2.2.2.1 L.2.2.2.2.2.2.1 L.2.2.2.2.2.2.2.1 L.2.2.2.2.2.2.2.2 _ _ _ hW (lv_sub hl [3, 4, 5, 2, 1, 0] rfl) hM
