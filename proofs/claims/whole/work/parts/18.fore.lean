def MJ6_bitCount_0f7a4 (N : Nat) (p1 : Int32) : Option (Int32) :=
  MLet (p1 - (((p1.toUInt32 >>> ((1 : Int32).toUInt32 &&& Int32.toUInt32 31)).toInt32) &&& (1431655765 : Int32))) (fun z9 => MLet ((z9 &&& (858993459 : Int32)) + (((z9.toUInt32 >>> ((2 : Int32).toUInt32 &&& Int32.toUInt32 31)).toInt32) &&& (858993459 : Int32))) (fun z23 => MLet ((z23 + ((z23.toUInt32 >>> ((4 : Int32).toUInt32 &&& Int32.toUInt32 31)).toInt32)) &&& (252645135 : Int32)) (fun z33 => MLet (z33 + ((z33.toUInt32 >>> ((8 : Int32).toUInt32 &&& Int32.toUInt32 31)).toInt32)) (fun z40 => MLet (z40 + ((z40.toUInt32 >>> ((16 : Int32).toUInt32 &&& Int32.toUInt32 31)).toInt32)) (fun z47 => some (z47 &&& (63 : Int32)))))))
set_option maxHeartbeats 4000000 in
set_option maxRecDepth 100000 in
theorem c_J6_bitCount_0f7a4 (l : Launch) (G : va_G) (cI cZ cL : ClassId) (N : Nat) (p1 : Int32) (rr : Int32) (hM : MJ6_bitCount_0f7a4 N p1 = some rr) : CtI l yJ6_bitCount_0f7a4 cJ6_bitCount_0f7a4 1 .int 0 0 G cI cZ cL [.int p1] [] rr [] := by
  refine ct_body (fun A => qI G rr [] A) (by decide) (Nat.le_of_ble_eq_true rfl) (fun p e s m below meth c A ls X hW hl => ?_)
  have hx := X.1
  have hb := X.2.1
  have hts := X.2.2.2.2.2.1
  have hown := X.2.2.2.2.2.2.1
  have hl : lv_has ls 1 [(0, .int p1)] := hl
  unfold MJ6_bitCount_0f7a4 at hM
  refine lv_iload_n hx hb dJ6_bitCount_0f7a4_0 rfl (lv_at hl 0 rfl) ?_
  refine lv_iload_n hx hb dJ6_bitCount_0f7a4_1 rfl (lv_at hl 0 rfl) ?_
  refine lv_iconst (v := (1 : Int32)) hx hb dJ6_bitCount_0f7a4_2 (by decide) ?_
  refine lv_iushr hx hb dJ6_bitCount_0f7a4_3 rfl ?_
  refine lv_ldcw (v := (1431655765 : Int32)) hx hb hown (hts _ q_757) dJ6_bitCount_0f7a4_4 ?_
  refine lv_iand hx hb dJ6_bitCount_0f7a4_7 ?_
  refine lv_isub hx hb dJ6_bitCount_0f7a4_8 ?_
  refine lv_topi (fun z9 ez9 => ?_)
  have hM := MLet_some hM z9 ez9
  refine lv_istore_n (lv' := [(0, .int z9)]) hx hb dJ6_bitCount_0f7a4_9 rfl hl (by decide) rfl (fun ls hl => ?_)
  refine lv_iload_n hx hb dJ6_bitCount_0f7a4_10 rfl (lv_at hl 0 rfl) ?_
  refine lv_ldcw (v := (858993459 : Int32)) hx hb hown (hts _ q_758) dJ6_bitCount_0f7a4_11 ?_
  refine lv_iand hx hb dJ6_bitCount_0f7a4_14 ?_
  refine lv_iload_n hx hb dJ6_bitCount_0f7a4_15 rfl (lv_at hl 0 rfl) ?_
  refine lv_iconst (v := (2 : Int32)) hx hb dJ6_bitCount_0f7a4_16 (by decide) ?_
  refine lv_iushr hx hb dJ6_bitCount_0f7a4_17 rfl ?_
  refine lv_ldcw (v := (858993459 : Int32)) hx hb hown (hts _ q_758) dJ6_bitCount_0f7a4_18 ?_
  refine lv_iand hx hb dJ6_bitCount_0f7a4_21 ?_
  refine lv_iadd hx hb dJ6_bitCount_0f7a4_22 ?_
  refine lv_topi (fun z23 ez23 => ?_)
  have hM := MLet_some hM z23 ez23
  refine lv_istore_n (lv' := [(0, .int z23)]) hx hb dJ6_bitCount_0f7a4_23 rfl hl (by decide) rfl (fun ls hl => ?_)
  refine lv_iload_n hx hb dJ6_bitCount_0f7a4_24 rfl (lv_at hl 0 rfl) ?_
  refine lv_iload_n hx hb dJ6_bitCount_0f7a4_25 rfl (lv_at hl 0 rfl) ?_
  refine lv_iconst (v := (4 : Int32)) hx hb dJ6_bitCount_0f7a4_26 (by decide) ?_
  refine lv_iushr hx hb dJ6_bitCount_0f7a4_27 rfl ?_
  refine lv_iadd hx hb dJ6_bitCount_0f7a4_28 ?_
  refine lv_ldcw (v := (252645135 : Int32)) hx hb hown (hts _ q_759) dJ6_bitCount_0f7a4_29 ?_
  refine lv_iand hx hb dJ6_bitCount_0f7a4_32 ?_
  refine lv_topi (fun z33 ez33 => ?_)
  have hM := MLet_some hM z33 ez33
  refine lv_istore_n (lv' := [(0, .int z33)]) hx hb dJ6_bitCount_0f7a4_33 rfl hl (by decide) rfl (fun ls hl => ?_)
  refine lv_iload_n hx hb dJ6_bitCount_0f7a4_34 rfl (lv_at hl 0 rfl) ?_
  refine lv_iload_n hx hb dJ6_bitCount_0f7a4_35 rfl (lv_at hl 0 rfl) ?_
  refine lv_bipush (v := (8 : Int32)) hx hb dJ6_bitCount_0f7a4_36 (by decide) ?_
  refine lv_iushr hx hb dJ6_bitCount_0f7a4_38 rfl ?_
  refine lv_iadd hx hb dJ6_bitCount_0f7a4_39 ?_
  refine lv_topi (fun z40 ez40 => ?_)
  have hM := MLet_some hM z40 ez40
  refine lv_istore_n (lv' := [(0, .int z40)]) hx hb dJ6_bitCount_0f7a4_40 rfl hl (by decide) rfl (fun ls hl => ?_)
  refine lv_iload_n hx hb dJ6_bitCount_0f7a4_41 rfl (lv_at hl 0 rfl) ?_
  refine lv_iload_n hx hb dJ6_bitCount_0f7a4_42 rfl (lv_at hl 0 rfl) ?_
  refine lv_bipush (v := (16 : Int32)) hx hb dJ6_bitCount_0f7a4_43 (by decide) ?_
  refine lv_iushr hx hb dJ6_bitCount_0f7a4_45 rfl ?_
  refine lv_iadd hx hb dJ6_bitCount_0f7a4_46 ?_
  refine lv_topi (fun z47 ez47 => ?_)
  have hM := MLet_some hM z47 ez47
  refine lv_istore_n (lv' := [(0, .int z47)]) hx hb dJ6_bitCount_0f7a4_47 rfl hl (by decide) rfl (fun ls hl => ?_)
  refine lv_iload_n hx hb dJ6_bitCount_0f7a4_48 rfl (lv_at hl 0 rfl) ?_
  refine lv_bipush (v := (63 : Int32)) hx hb dJ6_bitCount_0f7a4_49 (by decide) ?_
  refine lv_iand hx hb dJ6_bitCount_0f7a4_51 ?_
  obtain rfl := Option.some.inj hM
  exact g_reti X hW rfl rfl dJ6_bitCount_0f7a4_52

def MX7_power_j19 (x2_19 : Int32) : Option (Int32) :=
  some (x2_19)
def MX7_power_l4 (p1 : Int32) (p2 : Int32) : Nat → Int32 → Int32 → Option (Int32)
  | 0, _, _ => none
  | n4 + 1, x2_4, x3_4 =>
    if p2 ≤ x3_4 then (MX7_power_j19 x2_4) else (MLet (x2_4 * p1) (fun z12 => (MX7_power_l4 p1 p2 n4) z12 (x3_4 + (1 : Int32))))
def MX7_power (N : Nat) (p1 : Int32) (p2 : Int32) : Option (Int32) :=
  MX7_power_l4 p1 p2 N (1 : Int32) (0 : Int32)
set_option maxHeartbeats 4000000 in
set_option maxRecDepth 100000 in
theorem c_X7_power (l : Launch) (G : va_G) (cI cZ cL : ClassId) (N : Nat) (p1 : Int32) (p2 : Int32) (rr : Int32) (hM : MX7_power N p1 p2 = some rr) : CtI l yX7_power cX7_power 4 .int 0 0 G cI cZ cL [.int p1, .int p2] [] rr [] := by
  refine ct_body (fun A => qI G rr [] A) (by decide) (Nat.le_of_ble_eq_true rfl) (fun p e s m below meth c A ls X hW hl => ?_)
  have hx := X.1
  have hb := X.2.1
  have hts := X.2.2.2.2.2.1
  have hown := X.2.2.2.2.2.2.1
  have hl : lv_has ls 4 [(0, .int p1), (1, .int p2)] := hl
  unfold MX7_power at hM
  refine lv_iconst (v := (1 : Int32)) hx hb dX7_power_0 (by decide) ?_
  refine lv_istore_n (lv' := [(2, .int (1 : Int32)), (0, .int p1), (1, .int p2)]) hx hb dX7_power_1 rfl hl (by decide) rfl (fun ls hl => ?_)
  refine lv_iconst (v := (0 : Int32)) hx hb dX7_power_2 (by decide) ?_
  refine lv_istore_n (lv' := [(3, .int (0 : Int32)), (2, .int (1 : Int32)), (0, .int p1), (1, .int p2)]) hx hb dX7_power_3 rfl hl (by decide) rfl (fun ls hl => ?_)
  have j19 : ∀ (x2_19 : Int32) (H : Heap) (locs : List Loc) (ls : Array Slot), Wd G A s [] H locs → lv_has ls 4 [(2, .int x2_19)] → MX7_power_j19 x2_19 = some rr → W p l e (rmO 0 0) s m ([.int p1, .int p2] : List Value).toArray below meth c H locs 0 0 (MQ below (qI G rr [] A) ([.int p1, .int p2] : List Value).toArray s 0 0 A) (F0 m 19 ls []) := by
    intro x2_19 H locs ls hW hl hM
    unfold MX7_power_j19 at hM
    refine lv_iload_n hx hb dX7_power_19 rfl (lv_at hl 0 rfl) ?_
    obtain rfl := Option.some.inj hM
    exact g_reti X hW rfl rfl dX7_power_20
  have lp4 : ∀ (n4 : Nat) (x2_4 : Int32) (x3_4 : Int32) (H : Heap) (locs : List Loc) (ls : Array Slot), Wd G A s [] H locs → lv_has ls 4 [(0, .int p1), (1, .int p2), (2, .int x2_4), (3, .int x3_4)] → MX7_power_l4 p1 p2 n4 x2_4 x3_4 = some rr → W p l e (rmO 0 0) s m ([.int p1, .int p2] : List Value).toArray below meth c H locs 0 0 (MQ below (qI G rr [] A) ([.int p1, .int p2] : List Value).toArray s 0 0 A) (F0 m 4 ls []) := by
    intro n4
    induction n4 with
    | zero =>
      intro x2_4 x3_4 H locs ls hW hl hM
      rw [MX7_power_l4] at hM
      cases hM
    | succ n4 ih4 =>
      intro x2_4 x3_4 H locs ls hW hl hM
      rw [MX7_power_l4] at hM
      refine lv_iload_n hx hb dX7_power_4 rfl (lv_at hl 3 rfl) ?_
      refine lv_iload_n hx hb dX7_power_5 rfl (lv_at hl 1 rfl) ?_
      refine lv_icmp_ge (tgt := 19) hx hb dX7_power_6 (by decide) (fun hc => ?_) (fun hc => ?_)
      · have hM := (if_pos hc).symm.trans hM
        exact j19 x2_4 _ _ _ hW (lv_sub hl [2] rfl) hM
      · have hM := (if_neg hc).symm.trans hM
        refine lv_iload_n hx hb dX7_power_9 rfl (lv_at hl 2 rfl) ?_
        refine lv_iload_n hx hb dX7_power_10 rfl (lv_at hl 0 rfl) ?_
        refine lv_imul hx hb dX7_power_11 ?_
        refine lv_topi (fun z12 ez12 => ?_)
        have hM := MLet_some hM z12 ez12
        refine lv_istore_n (lv' := [(2, .int z12), (0, .int p1), (1, .int p2), (3, .int x3_4)]) hx hb dX7_power_12 rfl hl (by decide) rfl (fun ls hl => ?_)
        refine lv_iinc (v := x3_4 + (1 : Int32)) (lv' := [(3, .int (x3_4 + (1 : Int32))), (2, .int z12), (0, .int p1), (1, .int p2)]) hx hb dX7_power_13 hl (k := 3) rfl rfl (by decide) rfl (fun ls hl => ?_)
        refine lv_goto (tgt := 4) hx hb dX7_power_16 (by decide) ?_
        exact ih4 z12 (x3_4 + (1 : Int32)) _ _ _ hW (lv_sub hl [2, 3, 1, 0] rfl) hM
  exact lp4 N (1 : Int32) (0 : Int32) _ _ _ hW (lv_sub hl [2, 3, 1, 0] rfl) hM

def MX7_greatestDivisor_j34 (x2_34 : Int32) : Option (Int32) :=
  some (x2_34)
def MX7_greatestDivisor_l7 : Nat → Int32 → Int32 → Int32 → Option (Int32)
  | 0, _, _, _ => none
  | n7 + 1, x2_7, x3_7, x4_7 =>
    if (100 : Int32) ≤ x4_7 then (MX7_greatestDivisor_j34 x2_7) else (if x3_7 = 0 then (MX7_greatestDivisor_j34 x2_7) else MD x3_7 (MLet (x2_7 - x2_7 / x3_7 * x3_7) (fun z21 => (MX7_greatestDivisor_l7 n7) x3_7 z21 (x4_7 + (1 : Int32)))))
def MX7_greatestDivisor (N : Nat) (p1 : Int32) (p2 : Int32) : Option (Int32) :=
  MX7_greatestDivisor_l7 N p1 p2 (0 : Int32)
set_option maxHeartbeats 4000000 in
set_option maxRecDepth 100000 in
theorem c_X7_greatestDivisor (l : Launch) (G : va_G) (cI cZ cL : ClassId) (N : Nat) (p1 : Int32) (p2 : Int32) (rr : Int32) (hM : MX7_greatestDivisor N p1 p2 = some rr) : CtI l yX7_greatestDivisor cX7_greatestDivisor 6 .int 0 0 G cI cZ cL [.int p1, .int p2] [] rr [] := by
  refine ct_body (fun A => qI G rr [] A) (by decide) (Nat.le_of_ble_eq_true rfl) (fun p e s m below meth c A ls X hW hl => ?_)
  have hx := X.1
  have hb := X.2.1
  have hts := X.2.2.2.2.2.1
  have hown := X.2.2.2.2.2.2.1
  have hl : lv_has ls 6 [(0, .int p1), (1, .int p2)] := hl
  unfold MX7_greatestDivisor at hM
  refine lv_iload_n hx hb dX7_greatestDivisor_0 rfl (lv_at hl 0 rfl) ?_
  refine lv_istore_n (lv' := [(2, .int p1), (0, .int p1), (1, .int p2)]) hx hb dX7_greatestDivisor_1 rfl hl (by decide) rfl (fun ls hl => ?_)
  refine lv_iload_n hx hb dX7_greatestDivisor_2 rfl (lv_at hl 2 rfl) ?_
  refine lv_istore_n (lv' := [(3, .int p2), (2, .int p1), (0, .int p1), (1, .int p2)]) hx hb dX7_greatestDivisor_3 rfl hl (by decide) rfl (fun ls hl => ?_)
  refine lv_iconst (v := (0 : Int32)) hx hb dX7_greatestDivisor_4 (by decide) ?_
  refine lv_istore (lv' := [(4, .int (0 : Int32)), (3, .int p2), (2, .int p1), (0, .int p1), (1, .int p2)]) hx hb dX7_greatestDivisor_5 hl (by decide) rfl (fun ls hl => ?_)
  have j34 : ∀ (x2_34 : Int32) (H : Heap) (locs : List Loc) (ls : Array Slot), Wd G A s [] H locs → lv_has ls 6 [(2, .int x2_34)] → MX7_greatestDivisor_j34 x2_34 = some rr → W p l e (rmO 0 0) s m ([.int p1, .int p2] : List Value).toArray below meth c H locs 0 0 (MQ below (qI G rr [] A) ([.int p1, .int p2] : List Value).toArray s 0 0 A) (F0 m 34 ls []) := by
    intro x2_34 H locs ls hW hl hM
    unfold MX7_greatestDivisor_j34 at hM
    refine lv_iload_n hx hb dX7_greatestDivisor_34 rfl (lv_at hl 0 rfl) ?_
    obtain rfl := Option.some.inj hM
    exact g_reti X hW rfl rfl dX7_greatestDivisor_35
  have lp7 : ∀ (n7 : Nat) (x2_7 : Int32) (x3_7 : Int32) (x4_7 : Int32) (H : Heap) (locs : List Loc) (ls : Array Slot), Wd G A s [] H locs → lv_has ls 6 [(2, .int x2_7), (3, .int x3_7), (4, .int x4_7)] → MX7_greatestDivisor_l7 n7 x2_7 x3_7 x4_7 = some rr → W p l e (rmO 0 0) s m ([.int p1, .int p2] : List Value).toArray below meth c H locs 0 0 (MQ below (qI G rr [] A) ([.int p1, .int p2] : List Value).toArray s 0 0 A) (F0 m 7 ls []) := by
    intro n7
    induction n7 with
    | zero =>
      intro x2_7 x3_7 x4_7 H locs ls hW hl hM
      rw [MX7_greatestDivisor_l7] at hM
      cases hM
    | succ n7 ih7 =>
      intro x2_7 x3_7 x4_7 H locs ls hW hl hM
      rw [MX7_greatestDivisor_l7] at hM
      refine lv_iload hx hb dX7_greatestDivisor_7 (lv_at hl 2 rfl) ?_
      refine lv_bipush (v := (100 : Int32)) hx hb dX7_greatestDivisor_9 (by decide) ?_
      refine lv_icmp_ge (tgt := 34) hx hb dX7_greatestDivisor_11 (by decide) (fun hc => ?_) (fun hc => ?_)
      · have hM := (if_pos hc).symm.trans hM
        exact j34 x2_7 _ _ _ hW (lv_sub hl [0] rfl) hM
      · have hM := (if_neg hc).symm.trans hM
        refine lv_iload_n hx hb dX7_greatestDivisor_14 rfl (lv_at hl 1 rfl) ?_
        refine lv_if_eq (tgt := 34) hx hb dX7_greatestDivisor_15 (by decide) (fun hc => ?_) (fun hc => ?_)
        · have hM := (if_pos hc).symm.trans hM
          exact j34 x2_7 _ _ _ hW (lv_sub hl [0] rfl) hM
        · have hM := (if_neg hc).symm.trans hM
          refine lv_iload_n hx hb dX7_greatestDivisor_18 rfl (lv_at hl 0 rfl) ?_
          refine lv_iload_n hx hb dX7_greatestDivisor_19 rfl (lv_at hl 1 rfl) ?_
          obtain ⟨hz20, hM⟩ := MD_some hM
          refine lv_irem hx hb dX7_greatestDivisor_20 hz20 ?_
          refine lv_topi (fun z21 ez21 => ?_)
          have hM := MLet_some hM z21 ez21
          refine lv_istore (lv' := [(5, .int z21), (2, .int x2_7), (3, .int x3_7), (4, .int x4_7)]) hx hb dX7_greatestDivisor_21 hl (by decide) rfl (fun ls hl => ?_)
          refine lv_iload_n hx hb dX7_greatestDivisor_23 rfl (lv_at hl 2 rfl) ?_
          refine lv_istore_n (lv' := [(2, .int x3_7), (5, .int z21), (3, .int x3_7), (4, .int x4_7)]) hx hb dX7_greatestDivisor_24 rfl hl (by decide) rfl (fun ls hl => ?_)
          refine lv_iload hx hb dX7_greatestDivisor_25 (lv_at hl 1 rfl) ?_
          refine lv_istore_n (lv' := [(3, .int z21), (2, .int x3_7), (5, .int z21), (4, .int x4_7)]) hx hb dX7_greatestDivisor_27 rfl hl (by decide) rfl (fun ls hl => ?_)
          refine lv_iinc (v := x4_7 + (1 : Int32)) (lv' := [(4, .int (x4_7 + (1 : Int32))), (3, .int z21), (2, .int x3_7), (5, .int z21)]) hx hb dX7_greatestDivisor_28 hl (k := 3) rfl rfl (by decide) rfl (fun ls hl => ?_)
          refine lv_goto (tgt := 7) hx hb dX7_greatestDivisor_31 (by decide) ?_
          exact ih7 x3_7 z21 (x4_7 + (1 : Int32)) _ _ _ hW (lv_sub hl [2, 1, 0] rfl) hM
  exact lp7 N p1 p2 (0 : Int32) _ _ _ hW (lv_sub hl [2, 1, 0] rfl) hM

def MX0_startTrial (N : Nat) (Nw : LineV) (Tr : LineV) : Option ((Nat → Int32) × (Nat → Int32) × (Nat → Int32) × (Nat → Int32) × (Nat → Int32) × Int32 × Int32 × Int32 × Int32) :=
  (MX1_copyFrom N Tr Nw).bind (fun u8 => some (u8.1, u8.2.1, u8.2.2.1, u8.2.2.2.1, u8.2.2.2.2.1, u8.2.2.2.2.2.1, u8.2.2.2.2.2.2.1, u8.2.2.2.2.2.2.2.1, u8.2.2.2.2.2.2.2.2))
set_option maxHeartbeats 4000000 in
set_option maxRecDepth 100000 in
theorem c_X0_startTrial (l : Launch) (G : va_G) (cI cZ cL : ClassId) (N : Nat) (fc : Nat) (aP : Nat → Nat) (aNw : Nat → Nat) (aGs : Nat → Nat) (aTr : Nat → Nat) (aO : Nat → Nat) (P : PlanV) (Nw : LineV) (Gs : PlanV) (Tr : LineV) (O : OrdV) (rr : (Nat → Int32) × (Nat → Int32) × (Nat → Int32) × (Nat → Int32) × (Nat → Int32) × Int32 × Int32 × Int32 × Int32) (hM : MX0_startTrial N Nw Tr = some rr) : CtV l yX0_startTrial cX0_startTrial 1 2 39 G cI cZ cL [.ref fc] [wFc fc (aP 0) (aNw 0) (aGs 0) (aTr 0) (aO 0), wPlan cI aP P, wLine cI aNw Nw, wPlan cI aGs Gs, wLine cI aTr Tr, wOrd cI aO O] [wFc fc (aP 0) (aNw 0) (aGs 0) (aTr 0) (aO 0), wPlan cI aP P, wLine cI aNw Nw, wPlan cI aGs Gs, wLine cI aTr rr, wOrd cI aO O] := by
  refine ct_body (fun A => qV G [wFc fc (aP 0) (aNw 0) (aGs 0) (aTr 0) (aO 0), wPlan cI aP P, wLine cI aNw Nw, wPlan cI aGs Gs, wLine cI aTr rr, wOrd cI aO O] A) (by decide) (Nat.le_of_ble_eq_true rfl) (fun p e s m below meth c A ls X hW hl => ?_)
  have hx := X.1
  have hb := X.2.1
  have hts := X.2.2.2.2.2.1
  have hown := X.2.2.2.2.2.2.1
  have hl : lv_has ls 1 [(0, .ref fc)] := hl
  unfold MX0_startTrial at hM
  refine lv_aload_n hx hb dX0_startTrial_0 rfl (lv_at hl 0 rfl) ?_
  refine g_get X hW 0 rfl rfl inX0 3 (by decide) q_201 rfl dX0_startTrial_1 ?_
  refine lv_aload_n hx hb dX0_startTrial_4 rfl (lv_at hl 0 rfl) ?_
  refine g_get X hW 0 rfl rfl inX0 1 (by decide) q_198 rfl dX0_startTrial_5 ?_
  obtain ⟨u8, hu8, hM⟩ := bind_some hM
  refine g_callVv (rest := []) (gr := [wFc fc (aP 0) (aNw 0) (aGs 0) (aTr 0) (aO 0), wPlan cI aP P, wPlan cI aGs Gs, wOrd cI aO O]) X hl.1 hW (c_X1_copyFrom l G cI cZ cL N aTr aNw Tr Nw u8 hu8) q_486 q_601 q_484 q_485 q_58 hd_X1_copyFrom rfl ⟨Nat.le_of_ble_eq_true rfl, Nat.le_of_ble_eq_true rfl⟩ ⟨Nat.zero_le _, Nat.zero_le _⟩ [4, 2] [0, 1, 3, 5] [wFc fc (aP 0) (aNw 0) (aGs 0) (aTr 0) (aO 0), wPlan cI aP P, wLine cI aNw Nw, wPlan cI aGs Gs, wLine cI aTr u8, wOrd cI aO O] ⟨pm_6_4_2, rfl, rfl, rfl⟩ ⟨pm_6_4_2, rfl, rfl, rfl⟩ (q0 := 15) rfl rfl rfl (Nat.le_of_ble_eq_true rfl) dX0_startTrial_8 (fun H locs hW => ?_)
  obtain rfl := Option.some.inj hM
  exact g_retv X hW dX0_startTrial_11

def MX0_lineBehind (N : Nat) (P : PlanV) (Nw : LineV) (Tr : LineV) (p1 : Int32) : Option ((Nat → Int32) × (Nat → Int32) × (Nat → Int32) × (Nat → Int32) × (Nat → Int32) × Int32 × Int32 × Int32 × Int32) :=
  (MX0_startTrial N Nw Tr).bind (fun u1 => (MX1_run N u1 P p1).bind (fun u13 => some (u13.1, u13.2.1, u13.2.2.1, u13.2.2.2.1, u13.2.2.2.2.1, u13.2.2.2.2.2.1, u13.2.2.2.2.2.2.1, u13.2.2.2.2.2.2.2.1, u13.2.2.2.2.2.2.2.2)))
set_option maxHeartbeats 4000000 in
set_option maxRecDepth 100000 in
theorem c_X0_lineBehind (l : Launch) (G : va_G) (cI cZ cL : ClassId) (N : Nat) (fc : Nat) (aP : Nat → Nat) (aNw : Nat → Nat) (aGs : Nat → Nat) (aTr : Nat → Nat) (aO : Nat → Nat) (P : PlanV) (Nw : LineV) (Gs : PlanV) (Tr : LineV) (O : OrdV) (p1 : Int32) (rr : (Nat → Int32) × (Nat → Int32) × (Nat → Int32) × (Nat → Int32) × (Nat → Int32) × Int32 × Int32 × Int32 × Int32) (hM : MX0_lineBehind N P Nw Tr p1 = some rr) : CtR l yX0_lineBehind cX0_lineBehind 2 (.object "BackwardsLine$Line") 5 115 G cI cZ cL [.ref fc, .int p1] [wFc fc (aP 0) (aNw 0) (aGs 0) (aTr 0) (aO 0), wPlan cI aP P, wLine cI aNw Nw, wPlan cI aGs Gs, wLine cI aTr Tr, wOrd cI aO O] (aTr 0) [wFc fc (aP 0) (aNw 0) (aGs 0) (aTr 0) (aO 0), wPlan cI aP P, wLine cI aNw Nw, wPlan cI aGs Gs, wLine cI aTr rr, wOrd cI aO O] := by
  refine ct_body (fun A => qR G (aTr 0) [wFc fc (aP 0) (aNw 0) (aGs 0) (aTr 0) (aO 0), wPlan cI aP P, wLine cI aNw Nw, wPlan cI aGs Gs, wLine cI aTr rr, wOrd cI aO O] A) (by decide) (Nat.le_of_ble_eq_true rfl) (fun p e s m below meth c A ls X hW hl => ?_)
  have hx := X.1
  have hb := X.2.1
  have hts := X.2.2.2.2.2.1
  have hown := X.2.2.2.2.2.2.1
  have hl : lv_has ls 2 [(0, .ref fc), (1, .int p1)] := hl
  unfold MX0_lineBehind at hM
  refine lv_aload_n hx hb dX0_lineBehind_0 rfl (lv_at hl 0 rfl) ?_
  obtain ⟨u1, hu1, hM⟩ := bind_some hM
  refine g_callVv (rest := []) (gr := []) X hl.1 hW (c_X0_startTrial l G cI cZ cL N fc aP aNw aGs aTr aO P Nw Gs Tr O u1 hu1) q_600 q_597 q_598 q_599 q_57 hd_X0_startTrial rfl ⟨Nat.le_of_ble_eq_true rfl, Nat.le_of_ble_eq_true rfl⟩ ⟨Nat.zero_le _, Nat.zero_le _⟩ [0, 1, 2, 3, 4, 5] [] [wFc fc (aP 0) (aNw 0) (aGs 0) (aTr 0) (aO 0), wPlan cI aP P, wLine cI aNw Nw, wPlan cI aGs Gs, wLine cI aTr u1, wOrd cI aO O] ⟨pm_6_0_1_2_3_4_5, rfl, rfl, rfl⟩ ⟨pm_6_0_1_2_3_4_5, rfl, rfl, rfl⟩ (q0 := 0) rfl rfl rfl (Nat.le_of_ble_eq_true rfl) dX0_lineBehind_1 (fun H locs hW => ?_)
  refine lv_aload_n hx hb dX0_lineBehind_4 rfl (lv_at hl 0 rfl) ?_
  refine g_get X hW 0 rfl rfl inX0 3 (by decide) q_201 rfl dX0_lineBehind_5 ?_
  refine lv_aload_n hx hb dX0_lineBehind_8 rfl (lv_at hl 0 rfl) ?_
  refine g_get X hW 0 rfl rfl inX0 0 (by decide) q_196 rfl dX0_lineBehind_9 ?_
  refine lv_iload_n hx hb dX0_lineBehind_12 rfl (lv_at hl 1 rfl) ?_
  obtain ⟨u13, hu13, hM⟩ := bind_some hM
  refine g_callVv (rest := []) (gr := [wFc fc (aP 0) (aNw 0) (aGs 0) (aTr 0) (aO 0), wLine cI aNw Nw, wPlan cI aGs Gs, wOrd cI aO O]) X hl.1 hW (c_X1_run l G cI cZ cL N aTr aP u1 P p1 u13 hu13) q_494 q_602 q_492 q_493 q_58 hd_X1_run rfl ⟨Nat.le_of_ble_eq_true rfl, Nat.le_of_ble_eq_true rfl⟩ ⟨Nat.zero_le _, Nat.zero_le _⟩ [4, 1] [0, 2, 3, 5] [wFc fc (aP 0) (aNw 0) (aGs 0) (aTr 0) (aO 0), wPlan cI aP P, wLine cI aNw Nw, wPlan cI aGs Gs, wLine cI aTr u13, wOrd cI aO O] ⟨pm_6_4_1, rfl, rfl, rfl⟩ ⟨pm_6_4_1, rfl, rfl, rfl⟩ (q0 := 15) rfl rfl rfl (Nat.le_of_ble_eq_true rfl) dX0_lineBehind_13 (fun H locs hW => ?_)
  refine lv_aload_n hx hb dX0_lineBehind_16 rfl (lv_at hl 0 rfl) ?_
  refine g_get X hW 0 rfl rfl inX0 3 (by decide) q_201 rfl dX0_lineBehind_17 ?_
  obtain rfl := Option.some.inj hM
  exact g_reta X hW dX0_lineBehind_20

def MX0_whenEaten_j66 (yTr0_66 : (Nat → Int32)) (yTr1_66 : (Nat → Int32)) (yTr2_66 : (Nat → Int32)) (yTr3_66 : (Nat → Int32)) (yTr4_66 : (Nat → Int32)) (yTr5_66 : Int32) (yTr6_66 : Int32) (yTr7_66 : Int32) (yTr8_66 : Int32) : Option (Int32 × (Nat → Int32) × (Nat → Int32) × (Nat → Int32) × (Nat → Int32) × (Nat → Int32) × Int32 × Int32 × Int32 × Int32) :=
  some ((100 : Int32), yTr0_66, yTr1_66, yTr2_66, yTr3_66, yTr4_66, yTr5_66, yTr6_66, yTr7_66, yTr8_66)
def MX0_whenEaten_l2 (N : Nat) (P : PlanV) (p1 : Int32) (p2 : Int32) : Nat → Int32 → (Nat → Int32) → (Nat → Int32) → (Nat → Int32) → (Nat → Int32) → (Nat → Int32) → Int32 → Int32 → Int32 → Int32 → Option (Int32 × (Nat → Int32) × (Nat → Int32) × (Nat → Int32) × (Nat → Int32) × (Nat → Int32) × Int32 × Int32 × Int32 × Int32)
  | 0, _, _, _, _, _, _, _, _, _, _ => none
  | n2 + 1, x3_2, yTr0_2, yTr1_2, yTr2_2, yTr3_2, yTr4_2, yTr5_2, yTr6_2, yTr7_2, yTr8_2 =>
    if (99 : Int32) < x3_2 then (MX0_whenEaten_j66 yTr0_2 yTr1_2 yTr2_2 yTr3_2 yTr4_2 yTr5_2 yTr6_2 yTr7_2 yTr8_2) else ((MX1_whereIs N (yTr0_2, yTr1_2, yTr2_2, yTr3_2, yTr4_2, yTr5_2, yTr6_2, yTr7_2, yTr8_2) p1).bind (fun u13 => if u13 = (2 : Int32) then (MX0_whenEaten_j66 yTr0_2 yTr1_2 yTr2_2 yTr3_2 yTr4_2 yTr5_2 yTr6_2 yTr7_2 yTr8_2) else ((MX3_rumourIn N P yTr6_2).bind (fun u39 => (MX1_goOn N (yTr0_2, yTr1_2, yTr2_2, yTr3_2, yTr4_2, yTr5_2, yTr6_2, yTr7_2, yTr8_2) P u39 p2).bind (fun u43 => (MX1_whereIs N u43 p1).bind (fun u51 => if u51 = (3 : Int32) then some (x3_2, u43.1, u43.2.1, u43.2.2.1, u43.2.2.2.1, u43.2.2.2.2.1, u43.2.2.2.2.2.1, u43.2.2.2.2.2.2.1, u43.2.2.2.2.2.2.2.1, u43.2.2.2.2.2.2.2.2) else ((MX0_whenEaten_l2 N P p1 p2 n2) (x3_2 + (1 : Int32)) u43.1 u43.2.1 u43.2.2.1 u43.2.2.2.1 u43.2.2.2.2.1 u43.2.2.2.2.2.1 u43.2.2.2.2.2.2.1 u43.2.2.2.2.2.2.2.1 u43.2.2.2.2.2.2.2.2)))))))
def MX0_whenEaten (N : Nat) (P : PlanV) (Tr : LineV) (p1 : Int32) (p2 : Int32) : Option (Int32 × (Nat → Int32) × (Nat → Int32) × (Nat → Int32) × (Nat → Int32) × (Nat → Int32) × Int32 × Int32 × Int32 × Int32) :=
  MX0_whenEaten_l2 N P p1 p2 N (1 : Int32) Tr.1 Tr.2.1 Tr.2.2.1 Tr.2.2.2.1 Tr.2.2.2.2.1 Tr.2.2.2.2.2.1 Tr.2.2.2.2.2.2.1 Tr.2.2.2.2.2.2.2.1 Tr.2.2.2.2.2.2.2.2
set_option maxHeartbeats 4000000 in
set_option maxRecDepth 100000 in
theorem c_X0_whenEaten (l : Launch) (G : va_G) (cI cZ cL : ClassId) (N : Nat) (fc : Nat) (aP : Nat → Nat) (aNw : Nat → Nat) (aGs : Nat → Nat) (aTr : Nat → Nat) (aO : Nat → Nat) (P : PlanV) (Nw : LineV) (Gs : PlanV) (Tr : LineV) (O : OrdV) (p1 : Int32) (p2 : Int32) (rr : Int32 × (Nat → Int32) × (Nat → Int32) × (Nat → Int32) × (Nat → Int32) × (Nat → Int32) × Int32 × Int32 × Int32 × Int32) (hM : MX0_whenEaten N P Tr p1 p2 = some rr) : CtI l yX0_whenEaten cX0_whenEaten 4 .int 4 92 G cI cZ cL [.ref fc, .int p1, .int p2] [wFc fc (aP 0) (aNw 0) (aGs 0) (aTr 0) (aO 0), wPlan cI aP P, wLine cI aNw Nw, wPlan cI aGs Gs, wLine cI aTr Tr, wOrd cI aO O] rr.1 [wFc fc (aP 0) (aNw 0) (aGs 0) (aTr 0) (aO 0), wPlan cI aP P, wLine cI aNw Nw, wPlan cI aGs Gs, wLine cI aTr (rr.2.1, rr.2.2.1, rr.2.2.2.1, rr.2.2.2.2.1, rr.2.2.2.2.2.1, rr.2.2.2.2.2.2.1, rr.2.2.2.2.2.2.2.1, rr.2.2.2.2.2.2.2.2.1, rr.2.2.2.2.2.2.2.2.2), wOrd cI aO O] := by
  refine ct_body (fun A => qI G rr.1 [wFc fc (aP 0) (aNw 0) (aGs 0) (aTr 0) (aO 0), wPlan cI aP P, wLine cI aNw Nw, wPlan cI aGs Gs, wLine cI aTr (rr.2.1, rr.2.2.1, rr.2.2.2.1, rr.2.2.2.2.1, rr.2.2.2.2.2.1, rr.2.2.2.2.2.2.1, rr.2.2.2.2.2.2.2.1, rr.2.2.2.2.2.2.2.2.1, rr.2.2.2.2.2.2.2.2.2), wOrd cI aO O] A) (by decide) (Nat.le_of_ble_eq_true rfl) (fun p e s m below meth c A ls X hW hl => ?_)
  have hx := X.1
  have hb := X.2.1
  have hts := X.2.2.2.2.2.1
  have hown := X.2.2.2.2.2.2.1
  have hl : lv_has ls 4 [(0, .ref fc), (1, .int p1), (2, .int p2)] := hl
  unfold MX0_whenEaten at hM
  refine lv_iconst (v := (1 : Int32)) hx hb dX0_whenEaten_0 (by decide) ?_
  refine lv_istore_n (lv' := [(3, .int (1 : Int32)), (0, .ref fc), (1, .int p1), (2, .int p2)]) hx hb dX0_whenEaten_1 rfl hl (by decide) rfl (fun ls hl => ?_)
  have j66 : ∀ (yTr0_66 : (Nat → Int32)) (yTr1_66 : (Nat → Int32)) (yTr2_66 : (Nat → Int32)) (yTr3_66 : (Nat → Int32)) (yTr4_66 : (Nat → Int32)) (yTr5_66 : Int32) (yTr6_66 : Int32) (yTr7_66 : Int32) (yTr8_66 : Int32) (H : Heap) (locs : List Loc) (ls : Array Slot), Wd G A s [wFc fc (aP 0) (aNw 0) (aGs 0) (aTr 0) (aO 0), wPlan cI aP P, wLine cI aNw Nw, wPlan cI aGs Gs, wLine cI aTr (yTr0_66, yTr1_66, yTr2_66, yTr3_66, yTr4_66, yTr5_66, yTr6_66, yTr7_66, yTr8_66), wOrd cI aO O] H locs → lv_has ls 4 [] → MX0_whenEaten_j66 yTr0_66 yTr1_66 yTr2_66 yTr3_66 yTr4_66 yTr5_66 yTr6_66 yTr7_66 yTr8_66 = some rr → W p l e (rmO 4 92) s m ([.ref fc, .int p1, .int p2] : List Value).toArray below meth c H locs 0 0 (MQ below (qI G rr.1 [wFc fc (aP 0) (aNw 0) (aGs 0) (aTr 0) (aO 0), wPlan cI aP P, wLine cI aNw Nw, wPlan cI aGs Gs, wLine cI aTr (rr.2.1, rr.2.2.1, rr.2.2.2.1, rr.2.2.2.2.1, rr.2.2.2.2.2.1, rr.2.2.2.2.2.2.1, rr.2.2.2.2.2.2.2.1, rr.2.2.2.2.2.2.2.2.1, rr.2.2.2.2.2.2.2.2.2), wOrd cI aO O] A) ([.ref fc, .int p1, .int p2] : List Value).toArray s 0 0 A) (F0 m 66 ls []) := by
    intro yTr0_66 yTr1_66 yTr2_66 yTr3_66 yTr4_66 yTr5_66 yTr6_66 yTr7_66 yTr8_66 H locs ls hW hl hM
    unfold MX0_whenEaten_j66 at hM
    refine lv_bipush (v := (100 : Int32)) hx hb dX0_whenEaten_66 (by decide) ?_
    obtain rfl := Option.some.inj hM
    exact g_reti X hW rfl rfl dX0_whenEaten_68
  have lp2 : ∀ (n2 : Nat) (x3_2 : Int32) (yTr0_2 : (Nat → Int32)) (yTr1_2 : (Nat → Int32)) (yTr2_2 : (Nat → Int32)) (yTr3_2 : (Nat → Int32)) (yTr4_2 : (Nat → Int32)) (yTr5_2 : Int32) (yTr6_2 : Int32) (yTr7_2 : Int32) (yTr8_2 : Int32) (H : Heap) (locs : List Loc) (ls : Array Slot), Wd G A s [wFc fc (aP 0) (aNw 0) (aGs 0) (aTr 0) (aO 0), wPlan cI aP P, wLine cI aNw Nw, wPlan cI aGs Gs, wLine cI aTr (yTr0_2, yTr1_2, yTr2_2, yTr3_2, yTr4_2, yTr5_2, yTr6_2, yTr7_2, yTr8_2), wOrd cI aO O] H locs → lv_has ls 4 [(0, .ref fc), (1, .int p1), (2, .int p2), (3, .int x3_2)] → MX0_whenEaten_l2 N P p1 p2 n2 x3_2 yTr0_2 yTr1_2 yTr2_2 yTr3_2 yTr4_2 yTr5_2 yTr6_2 yTr7_2 yTr8_2 = some rr → W p l e (rmO 4 92) s m ([.ref fc, .int p1, .int p2] : List Value).toArray below meth c H locs 0 0 (MQ below (qI G rr.1 [wFc fc (aP 0) (aNw 0) (aGs 0) (aTr 0) (aO 0), wPlan cI aP P, wLine cI aNw Nw, wPlan cI aGs Gs, wLine cI aTr (rr.2.1, rr.2.2.1, rr.2.2.2.1, rr.2.2.2.2.1, rr.2.2.2.2.2.1, rr.2.2.2.2.2.2.1, rr.2.2.2.2.2.2.2.1, rr.2.2.2.2.2.2.2.2.1, rr.2.2.2.2.2.2.2.2.2), wOrd cI aO O] A) ([.ref fc, .int p1, .int p2] : List Value).toArray s 0 0 A) (F0 m 2 ls []) := by
    intro n2
    induction n2 with
    | zero =>
      intro x3_2 yTr0_2 yTr1_2 yTr2_2 yTr3_2 yTr4_2 yTr5_2 yTr6_2 yTr7_2 yTr8_2 H locs ls hW hl hM
      rw [MX0_whenEaten_l2] at hM
      cases hM
    | succ n2 ih2 =>
      intro x3_2 yTr0_2 yTr1_2 yTr2_2 yTr3_2 yTr4_2 yTr5_2 yTr6_2 yTr7_2 yTr8_2 H locs ls hW hl hM
      rw [MX0_whenEaten_l2] at hM
      refine lv_iload_n hx hb dX0_whenEaten_2 rfl (lv_at hl 3 rfl) ?_
      refine lv_bipush (v := (99 : Int32)) hx hb dX0_whenEaten_3 (by decide) ?_
      refine lv_icmp_gt (tgt := 66) hx hb dX0_whenEaten_5 (by decide) (fun hc => ?_) (fun hc => ?_)
      · have hM := (if_pos hc).symm.trans hM
        exact j66 yTr0_2 yTr1_2 yTr2_2 yTr3_2 yTr4_2 yTr5_2 yTr6_2 yTr7_2 yTr8_2 _ _ _ hW (lv_sub hl [] rfl) hM
      · have hM := (if_neg hc).symm.trans hM
        refine lv_aload_n hx hb dX0_whenEaten_8 rfl (lv_at hl 0 rfl) ?_
        refine g_get X hW 0 rfl rfl inX0 3 (by decide) q_201 rfl dX0_whenEaten_9 ?_
        refine lv_iload_n hx hb dX0_whenEaten_12 rfl (lv_at hl 1 rfl) ?_
        obtain ⟨u13, hu13, hM⟩ := bind_some hM
        refine g_callVi (rest := []) (gr := [wFc fc (aP 0) (aNw 0) (aGs 0) (aTr 0) (aO 0), wPlan cI aP P, wLine cI aNw Nw, wPlan cI aGs Gs, wOrd cI aO O]) X hl.1 hW (c_X1_whereIs l G cI cZ cL N aTr (yTr0_2, yTr1_2, yTr2_2, yTr3_2, yTr4_2, yTr5_2, yTr6_2, yTr7_2, yTr8_2) p1 u13 hu13) q_450 q_616 q_448 q_449 q_58 hd_X1_whereIs rfl ⟨Nat.le_of_ble_eq_true rfl, Nat.le_of_ble_eq_true rfl⟩ ⟨Nat.zero_le _, Nat.zero_le _⟩ [4] [0, 1, 2, 3, 5] [wFc fc (aP 0) (aNw 0) (aGs 0) (aTr 0) (aO 0), wPlan cI aP P, wLine cI aNw Nw, wPlan cI aGs Gs, wLine cI aTr (yTr0_2, yTr1_2, yTr2_2, yTr3_2, yTr4_2, yTr5_2, yTr6_2, yTr7_2, yTr8_2), wOrd cI aO O] ⟨pm_6_4, rfl, rfl, rfl⟩ ⟨pm_6_4, rfl, rfl, rfl⟩ (q0 := 15) rfl rfl rfl (Nat.le_of_ble_eq_true rfl) dX0_whenEaten_13 (fun H locs hW => ?_)
        refine lv_iconst (v := (2 : Int32)) hx hb dX0_whenEaten_16 (by decide) ?_
        refine lv_icmp_eq (tgt := 66) hx hb dX0_whenEaten_17 (by decide) (fun hc => ?_) (fun hc => ?_)
        · have hM := (if_pos hc).symm.trans hM
          exact j66 yTr0_2 yTr1_2 yTr2_2 yTr3_2 yTr4_2 yTr5_2 yTr6_2 yTr7_2 yTr8_2 _ _ _ hW (lv_sub hl [] rfl) hM
        · have hM := (if_neg hc).symm.trans hM
          refine lv_aload_n hx hb dX0_whenEaten_20 rfl (lv_at hl 0 rfl) ?_
          refine g_get X hW 0 rfl rfl inX0 3 (by decide) q_201 rfl dX0_whenEaten_21 ?_
          refine lv_aload_n hx hb dX0_whenEaten_24 rfl (lv_at hl 0 rfl) ?_
          refine g_get X hW 0 rfl rfl inX0 0 (by decide) q_196 rfl dX0_whenEaten_25 ?_
          refine lv_aload_n hx hb dX0_whenEaten_28 rfl (lv_at hl 0 rfl) ?_
          refine g_get X hW 0 rfl rfl inX0 0 (by decide) q_196 rfl dX0_whenEaten_29 ?_
          refine lv_aload_n hx hb dX0_whenEaten_32 rfl (lv_at hl 0 rfl) ?_
          refine g_get X hW 0 rfl rfl inX0 3 (by decide) q_201 rfl dX0_whenEaten_33 ?_
          refine g_getN X hW 15 rfl rfl inX1 6 (by decide) nt_15 rfl dX0_whenEaten_36 ?_
          obtain ⟨u39, hu39, hM⟩ := bind_some hM
          refine g_callVi (rest := [.ref (aP 0), .ref (aTr 0)]) (gr := [wFc fc (aP 0) (aNw 0) (aGs 0) (aTr 0) (aO 0), wLine cI aNw Nw, wPlan cI aGs Gs, wLine cI aTr (yTr0_2, yTr1_2, yTr2_2, yTr3_2, yTr4_2, yTr5_2, yTr6_2, yTr7_2, yTr8_2), wOrd cI aO O]) X hl.1 hW (c_X3_rumourIn l G cI cZ cL N aP P yTr6_2 u39 hu39) q_498 q_617 q_496 q_497 q_56 hd_X3_rumourIn rfl ⟨Nat.le_of_ble_eq_true rfl, Nat.le_of_ble_eq_true rfl⟩ ⟨Nat.zero_le _, Nat.zero_le _⟩ [1] [0, 2, 3, 4, 5] [wFc fc (aP 0) (aNw 0) (aGs 0) (aTr 0) (aO 0), wPlan cI aP P, wLine cI aNw Nw, wPlan cI aGs Gs, wLine cI aTr (yTr0_2, yTr1_2, yTr2_2, yTr3_2, yTr4_2, yTr5_2, yTr6_2, yTr7_2, yTr8_2), wOrd cI aO O] ⟨pm_6_1, rfl, rfl, rfl⟩ ⟨pm_6_1, rfl, rfl, rfl⟩ (q0 := 1) rfl rfl rfl (Nat.le_of_ble_eq_true rfl) dX0_whenEaten_39 (fun H locs hW => ?_)
          refine lv_iload_n hx hb dX0_whenEaten_42 rfl (lv_at hl 2 rfl) ?_
          obtain ⟨u43, hu43, hM⟩ := bind_some hM
          refine g_callVv (rest := []) (gr := [wFc fc (aP 0) (aNw 0) (aGs 0) (aTr 0) (aO 0), wLine cI aNw Nw, wPlan cI aGs Gs, wOrd cI aO O]) X hl.1 hW (c_X1_goOn l G cI cZ cL N aTr aP (yTr0_2, yTr1_2, yTr2_2, yTr3_2, yTr4_2, yTr5_2, yTr6_2, yTr7_2, yTr8_2) P u39 p2 u43 hu43) q_502 q_618 q_500 q_501 q_58 hd_X1_goOn rfl ⟨Nat.le_of_ble_eq_true rfl, Nat.le_of_ble_eq_true rfl⟩ ⟨Nat.zero_le _, Nat.zero_le _⟩ [4, 1] [0, 2, 3, 5] [wFc fc (aP 0) (aNw 0) (aGs 0) (aTr 0) (aO 0), wPlan cI aP P, wLine cI aNw Nw, wPlan cI aGs Gs, wLine cI aTr u43, wOrd cI aO O] ⟨pm_6_4_1, rfl, rfl, rfl⟩ ⟨pm_6_4_1, rfl, rfl, rfl⟩ (q0 := 15) rfl rfl rfl (Nat.le_of_ble_eq_true rfl) dX0_whenEaten_43 (fun H locs hW => ?_)
          refine lv_aload_n hx hb dX0_whenEaten_46 rfl (lv_at hl 0 rfl) ?_
          refine g_get X hW 0 rfl rfl inX0 3 (by decide) q_201 rfl dX0_whenEaten_47 ?_
          refine lv_iload_n hx hb dX0_whenEaten_50 rfl (lv_at hl 1 rfl) ?_
          obtain ⟨u51, hu51, hM⟩ := bind_some hM
          refine g_callVi (rest := []) (gr := [wFc fc (aP 0) (aNw 0) (aGs 0) (aTr 0) (aO 0), wPlan cI aP P, wLine cI aNw Nw, wPlan cI aGs Gs, wOrd cI aO O]) X hl.1 hW (c_X1_whereIs l G cI cZ cL N aTr u43 p1 u51 hu51) q_450 q_616 q_448 q_449 q_58 hd_X1_whereIs rfl ⟨Nat.le_of_ble_eq_true rfl, Nat.le_of_ble_eq_true rfl⟩ ⟨Nat.zero_le _, Nat.zero_le _⟩ [4] [0, 1, 2, 3, 5] [wFc fc (aP 0) (aNw 0) (aGs 0) (aTr 0) (aO 0), wPlan cI aP P, wLine cI aNw Nw, wPlan cI aGs Gs, wLine cI aTr u43, wOrd cI aO O] ⟨pm_6_4, rfl, rfl, rfl⟩ ⟨pm_6_4, rfl, rfl, rfl⟩ (q0 := 15) rfl rfl rfl (Nat.le_of_ble_eq_true rfl) dX0_whenEaten_51 (fun H locs hW => ?_)
          refine lv_iconst (v := (3 : Int32)) hx hb dX0_whenEaten_54 (by decide) ?_
          refine lv_icmp_ne (tgt := 60) hx hb dX0_whenEaten_55 (by decide) (fun hc => ?_) (fun hc => ?_)
          · have hM := (if_neg hc).symm.trans hM
            refine lv_iinc (v := x3_2 + (1 : Int32)) (lv' := [(3, .int (x3_2 + (1 : Int32))), (0, .ref fc), (1, .int p1), (2, .int p2)]) hx hb dX0_whenEaten_60 hl (k := 3) rfl rfl (by decide) rfl (fun ls hl => ?_)
            refine lv_goto (tgt := 2) hx hb dX0_whenEaten_63 (by decide) ?_
            exact ih2 (x3_2 + (1 : Int32)) u43.1 u43.2.1 u43.2.2.1 u43.2.2.2.1 u43.2.2.2.2.1 u43.2.2.2.2.2.1 u43.2.2.2.2.2.2.1 u43.2.2.2.2.2.2.2.1 u43.2.2.2.2.2.2.2.2 _ _ _ hW (lv_sub hl [1, 2, 3, 0] rfl) hM
          · have hM := (if_pos hc).symm.trans hM
            refine lv_iload_n hx hb dX0_whenEaten_58 rfl (lv_at hl 3 rfl) ?_
            obtain rfl := Option.some.inj hM
            exact g_reti X hW rfl rfl dX0_whenEaten_59
  exact lp2 N (1 : Int32) Tr.1 Tr.2.1 Tr.2.2.1 Tr.2.2.2.1 Tr.2.2.2.2.1 Tr.2.2.2.2.2.1 Tr.2.2.2.2.2.2.1 Tr.2.2.2.2.2.2.2.1 Tr.2.2.2.2.2.2.2.2 _ _ _ hW (lv_sub hl [1, 2, 3, 0] rfl) hM

def MX0_move (N : Nat) (P : PlanV) (Tr : LineV) (p1 : Int32) (p2 : Int32) : Option ((Nat → Int32) × (Nat → Int32) × (Nat → Int32) × Int32) :=
  if p2 = 0 then ((MX1_goToHead N Tr p1).bind (fun u32 => some (u32.1, Tr.2.1, u32.2, Tr.2.2.2.2.2.1))) else ((MX1_goAway N Tr p1).bind (fun u9 => (MX1_join N (u9.1, u9.2.1, Tr.2.2.1, Tr.2.2.2.1, Tr.2.2.2.2.1, u9.2.2, Tr.2.2.2.2.2.2) P p1).bind (fun u21 => some (u21.1, u21.2.1, u21.2.2.1, u21.2.2.2))))
set_option maxHeartbeats 4000000 in
set_option maxRecDepth 100000 in
theorem c_X0_move (l : Launch) (G : va_G) (cI cZ cL : ClassId) (N : Nat) (fc : Nat) (aP : Nat → Nat) (aNw : Nat → Nat) (aGs : Nat → Nat) (aTr : Nat → Nat) (aO : Nat → Nat) (P : PlanV) (Nw : LineV) (Gs : PlanV) (Tr : LineV) (O : OrdV) (p1 : Int32) (p2 : Int32) (rr : (Nat → Int32) × (Nat → Int32) × (Nat → Int32) × Int32) (hM : MX0_move N P Tr p1 p2 = some rr) : CtV l yX0_move cX0_move 3 2 46 G cI cZ cL [.ref fc, .int p1, .int p2] [wFc fc (aP 0) (aNw 0) (aGs 0) (aTr 0) (aO 0), wPlan cI aP P, wLine cI aNw Nw, wPlan cI aGs Gs, wLine cI aTr Tr, wOrd cI aO O] [wFc fc (aP 0) (aNw 0) (aGs 0) (aTr 0) (aO 0), wPlan cI aP P, wLine cI aNw Nw, wPlan cI aGs Gs, wLine cI aTr (rr.1, rr.2.1, rr.2.2.1, Tr.2.2.2.1, Tr.2.2.2.2.1, rr.2.2.2, Tr.2.2.2.2.2.2), wOrd cI aO O] := by
  refine ct_body (fun A => qV G [wFc fc (aP 0) (aNw 0) (aGs 0) (aTr 0) (aO 0), wPlan cI aP P, wLine cI aNw Nw, wPlan cI aGs Gs, wLine cI aTr (rr.1, rr.2.1, rr.2.2.1, Tr.2.2.2.1, Tr.2.2.2.2.1, rr.2.2.2, Tr.2.2.2.2.2.2), wOrd cI aO O] A) (by decide) (Nat.le_of_ble_eq_true rfl) (fun p e s m below meth c A ls X hW hl => ?_)
  have hx := X.1
  have hb := X.2.1
  have hts := X.2.2.2.2.2.1
  have hown := X.2.2.2.2.2.2.1
  have hl : lv_has ls 3 [(0, .ref fc), (1, .int p1), (2, .int p2)] := hl
  unfold MX0_move at hM
  refine lv_iload_n hx hb dX0_move_0 rfl (lv_at hl 2 rfl) ?_
  refine lv_if_eq (tgt := 27) hx hb dX0_move_1 (by decide) (fun hc => ?_) (fun hc => ?_)
  · have hM := (if_pos hc).symm.trans hM
    refine lv_aload_n hx hb dX0_move_27 rfl (lv_at hl 0 rfl) ?_
    refine g_get X hW 0 rfl rfl inX0 3 (by decide) q_201 rfl dX0_move_28 ?_
    refine lv_iload_n hx hb dX0_move_31 rfl (lv_at hl 1 rfl) ?_
    obtain ⟨u32, hu32, hM⟩ := bind_some hM
    refine g_callVv (rest := []) (gr := [wFc fc (aP 0) (aNw 0) (aGs 0) (aTr 0) (aO 0), wPlan cI aP P, wLine cI aNw Nw, wPlan cI aGs Gs, wOrd cI aO O]) X hl.1 hW (c_X1_goToHead l G cI cZ cL N aTr Tr p1 u32 hu32) q_522 q_634 q_520 q_521 q_58 hd_X1_goToHead rfl ⟨Nat.le_of_ble_eq_true rfl, Nat.le_of_ble_eq_true rfl⟩ ⟨Nat.zero_le _, Nat.zero_le _⟩ [4] [0, 1, 2, 3, 5] [wFc fc (aP 0) (aNw 0) (aGs 0) (aTr 0) (aO 0), wPlan cI aP P, wLine cI aNw Nw, wPlan cI aGs Gs, wLine cI aTr (u32.1, Tr.2.1, u32.2, Tr.2.2.2), wOrd cI aO O] ⟨pm_6_4, rfl, rfl, rfl⟩ ⟨pm_6_4, rfl, rfl, rfl⟩ (q0 := 15) rfl rfl rfl (Nat.le_of_ble_eq_true rfl) dX0_move_32 (fun H locs hW => ?_)
    obtain rfl := Option.some.inj hM
    exact g_retv X hW dX0_move_35
  · have hM := (if_neg hc).symm.trans hM
    refine lv_aload_n hx hb dX0_move_4 rfl (lv_at hl 0 rfl) ?_
    refine g_get X hW 0 rfl rfl inX0 3 (by decide) q_201 rfl dX0_move_5 ?_
    refine lv_iload_n hx hb dX0_move_8 rfl (lv_at hl 1 rfl) ?_
    obtain ⟨u9, hu9, hM⟩ := bind_some hM
    refine g_callVv (rest := []) (gr := [wFc fc (aP 0) (aNw 0) (aGs 0) (aTr 0) (aO 0), wPlan cI aP P, wLine cI aNw Nw, wPlan cI aGs Gs, wOrd cI aO O]) X hl.1 hW (c_X1_goAway l G cI cZ cL N aTr Tr p1 u9 hu9) q_575 q_632 q_573 q_574 q_58 hd_X1_goAway rfl ⟨Nat.le_of_ble_eq_true rfl, Nat.le_of_ble_eq_true rfl⟩ ⟨Nat.zero_le _, Nat.zero_le _⟩ [4] [0, 1, 2, 3, 5] [wFc fc (aP 0) (aNw 0) (aGs 0) (aTr 0) (aO 0), wPlan cI aP P, wLine cI aNw Nw, wPlan cI aGs Gs, wLine cI aTr (u9.1, u9.2.1, Tr.2.2.1, Tr.2.2.2.1, Tr.2.2.2.2.1, u9.2.2, Tr.2.2.2.2.2.2), wOrd cI aO O] ⟨pm_6_4, rfl, rfl, rfl⟩ ⟨pm_6_4, rfl, rfl, rfl⟩ (q0 := 15) rfl rfl rfl (Nat.le_of_ble_eq_true rfl) dX0_move_9 (fun H locs hW => ?_)
    refine lv_aload_n hx hb dX0_move_12 rfl (lv_at hl 0 rfl) ?_
    refine g_get X hW 0 rfl rfl inX0 3 (by decide) q_201 rfl dX0_move_13 ?_
    refine lv_aload_n hx hb dX0_move_16 rfl (lv_at hl 0 rfl) ?_
    refine g_get X hW 0 rfl rfl inX0 0 (by decide) q_196 rfl dX0_move_17 ?_
    refine lv_iload_n hx hb dX0_move_20 rfl (lv_at hl 1 rfl) ?_
    obtain ⟨u21, hu21, hM⟩ := bind_some hM
    refine g_callVv (rest := []) (gr := [wFc fc (aP 0) (aNw 0) (aGs 0) (aTr 0) (aO 0), wLine cI aNw Nw, wPlan cI aGs Gs, wOrd cI aO O]) X hl.1 hW (c_X1_join l G cI cZ cL N aTr aP (u9.1, u9.2.1, Tr.2.2.1, Tr.2.2.2.1, Tr.2.2.2.2.1, u9.2.2, Tr.2.2.2.2.2.2) P p1 u21 hu21) q_510 q_633 q_508 q_509 q_58 hd_X1_join rfl ⟨Nat.le_of_ble_eq_true rfl, Nat.le_of_ble_eq_true rfl⟩ ⟨Nat.zero_le _, Nat.zero_le _⟩ [4, 1] [0, 2, 3, 5] [wFc fc (aP 0) (aNw 0) (aGs 0) (aTr 0) (aO 0), wPlan cI aP P, wLine cI aNw Nw, wPlan cI aGs Gs, wLine cI aTr (u21.1, u21.2.1, u21.2.2.1, Tr.2.2.2.1, Tr.2.2.2.2.1, u21.2.2.2, Tr.2.2.2.2.2.2), wOrd cI aO O] ⟨pm_6_4_1, rfl, rfl, rfl⟩ ⟨pm_6_4_1, rfl, rfl, rfl⟩ (q0 := 15) rfl rfl rfl (Nat.le_of_ble_eq_true rfl) dX0_move_21 (fun H locs hW => ?_)
    refine lv_goto (tgt := 35) hx hb dX0_move_24 (by decide) ?_
    obtain rfl := Option.some.inj hM
    exact g_retv X hW dX0_move_35

def MX0_whoGains_j75 (x2_75 : Int32) (yTr0_75 : (Nat → Int32)) (yTr1_75 : (Nat → Int32)) (yTr2_75 : (Nat → Int32)) (yTr3_75 : (Nat → Int32)) (yTr4_75 : (Nat → Int32)) (yTr5_75 : Int32) (yTr6_75 : Int32) (yTr7_75 : Int32) (yTr8_75 : Int32) : Option (Int32 × (Nat → Int32) × (Nat → Int32) × (Nat → Int32) × (Nat → Int32) × (Nat → Int32) × Int32 × Int32 × Int32 × Int32) :=
  some (x2_75, yTr0_75, yTr1_75, yTr2_75, yTr3_75, yTr4_75, yTr5_75, yTr6_75, yTr7_75, yTr8_75)
def MX0_whoGains_j69 (x3_4 : Int32) (rc4 : (Int32 → Int32 → (Nat → Int32) → (Nat → Int32) → (Nat → Int32) → (Nat → Int32) → (Nat → Int32) → Int32 → Int32 → Int32 → Int32 → Option (Int32 × (Nat → Int32) × (Nat → Int32) × (Nat → Int32) × (Nat → Int32) × (Nat → Int32) × Int32 × Int32 × Int32 × Int32))) (x2_69 : Int32) (yTr0_69 : (Nat → Int32)) (yTr1_69 : (Nat → Int32)) (yTr2_69 : (Nat → Int32)) (yTr3_69 : (Nat → Int32)) (yTr4_69 : (Nat → Int32)) (yTr5_69 : Int32) (yTr6_69 : Int32) (yTr7_69 : Int32) (yTr8_69 : Int32) : Option (Int32 × (Nat → Int32) × (Nat → Int32) × (Nat → Int32) × (Nat → Int32) × (Nat → Int32) × Int32 × Int32 × Int32 × Int32) :=
  rc4 x2_69 (x3_4 + (1 : Int32)) yTr0_69 yTr1_69 yTr2_69 yTr3_69 yTr4_69 yTr5_69 yTr6_69 yTr7_69 yTr8_69
def MX0_whoGains_l4 (N : Nat) (P : PlanV) (Nw : LineV) (p1 : Int32) : Nat → Int32 → Int32 → (Nat → Int32) → (Nat → Int32) → (Nat → Int32) → (Nat → Int32) → (Nat → Int32) → Int32 → Int32 → Int32 → Int32 → Option (Int32 × (Nat → Int32) × (Nat → Int32) × (Nat → Int32) × (Nat → Int32) × (Nat → Int32) × Int32 × Int32 × Int32 × Int32)
  | 0, _, _, _, _, _, _, _, _, _, _, _ => none
  | n4 + 1, x2_4, x3_4, yTr0_4, yTr1_4, yTr2_4, yTr3_4, yTr4_4, yTr5_4, yTr6_4, yTr7_4, yTr8_4 =>
    if P.2.2.2.1 ≤ x3_4 then (MX0_whoGains_j75 x2_4 yTr0_4 yTr1_4 yTr2_4 yTr3_4 yTr4_4 yTr5_4 yTr6_4 yTr7_4 yTr8_4) else ((MX1_whereIs N Nw x3_4).bind (fun u20 => if u20 = (1 : Int32) then ((MX0_startTrial N Nw (yTr0_4, yTr1_4, yTr2_4, yTr3_4, yTr4_4, yTr5_4, yTr6_4, yTr7_4, yTr8_4)).bind (fun u31 => (MX0_whenEaten N P u31 x3_4 (0 : Int32)).bind (fun u37 => (MX0_startTrial N Nw (u37.2.1, u37.2.2.1, u37.2.2.2.1, u37.2.2.2.2.1, u37.2.2.2.2.2.1, u37.2.2.2.2.2.2.1, u37.2.2.2.2.2.2.2.1, u37.2.2.2.2.2.2.2.2.1, u37.2.2.2.2.2.2.2.2.2)).bind (fun u43 => (MX0_move N P u43 x3_4 p1).bind (fun u49 => (MX0_whenEaten N P (u49.1, u49.2.1, u49.2.2.1, u43.2.2.2.1, u43.2.2.2.2.1, u49.2.2.2, u43.2.2.2.2.2.2.1, u43.2.2.2.2.2.2.2.1, u43.2.2.2.2.2.2.2.2) x3_4 (0 : Int32)).bind (fun u55 => if u37.1 ≤ u55.1 then (MX0_whoGains_j69 x3_4 (MX0_whoGains_l4 N P Nw p1 n4) x2_4 u55.2.1 u55.2.2.1 u55.2.2.2.1 u55.2.2.2.2.1 u55.2.2.2.2.2.1 u55.2.2.2.2.2.2.1 u55.2.2.2.2.2.2.2.1 u55.2.2.2.2.2.2.2.2.1 u55.2.2.2.2.2.2.2.2.2) else (MLet (x2_4 ||| ((1 : Int32) <<< (x3_4 &&& 31))) (fun z68 => MX0_whoGains_j69 x3_4 (MX0_whoGains_l4 N P Nw p1 n4) z68 u55.2.1 u55.2.2.1 u55.2.2.2.1 u55.2.2.2.2.1 u55.2.2.2.2.2.1 u55.2.2.2.2.2.2.1 u55.2.2.2.2.2.2.2.1 u55.2.2.2.2.2.2.2.2.1 u55.2.2.2.2.2.2.2.2.2)))))))) else (MX0_whoGains_j69 x3_4 (MX0_whoGains_l4 N P Nw p1 n4) x2_4 yTr0_4 yTr1_4 yTr2_4 yTr3_4 yTr4_4 yTr5_4 yTr6_4 yTr7_4 yTr8_4)))
def MX0_whoGains (N : Nat) (P : PlanV) (Nw : LineV) (Tr : LineV) (p1 : Int32) : Option (Int32 × (Nat → Int32) × (Nat → Int32) × (Nat → Int32) × (Nat → Int32) × (Nat → Int32) × Int32 × Int32 × Int32 × Int32) :=
  MX0_whoGains_l4 N P Nw p1 N (0 : Int32) (0 : Int32) Tr.1 Tr.2.1 Tr.2.2.1 Tr.2.2.2.1 Tr.2.2.2.2.1 Tr.2.2.2.2.2.1 Tr.2.2.2.2.2.2.1 Tr.2.2.2.2.2.2.2.1 Tr.2.2.2.2.2.2.2.2
set_option maxHeartbeats 4000000 in
set_option maxRecDepth 100000 in
theorem c_X0_whoGains (l : Launch) (G : va_G) (cI cZ cL : ClassId) (N : Nat) (fc : Nat) (aP : Nat → Nat) (aNw : Nat → Nat) (aGs : Nat → Nat) (aTr : Nat → Nat) (aO : Nat → Nat) (P : PlanV) (Nw : LineV) (Gs : PlanV) (Tr : LineV) (O : OrdV) (p1 : Int32) (rr : Int32 × (Nat → Int32) × (Nat → Int32) × (Nat → Int32) × (Nat → Int32) × (Nat → Int32) × Int32 × Int32 × Int32 × Int32) (hM : MX0_whoGains N P Nw Tr p1 = some rr) : CtI l yX0_whoGains cX0_whoGains 5 .int 5 115 G cI cZ cL [.ref fc, .int p1] [wFc fc (aP 0) (aNw 0) (aGs 0) (aTr 0) (aO 0), wPlan cI aP P, wLine cI aNw Nw, wPlan cI aGs Gs, wLine cI aTr Tr, wOrd cI aO O] rr.1 [wFc fc (aP 0) (aNw 0) (aGs 0) (aTr 0) (aO 0), wPlan cI aP P, wLine cI aNw Nw, wPlan cI aGs Gs, wLine cI aTr (rr.2.1, rr.2.2.1, rr.2.2.2.1, rr.2.2.2.2.1, rr.2.2.2.2.2.1, rr.2.2.2.2.2.2.1, rr.2.2.2.2.2.2.2.1, rr.2.2.2.2.2.2.2.2.1, rr.2.2.2.2.2.2.2.2.2), wOrd cI aO O] := by
  refine ct_body (fun A => qI G rr.1 [wFc fc (aP 0) (aNw 0) (aGs 0) (aTr 0) (aO 0), wPlan cI aP P, wLine cI aNw Nw, wPlan cI aGs Gs, wLine cI aTr (rr.2.1, rr.2.2.1, rr.2.2.2.1, rr.2.2.2.2.1, rr.2.2.2.2.2.1, rr.2.2.2.2.2.2.1, rr.2.2.2.2.2.2.2.1, rr.2.2.2.2.2.2.2.2.1, rr.2.2.2.2.2.2.2.2.2), wOrd cI aO O] A) (by decide) (Nat.le_of_ble_eq_true rfl) (fun p e s m below meth c A ls X hW hl => ?_)
  have hx := X.1
  have hb := X.2.1
  have hts := X.2.2.2.2.2.1
  have hown := X.2.2.2.2.2.2.1
  have hl : lv_has ls 5 [(0, .ref fc), (1, .int p1)] := hl
  unfold MX0_whoGains at hM
  refine lv_iconst (v := (0 : Int32)) hx hb dX0_whoGains_0 (by decide) ?_
  refine lv_istore_n (lv' := [(2, .int (0 : Int32)), (0, .ref fc), (1, .int p1)]) hx hb dX0_whoGains_1 rfl hl (by decide) rfl (fun ls hl => ?_)
  refine lv_iconst (v := (0 : Int32)) hx hb dX0_whoGains_2 (by decide) ?_
  refine lv_istore_n (lv' := [(3, .int (0 : Int32)), (2, .int (0 : Int32)), (0, .ref fc), (1, .int p1)]) hx hb dX0_whoGains_3 rfl hl (by decide) rfl (fun ls hl => ?_)
  have j75 : ∀ (x2_75 : Int32) (yTr0_75 : (Nat → Int32)) (yTr1_75 : (Nat → Int32)) (yTr2_75 : (Nat → Int32)) (yTr3_75 : (Nat → Int32)) (yTr4_75 : (Nat → Int32)) (yTr5_75 : Int32) (yTr6_75 : Int32) (yTr7_75 : Int32) (yTr8_75 : Int32) (H : Heap) (locs : List Loc) (ls : Array Slot), Wd G A s [wFc fc (aP 0) (aNw 0) (aGs 0) (aTr 0) (aO 0), wPlan cI aP P, wLine cI aNw Nw, wPlan cI aGs Gs, wLine cI aTr (yTr0_75, yTr1_75, yTr2_75, yTr3_75, yTr4_75, yTr5_75, yTr6_75, yTr7_75, yTr8_75), wOrd cI aO O] H locs → lv_has ls 5 [(2, .int x2_75)] → MX0_whoGains_j75 x2_75 yTr0_75 yTr1_75 yTr2_75 yTr3_75 yTr4_75 yTr5_75 yTr6_75 yTr7_75 yTr8_75 = some rr → W p l e (rmO 5 115) s m ([.ref fc, .int p1] : List Value).toArray below meth c H locs 0 0 (MQ below (qI G rr.1 [wFc fc (aP 0) (aNw 0) (aGs 0) (aTr 0) (aO 0), wPlan cI aP P, wLine cI aNw Nw, wPlan cI aGs Gs, wLine cI aTr (rr.2.1, rr.2.2.1, rr.2.2.2.1, rr.2.2.2.2.1, rr.2.2.2.2.2.1, rr.2.2.2.2.2.2.1, rr.2.2.2.2.2.2.2.1, rr.2.2.2.2.2.2.2.2.1, rr.2.2.2.2.2.2.2.2.2), wOrd cI aO O] A) ([.ref fc, .int p1] : List Value).toArray s 0 0 A) (F0 m 75 ls []) := by
    intro x2_75 yTr0_75 yTr1_75 yTr2_75 yTr3_75 yTr4_75 yTr5_75 yTr6_75 yTr7_75 yTr8_75 H locs ls hW hl hM
    unfold MX0_whoGains_j75 at hM
    refine lv_iload_n hx hb dX0_whoGains_75 rfl (lv_at hl 0 rfl) ?_
    obtain rfl := Option.some.inj hM
    exact g_reti X hW rfl rfl dX0_whoGains_76
  have lp4 : ∀ (n4 : Nat) (x2_4 : Int32) (x3_4 : Int32) (yTr0_4 : (Nat → Int32)) (yTr1_4 : (Nat → Int32)) (yTr2_4 : (Nat → Int32)) (yTr3_4 : (Nat → Int32)) (yTr4_4 : (Nat → Int32)) (yTr5_4 : Int32) (yTr6_4 : Int32) (yTr7_4 : Int32) (yTr8_4 : Int32) (H : Heap) (locs : List Loc) (ls : Array Slot), Wd G A s [wFc fc (aP 0) (aNw 0) (aGs 0) (aTr 0) (aO 0), wPlan cI aP P, wLine cI aNw Nw, wPlan cI aGs Gs, wLine cI aTr (yTr0_4, yTr1_4, yTr2_4, yTr3_4, yTr4_4, yTr5_4, yTr6_4, yTr7_4, yTr8_4), wOrd cI aO O] H locs → lv_has ls 5 [(0, .ref fc), (1, .int p1), (2, .int x2_4), (3, .int x3_4)] → MX0_whoGains_l4 N P Nw p1 n4 x2_4 x3_4 yTr0_4 yTr1_4 yTr2_4 yTr3_4 yTr4_4 yTr5_4 yTr6_4 yTr7_4 yTr8_4 = some rr → W p l e (rmO 5 115) s m ([.ref fc, .int p1] : List Value).toArray below meth c H locs 0 0 (MQ below (qI G rr.1 [wFc fc (aP 0) (aNw 0) (aGs 0) (aTr 0) (aO 0), wPlan cI aP P, wLine cI aNw Nw, wPlan cI aGs Gs, wLine cI aTr (rr.2.1, rr.2.2.1, rr.2.2.2.1, rr.2.2.2.2.1, rr.2.2.2.2.2.1, rr.2.2.2.2.2.2.1, rr.2.2.2.2.2.2.2.1, rr.2.2.2.2.2.2.2.2.1, rr.2.2.2.2.2.2.2.2.2), wOrd cI aO O] A) ([.ref fc, .int p1] : List Value).toArray s 0 0 A) (F0 m 4 ls []) := by
    intro n4
    induction n4 with
    | zero =>
      intro x2_4 x3_4 yTr0_4 yTr1_4 yTr2_4 yTr3_4 yTr4_4 yTr5_4 yTr6_4 yTr7_4 yTr8_4 H locs ls hW hl hM
      rw [MX0_whoGains_l4] at hM
      cases hM
    | succ n4 ih4 =>
      intro x2_4 x3_4 yTr0_4 yTr1_4 yTr2_4 yTr3_4 yTr4_4 yTr5_4 yTr6_4 yTr7_4 yTr8_4 H locs ls hW hl hM
      rw [MX0_whoGains_l4] at hM
      refine lv_iload_n hx hb dX0_whoGains_4 rfl (lv_at hl 3 rfl) ?_
      refine lv_aload_n hx hb dX0_whoGains_5 rfl (lv_at hl 0 rfl) ?_
      refine g_get X hW 0 rfl rfl inX0 0 (by decide) q_196 rfl dX0_whoGains_6 ?_
      refine g_getN X hW 1 rfl rfl inX3 3 (by decide) nt_6 rfl dX0_whoGains_9 ?_
      refine lv_icmp_ge (tgt := 75) hx hb dX0_whoGains_12 (by decide) (fun hc => ?_) (fun hc => ?_)
      · have hM := (if_pos hc).symm.trans hM
        exact j75 x2_4 yTr0_4 yTr1_4 yTr2_4 yTr3_4 yTr4_4 yTr5_4 yTr6_4 yTr7_4 yTr8_4 _ _ _ hW (lv_sub hl [2] rfl) hM
      · have hM := (if_neg hc).symm.trans hM
        refine lv_aload_n hx hb dX0_whoGains_15 rfl (lv_at hl 0 rfl) ?_
        refine g_get X hW 0 rfl rfl inX0 1 (by decide) q_198 rfl dX0_whoGains_16 ?_
        refine lv_iload_n hx hb dX0_whoGains_19 rfl (lv_at hl 3 rfl) ?_
        obtain ⟨u20, hu20, hM⟩ := bind_some hM
        refine g_callVi (rest := []) (gr := [wFc fc (aP 0) (aNw 0) (aGs 0) (aTr 0) (aO 0), wPlan cI aP P, wPlan cI aGs Gs, wLine cI aTr (yTr0_4, yTr1_4, yTr2_4, yTr3_4, yTr4_4, yTr5_4, yTr6_4, yTr7_4, yTr8_4), wOrd cI aO O]) X hl.1 hW (c_X1_whereIs l G cI cZ cL N aNw Nw x3_4 u20 hu20) q_450 q_616 q_448 q_449 q_58 hd_X1_whereIs rfl ⟨Nat.le_of_ble_eq_true rfl, Nat.le_of_ble_eq_true rfl⟩ ⟨Nat.zero_le _, Nat.zero_le _⟩ [2] [0, 1, 3, 4, 5] [wFc fc (aP 0) (aNw 0) (aGs 0) (aTr 0) (aO 0), wPlan cI aP P, wLine cI aNw Nw, wPlan cI aGs Gs, wLine cI aTr (yTr0_4, yTr1_4, yTr2_4, yTr3_4, yTr4_4, yTr5_4, yTr6_4, yTr7_4, yTr8_4), wOrd cI aO O] ⟨pm_6_2, rfl, rfl, rfl⟩ ⟨pm_6_2, rfl, rfl, rfl⟩ (q0 := 5) rfl rfl rfl (Nat.le_of_ble_eq_true rfl) dX0_whoGains_20 (fun H locs hW => ?_)
        refine lv_iconst (v := (1 : Int32)) hx hb dX0_whoGains_23 (by decide) ?_
        have j69 : ∀ (x2_69 : Int32) (yTr0_69 : (Nat → Int32)) (yTr1_69 : (Nat → Int32)) (yTr2_69 : (Nat → Int32)) (yTr3_69 : (Nat → Int32)) (yTr4_69 : (Nat → Int32)) (yTr5_69 : Int32) (yTr6_69 : Int32) (yTr7_69 : Int32) (yTr8_69 : Int32) (H : Heap) (locs : List Loc) (ls : Array Slot), Wd G A s [wFc fc (aP 0) (aNw 0) (aGs 0) (aTr 0) (aO 0), wPlan cI aP P, wLine cI aNw Nw, wPlan cI aGs Gs, wLine cI aTr (yTr0_69, yTr1_69, yTr2_69, yTr3_69, yTr4_69, yTr5_69, yTr6_69, yTr7_69, yTr8_69), wOrd cI aO O] H locs → lv_has ls 5 [(0, .ref fc), (1, .int p1), (2, .int x2_69), (3, .int x3_4)] → MX0_whoGains_j69 x3_4 (MX0_whoGains_l4 N P Nw p1 n4) x2_69 yTr0_69 yTr1_69 yTr2_69 yTr3_69 yTr4_69 yTr5_69 yTr6_69 yTr7_69 yTr8_69 = some rr → W p l e (rmO 5 115) s m ([.ref fc, .int p1] : List Value).toArray below meth c H locs 0 0 (MQ below (qI G rr.1 [wFc fc (aP 0) (aNw 0) (aGs 0) (aTr 0) (aO 0), wPlan cI aP P, wLine cI aNw Nw, wPlan cI aGs Gs, wLine cI aTr (rr.2.1, rr.2.2.1, rr.2.2.2.1, rr.2.2.2.2.1, rr.2.2.2.2.2.1, rr.2.2.2.2.2.2.1, rr.2.2.2.2.2.2.2.1, rr.2.2.2.2.2.2.2.2.1, rr.2.2.2.2.2.2.2.2.2), wOrd cI aO O] A) ([.ref fc, .int p1] : List Value).toArray s 0 0 A) (F0 m 69 ls []) := by
          intro x2_69 yTr0_69 yTr1_69 yTr2_69 yTr3_69 yTr4_69 yTr5_69 yTr6_69 yTr7_69 yTr8_69 H locs ls hW hl hM
          unfold MX0_whoGains_j69 at hM
          refine lv_iinc (v := x3_4 + (1 : Int32)) (lv' := [(3, .int (x3_4 + (1 : Int32))), (0, .ref fc), (1, .int p1), (2, .int x2_69)]) hx hb dX0_whoGains_69 hl (k := 3) rfl rfl (by decide) rfl (fun ls hl => ?_)
          refine lv_goto (tgt := 4) hx hb dX0_whoGains_72 (by decide) ?_
          exact ih4 x2_69 (x3_4 + (1 : Int32)) yTr0_69 yTr1_69 yTr2_69 yTr3_69 yTr4_69 yTr5_69 yTr6_69 yTr7_69 yTr8_69 _ _ _ hW (lv_sub hl [1, 2, 3, 0] rfl) hM
        refine lv_icmp_eq (tgt := 30) hx hb dX0_whoGains_24 (by decide) (fun hc => ?_) (fun hc => ?_)
        · have hM := (if_pos hc).symm.trans hM
          refine lv_aload_n hx hb dX0_whoGains_30 rfl (lv_at hl 0 rfl) ?_
          obtain ⟨u31, hu31, hM⟩ := bind_some hM
          refine g_callVv (rest := []) (gr := []) X hl.1 hW (c_X0_startTrial l G cI cZ cL N fc aP aNw aGs aTr aO P Nw Gs (yTr0_4, yTr1_4, yTr2_4, yTr3_4, yTr4_4, yTr5_4, yTr6_4, yTr7_4, yTr8_4) O u31 hu31) q_600 q_597 q_598 q_599 q_57 hd_X0_startTrial rfl ⟨Nat.le_of_ble_eq_true rfl, Nat.le_of_ble_eq_true rfl⟩ ⟨Nat.zero_le _, Nat.zero_le _⟩ [0, 1, 2, 3, 4, 5] [] [wFc fc (aP 0) (aNw 0) (aGs 0) (aTr 0) (aO 0), wPlan cI aP P, wLine cI aNw Nw, wPlan cI aGs Gs, wLine cI aTr u31, wOrd cI aO O] ⟨pm_6_0_1_2_3_4_5, rfl, rfl, rfl⟩ ⟨pm_6_0_1_2_3_4_5, rfl, rfl, rfl⟩ (q0 := 0) rfl rfl rfl (Nat.le_of_ble_eq_true rfl) dX0_whoGains_31 (fun H locs hW => ?_)
          refine lv_aload_n hx hb dX0_whoGains_34 rfl (lv_at hl 0 rfl) ?_
          refine lv_iload_n hx hb dX0_whoGains_35 rfl (lv_at hl 3 rfl) ?_
          refine lv_iconst (v := (0 : Int32)) hx hb dX0_whoGains_36 (by decide) ?_
          obtain ⟨u37, hu37, hM⟩ := bind_some hM
          refine g_callVi (rest := []) (gr := []) X hl.1 hW (c_X0_whenEaten l G cI cZ cL N fc aP aNw aGs aTr aO P Nw Gs u31 O x3_4 (0 : Int32) u37 hu37) q_615 q_627 q_613 q_614 q_57 hd_X0_whenEaten rfl ⟨Nat.le_of_ble_eq_true rfl, Nat.le_of_ble_eq_true rfl⟩ ⟨Nat.zero_le _, Nat.zero_le _⟩ [0, 1, 2, 3, 4, 5] [] [wFc fc (aP 0) (aNw 0) (aGs 0) (aTr 0) (aO 0), wPlan cI aP P, wLine cI aNw Nw, wPlan cI aGs Gs, wLine cI aTr (u37.2.1, u37.2.2.1, u37.2.2.2.1, u37.2.2.2.2.1, u37.2.2.2.2.2.1, u37.2.2.2.2.2.2.1, u37.2.2.2.2.2.2.2.1, u37.2.2.2.2.2.2.2.2.1, u37.2.2.2.2.2.2.2.2.2), wOrd cI aO O] ⟨pm_6_0_1_2_3_4_5, rfl, rfl, rfl⟩ ⟨pm_6_0_1_2_3_4_5, rfl, rfl, rfl⟩ (q0 := 0) rfl rfl rfl (Nat.le_of_ble_eq_true rfl) dX0_whoGains_37 (fun H locs hW => ?_)
          refine lv_istore (lv' := [(4, .int u37.1), (0, .ref fc), (1, .int p1), (2, .int x2_4), (3, .int x3_4)]) hx hb dX0_whoGains_40 hl (by decide) rfl (fun ls hl => ?_)
          refine lv_aload_n hx hb dX0_whoGains_42 rfl (lv_at hl 1 rfl) ?_
          obtain ⟨u43, hu43, hM⟩ := bind_some hM
          refine g_callVv (rest := []) (gr := []) X hl.1 hW (c_X0_startTrial l G cI cZ cL N fc aP aNw aGs aTr aO P Nw Gs (u37.2.1, u37.2.2.1, u37.2.2.2.1, u37.2.2.2.2.1, u37.2.2.2.2.2.1, u37.2.2.2.2.2.2.1, u37.2.2.2.2.2.2.2.1, u37.2.2.2.2.2.2.2.2.1, u37.2.2.2.2.2.2.2.2.2) O u43 hu43) q_600 q_597 q_598 q_599 q_57 hd_X0_startTrial rfl ⟨Nat.le_of_ble_eq_true rfl, Nat.le_of_ble_eq_true rfl⟩ ⟨Nat.zero_le _, Nat.zero_le _⟩ [0, 1, 2, 3, 4, 5] [] [wFc fc (aP 0) (aNw 0) (aGs 0) (aTr 0) (aO 0), wPlan cI aP P, wLine cI aNw Nw, wPlan cI aGs Gs, wLine cI aTr u43, wOrd cI aO O] ⟨pm_6_0_1_2_3_4_5, rfl, rfl, rfl⟩ ⟨pm_6_0_1_2_3_4_5, rfl, rfl, rfl⟩ (q0 := 0) rfl rfl rfl (Nat.le_of_ble_eq_true rfl) dX0_whoGains_43 (fun H locs hW => ?_)
          refine lv_aload_n hx hb dX0_whoGains_46 rfl (lv_at hl 1 rfl) ?_
          refine lv_iload_n hx hb dX0_whoGains_47 rfl (lv_at hl 4 rfl) ?_
          refine lv_iload_n hx hb dX0_whoGains_48 rfl (lv_at hl 2 rfl) ?_
          obtain ⟨u49, hu49, hM⟩ := bind_some hM
          refine g_callVv (rest := []) (gr := []) X hl.1 hW (c_X0_move l G cI cZ cL N fc aP aNw aGs aTr aO P Nw Gs u43 O x3_4 p1 u49 hu49) q_631 q_628 q_630 q_13 q_57 hd_X0_move rfl ⟨Nat.le_of_ble_eq_true rfl, Nat.le_of_ble_eq_true rfl⟩ ⟨Nat.zero_le _, Nat.zero_le _⟩ [0, 1, 2, 3, 4, 5] [] [wFc fc (aP 0) (aNw 0) (aGs 0) (aTr 0) (aO 0), wPlan cI aP P, wLine cI aNw Nw, wPlan cI aGs Gs, wLine cI aTr (u49.1, u49.2.1, u49.2.2.1, u43.2.2.2.1, u43.2.2.2.2.1, u49.2.2.2, u43.2.2.2.2.2.2.1, u43.2.2.2.2.2.2.2.1, u43.2.2.2.2.2.2.2.2), wOrd cI aO O] ⟨pm_6_0_1_2_3_4_5, rfl, rfl, rfl⟩ ⟨pm_6_0_1_2_3_4_5, rfl, rfl, rfl⟩ (q0 := 0) rfl rfl rfl (Nat.le_of_ble_eq_true rfl) dX0_whoGains_49 (fun H locs hW => ?_)
          refine lv_aload_n hx hb dX0_whoGains_52 rfl (lv_at hl 1 rfl) ?_
          refine lv_iload_n hx hb dX0_whoGains_53 rfl (lv_at hl 4 rfl) ?_
          refine lv_iconst (v := (0 : Int32)) hx hb dX0_whoGains_54 (by decide) ?_
          obtain ⟨u55, hu55, hM⟩ := bind_some hM
          refine g_callVi (rest := []) (gr := []) X hl.1 hW (c_X0_whenEaten l G cI cZ cL N fc aP aNw aGs aTr aO P Nw Gs (u49.1, u49.2.1, u49.2.2.1, u43.2.2.2.1, u43.2.2.2.2.1, u49.2.2.2, u43.2.2.2.2.2.2.1, u43.2.2.2.2.2.2.2.1, u43.2.2.2.2.2.2.2.2) O x3_4 (0 : Int32) u55 hu55) q_615 q_627 q_613 q_614 q_57 hd_X0_whenEaten rfl ⟨Nat.le_of_ble_eq_true rfl, Nat.le_of_ble_eq_true rfl⟩ ⟨Nat.zero_le _, Nat.zero_le _⟩ [0, 1, 2, 3, 4, 5] [] [wFc fc (aP 0) (aNw 0) (aGs 0) (aTr 0) (aO 0), wPlan cI aP P, wLine cI aNw Nw, wPlan cI aGs Gs, wLine cI aTr (u55.2.1, u55.2.2.1, u55.2.2.2.1, u55.2.2.2.2.1, u55.2.2.2.2.2.1, u55.2.2.2.2.2.2.1, u55.2.2.2.2.2.2.2.1, u55.2.2.2.2.2.2.2.2.1, u55.2.2.2.2.2.2.2.2.2), wOrd cI aO O] ⟨pm_6_0_1_2_3_4_5, rfl, rfl, rfl⟩ ⟨pm_6_0_1_2_3_4_5, rfl, rfl, rfl⟩ (q0 := 0) rfl rfl rfl (Nat.le_of_ble_eq_true rfl) dX0_whoGains_55 (fun H locs hW => ?_)
          refine lv_iload hx hb dX0_whoGains_58 (lv_at hl 0 rfl) ?_
          refine lv_icmp_ge (tgt := 69) hx hb dX0_whoGains_60 (by decide) (fun hc => ?_) (fun hc => ?_)
          · have hM := (if_pos hc).symm.trans hM
            exact j69 x2_4 u55.2.1 u55.2.2.1 u55.2.2.2.1 u55.2.2.2.2.1 u55.2.2.2.2.2.1 u55.2.2.2.2.2.2.1 u55.2.2.2.2.2.2.2.1 u55.2.2.2.2.2.2.2.2.1 u55.2.2.2.2.2.2.2.2.2 _ _ _ hW (lv_sub hl [1, 2, 3, 4] rfl) hM
          · have hM := (if_neg hc).symm.trans hM
            refine lv_iload_n hx hb dX0_whoGains_63 rfl (lv_at hl 3 rfl) ?_
            refine lv_iconst (v := (1 : Int32)) hx hb dX0_whoGains_64 (by decide) ?_
            refine lv_iload_n hx hb dX0_whoGains_65 rfl (lv_at hl 4 rfl) ?_
            refine lv_ishl hx hb dX0_whoGains_66 ?_
            refine lv_ior hx hb dX0_whoGains_67 ?_
            refine lv_topi (fun z68 ez68 => ?_)
            have hM := MLet_some hM z68 ez68
            refine lv_istore_n (lv' := [(2, .int z68), (4, .int u37.1), (0, .ref fc), (1, .int p1), (3, .int x3_4)]) hx hb dX0_whoGains_68 rfl hl (by decide) rfl (fun ls hl => ?_)
            exact j69 z68 u55.2.1 u55.2.2.1 u55.2.2.2.1 u55.2.2.2.2.1 u55.2.2.2.2.2.1 u55.2.2.2.2.2.2.1 u55.2.2.2.2.2.2.2.1 u55.2.2.2.2.2.2.2.2.1 u55.2.2.2.2.2.2.2.2.2 _ _ _ hW (lv_sub hl [2, 3, 0, 4] rfl) hM
        · have hM := (if_neg hc).symm.trans hM
          refine lv_goto (tgt := 69) hx hb dX0_whoGains_27 (by decide) ?_
          exact j69 x2_4 yTr0_4 yTr1_4 yTr2_4 yTr3_4 yTr4_4 yTr5_4 yTr6_4 yTr7_4 yTr8_4 _ _ _ hW (lv_sub hl [0, 1, 2, 3] rfl) hM
  exact lp4 N (0 : Int32) (0 : Int32) Tr.1 Tr.2.1 Tr.2.2.1 Tr.2.2.2.1 Tr.2.2.2.2.1 Tr.2.2.2.2.2.1 Tr.2.2.2.2.2.2.1 Tr.2.2.2.2.2.2.2.1 Tr.2.2.2.2.2.2.2.2 _ _ _ hW (lv_sub hl [2, 3, 1, 0] rfl) hM

def MX0_longestWaitInOrder_j76 (N : Nat) (Nw : LineV) (O : OrdV) (u15 : (Nat → Int32)) (yTr0_76 : (Nat → Int32)) (yTr1_76 : (Nat → Int32)) (yTr2_76 : (Nat → Int32)) (yTr3_76 : (Nat → Int32)) (yTr4_76 : (Nat → Int32)) (yTr5_76 : Int32) (yTr6_76 : Int32) (yTr7_76 : Int32) (yTr8_76 : Int32) : Option (Int32 × (Nat → Int32) × (Nat → Int32) × (Nat → Int32) × (Nat → Int32) × (Nat → Int32) × (Nat → Int32) × Int32 × Int32 × Int32 × Int32) :=
  (MX2_longestWait N O (yTr0_76, yTr1_76, yTr2_76, yTr3_76, yTr4_76, yTr5_76, yTr6_76, yTr7_76, yTr8_76) Nw.2.2.2.2.2.2.1).bind (fun u91 => some (u91, u15, yTr0_76, yTr1_76, yTr2_76, yTr3_76, yTr4_76, yTr5_76, yTr6_76, yTr7_76, yTr8_76))
def MX0_longestWaitInOrder_l24 (N : Nat) (Nw : LineV) (Gs : PlanV) (O : OrdV) (u15 : (Nat → Int32)) : Nat → Int32 → (Nat → Int32) → (Nat → Int32) → (Nat → Int32) → (Nat → Int32) → (Nat → Int32) → Int32 → Int32 → Int32 → Int32 → Option (Int32 × (Nat → Int32) × (Nat → Int32) × (Nat → Int32) × (Nat → Int32) × (Nat → Int32) × (Nat → Int32) × Int32 × Int32 × Int32 × Int32)
  | 0, _, _, _, _, _, _, _, _, _, _ => none
  | n24 + 1, x1_24, yTr0_24, yTr1_24, yTr2_24, yTr3_24, yTr4_24, yTr5_24, yTr6_24, yTr7_24, yTr8_24 =>
    if (99 : Int32) ≤ x1_24 then (MX0_longestWaitInOrder_j76 N Nw O u15 yTr0_24 yTr1_24 yTr2_24 yTr3_24 yTr4_24 yTr5_24 yTr6_24 yTr7_24 yTr8_24) else ((MX2_allAte N O (yTr0_24, yTr1_24, yTr2_24, yTr3_24, yTr4_24, yTr5_24, yTr6_24, yTr7_24, yTr8_24)).bind (fun u38 => if u38 = 0 then ((MX3_rumourIn N (Gs.1, u15, Gs.2.2) yTr6_24).bind (fun u63 => (MX1_goOn N (yTr0_24, yTr1_24, yTr2_24, yTr3_24, yTr4_24, yTr5_24, yTr6_24, yTr7_24, yTr8_24) (Gs.1, u15, Gs.2.2) u63 (0 : Int32)).bind (fun u67 => (MX0_longestWaitInOrder_l24 N Nw Gs O u15 n24) (x1_24 + (1 : Int32)) u67.1 u67.2.1 u67.2.2.1 u67.2.2.2.1 u67.2.2.2.2.1 u67.2.2.2.2.2.1 u67.2.2.2.2.2.2.1 u67.2.2.2.2.2.2.2.1 u67.2.2.2.2.2.2.2.2))) else (MX0_longestWaitInOrder_j76 N Nw O u15 yTr0_24 yTr1_24 yTr2_24 yTr3_24 yTr4_24 yTr5_24 yTr6_24 yTr7_24 yTr8_24)))
def MX0_longestWaitInOrder (N : Nat) (Nw : LineV) (Gs : PlanV) (Tr : LineV) (O : OrdV) : Option (Int32 × (Nat → Int32) × (Nat → Int32) × (Nat → Int32) × (Nat → Int32) × (Nat → Int32) × (Nat → Int32) × Int32 × Int32 × Int32 × Int32) :=
  (MX2_tellComings N O Gs Nw.2.2.2.2.2.2.1).bind (fun u15 => (MX0_startTrial N Nw Tr).bind (fun u19 => MX0_longestWaitInOrder_l24 N Nw Gs O u15 N (0 : Int32) u19.1 u19.2.1 u19.2.2.1 u19.2.2.2.1 u19.2.2.2.2.1 u19.2.2.2.2.2.1 u19.2.2.2.2.2.2.1 u19.2.2.2.2.2.2.2.1 u19.2.2.2.2.2.2.2.2))
set_option maxHeartbeats 4000000 in
set_option maxRecDepth 100000 in
theorem c_X0_longestWaitInOrder (l : Launch) (G : va_G) (cI cZ cL : ClassId) (N : Nat) (fc : Nat) (aP : Nat → Nat) (aNw : Nat → Nat) (aGs : Nat → Nat) (aTr : Nat → Nat) (aO : Nat → Nat) (P : PlanV) (Nw : LineV) (Gs : PlanV) (Tr : LineV) (O : OrdV) (rr : Int32 × (Nat → Int32) × (Nat → Int32) × (Nat → Int32) × (Nat → Int32) × (Nat → Int32) × (Nat → Int32) × Int32 × Int32 × Int32 × Int32) (hM : MX0_longestWaitInOrder N Nw Gs Tr O = some rr) : CtI l yX0_longestWaitInOrder cX0_longestWaitInOrder 2 .int 4 92 G cI cZ cL [.ref fc] [wFc fc (aP 0) (aNw 0) (aGs 0) (aTr 0) (aO 0), wPlan cI aP P, wLine cI aNw Nw, wPlan cI aGs Gs, wLine cI aTr Tr, wOrd cI aO O] rr.1 [wFc fc (aP 0) (aNw 0) (aGs 0) (aTr 0) (aO 0), wPlan cI aP P, wLine cI aNw Nw, wPlan cI aGs (Gs.1, rr.2.1, Gs.2.2), wLine cI aTr (rr.2.2.1, rr.2.2.2.1, rr.2.2.2.2.1, rr.2.2.2.2.2.1, rr.2.2.2.2.2.2.1, rr.2.2.2.2.2.2.2.1, rr.2.2.2.2.2.2.2.2.1, rr.2.2.2.2.2.2.2.2.2.1, rr.2.2.2.2.2.2.2.2.2.2), wOrd cI aO O] := by
  refine ct_body (fun A => qI G rr.1 [wFc fc (aP 0) (aNw 0) (aGs 0) (aTr 0) (aO 0), wPlan cI aP P, wLine cI aNw Nw, wPlan cI aGs (Gs.1, rr.2.1, Gs.2.2), wLine cI aTr (rr.2.2.1, rr.2.2.2.1, rr.2.2.2.2.1, rr.2.2.2.2.2.1, rr.2.2.2.2.2.2.1, rr.2.2.2.2.2.2.2.1, rr.2.2.2.2.2.2.2.2.1, rr.2.2.2.2.2.2.2.2.2.1, rr.2.2.2.2.2.2.2.2.2.2), wOrd cI aO O] A) (by decide) (Nat.le_of_ble_eq_true rfl) (fun p e s m below meth c A ls X hW hl => ?_)
  have hx := X.1
  have hb := X.2.1
  have hts := X.2.2.2.2.2.1
  have hown := X.2.2.2.2.2.2.1
  have hl : lv_has ls 2 [(0, .ref fc)] := hl
  unfold MX0_longestWaitInOrder at hM
  refine lv_aload_n hx hb dX0_longestWaitInOrder_0 rfl (lv_at hl 0 rfl) ?_
  refine g_get X hW 0 rfl rfl inX0 4 (by decide) q_202 rfl dX0_longestWaitInOrder_1 ?_
  refine lv_aload_n hx hb dX0_longestWaitInOrder_4 rfl (lv_at hl 0 rfl) ?_
  refine g_get X hW 0 rfl rfl inX0 2 (by decide) q_200 rfl dX0_longestWaitInOrder_5 ?_
  refine lv_aload_n hx hb dX0_longestWaitInOrder_8 rfl (lv_at hl 0 rfl) ?_
  refine g_get X hW 0 rfl rfl inX0 1 (by decide) q_198 rfl dX0_longestWaitInOrder_9 ?_
  refine g_getN X hW 5 rfl rfl inX1 6 (by decide) nt_15 rfl dX0_longestWaitInOrder_12 ?_
  obtain ⟨u15, hu15, hM⟩ := bind_some hM
  refine g_callVv (rest := []) (gr := [wFc fc (aP 0) (aNw 0) (aGs 0) (aTr 0) (aO 0), wPlan cI aP P, wLine cI aNw Nw, wLine cI aTr Tr]) X hl.1 hW (c_X2_tellComings l G cI cZ cL N aO aGs O Gs Nw.2.2.2.2.2.2.1 u15 hu15) q_665 q_662 q_663 q_664 q_59 hd_X2_tellComings rfl ⟨Nat.le_of_ble_eq_true rfl, Nat.le_of_ble_eq_true rfl⟩ ⟨Nat.zero_le _, Nat.zero_le _⟩ [5, 3] [0, 1, 2, 4] [wFc fc (aP 0) (aNw 0) (aGs 0) (aTr 0) (aO 0), wPlan cI aP P, wLine cI aNw Nw, wPlan cI aGs (Gs.1, u15, Gs.2.2), wLine cI aTr Tr, wOrd cI aO O] ⟨pm_6_5_3, rfl, rfl, rfl⟩ ⟨pm_6_5_3, rfl, rfl, rfl⟩ (q0 := 21) rfl rfl rfl (Nat.le_of_ble_eq_true rfl) dX0_longestWaitInOrder_15 (fun H locs hW => ?_)
  refine lv_aload_n hx hb dX0_longestWaitInOrder_18 rfl (lv_at hl 0 rfl) ?_
  obtain ⟨u19, hu19, hM⟩ := bind_some hM
  refine g_callVv (rest := []) (gr := []) X hl.1 hW (c_X0_startTrial l G cI cZ cL N fc aP aNw aGs aTr aO P Nw (Gs.1, u15, Gs.2.2) Tr O u19 hu19) q_600 q_597 q_598 q_599 q_57 hd_X0_startTrial rfl ⟨Nat.le_of_ble_eq_true rfl, Nat.le_of_ble_eq_true rfl⟩ ⟨Nat.zero_le _, Nat.zero_le _⟩ [0, 1, 2, 3, 4, 5] [] [wFc fc (aP 0) (aNw 0) (aGs 0) (aTr 0) (aO 0), wPlan cI aP P, wLine cI aNw Nw, wPlan cI aGs (Gs.1, u15, Gs.2.2), wLine cI aTr u19, wOrd cI aO O] ⟨pm_6_0_1_2_3_4_5, rfl, rfl, rfl⟩ ⟨pm_6_0_1_2_3_4_5, rfl, rfl, rfl⟩ (q0 := 0) rfl rfl rfl (Nat.le_of_ble_eq_true rfl) dX0_longestWaitInOrder_19 (fun H locs hW => ?_)
  refine lv_iconst (v := (0 : Int32)) hx hb dX0_longestWaitInOrder_22 (by decide) ?_
  refine lv_istore_n (lv' := [(1, .int (0 : Int32)), (0, .ref fc)]) hx hb dX0_longestWaitInOrder_23 rfl hl (by decide) rfl (fun ls hl => ?_)
  have j76 : ∀ (yTr0_76 : (Nat → Int32)) (yTr1_76 : (Nat → Int32)) (yTr2_76 : (Nat → Int32)) (yTr3_76 : (Nat → Int32)) (yTr4_76 : (Nat → Int32)) (yTr5_76 : Int32) (yTr6_76 : Int32) (yTr7_76 : Int32) (yTr8_76 : Int32) (H : Heap) (locs : List Loc) (ls : Array Slot), Wd G A s [wFc fc (aP 0) (aNw 0) (aGs 0) (aTr 0) (aO 0), wPlan cI aP P, wLine cI aNw Nw, wPlan cI aGs (Gs.1, u15, Gs.2.2), wLine cI aTr (yTr0_76, yTr1_76, yTr2_76, yTr3_76, yTr4_76, yTr5_76, yTr6_76, yTr7_76, yTr8_76), wOrd cI aO O] H locs → lv_has ls 2 [(0, .ref fc)] → MX0_longestWaitInOrder_j76 N Nw O u15 yTr0_76 yTr1_76 yTr2_76 yTr3_76 yTr4_76 yTr5_76 yTr6_76 yTr7_76 yTr8_76 = some rr → W p l e (rmO 4 92) s m ([.ref fc] : List Value).toArray below meth c H locs 0 0 (MQ below (qI G rr.1 [wFc fc (aP 0) (aNw 0) (aGs 0) (aTr 0) (aO 0), wPlan cI aP P, wLine cI aNw Nw, wPlan cI aGs (Gs.1, rr.2.1, Gs.2.2), wLine cI aTr (rr.2.2.1, rr.2.2.2.1, rr.2.2.2.2.1, rr.2.2.2.2.2.1, rr.2.2.2.2.2.2.1, rr.2.2.2.2.2.2.2.1, rr.2.2.2.2.2.2.2.2.1, rr.2.2.2.2.2.2.2.2.2.1, rr.2.2.2.2.2.2.2.2.2.2), wOrd cI aO O] A) ([.ref fc] : List Value).toArray s 0 0 A) (F0 m 76 ls []) := by
    intro yTr0_76 yTr1_76 yTr2_76 yTr3_76 yTr4_76 yTr5_76 yTr6_76 yTr7_76 yTr8_76 H locs ls hW hl hM
    unfold MX0_longestWaitInOrder_j76 at hM
    refine lv_aload_n hx hb dX0_longestWaitInOrder_76 rfl (lv_at hl 0 rfl) ?_
    refine g_get X hW 0 rfl rfl inX0 4 (by decide) q_202 rfl dX0_longestWaitInOrder_77 ?_
    refine lv_aload_n hx hb dX0_longestWaitInOrder_80 rfl (lv_at hl 0 rfl) ?_
    refine g_get X hW 0 rfl rfl inX0 3 (by decide) q_201 rfl dX0_longestWaitInOrder_81 ?_
    refine lv_aload_n hx hb dX0_longestWaitInOrder_84 rfl (lv_at hl 0 rfl) ?_
    refine g_get X hW 0 rfl rfl inX0 1 (by decide) q_198 rfl dX0_longestWaitInOrder_85 ?_
    refine g_getN X hW 5 rfl rfl inX1 6 (by decide) nt_15 rfl dX0_longestWaitInOrder_88 ?_
    obtain ⟨u91, hu91, hM⟩ := bind_some hM
    refine g_callVi (rest := []) (gr := [wFc fc (aP 0) (aNw 0) (aGs 0) (aTr 0) (aO 0), wPlan cI aP P, wLine cI aNw Nw, wPlan cI aGs (Gs.1, u15, Gs.2.2)]) X hl.1 hW (c_X2_longestWait l G cI cZ cL N aO aTr O (yTr0_76, yTr1_76, yTr2_76, yTr3_76, yTr4_76, yTr5_76, yTr6_76, yTr7_76, yTr8_76) Nw.2.2.2.2.2.2.1 u91 hu91) q_677 q_674 q_675 q_676 q_59 hd_X2_longestWait rfl ⟨Nat.le_of_ble_eq_true rfl, Nat.le_of_ble_eq_true rfl⟩ ⟨Nat.zero_le _, Nat.zero_le _⟩ [5, 4] [0, 1, 2, 3] [wFc fc (aP 0) (aNw 0) (aGs 0) (aTr 0) (aO 0), wPlan cI aP P, wLine cI aNw Nw, wPlan cI aGs (Gs.1, u15, Gs.2.2), wLine cI aTr (yTr0_76, yTr1_76, yTr2_76, yTr3_76, yTr4_76, yTr5_76, yTr6_76, yTr7_76, yTr8_76), wOrd cI aO O] ⟨pm_6_5_4, rfl, rfl, rfl⟩ ⟨pm_6_5_4, rfl, rfl, rfl⟩ (q0 := 21) rfl rfl rfl (Nat.le_of_ble_eq_true rfl) dX0_longestWaitInOrder_91 (fun H locs hW => ?_)
    obtain rfl := Option.some.inj hM
    exact g_reti X hW rfl rfl dX0_longestWaitInOrder_94
  have lp24 : ∀ (n24 : Nat) (x1_24 : Int32) (yTr0_24 : (Nat → Int32)) (yTr1_24 : (Nat → Int32)) (yTr2_24 : (Nat → Int32)) (yTr3_24 : (Nat → Int32)) (yTr4_24 : (Nat → Int32)) (yTr5_24 : Int32) (yTr6_24 : Int32) (yTr7_24 : Int32) (yTr8_24 : Int32) (H : Heap) (locs : List Loc) (ls : Array Slot), Wd G A s [wFc fc (aP 0) (aNw 0) (aGs 0) (aTr 0) (aO 0), wPlan cI aP P, wLine cI aNw Nw, wPlan cI aGs (Gs.1, u15, Gs.2.2), wLine cI aTr (yTr0_24, yTr1_24, yTr2_24, yTr3_24, yTr4_24, yTr5_24, yTr6_24, yTr7_24, yTr8_24), wOrd cI aO O] H locs → lv_has ls 2 [(0, .ref fc), (1, .int x1_24)] → MX0_longestWaitInOrder_l24 N Nw Gs O u15 n24 x1_24 yTr0_24 yTr1_24 yTr2_24 yTr3_24 yTr4_24 yTr5_24 yTr6_24 yTr7_24 yTr8_24 = some rr → W p l e (rmO 4 92) s m ([.ref fc] : List Value).toArray below meth c H locs 0 0 (MQ below (qI G rr.1 [wFc fc (aP 0) (aNw 0) (aGs 0) (aTr 0) (aO 0), wPlan cI aP P, wLine cI aNw Nw, wPlan cI aGs (Gs.1, rr.2.1, Gs.2.2), wLine cI aTr (rr.2.2.1, rr.2.2.2.1, rr.2.2.2.2.1, rr.2.2.2.2.2.1, rr.2.2.2.2.2.2.1, rr.2.2.2.2.2.2.2.1, rr.2.2.2.2.2.2.2.2.1, rr.2.2.2.2.2.2.2.2.2.1, rr.2.2.2.2.2.2.2.2.2.2), wOrd cI aO O] A) ([.ref fc] : List Value).toArray s 0 0 A) (F0 m 24 ls []) := by
    intro n24
    induction n24 with
    | zero =>
      intro x1_24 yTr0_24 yTr1_24 yTr2_24 yTr3_24 yTr4_24 yTr5_24 yTr6_24 yTr7_24 yTr8_24 H locs ls hW hl hM
      rw [MX0_longestWaitInOrder_l24] at hM
      cases hM
    | succ n24 ih24 =>
      intro x1_24 yTr0_24 yTr1_24 yTr2_24 yTr3_24 yTr4_24 yTr5_24 yTr6_24 yTr7_24 yTr8_24 H locs ls hW hl hM
      rw [MX0_longestWaitInOrder_l24] at hM
      refine lv_iload_n hx hb dX0_longestWaitInOrder_24 rfl (lv_at hl 1 rfl) ?_
      refine lv_bipush (v := (99 : Int32)) hx hb dX0_longestWaitInOrder_25 (by decide) ?_
      refine lv_icmp_ge (tgt := 76) hx hb dX0_longestWaitInOrder_27 (by decide) (fun hc => ?_) (fun hc => ?_)
      · have hM := (if_pos hc).symm.trans hM
        exact j76 yTr0_24 yTr1_24 yTr2_24 yTr3_24 yTr4_24 yTr5_24 yTr6_24 yTr7_24 yTr8_24 _ _ _ hW (lv_sub hl [0] rfl) hM
      · have hM := (if_neg hc).symm.trans hM
        refine lv_aload_n hx hb dX0_longestWaitInOrder_30 rfl (lv_at hl 0 rfl) ?_
        refine g_get X hW 0 rfl rfl inX0 4 (by decide) q_202 rfl dX0_longestWaitInOrder_31 ?_
        refine lv_aload_n hx hb dX0_longestWaitInOrder_34 rfl (lv_at hl 0 rfl) ?_
        refine g_get X hW 0 rfl rfl inX0 3 (by decide) q_201 rfl dX0_longestWaitInOrder_35 ?_
        obtain ⟨u38, hu38, hM⟩ := bind_some hM
        refine g_callVi (rest := []) (gr := [wFc fc (aP 0) (aNw 0) (aGs 0) (aTr 0) (aO 0), wPlan cI aP P, wLine cI aNw Nw, wPlan cI aGs (Gs.1, u15, Gs.2.2)]) X hl.1 hW (c_X2_allAte l G cI cZ cL N aO aTr O (yTr0_24, yTr1_24, yTr2_24, yTr3_24, yTr4_24, yTr5_24, yTr6_24, yTr7_24, yTr8_24) u38 hu38) q_673 q_670 q_671 q_672 q_59 hd_X2_allAte rfl ⟨Nat.le_of_ble_eq_true rfl, Nat.le_of_ble_eq_true rfl⟩ ⟨Nat.zero_le _, Nat.zero_le _⟩ [5, 4] [0, 1, 2, 3] [wFc fc (aP 0) (aNw 0) (aGs 0) (aTr 0) (aO 0), wPlan cI aP P, wLine cI aNw Nw, wPlan cI aGs (Gs.1, u15, Gs.2.2), wLine cI aTr (yTr0_24, yTr1_24, yTr2_24, yTr3_24, yTr4_24, yTr5_24, yTr6_24, yTr7_24, yTr8_24), wOrd cI aO O] ⟨pm_6_5_4, rfl, rfl, rfl⟩ ⟨pm_6_5_4, rfl, rfl, rfl⟩ (q0 := 21) rfl rfl rfl (Nat.le_of_ble_eq_true rfl) dX0_longestWaitInOrder_38 (fun H locs hW => ?_)
        refine lv_if_ne (tgt := 76) hx hb dX0_longestWaitInOrder_41 (by decide) (fun hc => ?_) (fun hc => ?_)
        · have hM := (if_neg hc).symm.trans hM
          exact j76 yTr0_24 yTr1_24 yTr2_24 yTr3_24 yTr4_24 yTr5_24 yTr6_24 yTr7_24 yTr8_24 _ _ _ hW (lv_sub hl [0] rfl) hM
        · have hM := (if_pos hc).symm.trans hM
          refine lv_aload_n hx hb dX0_longestWaitInOrder_44 rfl (lv_at hl 0 rfl) ?_
          refine g_get X hW 0 rfl rfl inX0 3 (by decide) q_201 rfl dX0_longestWaitInOrder_45 ?_
          refine lv_aload_n hx hb dX0_longestWaitInOrder_48 rfl (lv_at hl 0 rfl) ?_
          refine g_get X hW 0 rfl rfl inX0 2 (by decide) q_200 rfl dX0_longestWaitInOrder_49 ?_
          refine lv_aload_n hx hb dX0_longestWaitInOrder_52 rfl (lv_at hl 0 rfl) ?_
          refine g_get X hW 0 rfl rfl inX0 2 (by decide) q_200 rfl dX0_longestWaitInOrder_53 ?_
          refine lv_aload_n hx hb dX0_longestWaitInOrder_56 rfl (lv_at hl 0 rfl) ?_
          refine g_get X hW 0 rfl rfl inX0 3 (by decide) q_201 rfl dX0_longestWaitInOrder_57 ?_
          refine g_getN X hW 15 rfl rfl inX1 6 (by decide) nt_15 rfl dX0_longestWaitInOrder_60 ?_
          obtain ⟨u63, hu63, hM⟩ := bind_some hM
          refine g_callVi (rest := [.ref (aGs 0), .ref (aTr 0)]) (gr := [wFc fc (aP 0) (aNw 0) (aGs 0) (aTr 0) (aO 0), wPlan cI aP P, wLine cI aNw Nw, wLine cI aTr (yTr0_24, yTr1_24, yTr2_24, yTr3_24, yTr4_24, yTr5_24, yTr6_24, yTr7_24, yTr8_24), wOrd cI aO O]) X hl.1 hW (c_X3_rumourIn l G cI cZ cL N aGs (Gs.1, u15, Gs.2.2) yTr6_24 u63 hu63) q_498 q_617 q_496 q_497 q_56 hd_X3_rumourIn rfl ⟨Nat.le_of_ble_eq_true rfl, Nat.le_of_ble_eq_true rfl⟩ ⟨Nat.zero_le _, Nat.zero_le _⟩ [3] [0, 1, 2, 4, 5] [wFc fc (aP 0) (aNw 0) (aGs 0) (aTr 0) (aO 0), wPlan cI aP P, wLine cI aNw Nw, wPlan cI aGs (Gs.1, u15, Gs.2.2), wLine cI aTr (yTr0_24, yTr1_24, yTr2_24, yTr3_24, yTr4_24, yTr5_24, yTr6_24, yTr7_24, yTr8_24), wOrd cI aO O] ⟨pm_6_3, rfl, rfl, rfl⟩ ⟨pm_6_3, rfl, rfl, rfl⟩ (q0 := 11) rfl rfl rfl (Nat.le_of_ble_eq_true rfl) dX0_longestWaitInOrder_63 (fun H locs hW => ?_)
          refine lv_iconst (v := (0 : Int32)) hx hb dX0_longestWaitInOrder_66 (by decide) ?_
          obtain ⟨u67, hu67, hM⟩ := bind_some hM
          refine g_callVv (rest := []) (gr := [wFc fc (aP 0) (aNw 0) (aGs 0) (aTr 0) (aO 0), wPlan cI aP P, wLine cI aNw Nw, wOrd cI aO O]) X hl.1 hW (c_X1_goOn l G cI cZ cL N aTr aGs (yTr0_24, yTr1_24, yTr2_24, yTr3_24, yTr4_24, yTr5_24, yTr6_24, yTr7_24, yTr8_24) (Gs.1, u15, Gs.2.2) u63 (0 : Int32) u67 hu67) q_502 q_618 q_500 q_501 q_58 hd_X1_goOn rfl ⟨Nat.le_of_ble_eq_true rfl, Nat.le_of_ble_eq_true rfl⟩ ⟨Nat.zero_le _, Nat.zero_le _⟩ [4, 3] [0, 1, 2, 5] [wFc fc (aP 0) (aNw 0) (aGs 0) (aTr 0) (aO 0), wPlan cI aP P, wLine cI aNw Nw, wPlan cI aGs (Gs.1, u15, Gs.2.2), wLine cI aTr u67, wOrd cI aO O] ⟨pm_6_4_3, rfl, rfl, rfl⟩ ⟨pm_6_4_3, rfl, rfl, rfl⟩ (q0 := 15) rfl rfl rfl (Nat.le_of_ble_eq_true rfl) dX0_longestWaitInOrder_67 (fun H locs hW => ?_)
          refine lv_iinc (v := x1_24 + (1 : Int32)) (lv' := [(1, .int (x1_24 + (1 : Int32))), (0, .ref fc)]) hx hb dX0_longestWaitInOrder_70 hl (k := 1) rfl rfl (by decide) rfl (fun ls hl => ?_)
          refine lv_goto (tgt := 24) hx hb dX0_longestWaitInOrder_73 (by decide) ?_
          exact ih24 (x1_24 + (1 : Int32)) u67.1 u67.2.1 u67.2.2.1 u67.2.2.2.1 u67.2.2.2.2.1 u67.2.2.2.2.2.1 u67.2.2.2.2.2.2.1 u67.2.2.2.2.2.2.2.1 u67.2.2.2.2.2.2.2.2 _ _ _ hW (lv_sub hl [1, 0] rfl) hM
  exact lp24 N (0 : Int32) u19.1 u19.2.1 u19.2.2.1 u19.2.2.2.1 u19.2.2.2.2.1 u19.2.2.2.2.2.1 u19.2.2.2.2.2.2.1 u19.2.2.2.2.2.2.2.1 u19.2.2.2.2.2.2.2.2 _ _ _ hW (lv_sub hl [1, 0] rfl) hM

def MX0_bestOrder_j60 (u11 : (Nat → Int32) × (Nat → Int32) × (Nat → Int32) × Int32 × Int32 × Int32 × Int32) (x1_60 : Int32) (yGs1_60 : (Nat → Int32)) (yTr0_60 : (Nat → Int32)) (yTr1_60 : (Nat → Int32)) (yTr2_60 : (Nat → Int32)) (yTr3_60 : (Nat → Int32)) (yTr4_60 : (Nat → Int32)) (yTr5_60 : Int32) (yTr6_60 : Int32) (yTr7_60 : Int32) (yTr8_60 : Int32) (yO0_60 : (Nat → Int32)) (yO1_60 : (Nat → Int32)) : Option (Int32 × (Nat → Int32) × (Nat → Int32) × (Nat → Int32) × Int32 × Int32 × Int32 × Int32 × (Nat → Int32) × (Nat → Int32) × (Nat → Int32) × (Nat → Int32) × (Nat → Int32) × Int32 × Int32 × Int32 × Int32 × (Nat → Int32) × (Nat → Int32)) :=
  some (x1_60, u11.1, yGs1_60, u11.2.2.1, u11.2.2.2.1, u11.2.2.2.2.1, u11.2.2.2.2.2.1, u11.2.2.2.2.2.2, yTr0_60, yTr1_60, yTr2_60, yTr3_60, yTr4_60, yTr5_60, yTr6_60, yTr7_60, yTr8_60, yO0_60, yO1_60)
def MX0_bestOrder_j51 (u11 : (Nat → Int32) × (Nat → Int32) × (Nat → Int32) × Int32 × Int32 × Int32 × Int32) (x1_51 : Int32) (yGs1_51 : (Nat → Int32)) (yTr0_51 : (Nat → Int32)) (yTr1_51 : (Nat → Int32)) (yTr2_51 : (Nat → Int32)) (yTr3_51 : (Nat → Int32)) (yTr4_51 : (Nat → Int32)) (yTr5_51 : Int32) (yTr6_51 : Int32) (yTr7_51 : Int32) (yTr8_51 : Int32) (yO0_51 : (Nat → Int32)) (yO1_51 : (Nat → Int32)) : Option (Int32 × (Nat → Int32) × (Nat → Int32) × (Nat → Int32) × Int32 × Int32 × Int32 × Int32 × (Nat → Int32) × (Nat → Int32) × (Nat → Int32) × (Nat → Int32) × (Nat → Int32) × Int32 × Int32 × Int32 × Int32 × (Nat → Int32) × (Nat → Int32)) :=
  MX0_bestOrder_j60 u11 x1_51 yGs1_51 yTr0_51 yTr1_51 yTr2_51 yTr3_51 yTr4_51 yTr5_51 yTr6_51 yTr7_51 yTr8_51 yO0_51 yO1_51
def MX0_bestOrder_j41 (N : Nat) (O : OrdV) (u11 : (Nat → Int32) × (Nat → Int32) × (Nat → Int32) × Int32 × Int32 × Int32 × Int32) (x2_16 : Int32) (yO0_16 : (Nat → Int32)) (rc16 : (Int32 → Int32 → (Nat → Int32) → (Nat → Int32) → (Nat → Int32) → (Nat → Int32) → (Nat → Int32) → (Nat → Int32) → Int32 → Int32 → Int32 → Int32 → (Nat → Int32) → (Nat → Int32) → Option (Int32 × (Nat → Int32) × (Nat → Int32) × (Nat → Int32) × Int32 × Int32 × Int32 × Int32 × (Nat → Int32) × (Nat → Int32) × (Nat → Int32) × (Nat → Int32) × (Nat → Int32) × Int32 × Int32 × Int32 × Int32 × (Nat → Int32) × (Nat → Int32)))) (u23 : Int32 × (Nat → Int32) × (Nat → Int32) × (Nat → Int32) × (Nat → Int32) × (Nat → Int32) × (Nat → Int32) × Int32 × Int32 × Int32 × Int32) (x1_41 : Int32) (yO1_41 : (Nat → Int32)) : Option (Int32 × (Nat → Int32) × (Nat → Int32) × (Nat → Int32) × Int32 × Int32 × Int32 × Int32 × (Nat → Int32) × (Nat → Int32) × (Nat → Int32) × (Nat → Int32) × (Nat → Int32) × Int32 × Int32 × Int32 × Int32 × (Nat → Int32) × (Nat → Int32)) :=
  (MX2_advance N (yO0_16, yO1_41, O.2.2)).bind (fun u45 => if u45.1 = 0 then (MX0_bestOrder_j51 u11 x1_41 u23.2.1 u23.2.2.1 u23.2.2.2.1 u23.2.2.2.2.1 u23.2.2.2.2.2.1 u23.2.2.2.2.2.2.1 u23.2.2.2.2.2.2.2.1 u23.2.2.2.2.2.2.2.2.1 u23.2.2.2.2.2.2.2.2.2.1 u23.2.2.2.2.2.2.2.2.2.2 u45.2 yO1_41) else (rc16 x1_41 (x2_16 + (1 : Int32)) u23.2.1 u23.2.2.1 u23.2.2.2.1 u23.2.2.2.2.1 u23.2.2.2.2.2.1 u23.2.2.2.2.2.2.1 u23.2.2.2.2.2.2.2.1 u23.2.2.2.2.2.2.2.2.1 u23.2.2.2.2.2.2.2.2.2.1 u23.2.2.2.2.2.2.2.2.2.2 u45.2 yO1_41))
def MX0_bestOrder_l16 (N : Nat) (Nw : LineV) (O : OrdV) (u11 : (Nat → Int32) × (Nat → Int32) × (Nat → Int32) × Int32 × Int32 × Int32 × Int32) : Nat → Int32 → Int32 → (Nat → Int32) → (Nat → Int32) → (Nat → Int32) → (Nat → Int32) → (Nat → Int32) → (Nat → Int32) → Int32 → Int32 → Int32 → Int32 → (Nat → Int32) → (Nat → Int32) → Option (Int32 × (Nat → Int32) × (Nat → Int32) × (Nat → Int32) × Int32 × Int32 × Int32 × Int32 × (Nat → Int32) × (Nat → Int32) × (Nat → Int32) × (Nat → Int32) × (Nat → Int32) × Int32 × Int32 × Int32 × Int32 × (Nat → Int32) × (Nat → Int32))
  | 0, _, _, _, _, _, _, _, _, _, _, _, _, _, _ => none
  | n16 + 1, x1_16, x2_16, yGs1_16, yTr0_16, yTr1_16, yTr2_16, yTr3_16, yTr4_16, yTr5_16, yTr6_16, yTr7_16, yTr8_16, yO0_16, yO1_16 =>
    if (120 : Int32) ≤ x2_16 then (MX0_bestOrder_j60 u11 x1_16 yGs1_16 yTr0_16 yTr1_16 yTr2_16 yTr3_16 yTr4_16 yTr5_16 yTr6_16 yTr7_16 yTr8_16 yO0_16 yO1_16) else ((MX0_longestWaitInOrder N Nw (u11.1, yGs1_16, u11.2.2.1, u11.2.2.2.1, u11.2.2.2.2.1, u11.2.2.2.2.2.1, u11.2.2.2.2.2.2) (yTr0_16, yTr1_16, yTr2_16, yTr3_16, yTr4_16, yTr5_16, yTr6_16, yTr7_16, yTr8_16) (yO0_16, yO1_16, O.2.2)).bind (fun u23 => if x1_16 ≤ u23.1 then (MX0_bestOrder_j41 N O u11 x2_16 yO0_16 (MX0_bestOrder_l16 N Nw O u11 n16) u23 x1_16 yO1_16) else ((MX2_markBest N (yO0_16, yO1_16, O.2.2)).bind (fun u38 => MX0_bestOrder_j41 N O u11 x2_16 yO0_16 (MX0_bestOrder_l16 N Nw O u11 n16) u23 u23.1 u38))))
def MX0_bestOrder (N : Nat) (P : PlanV) (Nw : LineV) (Gs : PlanV) (Tr : LineV) (O : OrdV) : Option (Int32 × (Nat → Int32) × (Nat → Int32) × (Nat → Int32) × Int32 × Int32 × Int32 × Int32 × (Nat → Int32) × (Nat → Int32) × (Nat → Int32) × (Nat → Int32) × (Nat → Int32) × Int32 × Int32 × Int32 × Int32 × (Nat → Int32) × (Nat → Int32)) :=
  (MX3_copyFrom N Gs P).bind (fun u11 => MX0_bestOrder_l16 N Nw O u11 N (100 : Int32) (0 : Int32) u11.2.1 Tr.1 Tr.2.1 Tr.2.2.1 Tr.2.2.2.1 Tr.2.2.2.2.1 Tr.2.2.2.2.2.1 Tr.2.2.2.2.2.2.1 Tr.2.2.2.2.2.2.2.1 Tr.2.2.2.2.2.2.2.2 O.1 O.2.1)
set_option maxHeartbeats 4000000 in
set_option maxRecDepth 100000 in
theorem c_X0_bestOrder (l : Launch) (G : va_G) (cI cZ cL : ClassId) (N : Nat) (fc : Nat) (aP : Nat → Nat) (aNw : Nat → Nat) (aGs : Nat → Nat) (aTr : Nat → Nat) (aO : Nat → Nat) (P : PlanV) (Nw : LineV) (Gs : PlanV) (Tr : LineV) (O : OrdV) (rr : Int32 × (Nat → Int32) × (Nat → Int32) × (Nat → Int32) × Int32 × Int32 × Int32 × Int32 × (Nat → Int32) × (Nat → Int32) × (Nat → Int32) × (Nat → Int32) × (Nat → Int32) × Int32 × Int32 × Int32 × Int32 × (Nat → Int32) × (Nat → Int32)) (hM : MX0_bestOrder N P Nw Gs Tr O = some rr) : CtI l yX0_bestOrder cX0_bestOrder 4 .int 5 113 G cI cZ cL [.ref fc] [wFc fc (aP 0) (aNw 0) (aGs 0) (aTr 0) (aO 0), wPlan cI aP P, wLine cI aNw Nw, wPlan cI aGs Gs, wLine cI aTr Tr, wOrd cI aO O] rr.1 [wFc fc (aP 0) (aNw 0) (aGs 0) (aTr 0) (aO 0), wPlan cI aP P, wLine cI aNw Nw, wPlan cI aGs (rr.2.1, rr.2.2.1, rr.2.2.2.1, rr.2.2.2.2.1, rr.2.2.2.2.2.1, rr.2.2.2.2.2.2.1, rr.2.2.2.2.2.2.2.1), wLine cI aTr (rr.2.2.2.2.2.2.2.2.1, rr.2.2.2.2.2.2.2.2.2.1, rr.2.2.2.2.2.2.2.2.2.2.1, rr.2.2.2.2.2.2.2.2.2.2.2.1, rr.2.2.2.2.2.2.2.2.2.2.2.2.1, rr.2.2.2.2.2.2.2.2.2.2.2.2.2.1, rr.2.2.2.2.2.2.2.2.2.2.2.2.2.2.1, rr.2.2.2.2.2.2.2.2.2.2.2.2.2.2.2.1, rr.2.2.2.2.2.2.2.2.2.2.2.2.2.2.2.2.1), wOrd cI aO (rr.2.2.2.2.2.2.2.2.2.2.2.2.2.2.2.2.2.1, rr.2.2.2.2.2.2.2.2.2.2.2.2.2.2.2.2.2.2, O.2.2)] := by
  refine ct_body (fun A => qI G rr.1 [wFc fc (aP 0) (aNw 0) (aGs 0) (aTr 0) (aO 0), wPlan cI aP P, wLine cI aNw Nw, wPlan cI aGs (rr.2.1, rr.2.2.1, rr.2.2.2.1, rr.2.2.2.2.1, rr.2.2.2.2.2.1, rr.2.2.2.2.2.2.1, rr.2.2.2.2.2.2.2.1), wLine cI aTr (rr.2.2.2.2.2.2.2.2.1, rr.2.2.2.2.2.2.2.2.2.1, rr.2.2.2.2.2.2.2.2.2.2.1, rr.2.2.2.2.2.2.2.2.2.2.2.1, rr.2.2.2.2.2.2.2.2.2.2.2.2.1, rr.2.2.2.2.2.2.2.2.2.2.2.2.2.1, rr.2.2.2.2.2.2.2.2.2.2.2.2.2.2.1, rr.2.2.2.2.2.2.2.2.2.2.2.2.2.2.2.1, rr.2.2.2.2.2.2.2.2.2.2.2.2.2.2.2.2.1), wOrd cI aO (rr.2.2.2.2.2.2.2.2.2.2.2.2.2.2.2.2.2.1, rr.2.2.2.2.2.2.2.2.2.2.2.2.2.2.2.2.2.2, O.2.2)] A) (by decide) (Nat.le_of_ble_eq_true rfl) (fun p e s m below meth c A ls X hW hl => ?_)
  have hx := X.1
  have hb := X.2.1
  have hts := X.2.2.2.2.2.1
  have hown := X.2.2.2.2.2.2.1
  have hl : lv_has ls 4 [(0, .ref fc)] := hl
  unfold MX0_bestOrder at hM
  refine lv_bipush (v := (100 : Int32)) hx hb dX0_bestOrder_0 (by decide) ?_
  refine lv_istore_n (lv' := [(1, .int (100 : Int32)), (0, .ref fc)]) hx hb dX0_bestOrder_2 rfl hl (by decide) rfl (fun ls hl => ?_)
  refine lv_aload_n hx hb dX0_bestOrder_3 rfl (lv_at hl 1 rfl) ?_
  refine g_get X hW 0 rfl rfl inX0 2 (by decide) q_200 rfl dX0_bestOrder_4 ?_
  refine lv_aload_n hx hb dX0_bestOrder_7 rfl (lv_at hl 1 rfl) ?_
  refine g_get X hW 0 rfl rfl inX0 0 (by decide) q_196 rfl dX0_bestOrder_8 ?_
  obtain ⟨u11, hu11, hM⟩ := bind_some hM
  refine g_callVv (rest := []) (gr := [wFc fc (aP 0) (aNw 0) (aGs 0) (aTr 0) (aO 0), wLine cI aNw Nw, wLine cI aTr Tr, wOrd cI aO O]) X hl.1 hW (c_X3_copyFrom l G cI cZ cL N aGs aP Gs P u11 hu11) q_411 q_657 q_409 q_410 q_56 hd_X3_copyFrom rfl ⟨Nat.le_of_ble_eq_true rfl, Nat.le_of_ble_eq_true rfl⟩ ⟨Nat.zero_le _, Nat.zero_le _⟩ [3, 1] [0, 2, 4, 5] [wFc fc (aP 0) (aNw 0) (aGs 0) (aTr 0) (aO 0), wPlan cI aP P, wLine cI aNw Nw, wPlan cI aGs u11, wLine cI aTr Tr, wOrd cI aO O] ⟨pm_6_3_1, rfl, rfl, rfl⟩ ⟨pm_6_3_1, rfl, rfl, rfl⟩ (q0 := 11) rfl rfl rfl (Nat.le_of_ble_eq_true rfl) dX0_bestOrder_11 (fun H locs hW => ?_)
  refine lv_iconst (v := (0 : Int32)) hx hb dX0_bestOrder_14 (by decide) ?_
  refine lv_istore_n (lv' := [(2, .int (0 : Int32)), (1, .int (100 : Int32)), (0, .ref fc)]) hx hb dX0_bestOrder_15 rfl hl (by decide) rfl (fun ls hl => ?_)
  have j60 : ∀ (x1_60 : Int32) (yGs1_60 : (Nat → Int32)) (yTr0_60 : (Nat → Int32)) (yTr1_60 : (Nat → Int32)) (yTr2_60 : (Nat → Int32)) (yTr3_60 : (Nat → Int32)) (yTr4_60 : (Nat → Int32)) (yTr5_60 : Int32) (yTr6_60 : Int32) (yTr7_60 : Int32) (yTr8_60 : Int32) (yO0_60 : (Nat → Int32)) (yO1_60 : (Nat → Int32)) (H : Heap) (locs : List Loc) (ls : Array Slot), Wd G A s [wFc fc (aP 0) (aNw 0) (aGs 0) (aTr 0) (aO 0), wPlan cI aP P, wLine cI aNw Nw, wPlan cI aGs (u11.1, yGs1_60, u11.2.2.1, u11.2.2.2.1, u11.2.2.2.2.1, u11.2.2.2.2.2.1, u11.2.2.2.2.2.2), wLine cI aTr (yTr0_60, yTr1_60, yTr2_60, yTr3_60, yTr4_60, yTr5_60, yTr6_60, yTr7_60, yTr8_60), wOrd cI aO (yO0_60, yO1_60, O.2.2)] H locs → lv_has ls 4 [(1, .int x1_60)] → MX0_bestOrder_j60 u11 x1_60 yGs1_60 yTr0_60 yTr1_60 yTr2_60 yTr3_60 yTr4_60 yTr5_60 yTr6_60 yTr7_60 yTr8_60 yO0_60 yO1_60 = some rr → W p l e (rmO 5 113) s m ([.ref fc] : List Value).toArray below meth c H locs 0 0 (MQ below (qI G rr.1 [wFc fc (aP 0) (aNw 0) (aGs 0) (aTr 0) (aO 0), wPlan cI aP P, wLine cI aNw Nw, wPlan cI aGs (rr.2.1, rr.2.2.1, rr.2.2.2.1, rr.2.2.2.2.1, rr.2.2.2.2.2.1, rr.2.2.2.2.2.2.1, rr.2.2.2.2.2.2.2.1), wLine cI aTr (rr.2.2.2.2.2.2.2.2.1, rr.2.2.2.2.2.2.2.2.2.1, rr.2.2.2.2.2.2.2.2.2.2.1, rr.2.2.2.2.2.2.2.2.2.2.2.1, rr.2.2.2.2.2.2.2.2.2.2.2.2.1, rr.2.2.2.2.2.2.2.2.2.2.2.2.2.1, rr.2.2.2.2.2.2.2.2.2.2.2.2.2.2.1, rr.2.2.2.2.2.2.2.2.2.2.2.2.2.2.2.1, rr.2.2.2.2.2.2.2.2.2.2.2.2.2.2.2.2.1), wOrd cI aO (rr.2.2.2.2.2.2.2.2.2.2.2.2.2.2.2.2.2.1, rr.2.2.2.2.2.2.2.2.2.2.2.2.2.2.2.2.2.2, O.2.2)] A) ([.ref fc] : List Value).toArray s 0 0 A) (F0 m 60 ls []) := by
    intro x1_60 yGs1_60 yTr0_60 yTr1_60 yTr2_60 yTr3_60 yTr4_60 yTr5_60 yTr6_60 yTr7_60 yTr8_60 yO0_60 yO1_60 H locs ls hW hl hM
    unfold MX0_bestOrder_j60 at hM
    refine lv_iload_n hx hb dX0_bestOrder_60 rfl (lv_at hl 0 rfl) ?_
    obtain rfl := Option.some.inj hM
    exact g_reti X hW rfl rfl dX0_bestOrder_61
  have j51 : ∀ (x1_51 : Int32) (yGs1_51 : (Nat → Int32)) (yTr0_51 : (Nat → Int32)) (yTr1_51 : (Nat → Int32)) (yTr2_51 : (Nat → Int32)) (yTr3_51 : (Nat → Int32)) (yTr4_51 : (Nat → Int32)) (yTr5_51 : Int32) (yTr6_51 : Int32) (yTr7_51 : Int32) (yTr8_51 : Int32) (yO0_51 : (Nat → Int32)) (yO1_51 : (Nat → Int32)) (H : Heap) (locs : List Loc) (ls : Array Slot), Wd G A s [wFc fc (aP 0) (aNw 0) (aGs 0) (aTr 0) (aO 0), wPlan cI aP P, wLine cI aNw Nw, wPlan cI aGs (u11.1, yGs1_51, u11.2.2.1, u11.2.2.2.1, u11.2.2.2.2.1, u11.2.2.2.2.2.1, u11.2.2.2.2.2.2), wLine cI aTr (yTr0_51, yTr1_51, yTr2_51, yTr3_51, yTr4_51, yTr5_51, yTr6_51, yTr7_51, yTr8_51), wOrd cI aO (yO0_51, yO1_51, O.2.2)] H locs → lv_has ls 4 [(1, .int x1_51)] → MX0_bestOrder_j51 u11 x1_51 yGs1_51 yTr0_51 yTr1_51 yTr2_51 yTr3_51 yTr4_51 yTr5_51 yTr6_51 yTr7_51 yTr8_51 yO0_51 yO1_51 = some rr → W p l e (rmO 5 113) s m ([.ref fc] : List Value).toArray below meth c H locs 0 0 (MQ below (qI G rr.1 [wFc fc (aP 0) (aNw 0) (aGs 0) (aTr 0) (aO 0), wPlan cI aP P, wLine cI aNw Nw, wPlan cI aGs (rr.2.1, rr.2.2.1, rr.2.2.2.1, rr.2.2.2.2.1, rr.2.2.2.2.2.1, rr.2.2.2.2.2.2.1, rr.2.2.2.2.2.2.2.1), wLine cI aTr (rr.2.2.2.2.2.2.2.2.1, rr.2.2.2.2.2.2.2.2.2.1, rr.2.2.2.2.2.2.2.2.2.2.1, rr.2.2.2.2.2.2.2.2.2.2.2.1, rr.2.2.2.2.2.2.2.2.2.2.2.2.1, rr.2.2.2.2.2.2.2.2.2.2.2.2.2.1, rr.2.2.2.2.2.2.2.2.2.2.2.2.2.2.1, rr.2.2.2.2.2.2.2.2.2.2.2.2.2.2.2.1, rr.2.2.2.2.2.2.2.2.2.2.2.2.2.2.2.2.1), wOrd cI aO (rr.2.2.2.2.2.2.2.2.2.2.2.2.2.2.2.2.2.1, rr.2.2.2.2.2.2.2.2.2.2.2.2.2.2.2.2.2.2, O.2.2)] A) ([.ref fc] : List Value).toArray s 0 0 A) (F0 m 51 ls []) := by
    intro x1_51 yGs1_51 yTr0_51 yTr1_51 yTr2_51 yTr3_51 yTr4_51 yTr5_51 yTr6_51 yTr7_51 yTr8_51 yO0_51 yO1_51 H locs ls hW hl hM
    unfold MX0_bestOrder_j51 at hM
    refine lv_goto (tgt := 60) hx hb dX0_bestOrder_51 (by decide) ?_
    exact j60 x1_51 yGs1_51 yTr0_51 yTr1_51 yTr2_51 yTr3_51 yTr4_51 yTr5_51 yTr6_51 yTr7_51 yTr8_51 yO0_51 yO1_51 _ _ _ hW (lv_sub hl [0] rfl) hM
  have lp16 : ∀ (n16 : Nat) (x1_16 : Int32) (x2_16 : Int32) (yGs1_16 : (Nat → Int32)) (yTr0_16 : (Nat → Int32)) (yTr1_16 : (Nat → Int32)) (yTr2_16 : (Nat → Int32)) (yTr3_16 : (Nat → Int32)) (yTr4_16 : (Nat → Int32)) (yTr5_16 : Int32) (yTr6_16 : Int32) (yTr7_16 : Int32) (yTr8_16 : Int32) (yO0_16 : (Nat → Int32)) (yO1_16 : (Nat → Int32)) (H : Heap) (locs : List Loc) (ls : Array Slot), Wd G A s [wFc fc (aP 0) (aNw 0) (aGs 0) (aTr 0) (aO 0), wPlan cI aP P, wLine cI aNw Nw, wPlan cI aGs (u11.1, yGs1_16, u11.2.2.1, u11.2.2.2.1, u11.2.2.2.2.1, u11.2.2.2.2.2.1, u11.2.2.2.2.2.2), wLine cI aTr (yTr0_16, yTr1_16, yTr2_16, yTr3_16, yTr4_16, yTr5_16, yTr6_16, yTr7_16, yTr8_16), wOrd cI aO (yO0_16, yO1_16, O.2.2)] H locs → lv_has ls 4 [(0, .ref fc), (1, .int x1_16), (2, .int x2_16)] → MX0_bestOrder_l16 N Nw O u11 n16 x1_16 x2_16 yGs1_16 yTr0_16 yTr1_16 yTr2_16 yTr3_16 yTr4_16 yTr5_16 yTr6_16 yTr7_16 yTr8_16 yO0_16 yO1_16 = some rr → W p l e (rmO 5 113) s m ([.ref fc] : List Value).toArray below meth c H locs 0 0 (MQ below (qI G rr.1 [wFc fc (aP 0) (aNw 0) (aGs 0) (aTr 0) (aO 0), wPlan cI aP P, wLine cI aNw Nw, wPlan cI aGs (rr.2.1, rr.2.2.1, rr.2.2.2.1, rr.2.2.2.2.1, rr.2.2.2.2.2.1, rr.2.2.2.2.2.2.1, rr.2.2.2.2.2.2.2.1), wLine cI aTr (rr.2.2.2.2.2.2.2.2.1, rr.2.2.2.2.2.2.2.2.2.1, rr.2.2.2.2.2.2.2.2.2.2.1, rr.2.2.2.2.2.2.2.2.2.2.2.1, rr.2.2.2.2.2.2.2.2.2.2.2.2.1, rr.2.2.2.2.2.2.2.2.2.2.2.2.2.1, rr.2.2.2.2.2.2.2.2.2.2.2.2.2.2.1, rr.2.2.2.2.2.2.2.2.2.2.2.2.2.2.2.1, rr.2.2.2.2.2.2.2.2.2.2.2.2.2.2.2.2.1), wOrd cI aO (rr.2.2.2.2.2.2.2.2.2.2.2.2.2.2.2.2.2.1, rr.2.2.2.2.2.2.2.2.2.2.2.2.2.2.2.2.2.2, O.2.2)] A) ([.ref fc] : List Value).toArray s 0 0 A) (F0 m 16 ls []) := by
    intro n16
    induction n16 with
    | zero =>
      intro x1_16 x2_16 yGs1_16 yTr0_16 yTr1_16 yTr2_16 yTr3_16 yTr4_16 yTr5_16 yTr6_16 yTr7_16 yTr8_16 yO0_16 yO1_16 H locs ls hW hl hM
      rw [MX0_bestOrder_l16] at hM
      cases hM
    | succ n16 ih16 =>
      intro x1_16 x2_16 yGs1_16 yTr0_16 yTr1_16 yTr2_16 yTr3_16 yTr4_16 yTr5_16 yTr6_16 yTr7_16 yTr8_16 yO0_16 yO1_16 H locs ls hW hl hM
      rw [MX0_bestOrder_l16] at hM
      refine lv_iload_n hx hb dX0_bestOrder_16 rfl (lv_at hl 2 rfl) ?_
      refine lv_bipush (v := (120 : Int32)) hx hb dX0_bestOrder_17 (by decide) ?_
      refine lv_icmp_ge (tgt := 60) hx hb dX0_bestOrder_19 (by decide) (fun hc => ?_) (fun hc => ?_)
      · have hM := (if_pos hc).symm.trans hM
        exact j60 x1_16 yGs1_16 yTr0_16 yTr1_16 yTr2_16 yTr3_16 yTr4_16 yTr5_16 yTr6_16 yTr7_16 yTr8_16 yO0_16 yO1_16 _ _ _ hW (lv_sub hl [1] rfl) hM
      · have hM := (if_neg hc).symm.trans hM
        refine lv_aload_n hx hb dX0_bestOrder_22 rfl (lv_at hl 0 rfl) ?_
        obtain ⟨u23, hu23, hM⟩ := bind_some hM
        refine g_callVi (rest := []) (gr := []) X hl.1 hW (c_X0_longestWaitInOrder l G cI cZ cL N fc aP aNw aGs aTr aO P Nw (u11.1, yGs1_16, u11.2.2.1, u11.2.2.2.1, u11.2.2.2.2.1, u11.2.2.2.2.2.1, u11.2.2.2.2.2.2) (yTr0_16, yTr1_16, yTr2_16, yTr3_16, yTr4_16, yTr5_16, yTr6_16, yTr7_16, yTr8_16) (yO0_16, yO1_16, O.2.2) u23 hu23) q_661 q_658 q_660 q_14 q_57 hd_X0_longestWaitInOrder rfl ⟨Nat.le_of_ble_eq_true rfl, Nat.le_of_ble_eq_true rfl⟩ ⟨Nat.zero_le _, Nat.zero_le _⟩ [0, 1, 2, 3, 4, 5] [] [wFc fc (aP 0) (aNw 0) (aGs 0) (aTr 0) (aO 0), wPlan cI aP P, wLine cI aNw Nw, wPlan cI aGs (u11.1, u23.2.1, u11.2.2.1, u11.2.2.2.1, u11.2.2.2.2.1, u11.2.2.2.2.2.1, u11.2.2.2.2.2.2), wLine cI aTr (u23.2.2.1, u23.2.2.2.1, u23.2.2.2.2.1, u23.2.2.2.2.2.1, u23.2.2.2.2.2.2.1, u23.2.2.2.2.2.2.2.1, u23.2.2.2.2.2.2.2.2.1, u23.2.2.2.2.2.2.2.2.2.1, u23.2.2.2.2.2.2.2.2.2.2), wOrd cI aO (yO0_16, yO1_16, O.2.2)] ⟨pm_6_0_1_2_3_4_5, rfl, rfl, rfl⟩ ⟨pm_6_0_1_2_3_4_5, rfl, rfl, rfl⟩ (q0 := 0) rfl rfl rfl (Nat.le_of_ble_eq_true rfl) dX0_bestOrder_23 (fun H locs hW => ?_)
        refine lv_istore_n (lv' := [(3, .int u23.1), (0, .ref fc), (1, .int x1_16), (2, .int x2_16)]) hx hb dX0_bestOrder_26 rfl hl (by decide) rfl (fun ls hl => ?_)
        refine lv_iload_n hx hb dX0_bestOrder_27 rfl (lv_at hl 0 rfl) ?_
        refine lv_iload_n hx hb dX0_bestOrder_28 rfl (lv_at hl 2 rfl) ?_
        have j41 : ∀ (x1_41 : Int32) (yO1_41 : (Nat → Int32)) (H : Heap) (locs : List Loc) (ls : Array Slot), Wd G A s [wFc fc (aP 0) (aNw 0) (aGs 0) (aTr 0) (aO 0), wPlan cI aP P, wLine cI aNw Nw, wPlan cI aGs (u11.1, u23.2.1, u11.2.2.1, u11.2.2.2.1, u11.2.2.2.2.1, u11.2.2.2.2.2.1, u11.2.2.2.2.2.2), wLine cI aTr (u23.2.2.1, u23.2.2.2.1, u23.2.2.2.2.1, u23.2.2.2.2.2.1, u23.2.2.2.2.2.2.1, u23.2.2.2.2.2.2.2.1, u23.2.2.2.2.2.2.2.2.1, u23.2.2.2.2.2.2.2.2.2.1, u23.2.2.2.2.2.2.2.2.2.2), wOrd cI aO (yO0_16, yO1_41, O.2.2)] H locs → lv_has ls 4 [(0, .ref fc), (1, .int x1_41), (2, .int x2_16)] → MX0_bestOrder_j41 N O u11 x2_16 yO0_16 (MX0_bestOrder_l16 N Nw O u11 n16) u23 x1_41 yO1_41 = some rr → W p l e (rmO 5 113) s m ([.ref fc] : List Value).toArray below meth c H locs 0 0 (MQ below (qI G rr.1 [wFc fc (aP 0) (aNw 0) (aGs 0) (aTr 0) (aO 0), wPlan cI aP P, wLine cI aNw Nw, wPlan cI aGs (rr.2.1, rr.2.2.1, rr.2.2.2.1, rr.2.2.2.2.1, rr.2.2.2.2.2.1, rr.2.2.2.2.2.2.1, rr.2.2.2.2.2.2.2.1), wLine cI aTr (rr.2.2.2.2.2.2.2.2.1, rr.2.2.2.2.2.2.2.2.2.1, rr.2.2.2.2.2.2.2.2.2.2.1, rr.2.2.2.2.2.2.2.2.2.2.2.1, rr.2.2.2.2.2.2.2.2.2.2.2.2.1, rr.2.2.2.2.2.2.2.2.2.2.2.2.2.1, rr.2.2.2.2.2.2.2.2.2.2.2.2.2.2.1, rr.2.2.2.2.2.2.2.2.2.2.2.2.2.2.2.1, rr.2.2.2.2.2.2.2.2.2.2.2.2.2.2.2.2.1), wOrd cI aO (rr.2.2.2.2.2.2.2.2.2.2.2.2.2.2.2.2.2.1, rr.2.2.2.2.2.2.2.2.2.2.2.2.2.2.2.2.2.2, O.2.2)] A) ([.ref fc] : List Value).toArray s 0 0 A) (F0 m 41 ls []) := by
          intro x1_41 yO1_41 H locs ls hW hl hM
          unfold MX0_bestOrder_j41 at hM
          refine lv_aload_n hx hb dX0_bestOrder_41 rfl (lv_at hl 0 rfl) ?_
          refine g_get X hW 0 rfl rfl inX0 4 (by decide) q_202 rfl dX0_bestOrder_42 ?_
          obtain ⟨u45, hu45, hM⟩ := bind_some hM
          refine g_callVi (rest := []) (gr := [wFc fc (aP 0) (aNw 0) (aGs 0) (aTr 0) (aO 0), wPlan cI aP P, wLine cI aNw Nw, wPlan cI aGs (u11.1, u23.2.1, u11.2.2.1, u11.2.2.2.1, u11.2.2.2.2.1, u11.2.2.2.2.2.1, u11.2.2.2.2.2.2), wLine cI aTr (u23.2.2.1, u23.2.2.2.1, u23.2.2.2.2.1, u23.2.2.2.2.2.1, u23.2.2.2.2.2.2.1, u23.2.2.2.2.2.2.2.1, u23.2.2.2.2.2.2.2.2.1, u23.2.2.2.2.2.2.2.2.2.1, u23.2.2.2.2.2.2.2.2.2.2)]) X hl.1 hW (c_X2_advance l G cI cZ cL N aO (yO0_16, yO1_41, O.2.2) u45 hu45) q_688 q_685 q_686 q_687 q_59 hd_X2_advance rfl ⟨Nat.le_of_ble_eq_true rfl, Nat.le_of_ble_eq_true rfl⟩ ⟨Nat.zero_le _, Nat.zero_le _⟩ [5] [0, 1, 2, 3, 4] [wFc fc (aP 0) (aNw 0) (aGs 0) (aTr 0) (aO 0), wPlan cI aP P, wLine cI aNw Nw, wPlan cI aGs (u11.1, u23.2.1, u11.2.2.1, u11.2.2.2.1, u11.2.2.2.2.1, u11.2.2.2.2.2.1, u11.2.2.2.2.2.2), wLine cI aTr (u23.2.2.1, u23.2.2.2.1, u23.2.2.2.2.1, u23.2.2.2.2.2.1, u23.2.2.2.2.2.2.1, u23.2.2.2.2.2.2.2.1, u23.2.2.2.2.2.2.2.2.1, u23.2.2.2.2.2.2.2.2.2.1, u23.2.2.2.2.2.2.2.2.2.2), wOrd cI aO (u45.2, yO1_41, O.2.2)] ⟨pm_6_5, rfl, rfl, rfl⟩ ⟨pm_6_5, rfl, rfl, rfl⟩ (q0 := 21) rfl rfl rfl (Nat.le_of_ble_eq_true rfl) dX0_bestOrder_45 (fun H locs hW => ?_)
          refine lv_if_ne (tgt := 54) hx hb dX0_bestOrder_48 (by decide) (fun hc => ?_) (fun hc => ?_)
          · have hM := (if_neg hc).symm.trans hM
            refine lv_iinc (v := x2_16 + (1 : Int32)) (lv' := [(2, .int (x2_16 + (1 : Int32))), (0, .ref fc), (1, .int x1_41)]) hx hb dX0_bestOrder_54 hl (k := 2) rfl rfl (by decide) rfl (fun ls hl => ?_)
            refine lv_goto (tgt := 16) hx hb dX0_bestOrder_57 (by decide) ?_
            exact ih16 x1_41 (x2_16 + (1 : Int32)) u23.2.1 u23.2.2.1 u23.2.2.2.1 u23.2.2.2.2.1 u23.2.2.2.2.2.1 u23.2.2.2.2.2.2.1 u23.2.2.2.2.2.2.2.1 u23.2.2.2.2.2.2.2.2.1 u23.2.2.2.2.2.2.2.2.2.1 u23.2.2.2.2.2.2.2.2.2.2 u45.2 yO1_41 _ _ _ hW (lv_sub hl [1, 2, 0] rfl) hM
          · have hM := (if_pos hc).symm.trans hM
            exact j51 x1_41 u23.2.1 u23.2.2.1 u23.2.2.2.1 u23.2.2.2.2.1 u23.2.2.2.2.2.1 u23.2.2.2.2.2.2.1 u23.2.2.2.2.2.2.2.1 u23.2.2.2.2.2.2.2.2.1 u23.2.2.2.2.2.2.2.2.2.1 u23.2.2.2.2.2.2.2.2.2.2 u45.2 yO1_41 _ _ _ hW (lv_sub hl [1] rfl) hM
        refine lv_icmp_ge (tgt := 41) hx hb dX0_bestOrder_29 (by decide) (fun hc => ?_) (fun hc => ?_)
        · have hM := (if_pos hc).symm.trans hM
          exact j41 x1_16 yO1_16 _ _ _ hW (lv_sub hl [1, 2, 3] rfl) hM
        · have hM := (if_neg hc).symm.trans hM
          refine lv_iload_n hx hb dX0_bestOrder_32 rfl (lv_at hl 0 rfl) ?_
          refine lv_istore_n (lv' := [(1, .int u23.1), (3, .int u23.1), (0, .ref fc), (2, .int x2_16)]) hx hb dX0_bestOrder_33 rfl hl (by decide) rfl (fun ls hl => ?_)
          refine lv_aload_n hx hb dX0_bestOrder_34 rfl (lv_at hl 2 rfl) ?_
          refine g_get X hW 0 rfl rfl inX0 4 (by decide) q_202 rfl dX0_bestOrder_35 ?_
          obtain ⟨u38, hu38, hM⟩ := bind_some hM
          refine g_callVv (rest := []) (gr := [wFc fc (aP 0) (aNw 0) (aGs 0) (aTr 0) (aO 0), wPlan cI aP P, wLine cI aNw Nw, wPlan cI aGs (u11.1, u23.2.1, u11.2.2.1, u11.2.2.2.1, u11.2.2.2.2.1, u11.2.2.2.2.2.1, u11.2.2.2.2.2.2), wLine cI aTr (u23.2.2.1, u23.2.2.2.1, u23.2.2.2.2.1, u23.2.2.2.2.2.1, u23.2.2.2.2.2.2.1, u23.2.2.2.2.2.2.2.1, u23.2.2.2.2.2.2.2.2.1, u23.2.2.2.2.2.2.2.2.2.1, u23.2.2.2.2.2.2.2.2.2.2)]) X hl.1 hW (c_X2_markBest l G cI cZ cL N aO (yO0_16, yO1_16, O.2.2) u38 hu38) q_683 q_680 q_681 q_682 q_59 hd_X2_markBest rfl ⟨Nat.le_of_ble_eq_true rfl, Nat.le_of_ble_eq_true rfl⟩ ⟨Nat.zero_le _, Nat.zero_le _⟩ [5] [0, 1, 2, 3, 4] [wFc fc (aP 0) (aNw 0) (aGs 0) (aTr 0) (aO 0), wPlan cI aP P, wLine cI aNw Nw, wPlan cI aGs (u11.1, u23.2.1, u11.2.2.1, u11.2.2.2.1, u11.2.2.2.2.1, u11.2.2.2.2.2.1, u11.2.2.2.2.2.2), wLine cI aTr (u23.2.2.1, u23.2.2.2.1, u23.2.2.2.2.1, u23.2.2.2.2.2.1, u23.2.2.2.2.2.2.1, u23.2.2.2.2.2.2.2.1, u23.2.2.2.2.2.2.2.2.1, u23.2.2.2.2.2.2.2.2.2.1, u23.2.2.2.2.2.2.2.2.2.2), wOrd cI aO (yO0_16, u38, O.2.2)] ⟨pm_6_5, rfl, rfl, rfl⟩ ⟨pm_6_5, rfl, rfl, rfl⟩ (q0 := 21) rfl rfl rfl (Nat.le_of_ble_eq_true rfl) dX0_bestOrder_38 (fun H locs hW => ?_)
          exact j41 u23.1 u38 _ _ _ hW (lv_sub hl [2, 0, 3] rfl) hM
  exact lp16 N (100 : Int32) (0 : Int32) u11.2.1 Tr.1 Tr.2.1 Tr.2.2.1 Tr.2.2.2.1 Tr.2.2.2.2.1 Tr.2.2.2.2.2.1 Tr.2.2.2.2.2.2.1 Tr.2.2.2.2.2.2.2.1 Tr.2.2.2.2.2.2.2.2 O.1 O.2.1 _ _ _ hW (lv_sub hl [2, 1, 0] rfl) hM

def MX0_whoSneezed_j94 (x2_94 : Int32) (yTr0_94 : (Nat → Int32)) (yTr1_94 : (Nat → Int32)) (yTr2_94 : (Nat → Int32)) (yTr3_94 : (Nat → Int32)) (yTr4_94 : (Nat → Int32)) (yTr5_94 : Int32) (yTr6_94 : Int32) (yTr7_94 : Int32) (yTr8_94 : Int32) : Option (Int32 × (Nat → Int32) × (Nat → Int32) × (Nat → Int32) × (Nat → Int32) × (Nat → Int32) × Int32 × Int32 × Int32 × Int32) :=
  some (x2_94, yTr0_94, yTr1_94, yTr2_94, yTr3_94, yTr4_94, yTr5_94, yTr6_94, yTr7_94, yTr8_94)
def MX0_whoSneezed_j88 (x3_29 : Int32) (rc29 : (Int32 → Int32 → (Nat → Int32) → (Nat → Int32) → (Nat → Int32) → (Nat → Int32) → (Nat → Int32) → Int32 → Int32 → Int32 → Int32 → Option (Int32 × (Nat → Int32) × (Nat → Int32) × (Nat → Int32) × (Nat → Int32) × (Nat → Int32) × Int32 × Int32 × Int32 × Int32))) (x2_88 : Int32) (yTr0_88 : (Nat → Int32)) (yTr1_88 : (Nat → Int32)) (yTr2_88 : (Nat → Int32)) (yTr3_88 : (Nat → Int32)) (yTr4_88 : (Nat → Int32)) (yTr5_88 : Int32) (yTr6_88 : Int32) (yTr7_88 : Int32) (yTr8_88 : Int32) : Option (Int32 × (Nat → Int32) × (Nat → Int32) × (Nat → Int32) × (Nat → Int32) × (Nat → Int32) × Int32 × Int32 × Int32 × Int32) :=
  rc29 x2_88 (x3_29 + (1 : Int32)) yTr0_88 yTr1_88 yTr2_88 yTr3_88 yTr4_88 yTr5_88 yTr6_88 yTr7_88 yTr8_88
def MX0_whoSneezed_l29 (N : Nat) (P : PlanV) (Nw : LineV) (S : SeenV) : Nat → Int32 → Int32 → (Nat → Int32) → (Nat → Int32) → (Nat → Int32) → (Nat → Int32) → (Nat → Int32) → Int32 → Int32 → Int32 → Int32 → Option (Int32 × (Nat → Int32) × (Nat → Int32) × (Nat → Int32) × (Nat → Int32) × (Nat → Int32) × Int32 × Int32 × Int32 × Int32)
  | 0, _, _, _, _, _, _, _, _, _, _, _ => none
  | n29 + 1, x2_29, x3_29, yTr0_29, yTr1_29, yTr2_29, yTr3_29, yTr4_29, yTr5_29, yTr6_29, yTr7_29, yTr8_29 =>
    if P.2.2.2.1 ≤ x3_29 then (MX0_whoSneezed_j94 x2_29 yTr0_29 yTr1_29 yTr2_29 yTr3_29 yTr4_29 yTr5_29 yTr6_29 yTr7_29 yTr8_29) else ((MX1_whereIs N Nw x3_29).bind (fun u45 => if u45 = (1 : Int32) then ((MX0_startTrial N Nw (yTr0_29, yTr1_29, yTr2_29, yTr3_29, yTr4_29, yTr5_29, yTr6_29, yTr7_29, yTr8_29)).bind (fun u56 => (MX1_goToHead N u56 x3_29).bind (fun u64 => (MX4_holdsFor N S P (u64.1, u56.2.1, u64.2, u56.2.2.2.1, u56.2.2.2.2.1, u56.2.2.2.2.2.1, u56.2.2.2.2.2.2.1, u56.2.2.2.2.2.2.2.1, u56.2.2.2.2.2.2.2.2)).bind (fun u76 => if u76.1 = 0 then (MX0_whoSneezed_j88 x3_29 (MX0_whoSneezed_l29 N P Nw S n29) x2_29 u76.2.1 u76.2.2.1 u76.2.2.2.1 u76.2.2.2.2.1 u76.2.2.2.2.2.1 u76.2.2.2.2.2.2.1 u76.2.2.2.2.2.2.2.1 u76.2.2.2.2.2.2.2.2.1 u76.2.2.2.2.2.2.2.2.2) else (MLet (x2_29 ||| ((1 : Int32) <<< (x3_29 &&& 31))) (fun z87 => MX0_whoSneezed_j88 x3_29 (MX0_whoSneezed_l29 N P Nw S n29) z87 u76.2.1 u76.2.2.1 u76.2.2.2.1 u76.2.2.2.2.1 u76.2.2.2.2.2.1 u76.2.2.2.2.2.2.1 u76.2.2.2.2.2.2.2.1 u76.2.2.2.2.2.2.2.2.1 u76.2.2.2.2.2.2.2.2.2)))))) else (MX0_whoSneezed_j88 x3_29 (MX0_whoSneezed_l29 N P Nw S n29) x2_29 yTr0_29 yTr1_29 yTr2_29 yTr3_29 yTr4_29 yTr5_29 yTr6_29 yTr7_29 yTr8_29)))
def MX0_whoSneezed_j26 (N : Nat) (P : PlanV) (Nw : LineV) (S : SeenV) (u13 : Int32 × (Nat → Int32) × (Nat → Int32) × (Nat → Int32) × (Nat → Int32) × (Nat → Int32) × Int32 × Int32 × Int32 × Int32) (t0_26 : Int32) : Option (Int32 × (Nat → Int32) × (Nat → Int32) × (Nat → Int32) × (Nat → Int32) × (Nat → Int32) × Int32 × Int32 × Int32 × Int32) :=
  MX0_whoSneezed_l29 N P Nw S N t0_26 (0 : Int32) u13.2.1 u13.2.2.1 u13.2.2.2.1 u13.2.2.2.2.1 u13.2.2.2.2.2.1 u13.2.2.2.2.2.2.1 u13.2.2.2.2.2.2.2.1 u13.2.2.2.2.2.2.2.2.1 u13.2.2.2.2.2.2.2.2.2
def MX0_whoSneezed (N : Nat) (P : PlanV) (Nw : LineV) (Tr : LineV) (S : SeenV) : Option (Int32 × (Nat → Int32) × (Nat → Int32) × (Nat → Int32) × (Nat → Int32) × (Nat → Int32) × Int32 × Int32 × Int32 × Int32) :=
  (MX0_startTrial N Nw Tr).bind (fun u1 => (MX4_holdsFor N S P u1).bind (fun u13 => if u13.1 = 0 then MX0_whoSneezed_j26 N P Nw S u13 (0 : Int32) else MX0_whoSneezed_j26 N P Nw S u13 (512 : Int32)))
set_option maxHeartbeats 4000000 in
set_option maxRecDepth 100000 in
theorem c_X0_whoSneezed (l : Launch) (G : va_G) (cI cZ cL : ClassId) (N : Nat) (fc : Nat) (aP : Nat → Nat) (aNw : Nat → Nat) (aGs : Nat → Nat) (aTr : Nat → Nat) (aO : Nat → Nat) (aS : Nat → Nat) (P : PlanV) (Nw : LineV) (Gs : PlanV) (Tr : LineV) (O : OrdV) (S : SeenV) (rr : Int32 × (Nat → Int32) × (Nat → Int32) × (Nat → Int32) × (Nat → Int32) × (Nat → Int32) × Int32 × Int32 × Int32 × Int32) (hM : MX0_whoSneezed N P Nw Tr S = some rr) : CtI l yX0_whoSneezed cX0_whoSneezed 4 .int 5 118 G cI cZ cL [.ref fc, .ref (aS 0)] [wFc fc (aP 0) (aNw 0) (aGs 0) (aTr 0) (aO 0), wPlan cI aP P, wLine cI aNw Nw, wPlan cI aGs Gs, wLine cI aTr Tr, wOrd cI aO O, wSeen cI cZ aS S] rr.1 [wFc fc (aP 0) (aNw 0) (aGs 0) (aTr 0) (aO 0), wPlan cI aP P, wLine cI aNw Nw, wPlan cI aGs Gs, wLine cI aTr (rr.2.1, rr.2.2.1, rr.2.2.2.1, rr.2.2.2.2.1, rr.2.2.2.2.2.1, rr.2.2.2.2.2.2.1, rr.2.2.2.2.2.2.2.1, rr.2.2.2.2.2.2.2.2.1, rr.2.2.2.2.2.2.2.2.2), wOrd cI aO O, wSeen cI cZ aS S] := by
  refine ct_body (fun A => qI G rr.1 [wFc fc (aP 0) (aNw 0) (aGs 0) (aTr 0) (aO 0), wPlan cI aP P, wLine cI aNw Nw, wPlan cI aGs Gs, wLine cI aTr (rr.2.1, rr.2.2.1, rr.2.2.2.1, rr.2.2.2.2.1, rr.2.2.2.2.2.1, rr.2.2.2.2.2.2.1, rr.2.2.2.2.2.2.2.1, rr.2.2.2.2.2.2.2.2.1, rr.2.2.2.2.2.2.2.2.2), wOrd cI aO O, wSeen cI cZ aS S] A) (by decide) (Nat.le_of_ble_eq_true rfl) (fun p e s m below meth c A ls X hW hl => ?_)
  have hx := X.1
  have hb := X.2.1
  have hts := X.2.2.2.2.2.1
  have hown := X.2.2.2.2.2.2.1
  have hl : lv_has ls 4 [(0, .ref fc), (1, .ref (aS 0))] := hl
  unfold MX0_whoSneezed at hM
  refine lv_aload_n hx hb dX0_whoSneezed_0 rfl (lv_at hl 0 rfl) ?_
  obtain ⟨u1, hu1, hM⟩ := bind_some hM
  refine g_callVv (rest := []) (gr := [wSeen cI cZ aS S]) X hl.1 hW (c_X0_startTrial l G cI cZ cL N fc aP aNw aGs aTr aO P Nw Gs Tr O u1 hu1) q_600 q_597 q_598 q_599 q_57 hd_X0_startTrial rfl ⟨Nat.le_of_ble_eq_true rfl, Nat.le_of_ble_eq_true rfl⟩ ⟨Nat.zero_le _, Nat.zero_le _⟩ [0, 1, 2, 3, 4, 5] [6] [wFc fc (aP 0) (aNw 0) (aGs 0) (aTr 0) (aO 0), wPlan cI aP P, wLine cI aNw Nw, wPlan cI aGs Gs, wLine cI aTr u1, wOrd cI aO O, wSeen cI cZ aS S] ⟨pm_7_0_1_2_3_4_5, rfl, rfl, rfl⟩ ⟨pm_7_0_1_2_3_4_5, rfl, rfl, rfl⟩ (q0 := 0) rfl rfl rfl (Nat.le_of_ble_eq_true rfl) dX0_whoSneezed_1 (fun H locs hW => ?_)
  refine lv_aload_n hx hb dX0_whoSneezed_4 rfl (lv_at hl 1 rfl) ?_
  refine lv_aload_n hx hb dX0_whoSneezed_5 rfl (lv_at hl 0 rfl) ?_
  refine g_get X hW 0 rfl rfl inX0 0 (by decide) q_196 rfl dX0_whoSneezed_6 ?_
  refine lv_aload_n hx hb dX0_whoSneezed_9 rfl (lv_at hl 0 rfl) ?_
  refine g_get X hW 0 rfl rfl inX0 3 (by decide) q_201 rfl dX0_whoSneezed_10 ?_
  obtain ⟨u13, hu13, hM⟩ := bind_some hM
  refine g_callVi (rest := []) (gr := [wFc fc (aP 0) (aNw 0) (aGs 0) (aTr 0) (aO 0), wLine cI aNw Nw, wPlan cI aGs Gs, wOrd cI aO O]) X hl.1 hW (c_X4_holdsFor l G cI cZ cL N aS aP aTr S P u1 u13 hu13) q_724 q_721 q_722 q_723 q_60 hd_X4_holdsFor rfl ⟨Nat.le_of_ble_eq_true rfl, Nat.le_of_ble_eq_true rfl⟩ ⟨Nat.zero_le _, Nat.zero_le _⟩ [6, 1, 4] [0, 2, 3, 5] [wFc fc (aP 0) (aNw 0) (aGs 0) (aTr 0) (aO 0), wPlan cI aP P, wLine cI aNw Nw, wPlan cI aGs Gs, wLine cI aTr (u13.2.1, u13.2.2.1, u13.2.2.2.1, u13.2.2.2.2.1, u13.2.2.2.2.2.1, u13.2.2.2.2.2.2.1, u13.2.2.2.2.2.2.2.1, u13.2.2.2.2.2.2.2.2.1, u13.2.2.2.2.2.2.2.2.2), wOrd cI aO O, wSeen cI cZ aS S] ⟨pm_7_6_1_4, rfl, rfl, rfl⟩ ⟨pm_7_6_1_4, rfl, rfl, rfl⟩ (q0 := 24) rfl rfl rfl (Nat.le_of_ble_eq_true rfl) dX0_whoSneezed_13 (fun H locs hW => ?_)
  have j26 : ∀ (t0_26 : Int32) (H : Heap) (locs : List Loc) (ls : Array Slot), Wd G A s [wFc fc (aP 0) (aNw 0) (aGs 0) (aTr 0) (aO 0), wPlan cI aP P, wLine cI aNw Nw, wPlan cI aGs Gs, wLine cI aTr (u13.2.1, u13.2.2.1, u13.2.2.2.1, u13.2.2.2.2.1, u13.2.2.2.2.2.1, u13.2.2.2.2.2.2.1, u13.2.2.2.2.2.2.2.1, u13.2.2.2.2.2.2.2.2.1, u13.2.2.2.2.2.2.2.2.2), wOrd cI aO O, wSeen cI cZ aS S] H locs → lv_has ls 4 [(0, .ref fc), (1, .ref (aS 0))] → MX0_whoSneezed_j26 N P Nw S u13 t0_26 = some rr → W p l e (rmO 5 118) s m ([.ref fc, .ref (aS 0)] : List Value).toArray below meth c H locs 0 0 (MQ below (qI G rr.1 [wFc fc (aP 0) (aNw 0) (aGs 0) (aTr 0) (aO 0), wPlan cI aP P, wLine cI aNw Nw, wPlan cI aGs Gs, wLine cI aTr (rr.2.1, rr.2.2.1, rr.2.2.2.1, rr.2.2.2.2.1, rr.2.2.2.2.2.1, rr.2.2.2.2.2.2.1, rr.2.2.2.2.2.2.2.1, rr.2.2.2.2.2.2.2.2.1, rr.2.2.2.2.2.2.2.2.2), wOrd cI aO O, wSeen cI cZ aS S] A) ([.ref fc, .ref (aS 0)] : List Value).toArray s 0 0 A) (F0 m 26 ls [.int t0_26]) := by
    intro t0_26 H locs ls hW hl hM
    unfold MX0_whoSneezed_j26 at hM
    refine lv_istore_n (lv' := [(2, .int t0_26), (0, .ref fc), (1, .ref (aS 0))]) hx hb dX0_whoSneezed_26 rfl hl (by decide) rfl (fun ls hl => ?_)
    refine lv_iconst (v := (0 : Int32)) hx hb dX0_whoSneezed_27 (by decide) ?_
    refine lv_istore_n (lv' := [(3, .int (0 : Int32)), (2, .int t0_26), (0, .ref fc), (1, .ref (aS 0))]) hx hb dX0_whoSneezed_28 rfl hl (by decide) rfl (fun ls hl => ?_)
    have j94 : ∀ (x2_94 : Int32) (yTr0_94 : (Nat → Int32)) (yTr1_94 : (Nat → Int32)) (yTr2_94 : (Nat → Int32)) (yTr3_94 : (Nat → Int32)) (yTr4_94 : (Nat → Int32)) (yTr5_94 : Int32) (yTr6_94 : Int32) (yTr7_94 : Int32) (yTr8_94 : Int32) (H : Heap) (locs : List Loc) (ls : Array Slot), Wd G A s [wFc fc (aP 0) (aNw 0) (aGs 0) (aTr 0) (aO 0), wPlan cI aP P, wLine cI aNw Nw, wPlan cI aGs Gs, wLine cI aTr (yTr0_94, yTr1_94, yTr2_94, yTr3_94, yTr4_94, yTr5_94, yTr6_94, yTr7_94, yTr8_94), wOrd cI aO O, wSeen cI cZ aS S] H locs → lv_has ls 4 [(2, .int x2_94)] → MX0_whoSneezed_j94 x2_94 yTr0_94 yTr1_94 yTr2_94 yTr3_94 yTr4_94 yTr5_94 yTr6_94 yTr7_94 yTr8_94 = some rr → W p l e (rmO 5 118) s m ([.ref fc, .ref (aS 0)] : List Value).toArray below meth c H locs 0 0 (MQ below (qI G rr.1 [wFc fc (aP 0) (aNw 0) (aGs 0) (aTr 0) (aO 0), wPlan cI aP P, wLine cI aNw Nw, wPlan cI aGs Gs, wLine cI aTr (rr.2.1, rr.2.2.1, rr.2.2.2.1, rr.2.2.2.2.1, rr.2.2.2.2.2.1, rr.2.2.2.2.2.2.1, rr.2.2.2.2.2.2.2.1, rr.2.2.2.2.2.2.2.2.1, rr.2.2.2.2.2.2.2.2.2), wOrd cI aO O, wSeen cI cZ aS S] A) ([.ref fc, .ref (aS 0)] : List Value).toArray s 0 0 A) (F0 m 94 ls []) := by
      intro x2_94 yTr0_94 yTr1_94 yTr2_94 yTr3_94 yTr4_94 yTr5_94 yTr6_94 yTr7_94 yTr8_94 H locs ls hW hl hM
      unfold MX0_whoSneezed_j94 at hM
      refine lv_iload_n hx hb dX0_whoSneezed_94 rfl (lv_at hl 0 rfl) ?_
      obtain rfl := Option.some.inj hM
      exact g_reti X hW rfl rfl dX0_whoSneezed_95
    have lp29 : ∀ (n29 : Nat) (x2_29 : Int32) (x3_29 : Int32) (yTr0_29 : (Nat → Int32)) (yTr1_29 : (Nat → Int32)) (yTr2_29 : (Nat → Int32)) (yTr3_29 : (Nat → Int32)) (yTr4_29 : (Nat → Int32)) (yTr5_29 : Int32) (yTr6_29 : Int32) (yTr7_29 : Int32) (yTr8_29 : Int32) (H : Heap) (locs : List Loc) (ls : Array Slot), Wd G A s [wFc fc (aP 0) (aNw 0) (aGs 0) (aTr 0) (aO 0), wPlan cI aP P, wLine cI aNw Nw, wPlan cI aGs Gs, wLine cI aTr (yTr0_29, yTr1_29, yTr2_29, yTr3_29, yTr4_29, yTr5_29, yTr6_29, yTr7_29, yTr8_29), wOrd cI aO O, wSeen cI cZ aS S] H locs → lv_has ls 4 [(0, .ref fc), (1, .ref (aS 0)), (2, .int x2_29), (3, .int x3_29)] → MX0_whoSneezed_l29 N P Nw S n29 x2_29 x3_29 yTr0_29 yTr1_29 yTr2_29 yTr3_29 yTr4_29 yTr5_29 yTr6_29 yTr7_29 yTr8_29 = some rr → W p l e (rmO 5 118) s m ([.ref fc, .ref (aS 0)] : List Value).toArray below meth c H locs 0 0 (MQ below (qI G rr.1 [wFc fc (aP 0) (aNw 0) (aGs 0) (aTr 0) (aO 0), wPlan cI aP P, wLine cI aNw Nw, wPlan cI aGs Gs, wLine cI aTr (rr.2.1, rr.2.2.1, rr.2.2.2.1, rr.2.2.2.2.1, rr.2.2.2.2.2.1, rr.2.2.2.2.2.2.1, rr.2.2.2.2.2.2.2.1, rr.2.2.2.2.2.2.2.2.1, rr.2.2.2.2.2.2.2.2.2), wOrd cI aO O, wSeen cI cZ aS S] A) ([.ref fc, .ref (aS 0)] : List Value).toArray s 0 0 A) (F0 m 29 ls []) := by
      intro n29
      induction n29 with
      | zero =>
        intro x2_29 x3_29 yTr0_29 yTr1_29 yTr2_29 yTr3_29 yTr4_29 yTr5_29 yTr6_29 yTr7_29 yTr8_29 H locs ls hW hl hM
        rw [MX0_whoSneezed_l29] at hM
        cases hM
      | succ n29 ih29 =>
        intro x2_29 x3_29 yTr0_29 yTr1_29 yTr2_29 yTr3_29 yTr4_29 yTr5_29 yTr6_29 yTr7_29 yTr8_29 H locs ls hW hl hM
        rw [MX0_whoSneezed_l29] at hM
        refine lv_iload_n hx hb dX0_whoSneezed_29 rfl (lv_at hl 3 rfl) ?_
        refine lv_aload_n hx hb dX0_whoSneezed_30 rfl (lv_at hl 0 rfl) ?_
        refine g_get X hW 0 rfl rfl inX0 0 (by decide) q_196 rfl dX0_whoSneezed_31 ?_
        refine g_getN X hW 1 rfl rfl inX3 3 (by decide) nt_6 rfl dX0_whoSneezed_34 ?_
        refine lv_icmp_ge (tgt := 94) hx hb dX0_whoSneezed_37 (by decide) (fun hc => ?_) (fun hc => ?_)
        · have hM := (if_pos hc).symm.trans hM
          exact j94 x2_29 yTr0_29 yTr1_29 yTr2_29 yTr3_29 yTr4_29 yTr5_29 yTr6_29 yTr7_29 yTr8_29 _ _ _ hW (lv_sub hl [2] rfl) hM
        · have hM := (if_neg hc).symm.trans hM
          refine lv_aload_n hx hb dX0_whoSneezed_40 rfl (lv_at hl 0 rfl) ?_
          refine g_get X hW 0 rfl rfl inX0 1 (by decide) q_198 rfl dX0_whoSneezed_41 ?_
          refine lv_iload_n hx hb dX0_whoSneezed_44 rfl (lv_at hl 3 rfl) ?_
          obtain ⟨u45, hu45, hM⟩ := bind_some hM
          refine g_callVi (rest := []) (gr := [wFc fc (aP 0) (aNw 0) (aGs 0) (aTr 0) (aO 0), wPlan cI aP P, wPlan cI aGs Gs, wLine cI aTr (yTr0_29, yTr1_29, yTr2_29, yTr3_29, yTr4_29, yTr5_29, yTr6_29, yTr7_29, yTr8_29), wOrd cI aO O, wSeen cI cZ aS S]) X hl.1 hW (c_X1_whereIs l G cI cZ cL N aNw Nw x3_29 u45 hu45) q_450 q_616 q_448 q_449 q_58 hd_X1_whereIs rfl ⟨Nat.le_of_ble_eq_true rfl, Nat.le_of_ble_eq_true rfl⟩ ⟨Nat.zero_le _, Nat.zero_le _⟩ [2] [0, 1, 3, 4, 5, 6] [wFc fc (aP 0) (aNw 0) (aGs 0) (aTr 0) (aO 0), wPlan cI aP P, wLine cI aNw Nw, wPlan cI aGs Gs, wLine cI aTr (yTr0_29, yTr1_29, yTr2_29, yTr3_29, yTr4_29, yTr5_29, yTr6_29, yTr7_29, yTr8_29), wOrd cI aO O, wSeen cI cZ aS S] ⟨pm_7_2, rfl, rfl, rfl⟩ ⟨pm_7_2, rfl, rfl, rfl⟩ (q0 := 5) rfl rfl rfl (Nat.le_of_ble_eq_true rfl) dX0_whoSneezed_45 (fun H locs hW => ?_)
          refine lv_iconst (v := (1 : Int32)) hx hb dX0_whoSneezed_48 (by decide) ?_
          have j88 : ∀ (x2_88 : Int32) (yTr0_88 : (Nat → Int32)) (yTr1_88 : (Nat → Int32)) (yTr2_88 : (Nat → Int32)) (yTr3_88 : (Nat → Int32)) (yTr4_88 : (Nat → Int32)) (yTr5_88 : Int32) (yTr6_88 : Int32) (yTr7_88 : Int32) (yTr8_88 : Int32) (H : Heap) (locs : List Loc) (ls : Array Slot), Wd G A s [wFc fc (aP 0) (aNw 0) (aGs 0) (aTr 0) (aO 0), wPlan cI aP P, wLine cI aNw Nw, wPlan cI aGs Gs, wLine cI aTr (yTr0_88, yTr1_88, yTr2_88, yTr3_88, yTr4_88, yTr5_88, yTr6_88, yTr7_88, yTr8_88), wOrd cI aO O, wSeen cI cZ aS S] H locs → lv_has ls 4 [(0, .ref fc), (1, .ref (aS 0)), (2, .int x2_88), (3, .int x3_29)] → MX0_whoSneezed_j88 x3_29 (MX0_whoSneezed_l29 N P Nw S n29) x2_88 yTr0_88 yTr1_88 yTr2_88 yTr3_88 yTr4_88 yTr5_88 yTr6_88 yTr7_88 yTr8_88 = some rr → W p l e (rmO 5 118) s m ([.ref fc, .ref (aS 0)] : List Value).toArray below meth c H locs 0 0 (MQ below (qI G rr.1 [wFc fc (aP 0) (aNw 0) (aGs 0) (aTr 0) (aO 0), wPlan cI aP P, wLine cI aNw Nw, wPlan cI aGs Gs, wLine cI aTr (rr.2.1, rr.2.2.1, rr.2.2.2.1, rr.2.2.2.2.1, rr.2.2.2.2.2.1, rr.2.2.2.2.2.2.1, rr.2.2.2.2.2.2.2.1, rr.2.2.2.2.2.2.2.2.1, rr.2.2.2.2.2.2.2.2.2), wOrd cI aO O, wSeen cI cZ aS S] A) ([.ref fc, .ref (aS 0)] : List Value).toArray s 0 0 A) (F0 m 88 ls []) := by
            intro x2_88 yTr0_88 yTr1_88 yTr2_88 yTr3_88 yTr4_88 yTr5_88 yTr6_88 yTr7_88 yTr8_88 H locs ls hW hl hM
            unfold MX0_whoSneezed_j88 at hM
            refine lv_iinc (v := x3_29 + (1 : Int32)) (lv' := [(3, .int (x3_29 + (1 : Int32))), (0, .ref fc), (1, .ref (aS 0)), (2, .int x2_88)]) hx hb dX0_whoSneezed_88 hl (k := 3) rfl rfl (by decide) rfl (fun ls hl => ?_)
            refine lv_goto (tgt := 29) hx hb dX0_whoSneezed_91 (by decide) ?_
            exact ih29 x2_88 (x3_29 + (1 : Int32)) yTr0_88 yTr1_88 yTr2_88 yTr3_88 yTr4_88 yTr5_88 yTr6_88 yTr7_88 yTr8_88 _ _ _ hW (lv_sub hl [1, 2, 3, 0] rfl) hM
          refine lv_icmp_eq (tgt := 55) hx hb dX0_whoSneezed_49 (by decide) (fun hc => ?_) (fun hc => ?_)
          · have hM := (if_pos hc).symm.trans hM
            refine lv_aload_n hx hb dX0_whoSneezed_55 rfl (lv_at hl 0 rfl) ?_
            obtain ⟨u56, hu56, hM⟩ := bind_some hM
            refine g_callVv (rest := []) (gr := [wSeen cI cZ aS S]) X hl.1 hW (c_X0_startTrial l G cI cZ cL N fc aP aNw aGs aTr aO P Nw Gs (yTr0_29, yTr1_29, yTr2_29, yTr3_29, yTr4_29, yTr5_29, yTr6_29, yTr7_29, yTr8_29) O u56 hu56) q_600 q_597 q_598 q_599 q_57 hd_X0_startTrial rfl ⟨Nat.le_of_ble_eq_true rfl, Nat.le_of_ble_eq_true rfl⟩ ⟨Nat.zero_le _, Nat.zero_le _⟩ [0, 1, 2, 3, 4, 5] [6] [wFc fc (aP 0) (aNw 0) (aGs 0) (aTr 0) (aO 0), wPlan cI aP P, wLine cI aNw Nw, wPlan cI aGs Gs, wLine cI aTr u56, wOrd cI aO O, wSeen cI cZ aS S] ⟨pm_7_0_1_2_3_4_5, rfl, rfl, rfl⟩ ⟨pm_7_0_1_2_3_4_5, rfl, rfl, rfl⟩ (q0 := 0) rfl rfl rfl (Nat.le_of_ble_eq_true rfl) dX0_whoSneezed_56 (fun H locs hW => ?_)
            refine lv_aload_n hx hb dX0_whoSneezed_59 rfl (lv_at hl 0 rfl) ?_
            refine g_get X hW 0 rfl rfl inX0 3 (by decide) q_201 rfl dX0_whoSneezed_60 ?_
            refine lv_iload_n hx hb dX0_whoSneezed_63 rfl (lv_at hl 3 rfl) ?_
            obtain ⟨u64, hu64, hM⟩ := bind_some hM
            refine g_callVv (rest := []) (gr := [wFc fc (aP 0) (aNw 0) (aGs 0) (aTr 0) (aO 0), wPlan cI aP P, wLine cI aNw Nw, wPlan cI aGs Gs, wOrd cI aO O, wSeen cI cZ aS S]) X hl.1 hW (c_X1_goToHead l G cI cZ cL N aTr u56 x3_29 u64 hu64) q_522 q_634 q_520 q_521 q_58 hd_X1_goToHead rfl ⟨Nat.le_of_ble_eq_true rfl, Nat.le_of_ble_eq_true rfl⟩ ⟨Nat.zero_le _, Nat.zero_le _⟩ [4] [0, 1, 2, 3, 5, 6] [wFc fc (aP 0) (aNw 0) (aGs 0) (aTr 0) (aO 0), wPlan cI aP P, wLine cI aNw Nw, wPlan cI aGs Gs, wLine cI aTr (u64.1, u56.2.1, u64.2, u56.2.2.2.1, u56.2.2.2.2.1, u56.2.2.2.2.2.1, u56.2.2.2.2.2.2.1, u56.2.2.2.2.2.2.2.1, u56.2.2.2.2.2.2.2.2), wOrd cI aO O, wSeen cI cZ aS S] ⟨pm_7_4, rfl, rfl, rfl⟩ ⟨pm_7_4, rfl, rfl, rfl⟩ (q0 := 15) rfl rfl rfl (Nat.le_of_ble_eq_true rfl) dX0_whoSneezed_64 (fun H locs hW => ?_)
            refine lv_aload_n hx hb dX0_whoSneezed_67 rfl (lv_at hl 1 rfl) ?_
            refine lv_aload_n hx hb dX0_whoSneezed_68 rfl (lv_at hl 0 rfl) ?_
            refine g_get X hW 0 rfl rfl inX0 0 (by decide) q_196 rfl dX0_whoSneezed_69 ?_
            refine lv_aload_n hx hb dX0_whoSneezed_72 rfl (lv_at hl 0 rfl) ?_
            refine g_get X hW 0 rfl rfl inX0 3 (by decide) q_201 rfl dX0_whoSneezed_73 ?_
            obtain ⟨u76, hu76, hM⟩ := bind_some hM
            refine g_callVi (rest := []) (gr := [wFc fc (aP 0) (aNw 0) (aGs 0) (aTr 0) (aO 0), wLine cI aNw Nw, wPlan cI aGs Gs, wOrd cI aO O]) X hl.1 hW (c_X4_holdsFor l G cI cZ cL N aS aP aTr S P (u64.1, u56.2.1, u64.2, u56.2.2.2.1, u56.2.2.2.2.1, u56.2.2.2.2.2.1, u56.2.2.2.2.2.2.1, u56.2.2.2.2.2.2.2.1, u56.2.2.2.2.2.2.2.2) u76 hu76) q_724 q_721 q_722 q_723 q_60 hd_X4_holdsFor rfl ⟨Nat.le_of_ble_eq_true rfl, Nat.le_of_ble_eq_true rfl⟩ ⟨Nat.zero_le _, Nat.zero_le _⟩ [6, 1, 4] [0, 2, 3, 5] [wFc fc (aP 0) (aNw 0) (aGs 0) (aTr 0) (aO 0), wPlan cI aP P, wLine cI aNw Nw, wPlan cI aGs Gs, wLine cI aTr (u76.2.1, u76.2.2.1, u76.2.2.2.1, u76.2.2.2.2.1, u76.2.2.2.2.2.1, u76.2.2.2.2.2.2.1, u76.2.2.2.2.2.2.2.1, u76.2.2.2.2.2.2.2.2.1, u76.2.2.2.2.2.2.2.2.2), wOrd cI aO O, wSeen cI cZ aS S] ⟨pm_7_6_1_4, rfl, rfl, rfl⟩ ⟨pm_7_6_1_4, rfl, rfl, rfl⟩ (q0 := 24) rfl rfl rfl (Nat.le_of_ble_eq_true rfl) dX0_whoSneezed_76 (fun H locs hW => ?_)
            refine lv_if_eq (tgt := 88) hx hb dX0_whoSneezed_79 (by decide) (fun hc => ?_) (fun hc => ?_)
            · have hM := (if_pos hc).symm.trans hM
              exact j88 x2_29 u76.2.1 u76.2.2.1 u76.2.2.2.1 u76.2.2.2.2.1 u76.2.2.2.2.2.1 u76.2.2.2.2.2.2.1 u76.2.2.2.2.2.2.2.1 u76.2.2.2.2.2.2.2.2.1 u76.2.2.2.2.2.2.2.2.2 _ _ _ hW (lv_sub hl [0, 1, 2, 3] rfl) hM
            · have hM := (if_neg hc).symm.trans hM
              refine lv_iload_n hx hb dX0_whoSneezed_82 rfl (lv_at hl 2 rfl) ?_
              refine lv_iconst (v := (1 : Int32)) hx hb dX0_whoSneezed_83 (by decide) ?_
              refine lv_iload_n hx hb dX0_whoSneezed_84 rfl (lv_at hl 3 rfl) ?_
              refine lv_ishl hx hb dX0_whoSneezed_85 ?_
              refine lv_ior hx hb dX0_whoSneezed_86 ?_
              refine lv_topi (fun z87 ez87 => ?_)
              have hM := MLet_some hM z87 ez87
              refine lv_istore_n (lv' := [(2, .int z87), (0, .ref fc), (1, .ref (aS 0)), (3, .int x3_29)]) hx hb dX0_whoSneezed_87 rfl hl (by decide) rfl (fun ls hl => ?_)
              exact j88 z87 u76.2.1 u76.2.2.1 u76.2.2.2.1 u76.2.2.2.2.1 u76.2.2.2.2.2.1 u76.2.2.2.2.2.2.1 u76.2.2.2.2.2.2.2.1 u76.2.2.2.2.2.2.2.2.1 u76.2.2.2.2.2.2.2.2.2 _ _ _ hW (lv_sub hl [1, 2, 0, 3] rfl) hM
          · have hM := (if_neg hc).symm.trans hM
            refine lv_goto (tgt := 88) hx hb dX0_whoSneezed_52 (by decide) ?_
            exact j88 x2_29 yTr0_29 yTr1_29 yTr2_29 yTr3_29 yTr4_29 yTr5_29 yTr6_29 yTr7_29 yTr8_29 _ _ _ hW (lv_sub hl [0, 1, 2, 3] rfl) hM
    exact lp29 N t0_26 (0 : Int32) u13.2.1 u13.2.2.1 u13.2.2.2.1 u13.2.2.2.2.1 u13.2.2.2.2.2.1 u13.2.2.2.2.2.2.1 u13.2.2.2.2.2.2.2.1 u13.2.2.2.2.2.2.2.2.1 u13.2.2.2.2.2.2.2.2.2 _ _ _ hW (lv_sub hl [2, 3, 1, 0] rfl) hM
  refine lv_if_eq (tgt := 25) hx hb dX0_whoSneezed_16 (by decide) (fun hc => ?_) (fun hc => ?_)
  · have hM := (if_pos hc).symm.trans hM
    refine lv_iconst (v := (0 : Int32)) hx hb dX0_whoSneezed_25 (by decide) ?_
    exact j26 (0 : Int32) _ _ _ hW (lv_sub hl [0, 1] rfl) hM
  · have hM := (if_neg hc).symm.trans hM
    refine lv_sipush (v := (512 : Int32)) hx hb dX0_whoSneezed_19 (by decide) ?_
    refine lv_goto (tgt := 26) hx hb dX0_whoSneezed_22 (by decide) ?_
    exact j26 (512 : Int32) _ _ _ hW (lv_sub hl [0, 1] rfl) hM

def MX0_whichKinds_j64 (u10 : (Nat → Int32) × (Nat → Int32) × (Nat → Int32) × Int32 × Int32 × Int32 × Int32) (x3_64 : Int32) (yGs0_64 : (Nat → Int32)) (yTr0_64 : (Nat → Int32)) (yTr1_64 : (Nat → Int32)) (yTr2_64 : (Nat → Int32)) (yTr3_64 : (Nat → Int32)) (yTr4_64 : (Nat → Int32)) (yTr5_64 : Int32) (yTr6_64 : Int32) (yTr7_64 : Int32) (yTr8_64 : Int32) : Option (Int32 × (Nat → Int32) × (Nat → Int32) × (Nat → Int32) × Int32 × Int32 × Int32 × Int32 × (Nat → Int32) × (Nat → Int32) × (Nat → Int32) × (Nat → Int32) × (Nat → Int32) × Int32 × Int32 × Int32 × Int32) :=
  some (x3_64, yGs0_64, u10.2.1, u10.2.2.1, u10.2.2.2.1, u10.2.2.2.2.1, u10.2.2.2.2.2.1, u10.2.2.2.2.2.2, yTr0_64, yTr1_64, yTr2_64, yTr3_64, yTr4_64, yTr5_64, yTr6_64, yTr7_64, yTr8_64)
def MX0_whichKinds_j58 (x4_16 : Int32) (rc16 : (Int32 → Int32 → (Nat → Int32) → (Nat → Int32) → (Nat → Int32) → (Nat → Int32) → (Nat → Int32) → (Nat → Int32) → Int32 → Int32 → Int32 → Int32 → Option (Int32 × (Nat → Int32) × (Nat → Int32) × (Nat → Int32) × Int32 × Int32 × Int32 × Int32 × (Nat → Int32) × (Nat → Int32) × (Nat → Int32) × (Nat → Int32) × (Nat → Int32) × Int32 × Int32 × Int32 × Int32))) (u29 : (Nat → Int32)) (u45 : Int32 × (Nat → Int32) × (Nat → Int32) × (Nat → Int32) × (Nat → Int32) × (Nat → Int32) × Int32 × Int32 × Int32 × Int32) (x3_58 : Int32) : Option (Int32 × (Nat → Int32) × (Nat → Int32) × (Nat → Int32) × Int32 × Int32 × Int32 × Int32 × (Nat → Int32) × (Nat → Int32) × (Nat → Int32) × (Nat → Int32) × (Nat → Int32) × Int32 × Int32 × Int32 × Int32) :=
  rc16 x3_58 (x4_16 + (1 : Int32)) u29 u45.2.1 u45.2.2.1 u45.2.2.2.1 u45.2.2.2.2.1 u45.2.2.2.2.2.1 u45.2.2.2.2.2.2.1 u45.2.2.2.2.2.2.2.1 u45.2.2.2.2.2.2.2.2.1 u45.2.2.2.2.2.2.2.2.2
def MX0_whichKinds_l16 (N : Nat) (Nw : LineV) (S : SeenV) (p2 : Int32) (u10 : (Nat → Int32) × (Nat → Int32) × (Nat → Int32) × Int32 × Int32 × Int32 × Int32) : Nat → Int32 → Int32 → (Nat → Int32) → (Nat → Int32) → (Nat → Int32) → (Nat → Int32) → (Nat → Int32) → (Nat → Int32) → Int32 → Int32 → Int32 → Int32 → Option (Int32 × (Nat → Int32) × (Nat → Int32) × (Nat → Int32) × Int32 × Int32 × Int32 × Int32 × (Nat → Int32) × (Nat → Int32) × (Nat → Int32) × (Nat → Int32) × (Nat → Int32) × Int32 × Int32 × Int32 × Int32)
  | 0, _, _, _, _, _, _, _, _, _, _, _, _ => none
  | n16 + 1, x3_16, x4_16, yGs0_16, yTr0_16, yTr1_16, yTr2_16, yTr3_16, yTr4_16, yTr5_16, yTr6_16, yTr7_16, yTr8_16 =>
    if (4 : Int32) ≤ x4_16 then (MX0_whichKinds_j64 u10 x3_16 yGs0_16 yTr0_16 yTr1_16 yTr2_16 yTr3_16 yTr4_16 yTr5_16 yTr6_16 yTr7_16 yTr8_16) else ((MX3_setKind N (yGs0_16, u10.2.1, u10.2.2.1, u10.2.2.2.1, u10.2.2.2.2.1, u10.2.2.2.2.2.1, u10.2.2.2.2.2.2) p2 x4_16).bind (fun u29 => (MX0_startTrial N Nw (yTr0_16, yTr1_16, yTr2_16, yTr3_16, yTr4_16, yTr5_16, yTr6_16, yTr7_16, yTr8_16)).bind (fun u33 => (MX4_holdsFor N S (u29, u10.2.1, u10.2.2.1, u10.2.2.2.1, u10.2.2.2.2.1, u10.2.2.2.2.2.1, u10.2.2.2.2.2.2) u33).bind (fun u45 => if u45.1 = 0 then (MX0_whichKinds_j58 x4_16 (MX0_whichKinds_l16 N Nw S p2 u10 n16) u29 u45 x3_16) else (MLet (x3_16 ||| ((1 : Int32) <<< (x4_16 &&& 31))) (fun z57 => MX0_whichKinds_j58 x4_16 (MX0_whichKinds_l16 N Nw S p2 u10 n16) u29 u45 z57))))))
def MX0_whichKinds (N : Nat) (P : PlanV) (Nw : LineV) (Gs : PlanV) (Tr : LineV) (S : SeenV) (p2 : Int32) : Option (Int32 × (Nat → Int32) × (Nat → Int32) × (Nat → Int32) × Int32 × Int32 × Int32 × Int32 × (Nat → Int32) × (Nat → Int32) × (Nat → Int32) × (Nat → Int32) × (Nat → Int32) × Int32 × Int32 × Int32 × Int32) :=
  (MX3_copyFrom N Gs P).bind (fun u10 => MX0_whichKinds_l16 N Nw S p2 u10 N (0 : Int32) (0 : Int32) u10.1 Tr.1 Tr.2.1 Tr.2.2.1 Tr.2.2.2.1 Tr.2.2.2.2.1 Tr.2.2.2.2.2.1 Tr.2.2.2.2.2.2.1 Tr.2.2.2.2.2.2.2.1 Tr.2.2.2.2.2.2.2.2)
set_option maxHeartbeats 4000000 in
set_option maxRecDepth 100000 in
theorem c_X0_whichKinds (l : Launch) (G : va_G) (cI cZ cL : ClassId) (N : Nat) (fc : Nat) (aP : Nat → Nat) (aNw : Nat → Nat) (aGs : Nat → Nat) (aTr : Nat → Nat) (aO : Nat → Nat) (aS : Nat → Nat) (P : PlanV) (Nw : LineV) (Gs : PlanV) (Tr : LineV) (O : OrdV) (S : SeenV) (p2 : Int32) (rr : Int32 × (Nat → Int32) × (Nat → Int32) × (Nat → Int32) × Int32 × Int32 × Int32 × Int32 × (Nat → Int32) × (Nat → Int32) × (Nat → Int32) × (Nat → Int32) × (Nat → Int32) × Int32 × Int32 × Int32 × Int32) (hM : MX0_whichKinds N P Nw Gs Tr S p2 = some rr) : CtI l yX0_whichKinds cX0_whichKinds 5 .int 5 118 G cI cZ cL [.ref fc, .ref (aS 0), .int p2] [wFc fc (aP 0) (aNw 0) (aGs 0) (aTr 0) (aO 0), wPlan cI aP P, wLine cI aNw Nw, wPlan cI aGs Gs, wLine cI aTr Tr, wOrd cI aO O, wSeen cI cZ aS S] rr.1 [wFc fc (aP 0) (aNw 0) (aGs 0) (aTr 0) (aO 0), wPlan cI aP P, wLine cI aNw Nw, wPlan cI aGs (rr.2.1, rr.2.2.1, rr.2.2.2.1, rr.2.2.2.2.1, rr.2.2.2.2.2.1, rr.2.2.2.2.2.2.1, rr.2.2.2.2.2.2.2.1), wLine cI aTr (rr.2.2.2.2.2.2.2.2.1, rr.2.2.2.2.2.2.2.2.2.1, rr.2.2.2.2.2.2.2.2.2.2.1, rr.2.2.2.2.2.2.2.2.2.2.2.1, rr.2.2.2.2.2.2.2.2.2.2.2.2.1, rr.2.2.2.2.2.2.2.2.2.2.2.2.2.1, rr.2.2.2.2.2.2.2.2.2.2.2.2.2.2.1, rr.2.2.2.2.2.2.2.2.2.2.2.2.2.2.2.1, rr.2.2.2.2.2.2.2.2.2.2.2.2.2.2.2.2), wOrd cI aO O, wSeen cI cZ aS S] := by
  refine ct_body (fun A => qI G rr.1 [wFc fc (aP 0) (aNw 0) (aGs 0) (aTr 0) (aO 0), wPlan cI aP P, wLine cI aNw Nw, wPlan cI aGs (rr.2.1, rr.2.2.1, rr.2.2.2.1, rr.2.2.2.2.1, rr.2.2.2.2.2.1, rr.2.2.2.2.2.2.1, rr.2.2.2.2.2.2.2.1), wLine cI aTr (rr.2.2.2.2.2.2.2.2.1, rr.2.2.2.2.2.2.2.2.2.1, rr.2.2.2.2.2.2.2.2.2.2.1, rr.2.2.2.2.2.2.2.2.2.2.2.1, rr.2.2.2.2.2.2.2.2.2.2.2.2.1, rr.2.2.2.2.2.2.2.2.2.2.2.2.2.1, rr.2.2.2.2.2.2.2.2.2.2.2.2.2.2.1, rr.2.2.2.2.2.2.2.2.2.2.2.2.2.2.2.1, rr.2.2.2.2.2.2.2.2.2.2.2.2.2.2.2.2), wOrd cI aO O, wSeen cI cZ aS S] A) (by decide) (Nat.le_of_ble_eq_true rfl) (fun p e s m below meth c A ls X hW hl => ?_)
  have hx := X.1
  have hb := X.2.1
  have hts := X.2.2.2.2.2.1
  have hown := X.2.2.2.2.2.2.1
  have hl : lv_has ls 5 [(0, .ref fc), (1, .ref (aS 0)), (2, .int p2)] := hl
  unfold MX0_whichKinds at hM
  refine lv_iconst (v := (0 : Int32)) hx hb dX0_whichKinds_0 (by decide) ?_
  refine lv_istore_n (lv' := [(3, .int (0 : Int32)), (0, .ref fc), (1, .ref (aS 0)), (2, .int p2)]) hx hb dX0_whichKinds_1 rfl hl (by decide) rfl (fun ls hl => ?_)
  refine lv_aload_n hx hb dX0_whichKinds_2 rfl (lv_at hl 1 rfl) ?_
  refine g_get X hW 0 rfl rfl inX0 2 (by decide) q_200 rfl dX0_whichKinds_3 ?_
  refine lv_aload_n hx hb dX0_whichKinds_6 rfl (lv_at hl 1 rfl) ?_
  refine g_get X hW 0 rfl rfl inX0 0 (by decide) q_196 rfl dX0_whichKinds_7 ?_
  obtain ⟨u10, hu10, hM⟩ := bind_some hM
  refine g_callVv (rest := []) (gr := [wFc fc (aP 0) (aNw 0) (aGs 0) (aTr 0) (aO 0), wLine cI aNw Nw, wLine cI aTr Tr, wOrd cI aO O, wSeen cI cZ aS S]) X hl.1 hW (c_X3_copyFrom l G cI cZ cL N aGs aP Gs P u10 hu10) q_411 q_657 q_409 q_410 q_56 hd_X3_copyFrom rfl ⟨Nat.le_of_ble_eq_true rfl, Nat.le_of_ble_eq_true rfl⟩ ⟨Nat.zero_le _, Nat.zero_le _⟩ [3, 1] [0, 2, 4, 5, 6] [wFc fc (aP 0) (aNw 0) (aGs 0) (aTr 0) (aO 0), wPlan cI aP P, wLine cI aNw Nw, wPlan cI aGs u10, wLine cI aTr Tr, wOrd cI aO O, wSeen cI cZ aS S] ⟨pm_7_3_1, rfl, rfl, rfl⟩ ⟨pm_7_3_1, rfl, rfl, rfl⟩ (q0 := 11) rfl rfl rfl (Nat.le_of_ble_eq_true rfl) dX0_whichKinds_10 (fun H locs hW => ?_)
  refine lv_iconst (v := (0 : Int32)) hx hb dX0_whichKinds_13 (by decide) ?_
  refine lv_istore (lv' := [(4, .int (0 : Int32)), (3, .int (0 : Int32)), (0, .ref fc), (1, .ref (aS 0)), (2, .int p2)]) hx hb dX0_whichKinds_14 hl (by decide) rfl (fun ls hl => ?_)
  have j64 : ∀ (x3_64 : Int32) (yGs0_64 : (Nat → Int32)) (yTr0_64 : (Nat → Int32)) (yTr1_64 : (Nat → Int32)) (yTr2_64 : (Nat → Int32)) (yTr3_64 : (Nat → Int32)) (yTr4_64 : (Nat → Int32)) (yTr5_64 : Int32) (yTr6_64 : Int32) (yTr7_64 : Int32) (yTr8_64 : Int32) (H : Heap) (locs : List Loc) (ls : Array Slot), Wd G A s [wFc fc (aP 0) (aNw 0) (aGs 0) (aTr 0) (aO 0), wPlan cI aP P, wLine cI aNw Nw, wPlan cI aGs (yGs0_64, u10.2.1, u10.2.2.1, u10.2.2.2.1, u10.2.2.2.2.1, u10.2.2.2.2.2.1, u10.2.2.2.2.2.2), wLine cI aTr (yTr0_64, yTr1_64, yTr2_64, yTr3_64, yTr4_64, yTr5_64, yTr6_64, yTr7_64, yTr8_64), wOrd cI aO O, wSeen cI cZ aS S] H locs → lv_has ls 5 [(3, .int x3_64)] → MX0_whichKinds_j64 u10 x3_64 yGs0_64 yTr0_64 yTr1_64 yTr2_64 yTr3_64 yTr4_64 yTr5_64 yTr6_64 yTr7_64 yTr8_64 = some rr → W p l e (rmO 5 118) s m ([.ref fc, .ref (aS 0), .int p2] : List Value).toArray below meth c H locs 0 0 (MQ below (qI G rr.1 [wFc fc (aP 0) (aNw 0) (aGs 0) (aTr 0) (aO 0), wPlan cI aP P, wLine cI aNw Nw, wPlan cI aGs (rr.2.1, rr.2.2.1, rr.2.2.2.1, rr.2.2.2.2.1, rr.2.2.2.2.2.1, rr.2.2.2.2.2.2.1, rr.2.2.2.2.2.2.2.1), wLine cI aTr (rr.2.2.2.2.2.2.2.2.1, rr.2.2.2.2.2.2.2.2.2.1, rr.2.2.2.2.2.2.2.2.2.2.1, rr.2.2.2.2.2.2.2.2.2.2.2.1, rr.2.2.2.2.2.2.2.2.2.2.2.2.1, rr.2.2.2.2.2.2.2.2.2.2.2.2.2.1, rr.2.2.2.2.2.2.2.2.2.2.2.2.2.2.1, rr.2.2.2.2.2.2.2.2.2.2.2.2.2.2.2.1, rr.2.2.2.2.2.2.2.2.2.2.2.2.2.2.2.2), wOrd cI aO O, wSeen cI cZ aS S] A) ([.ref fc, .ref (aS 0), .int p2] : List Value).toArray s 0 0 A) (F0 m 64 ls []) := by
    intro x3_64 yGs0_64 yTr0_64 yTr1_64 yTr2_64 yTr3_64 yTr4_64 yTr5_64 yTr6_64 yTr7_64 yTr8_64 H locs ls hW hl hM
    unfold MX0_whichKinds_j64 at hM
    refine lv_iload_n hx hb dX0_whichKinds_64 rfl (lv_at hl 0 rfl) ?_
    obtain rfl := Option.some.inj hM
    exact g_reti X hW rfl rfl dX0_whichKinds_65
  have lp16 : ∀ (n16 : Nat) (x3_16 : Int32) (x4_16 : Int32) (yGs0_16 : (Nat → Int32)) (yTr0_16 : (Nat → Int32)) (yTr1_16 : (Nat → Int32)) (yTr2_16 : (Nat → Int32)) (yTr3_16 : (Nat → Int32)) (yTr4_16 : (Nat → Int32)) (yTr5_16 : Int32) (yTr6_16 : Int32) (yTr7_16 : Int32) (yTr8_16 : Int32) (H : Heap) (locs : List Loc) (ls : Array Slot), Wd G A s [wFc fc (aP 0) (aNw 0) (aGs 0) (aTr 0) (aO 0), wPlan cI aP P, wLine cI aNw Nw, wPlan cI aGs (yGs0_16, u10.2.1, u10.2.2.1, u10.2.2.2.1, u10.2.2.2.2.1, u10.2.2.2.2.2.1, u10.2.2.2.2.2.2), wLine cI aTr (yTr0_16, yTr1_16, yTr2_16, yTr3_16, yTr4_16, yTr5_16, yTr6_16, yTr7_16, yTr8_16), wOrd cI aO O, wSeen cI cZ aS S] H locs → lv_has ls 5 [(0, .ref fc), (1, .ref (aS 0)), (2, .int p2), (3, .int x3_16), (4, .int x4_16)] → MX0_whichKinds_l16 N Nw S p2 u10 n16 x3_16 x4_16 yGs0_16 yTr0_16 yTr1_16 yTr2_16 yTr3_16 yTr4_16 yTr5_16 yTr6_16 yTr7_16 yTr8_16 = some rr → W p l e (rmO 5 118) s m ([.ref fc, .ref (aS 0), .int p2] : List Value).toArray below meth c H locs 0 0 (MQ below (qI G rr.1 [wFc fc (aP 0) (aNw 0) (aGs 0) (aTr 0) (aO 0), wPlan cI aP P, wLine cI aNw Nw, wPlan cI aGs (rr.2.1, rr.2.2.1, rr.2.2.2.1, rr.2.2.2.2.1, rr.2.2.2.2.2.1, rr.2.2.2.2.2.2.1, rr.2.2.2.2.2.2.2.1), wLine cI aTr (rr.2.2.2.2.2.2.2.2.1, rr.2.2.2.2.2.2.2.2.2.1, rr.2.2.2.2.2.2.2.2.2.2.1, rr.2.2.2.2.2.2.2.2.2.2.2.1, rr.2.2.2.2.2.2.2.2.2.2.2.2.1, rr.2.2.2.2.2.2.2.2.2.2.2.2.2.1, rr.2.2.2.2.2.2.2.2.2.2.2.2.2.2.1, rr.2.2.2.2.2.2.2.2.2.2.2.2.2.2.2.1, rr.2.2.2.2.2.2.2.2.2.2.2.2.2.2.2.2), wOrd cI aO O, wSeen cI cZ aS S] A) ([.ref fc, .ref (aS 0), .int p2] : List Value).toArray s 0 0 A) (F0 m 16 ls []) := by
    intro n16
    induction n16 with
    | zero =>
      intro x3_16 x4_16 yGs0_16 yTr0_16 yTr1_16 yTr2_16 yTr3_16 yTr4_16 yTr5_16 yTr6_16 yTr7_16 yTr8_16 H locs ls hW hl hM
      rw [MX0_whichKinds_l16] at hM
      cases hM
    | succ n16 ih16 =>
      intro x3_16 x4_16 yGs0_16 yTr0_16 yTr1_16 yTr2_16 yTr3_16 yTr4_16 yTr5_16 yTr6_16 yTr7_16 yTr8_16 H locs ls hW hl hM
      rw [MX0_whichKinds_l16] at hM
      refine lv_iload hx hb dX0_whichKinds_16 (lv_at hl 4 rfl) ?_
      refine lv_iconst (v := (4 : Int32)) hx hb dX0_whichKinds_18 (by decide) ?_
      refine lv_icmp_ge (tgt := 64) hx hb dX0_whichKinds_19 (by decide) (fun hc => ?_) (fun hc => ?_)
      · have hM := (if_pos hc).symm.trans hM
        exact j64 x3_16 yGs0_16 yTr0_16 yTr1_16 yTr2_16 yTr3_16 yTr4_16 yTr5_16 yTr6_16 yTr7_16 yTr8_16 _ _ _ hW (lv_sub hl [3] rfl) hM
      · have hM := (if_neg hc).symm.trans hM
        refine lv_aload_n hx hb dX0_whichKinds_22 rfl (lv_at hl 0 rfl) ?_
        refine g_get X hW 0 rfl rfl inX0 2 (by decide) q_200 rfl dX0_whichKinds_23 ?_
        refine lv_iload_n hx hb dX0_whichKinds_26 rfl (lv_at hl 2 rfl) ?_
        refine lv_iload hx hb dX0_whichKinds_27 (lv_at hl 4 rfl) ?_
        obtain ⟨u29, hu29, hM⟩ := bind_some hM
        refine g_callVv (rest := []) (gr := [wFc fc (aP 0) (aNw 0) (aGs 0) (aTr 0) (aO 0), wPlan cI aP P, wLine cI aNw Nw, wLine cI aTr (yTr0_16, yTr1_16, yTr2_16, yTr3_16, yTr4_16, yTr5_16, yTr6_16, yTr7_16, yTr8_16), wOrd cI aO O, wSeen cI cZ aS S]) X hl.1 hW (c_X3_setKind l G cI cZ cL N aGs (yGs0_16, u10.2.1, u10.2.2.1, u10.2.2.2.1, u10.2.2.2.2.1, u10.2.2.2.2.2.1, u10.2.2.2.2.2.2) p2 x4_16 u29 hu29) q_745 q_742 q_743 q_744 q_56 hd_X3_setKind rfl ⟨Nat.le_of_ble_eq_true rfl, Nat.le_of_ble_eq_true rfl⟩ ⟨Nat.zero_le _, Nat.zero_le _⟩ [3] [0, 1, 2, 4, 5, 6] [wFc fc (aP 0) (aNw 0) (aGs 0) (aTr 0) (aO 0), wPlan cI aP P, wLine cI aNw Nw, wPlan cI aGs (u29, u10.2.1, u10.2.2.1, u10.2.2.2.1, u10.2.2.2.2.1, u10.2.2.2.2.2.1, u10.2.2.2.2.2.2), wLine cI aTr (yTr0_16, yTr1_16, yTr2_16, yTr3_16, yTr4_16, yTr5_16, yTr6_16, yTr7_16, yTr8_16), wOrd cI aO O, wSeen cI cZ aS S] ⟨pm_7_3, rfl, rfl, rfl⟩ ⟨pm_7_3, rfl, rfl, rfl⟩ (q0 := 11) rfl rfl rfl (Nat.le_of_ble_eq_true rfl) dX0_whichKinds_29 (fun H locs hW => ?_)
        refine lv_aload_n hx hb dX0_whichKinds_32 rfl (lv_at hl 0 rfl) ?_
        obtain ⟨u33, hu33, hM⟩ := bind_some hM
        refine g_callVv (rest := []) (gr := [wSeen cI cZ aS S]) X hl.1 hW (c_X0_startTrial l G cI cZ cL N fc aP aNw aGs aTr aO P Nw (u29, u10.2.1, u10.2.2.1, u10.2.2.2.1, u10.2.2.2.2.1, u10.2.2.2.2.2.1, u10.2.2.2.2.2.2) (yTr0_16, yTr1_16, yTr2_16, yTr3_16, yTr4_16, yTr5_16, yTr6_16, yTr7_16, yTr8_16) O u33 hu33) q_600 q_597 q_598 q_599 q_57 hd_X0_startTrial rfl ⟨Nat.le_of_ble_eq_true rfl, Nat.le_of_ble_eq_true rfl⟩ ⟨Nat.zero_le _, Nat.zero_le _⟩ [0, 1, 2, 3, 4, 5] [6] [wFc fc (aP 0) (aNw 0) (aGs 0) (aTr 0) (aO 0), wPlan cI aP P, wLine cI aNw Nw, wPlan cI aGs (u29, u10.2.1, u10.2.2.1, u10.2.2.2.1, u10.2.2.2.2.1, u10.2.2.2.2.2.1, u10.2.2.2.2.2.2), wLine cI aTr u33, wOrd cI aO O, wSeen cI cZ aS S] ⟨pm_7_0_1_2_3_4_5, rfl, rfl, rfl⟩ ⟨pm_7_0_1_2_3_4_5, rfl, rfl, rfl⟩ (q0 := 0) rfl rfl rfl (Nat.le_of_ble_eq_true rfl) dX0_whichKinds_33 (fun H locs hW => ?_)
        refine lv_aload_n hx hb dX0_whichKinds_36 rfl (lv_at hl 1 rfl) ?_
        refine lv_aload_n hx hb dX0_whichKinds_37 rfl (lv_at hl 0 rfl) ?_
        refine g_get X hW 0 rfl rfl inX0 2 (by decide) q_200 rfl dX0_whichKinds_38 ?_
        refine lv_aload_n hx hb dX0_whichKinds_41 rfl (lv_at hl 0 rfl) ?_
        refine g_get X hW 0 rfl rfl inX0 3 (by decide) q_201 rfl dX0_whichKinds_42 ?_
        obtain ⟨u45, hu45, hM⟩ := bind_some hM
        refine g_callVi (rest := []) (gr := [wFc fc (aP 0) (aNw 0) (aGs 0) (aTr 0) (aO 0), wPlan cI aP P, wLine cI aNw Nw, wOrd cI aO O]) X hl.1 hW (c_X4_holdsFor l G cI cZ cL N aS aGs aTr S (u29, u10.2.1, u10.2.2.1, u10.2.2.2.1, u10.2.2.2.2.1, u10.2.2.2.2.2.1, u10.2.2.2.2.2.2) u33 u45 hu45) q_724 q_721 q_722 q_723 q_60 hd_X4_holdsFor rfl ⟨Nat.le_of_ble_eq_true rfl, Nat.le_of_ble_eq_true rfl⟩ ⟨Nat.zero_le _, Nat.zero_le _⟩ [6, 3, 4] [0, 1, 2, 5] [wFc fc (aP 0) (aNw 0) (aGs 0) (aTr 0) (aO 0), wPlan cI aP P, wLine cI aNw Nw, wPlan cI aGs (u29, u10.2.1, u10.2.2.1, u10.2.2.2.1, u10.2.2.2.2.1, u10.2.2.2.2.2.1, u10.2.2.2.2.2.2), wLine cI aTr (u45.2.1, u45.2.2.1, u45.2.2.2.1, u45.2.2.2.2.1, u45.2.2.2.2.2.1, u45.2.2.2.2.2.2.1, u45.2.2.2.2.2.2.2.1, u45.2.2.2.2.2.2.2.2.1, u45.2.2.2.2.2.2.2.2.2), wOrd cI aO O, wSeen cI cZ aS S] ⟨pm_7_6_3_4, rfl, rfl, rfl⟩ ⟨pm_7_6_3_4, rfl, rfl, rfl⟩ (q0 := 24) rfl rfl rfl (Nat.le_of_ble_eq_true rfl) dX0_whichKinds_45 (fun H locs hW => ?_)
        have j58 : ∀ (x3_58 : Int32) (H : Heap) (locs : List Loc) (ls : Array Slot), Wd G A s [wFc fc (aP 0) (aNw 0) (aGs 0) (aTr 0) (aO 0), wPlan cI aP P, wLine cI aNw Nw, wPlan cI aGs (u29, u10.2.1, u10.2.2.1, u10.2.2.2.1, u10.2.2.2.2.1, u10.2.2.2.2.2.1, u10.2.2.2.2.2.2), wLine cI aTr (u45.2.1, u45.2.2.1, u45.2.2.2.1, u45.2.2.2.2.1, u45.2.2.2.2.2.1, u45.2.2.2.2.2.2.1, u45.2.2.2.2.2.2.2.1, u45.2.2.2.2.2.2.2.2.1, u45.2.2.2.2.2.2.2.2.2), wOrd cI aO O, wSeen cI cZ aS S] H locs → lv_has ls 5 [(0, .ref fc), (1, .ref (aS 0)), (2, .int p2), (3, .int x3_58), (4, .int x4_16)] → MX0_whichKinds_j58 x4_16 (MX0_whichKinds_l16 N Nw S p2 u10 n16) u29 u45 x3_58 = some rr → W p l e (rmO 5 118) s m ([.ref fc, .ref (aS 0), .int p2] : List Value).toArray below meth c H locs 0 0 (MQ below (qI G rr.1 [wFc fc (aP 0) (aNw 0) (aGs 0) (aTr 0) (aO 0), wPlan cI aP P, wLine cI aNw Nw, wPlan cI aGs (rr.2.1, rr.2.2.1, rr.2.2.2.1, rr.2.2.2.2.1, rr.2.2.2.2.2.1, rr.2.2.2.2.2.2.1, rr.2.2.2.2.2.2.2.1), wLine cI aTr (rr.2.2.2.2.2.2.2.2.1, rr.2.2.2.2.2.2.2.2.2.1, rr.2.2.2.2.2.2.2.2.2.2.1, rr.2.2.2.2.2.2.2.2.2.2.2.1, rr.2.2.2.2.2.2.2.2.2.2.2.2.1, rr.2.2.2.2.2.2.2.2.2.2.2.2.2.1, rr.2.2.2.2.2.2.2.2.2.2.2.2.2.2.1, rr.2.2.2.2.2.2.2.2.2.2.2.2.2.2.2.1, rr.2.2.2.2.2.2.2.2.2.2.2.2.2.2.2.2), wOrd cI aO O, wSeen cI cZ aS S] A) ([.ref fc, .ref (aS 0), .int p2] : List Value).toArray s 0 0 A) (F0 m 58 ls []) := by
          intro x3_58 H locs ls hW hl hM
          unfold MX0_whichKinds_j58 at hM
          refine lv_iinc (v := x4_16 + (1 : Int32)) (lv' := [(4, .int (x4_16 + (1 : Int32))), (0, .ref fc), (1, .ref (aS 0)), (2, .int p2), (3, .int x3_58)]) hx hb dX0_whichKinds_58 hl (k := 4) rfl rfl (by decide) rfl (fun ls hl => ?_)
          refine lv_goto (tgt := 16) hx hb dX0_whichKinds_61 (by decide) ?_
          exact ih16 x3_58 (x4_16 + (1 : Int32)) u29 u45.2.1 u45.2.2.1 u45.2.2.2.1 u45.2.2.2.2.1 u45.2.2.2.2.2.1 u45.2.2.2.2.2.2.1 u45.2.2.2.2.2.2.2.1 u45.2.2.2.2.2.2.2.2.1 u45.2.2.2.2.2.2.2.2.2 _ _ _ hW (lv_sub hl [1, 2, 3, 4, 0] rfl) hM
        refine lv_if_eq (tgt := 58) hx hb dX0_whichKinds_48 (by decide) (fun hc => ?_) (fun hc => ?_)
        · have hM := (if_pos hc).symm.trans hM
          exact j58 x3_16 _ _ _ hW (lv_sub hl [0, 1, 2, 3, 4] rfl) hM
        · have hM := (if_neg hc).symm.trans hM
          refine lv_iload_n hx hb dX0_whichKinds_51 rfl (lv_at hl 3 rfl) ?_
          refine lv_iconst (v := (1 : Int32)) hx hb dX0_whichKinds_52 (by decide) ?_
          refine lv_iload hx hb dX0_whichKinds_53 (lv_at hl 4 rfl) ?_
          refine lv_ishl hx hb dX0_whichKinds_55 ?_
          refine lv_ior hx hb dX0_whichKinds_56 ?_
          refine lv_topi (fun z57 ez57 => ?_)
          have hM := MLet_some hM z57 ez57
          refine lv_istore_n (lv' := [(3, .int z57), (0, .ref fc), (1, .ref (aS 0)), (2, .int p2), (4, .int x4_16)]) hx hb dX0_whichKinds_57 rfl hl (by decide) rfl (fun ls hl => ?_)
          exact j58 z57 _ _ _ hW (lv_sub hl [1, 2, 3, 0, 4] rfl) hM
  exact lp16 N (0 : Int32) (0 : Int32) u10.1 Tr.1 Tr.2.1 Tr.2.2.1 Tr.2.2.2.1 Tr.2.2.2.2.1 Tr.2.2.2.2.2.1 Tr.2.2.2.2.2.2.1 Tr.2.2.2.2.2.2.2.1 Tr.2.2.2.2.2.2.2.2 _ _ _ hW (lv_sub hl [2, 3, 4, 1, 0] rfl) hM

def MX0_isFedByRumours_j46 (N : Nat) (p1 : Int32) (yTr0_46 : (Nat → Int32)) (yTr1_46 : (Nat → Int32)) (yTr2_46 : (Nat → Int32)) (yTr3_46 : (Nat → Int32)) (yTr4_46 : (Nat → Int32)) (yTr5_46 : Int32) (yTr6_46 : Int32) (yTr7_46 : Int32) (yTr8_46 : Int32) : Option (Int32 × (Nat → Int32) × (Nat → Int32) × (Nat → Int32) × (Nat → Int32) × (Nat → Int32) × Int32 × Int32 × Int32 × Int32) :=
  (MX1_whereIs N (yTr0_46, yTr1_46, yTr2_46, yTr3_46, yTr4_46, yTr5_46, yTr6_46, yTr7_46, yTr8_46) p1).bind (fun u51 => if u51 = (3 : Int32) then some ((1 : Int32), yTr0_46, yTr1_46, yTr2_46, yTr3_46, yTr4_46, yTr5_46, yTr6_46, yTr7_46, yTr8_46) else some ((0 : Int32), yTr0_46, yTr1_46, yTr2_46, yTr3_46, yTr4_46, yTr5_46, yTr6_46, yTr7_46, yTr8_46))
def MX0_isFedByRumours_j36 (N : Nat) (P : PlanV) (x4_7 : Int32) (yTr0_7 : (Nat → Int32)) (yTr1_7 : (Nat → Int32)) (yTr2_7 : (Nat → Int32)) (yTr3_7 : (Nat → Int32)) (yTr4_7 : (Nat → Int32)) (yTr5_7 : Int32) (yTr6_7 : Int32) (yTr7_7 : Int32) (yTr8_7 : Int32) (rc7 : (Int32 → (Nat → Int32) → (Nat → Int32) → (Nat → Int32) → (Nat → Int32) → (Nat → Int32) → Int32 → Int32 → Int32 → Int32 → Option (Int32 × (Nat → Int32) × (Nat → Int32) × (Nat → Int32) × (Nat → Int32) × (Nat → Int32) × Int32 × Int32 × Int32 × Int32))) (t2_36 : Int32) : Option (Int32 × (Nat → Int32) × (Nat → Int32) × (Nat → Int32) × (Nat → Int32) × (Nat → Int32) × Int32 × Int32 × Int32 × Int32) :=
  (MX1_goOn N (yTr0_7, yTr1_7, yTr2_7, yTr3_7, yTr4_7, yTr5_7, yTr6_7, yTr7_7, yTr8_7) P t2_36 (0 : Int32)).bind (fun u37 => rc7 (x4_7 + (1 : Int32)) u37.1 u37.2.1 u37.2.2.1 u37.2.2.2.1 u37.2.2.2.2.1 u37.2.2.2.2.2.1 u37.2.2.2.2.2.2.1 u37.2.2.2.2.2.2.2.1 u37.2.2.2.2.2.2.2.2)
def MX0_isFedByRumours_l7 (N : Nat) (P : PlanV) (p1 : Int32) (p2 : Int32) (p3 : Int32) : Nat → Int32 → (Nat → Int32) → (Nat → Int32) → (Nat → Int32) → (Nat → Int32) → (Nat → Int32) → Int32 → Int32 → Int32 → Int32 → Option (Int32 × (Nat → Int32) × (Nat → Int32) × (Nat → Int32) × (Nat → Int32) × (Nat → Int32) × Int32 × Int32 × Int32 × Int32)
  | 0, _, _, _, _, _, _, _, _, _, _ => none
  | n7 + 1, x4_7, yTr0_7, yTr1_7, yTr2_7, yTr3_7, yTr4_7, yTr5_7, yTr6_7, yTr7_7, yTr8_7 =>
    if p2 ≤ x4_7 then (MX0_isFedByRumours_j46 N p1 yTr0_7 yTr1_7 yTr2_7 yTr3_7 yTr4_7 yTr5_7 yTr6_7 yTr7_7 yTr8_7) else (if ((p3 >>> (x4_7 &&& 31)) &&& (1 : Int32)) = (1 : Int32) then (MX0_isFedByRumours_j36 N P x4_7 yTr0_7 yTr1_7 yTr2_7 yTr3_7 yTr4_7 yTr5_7 yTr6_7 yTr7_7 yTr8_7 (MX0_isFedByRumours_l7 N P p1 p2 p3 n7) (1 : Int32)) else (MX0_isFedByRumours_j36 N P x4_7 yTr0_7 yTr1_7 yTr2_7 yTr3_7 yTr4_7 yTr5_7 yTr6_7 yTr7_7 yTr8_7 (MX0_isFedByRumours_l7 N P p1 p2 p3 n7) (0 : Int32)))
def MX0_isFedByRumours (N : Nat) (P : PlanV) (Nw : LineV) (Tr : LineV) (p1 : Int32) (p2 : Int32) (p3 : Int32) : Option (Int32 × (Nat → Int32) × (Nat → Int32) × (Nat → Int32) × (Nat → Int32) × (Nat → Int32) × Int32 × Int32 × Int32 × Int32) :=
  (MX0_startTrial N Nw Tr).bind (fun u1 => MX0_isFedByRumours_l7 N P p1 p2 p3 N (0 : Int32) u1.1 u1.2.1 u1.2.2.1 u1.2.2.2.1 u1.2.2.2.2.1 u1.2.2.2.2.2.1 u1.2.2.2.2.2.2.1 u1.2.2.2.2.2.2.2.1 u1.2.2.2.2.2.2.2.2)
set_option maxHeartbeats 4000000 in
set_option maxRecDepth 100000 in
theorem c_X0_isFedByRumours (l : Launch) (G : va_G) (cI cZ cL : ClassId) (N : Nat) (fc : Nat) (aP : Nat → Nat) (aNw : Nat → Nat) (aGs : Nat → Nat) (aTr : Nat → Nat) (aO : Nat → Nat) (P : PlanV) (Nw : LineV) (Gs : PlanV) (Tr : LineV) (O : OrdV) (p1 : Int32) (p2 : Int32) (p3 : Int32) (rr : Int32 × (Nat → Int32) × (Nat → Int32) × (Nat → Int32) × (Nat → Int32) × (Nat → Int32) × Int32 × Int32 × Int32 × Int32) (hM : MX0_isFedByRumours N P Nw Tr p1 p2 p3 = some rr) : CtI l yX0_isFedByRumours cX0_isFedByRumours 5 .boolean 4 92 G cI cZ cL [.ref fc, .int p1, .int p2, .int p3] [wFc fc (aP 0) (aNw 0) (aGs 0) (aTr 0) (aO 0), wPlan cI aP P, wLine cI aNw Nw, wPlan cI aGs Gs, wLine cI aTr Tr, wOrd cI aO O] rr.1 [wFc fc (aP 0) (aNw 0) (aGs 0) (aTr 0) (aO 0), wPlan cI aP P, wLine cI aNw Nw, wPlan cI aGs Gs, wLine cI aTr (rr.2.1, rr.2.2.1, rr.2.2.2.1, rr.2.2.2.2.1, rr.2.2.2.2.2.1, rr.2.2.2.2.2.2.1, rr.2.2.2.2.2.2.2.1, rr.2.2.2.2.2.2.2.2.1, rr.2.2.2.2.2.2.2.2.2), wOrd cI aO O] := by
  refine ct_body (fun A => qI G rr.1 [wFc fc (aP 0) (aNw 0) (aGs 0) (aTr 0) (aO 0), wPlan cI aP P, wLine cI aNw Nw, wPlan cI aGs Gs, wLine cI aTr (rr.2.1, rr.2.2.1, rr.2.2.2.1, rr.2.2.2.2.1, rr.2.2.2.2.2.1, rr.2.2.2.2.2.2.1, rr.2.2.2.2.2.2.2.1, rr.2.2.2.2.2.2.2.2.1, rr.2.2.2.2.2.2.2.2.2), wOrd cI aO O] A) (by decide) (Nat.le_of_ble_eq_true rfl) (fun p e s m below meth c A ls X hW hl => ?_)
  have hx := X.1
  have hb := X.2.1
  have hts := X.2.2.2.2.2.1
  have hown := X.2.2.2.2.2.2.1
  have hl : lv_has ls 5 [(0, .ref fc), (1, .int p1), (2, .int p2), (3, .int p3)] := hl
  unfold MX0_isFedByRumours at hM
  refine lv_aload_n hx hb dX0_isFedByRumours_0 rfl (lv_at hl 0 rfl) ?_
  obtain ⟨u1, hu1, hM⟩ := bind_some hM
  refine g_callVv (rest := []) (gr := []) X hl.1 hW (c_X0_startTrial l G cI cZ cL N fc aP aNw aGs aTr aO P Nw Gs Tr O u1 hu1) q_600 q_597 q_598 q_599 q_57 hd_X0_startTrial rfl ⟨Nat.le_of_ble_eq_true rfl, Nat.le_of_ble_eq_true rfl⟩ ⟨Nat.zero_le _, Nat.zero_le _⟩ [0, 1, 2, 3, 4, 5] [] [wFc fc (aP 0) (aNw 0) (aGs 0) (aTr 0) (aO 0), wPlan cI aP P, wLine cI aNw Nw, wPlan cI aGs Gs, wLine cI aTr u1, wOrd cI aO O] ⟨pm_6_0_1_2_3_4_5, rfl, rfl, rfl⟩ ⟨pm_6_0_1_2_3_4_5, rfl, rfl, rfl⟩ (q0 := 0) rfl rfl rfl (Nat.le_of_ble_eq_true rfl) dX0_isFedByRumours_1 (fun H locs hW => ?_)
  refine lv_iconst (v := (0 : Int32)) hx hb dX0_isFedByRumours_4 (by decide) ?_
  refine lv_istore (lv' := [(4, .int (0 : Int32)), (0, .ref fc), (1, .int p1), (2, .int p2), (3, .int p3)]) hx hb dX0_isFedByRumours_5 hl (by decide) rfl (fun ls hl => ?_)
  have j46 : ∀ (yTr0_46 : (Nat → Int32)) (yTr1_46 : (Nat → Int32)) (yTr2_46 : (Nat → Int32)) (yTr3_46 : (Nat → Int32)) (yTr4_46 : (Nat → Int32)) (yTr5_46 : Int32) (yTr6_46 : Int32) (yTr7_46 : Int32) (yTr8_46 : Int32) (H : Heap) (locs : List Loc) (ls : Array Slot), Wd G A s [wFc fc (aP 0) (aNw 0) (aGs 0) (aTr 0) (aO 0), wPlan cI aP P, wLine cI aNw Nw, wPlan cI aGs Gs, wLine cI aTr (yTr0_46, yTr1_46, yTr2_46, yTr3_46, yTr4_46, yTr5_46, yTr6_46, yTr7_46, yTr8_46), wOrd cI aO O] H locs → lv_has ls 5 [(0, .ref fc), (1, .int p1)] → MX0_isFedByRumours_j46 N p1 yTr0_46 yTr1_46 yTr2_46 yTr3_46 yTr4_46 yTr5_46 yTr6_46 yTr7_46 yTr8_46 = some rr → W p l e (rmO 4 92) s m ([.ref fc, .int p1, .int p2, .int p3] : List Value).toArray below meth c H locs 0 0 (MQ below (qI G rr.1 [wFc fc (aP 0) (aNw 0) (aGs 0) (aTr 0) (aO 0), wPlan cI aP P, wLine cI aNw Nw, wPlan cI aGs Gs, wLine cI aTr (rr.2.1, rr.2.2.1, rr.2.2.2.1, rr.2.2.2.2.1, rr.2.2.2.2.2.1, rr.2.2.2.2.2.2.1, rr.2.2.2.2.2.2.2.1, rr.2.2.2.2.2.2.2.2.1, rr.2.2.2.2.2.2.2.2.2), wOrd cI aO O] A) ([.ref fc, .int p1, .int p2, .int p3] : List Value).toArray s 0 0 A) (F0 m 46 ls []) := by
    intro yTr0_46 yTr1_46 yTr2_46 yTr3_46 yTr4_46 yTr5_46 yTr6_46 yTr7_46 yTr8_46 H locs ls hW hl hM
    unfold MX0_isFedByRumours_j46 at hM
    refine lv_aload_n hx hb dX0_isFedByRumours_46 rfl (lv_at hl 0 rfl) ?_
    refine g_get X hW 0 rfl rfl inX0 3 (by decide) q_201 rfl dX0_isFedByRumours_47 ?_
    refine lv_iload_n hx hb dX0_isFedByRumours_50 rfl (lv_at hl 1 rfl) ?_
    obtain ⟨u51, hu51, hM⟩ := bind_some hM
    refine g_callVi (rest := []) (gr := [wFc fc (aP 0) (aNw 0) (aGs 0) (aTr 0) (aO 0), wPlan cI aP P, wLine cI aNw Nw, wPlan cI aGs Gs, wOrd cI aO O]) X hl.1 hW (c_X1_whereIs l G cI cZ cL N aTr (yTr0_46, yTr1_46, yTr2_46, yTr3_46, yTr4_46, yTr5_46, yTr6_46, yTr7_46, yTr8_46) p1 u51 hu51) q_450 q_616 q_448 q_449 q_58 hd_X1_whereIs rfl ⟨Nat.le_of_ble_eq_true rfl, Nat.le_of_ble_eq_true rfl⟩ ⟨Nat.zero_le _, Nat.zero_le _⟩ [4] [0, 1, 2, 3, 5] [wFc fc (aP 0) (aNw 0) (aGs 0) (aTr 0) (aO 0), wPlan cI aP P, wLine cI aNw Nw, wPlan cI aGs Gs, wLine cI aTr (yTr0_46, yTr1_46, yTr2_46, yTr3_46, yTr4_46, yTr5_46, yTr6_46, yTr7_46, yTr8_46), wOrd cI aO O] ⟨pm_6_4, rfl, rfl, rfl⟩ ⟨pm_6_4, rfl, rfl, rfl⟩ (q0 := 15) rfl rfl rfl (Nat.le_of_ble_eq_true rfl) dX0_isFedByRumours_51 (fun H locs hW => ?_)
    refine lv_iconst (v := (3 : Int32)) hx hb dX0_isFedByRumours_54 (by decide) ?_
    refine lv_icmp_ne (tgt := 62) hx hb dX0_isFedByRumours_55 (by decide) (fun hc => ?_) (fun hc => ?_)
    · have hM := (if_neg hc).symm.trans hM
      refine lv_iconst (v := (0 : Int32)) hx hb dX0_isFedByRumours_62 (by decide) ?_
      obtain rfl := Option.some.inj hM
      exact g_reti X hW rfl rfl dX0_isFedByRumours_63
    · have hM := (if_pos hc).symm.trans hM
      refine lv_iconst (v := (1 : Int32)) hx hb dX0_isFedByRumours_58 (by decide) ?_
      refine lv_goto (tgt := 63) hx hb dX0_isFedByRumours_59 (by decide) ?_
      obtain rfl := Option.some.inj hM
      exact g_reti X hW rfl rfl dX0_isFedByRumours_63
  have lp7 : ∀ (n7 : Nat) (x4_7 : Int32) (yTr0_7 : (Nat → Int32)) (yTr1_7 : (Nat → Int32)) (yTr2_7 : (Nat → Int32)) (yTr3_7 : (Nat → Int32)) (yTr4_7 : (Nat → Int32)) (yTr5_7 : Int32) (yTr6_7 : Int32) (yTr7_7 : Int32) (yTr8_7 : Int32) (H : Heap) (locs : List Loc) (ls : Array Slot), Wd G A s [wFc fc (aP 0) (aNw 0) (aGs 0) (aTr 0) (aO 0), wPlan cI aP P, wLine cI aNw Nw, wPlan cI aGs Gs, wLine cI aTr (yTr0_7, yTr1_7, yTr2_7, yTr3_7, yTr4_7, yTr5_7, yTr6_7, yTr7_7, yTr8_7), wOrd cI aO O] H locs → lv_has ls 5 [(0, .ref fc), (1, .int p1), (2, .int p2), (3, .int p3), (4, .int x4_7)] → MX0_isFedByRumours_l7 N P p1 p2 p3 n7 x4_7 yTr0_7 yTr1_7 yTr2_7 yTr3_7 yTr4_7 yTr5_7 yTr6_7 yTr7_7 yTr8_7 = some rr → W p l e (rmO 4 92) s m ([.ref fc, .int p1, .int p2, .int p3] : List Value).toArray below meth c H locs 0 0 (MQ below (qI G rr.1 [wFc fc (aP 0) (aNw 0) (aGs 0) (aTr 0) (aO 0), wPlan cI aP P, wLine cI aNw Nw, wPlan cI aGs Gs, wLine cI aTr (rr.2.1, rr.2.2.1, rr.2.2.2.1, rr.2.2.2.2.1, rr.2.2.2.2.2.1, rr.2.2.2.2.2.2.1, rr.2.2.2.2.2.2.2.1, rr.2.2.2.2.2.2.2.2.1, rr.2.2.2.2.2.2.2.2.2), wOrd cI aO O] A) ([.ref fc, .int p1, .int p2, .int p3] : List Value).toArray s 0 0 A) (F0 m 7 ls []) := by
    intro n7
    induction n7 with
    | zero =>
      intro x4_7 yTr0_7 yTr1_7 yTr2_7 yTr3_7 yTr4_7 yTr5_7 yTr6_7 yTr7_7 yTr8_7 H locs ls hW hl hM
      rw [MX0_isFedByRumours_l7] at hM
      cases hM
    | succ n7 ih7 =>
      intro x4_7 yTr0_7 yTr1_7 yTr2_7 yTr3_7 yTr4_7 yTr5_7 yTr6_7 yTr7_7 yTr8_7 H locs ls hW hl hM
      rw [MX0_isFedByRumours_l7] at hM
      refine lv_iload hx hb dX0_isFedByRumours_7 (lv_at hl 4 rfl) ?_
      refine lv_iload_n hx hb dX0_isFedByRumours_9 rfl (lv_at hl 2 rfl) ?_
      refine lv_icmp_ge (tgt := 46) hx hb dX0_isFedByRumours_10 (by decide) (fun hc => ?_) (fun hc => ?_)
      · have hM := (if_pos hc).symm.trans hM
        exact j46 yTr0_7 yTr1_7 yTr2_7 yTr3_7 yTr4_7 yTr5_7 yTr6_7 yTr7_7 yTr8_7 _ _ _ hW (lv_sub hl [0, 1] rfl) hM
      · have hM := (if_neg hc).symm.trans hM
        refine lv_aload_n hx hb dX0_isFedByRumours_13 rfl (lv_at hl 0 rfl) ?_
        refine g_get X hW 0 rfl rfl inX0 3 (by decide) q_201 rfl dX0_isFedByRumours_14 ?_
        refine lv_aload_n hx hb dX0_isFedByRumours_17 rfl (lv_at hl 0 rfl) ?_
        refine g_get X hW 0 rfl rfl inX0 0 (by decide) q_196 rfl dX0_isFedByRumours_18 ?_
        refine lv_iload_n hx hb dX0_isFedByRumours_21 rfl (lv_at hl 3 rfl) ?_
        refine lv_iload hx hb dX0_isFedByRumours_22 (lv_at hl 4 rfl) ?_
        refine lv_ishr hx hb dX0_isFedByRumours_24 ?_
        refine lv_iconst (v := (1 : Int32)) hx hb dX0_isFedByRumours_25 (by decide) ?_
        refine lv_iand hx hb dX0_isFedByRumours_26 ?_
        refine lv_iconst (v := (1 : Int32)) hx hb dX0_isFedByRumours_27 (by decide) ?_
        have j36 : ∀ (t2_36 : Int32) (H : Heap) (locs : List Loc) (ls : Array Slot), Wd G A s [wFc fc (aP 0) (aNw 0) (aGs 0) (aTr 0) (aO 0), wPlan cI aP P, wLine cI aNw Nw, wPlan cI aGs Gs, wLine cI aTr (yTr0_7, yTr1_7, yTr2_7, yTr3_7, yTr4_7, yTr5_7, yTr6_7, yTr7_7, yTr8_7), wOrd cI aO O] H locs → lv_has ls 5 [(0, .ref fc), (1, .int p1), (2, .int p2), (3, .int p3), (4, .int x4_7)] → MX0_isFedByRumours_j36 N P x4_7 yTr0_7 yTr1_7 yTr2_7 yTr3_7 yTr4_7 yTr5_7 yTr6_7 yTr7_7 yTr8_7 (MX0_isFedByRumours_l7 N P p1 p2 p3 n7) t2_36 = some rr → W p l e (rmO 4 92) s m ([.ref fc, .int p1, .int p2, .int p3] : List Value).toArray below meth c H locs 0 0 (MQ below (qI G rr.1 [wFc fc (aP 0) (aNw 0) (aGs 0) (aTr 0) (aO 0), wPlan cI aP P, wLine cI aNw Nw, wPlan cI aGs Gs, wLine cI aTr (rr.2.1, rr.2.2.1, rr.2.2.2.1, rr.2.2.2.2.1, rr.2.2.2.2.2.1, rr.2.2.2.2.2.2.1, rr.2.2.2.2.2.2.2.1, rr.2.2.2.2.2.2.2.2.1, rr.2.2.2.2.2.2.2.2.2), wOrd cI aO O] A) ([.ref fc, .int p1, .int p2, .int p3] : List Value).toArray s 0 0 A) (F0 m 36 ls [.int t2_36, .ref (aP 0), .ref (aTr 0)]) := by
          intro t2_36 H locs ls hW hl hM
          unfold MX0_isFedByRumours_j36 at hM
          refine lv_iconst (v := (0 : Int32)) hx hb dX0_isFedByRumours_36 (by decide) ?_
          obtain ⟨u37, hu37, hM⟩ := bind_some hM
          refine g_callVv (rest := []) (gr := [wFc fc (aP 0) (aNw 0) (aGs 0) (aTr 0) (aO 0), wLine cI aNw Nw, wPlan cI aGs Gs, wOrd cI aO O]) X hl.1 hW (c_X1_goOn l G cI cZ cL N aTr aP (yTr0_7, yTr1_7, yTr2_7, yTr3_7, yTr4_7, yTr5_7, yTr6_7, yTr7_7, yTr8_7) P t2_36 (0 : Int32) u37 hu37) q_502 q_618 q_500 q_501 q_58 hd_X1_goOn rfl ⟨Nat.le_of_ble_eq_true rfl, Nat.le_of_ble_eq_true rfl⟩ ⟨Nat.zero_le _, Nat.zero_le _⟩ [4, 1] [0, 2, 3, 5] [wFc fc (aP 0) (aNw 0) (aGs 0) (aTr 0) (aO 0), wPlan cI aP P, wLine cI aNw Nw, wPlan cI aGs Gs, wLine cI aTr u37, wOrd cI aO O] ⟨pm_6_4_1, rfl, rfl, rfl⟩ ⟨pm_6_4_1, rfl, rfl, rfl⟩ (q0 := 15) rfl rfl rfl (Nat.le_of_ble_eq_true rfl) dX0_isFedByRumours_37 (fun H locs hW => ?_)
          refine lv_iinc (v := x4_7 + (1 : Int32)) (lv' := [(4, .int (x4_7 + (1 : Int32))), (0, .ref fc), (1, .int p1), (2, .int p2), (3, .int p3)]) hx hb dX0_isFedByRumours_40 hl (k := 4) rfl rfl (by decide) rfl (fun ls hl => ?_)
          refine lv_goto (tgt := 7) hx hb dX0_isFedByRumours_43 (by decide) ?_
          exact ih7 (x4_7 + (1 : Int32)) u37.1 u37.2.1 u37.2.2.1 u37.2.2.2.1 u37.2.2.2.2.1 u37.2.2.2.2.2.1 u37.2.2.2.2.2.2.1 u37.2.2.2.2.2.2.2.1 u37.2.2.2.2.2.2.2.2 _ _ _ hW (lv_sub hl [1, 2, 3, 4, 0] rfl) hM
        refine lv_icmp_ne (tgt := 35) hx hb dX0_isFedByRumours_28 (by decide) (fun hc => ?_) (fun hc => ?_)
        · have hM := (if_neg hc).symm.trans hM
          refine lv_iconst (v := (0 : Int32)) hx hb dX0_isFedByRumours_35 (by decide) ?_
          exact j36 (0 : Int32) _ _ _ hW (lv_sub hl [0, 1, 2, 3, 4] rfl) hM
        · have hM := (if_pos hc).symm.trans hM
          refine lv_iconst (v := (1 : Int32)) hx hb dX0_isFedByRumours_31 (by decide) ?_
          refine lv_goto (tgt := 36) hx hb dX0_isFedByRumours_32 (by decide) ?_
          exact j36 (1 : Int32) _ _ _ hW (lv_sub hl [0, 1, 2, 3, 4] rfl) hM
  exact lp7 N (0 : Int32) u1.1 u1.2.1 u1.2.2.1 u1.2.2.2.1 u1.2.2.2.2.1 u1.2.2.2.2.2.1 u1.2.2.2.2.2.2.1 u1.2.2.2.2.2.2.2.1 u1.2.2.2.2.2.2.2.2 _ _ _ hW (lv_sub hl [1, 2, 3, 4, 0] rfl) hM

def MX0_chanceOfTenths_j70 (x4_70 : Int32) (yTr0_70 : (Nat → Int32)) (yTr1_70 : (Nat → Int32)) (yTr2_70 : (Nat → Int32)) (yTr3_70 : (Nat → Int32)) (yTr4_70 : (Nat → Int32)) (yTr5_70 : Int32) (yTr6_70 : Int32) (yTr7_70 : Int32) (yTr8_70 : Int32) : Option (Int32 × (Nat → Int32) × (Nat → Int32) × (Nat → Int32) × (Nat → Int32) × (Nat → Int32) × Int32 × Int32 × Int32 × Int32) :=
  some (x4_70, yTr0_70, yTr1_70, yTr2_70, yTr3_70, yTr4_70, yTr5_70, yTr6_70, yTr7_70, yTr8_70)
def MX0_chanceOfTenths_j64 (x5_6 : Int32) (rc6 : (Int32 → Int32 → (Nat → Int32) → (Nat → Int32) → (Nat → Int32) → (Nat → Int32) → (Nat → Int32) → Int32 → Int32 → Int32 → Int32 → Option (Int32 × (Nat → Int32) × (Nat → Int32) × (Nat → Int32) × (Nat → Int32) × (Nat → Int32) × Int32 × Int32 × Int32 × Int32))) (x4_64 : Int32) (yTr0_64 : (Nat → Int32)) (yTr1_64 : (Nat → Int32)) (yTr2_64 : (Nat → Int32)) (yTr3_64 : (Nat → Int32)) (yTr4_64 : (Nat → Int32)) (yTr5_64 : Int32) (yTr6_64 : Int32) (yTr7_64 : Int32) (yTr8_64 : Int32) : Option (Int32 × (Nat → Int32) × (Nat → Int32) × (Nat → Int32) × (Nat → Int32) × (Nat → Int32) × Int32 × Int32 × Int32 × Int32) :=
  rc6 x4_64 (x5_6 + (1 : Int32)) yTr0_64 yTr1_64 yTr2_64 yTr3_64 yTr4_64 yTr5_64 yTr6_64 yTr7_64 yTr8_64
def MX0_chanceOfTenths_l6 (N : Nat) (P : PlanV) (Nw : LineV) (p1 : Int32) (p2 : Int32) (p3 : Int32) : Nat → Int32 → Int32 → (Nat → Int32) → (Nat → Int32) → (Nat → Int32) → (Nat → Int32) → (Nat → Int32) → Int32 → Int32 → Int32 → Int32 → Option (Int32 × (Nat → Int32) × (Nat → Int32) × (Nat → Int32) × (Nat → Int32) × (Nat → Int32) × Int32 × Int32 × Int32 × Int32)
  | 0, _, _, _, _, _, _, _, _, _, _, _ => none
  | n6 + 1, x4_6, x5_6, yTr0_6, yTr1_6, yTr2_6, yTr3_6, yTr4_6, yTr5_6, yTr6_6, yTr7_6, yTr8_6 =>
    if ((1 : Int32) <<< (p2 &&& 31)) ≤ x5_6 then (MX0_chanceOfTenths_j70 x4_6 yTr0_6 yTr1_6 yTr2_6 yTr3_6 yTr4_6 yTr5_6 yTr6_6 yTr7_6 yTr8_6) else ((MJ6_bitCount_0f7a4 N x5_6).bind (fun u16 => (MX7_power N p3 u16).bind (fun u24 => (MX7_power N ((10 : Int32) - p3) (p2 - u16)).bind (fun u35 => MLet (u24 * u35) (fun z39 => if z39 ≤ 0 then (MX0_chanceOfTenths_j64 x5_6 (MX0_chanceOfTenths_l6 N P Nw p1 p2 p3 n6) x4_6 yTr0_6 yTr1_6 yTr2_6 yTr3_6 yTr4_6 yTr5_6 yTr6_6 yTr7_6 yTr8_6) else ((MX0_isFedByRumours N P Nw (yTr0_6, yTr1_6, yTr2_6, yTr3_6, yTr4_6, yTr5_6, yTr6_6, yTr7_6, yTr8_6) p1 p2 x5_6).bind (fun u51 => if u51.1 = 0 then (MX0_chanceOfTenths_j64 x5_6 (MX0_chanceOfTenths_l6 N P Nw p1 p2 p3 n6) x4_6 u51.2.1 u51.2.2.1 u51.2.2.2.1 u51.2.2.2.2.1 u51.2.2.2.2.2.1 u51.2.2.2.2.2.2.1 u51.2.2.2.2.2.2.2.1 u51.2.2.2.2.2.2.2.2.1 u51.2.2.2.2.2.2.2.2.2) else (MLet (x4_6 + z39) (fun z62 => MX0_chanceOfTenths_j64 x5_6 (MX0_chanceOfTenths_l6 N P Nw p1 p2 p3 n6) z62 u51.2.1 u51.2.2.1 u51.2.2.2.1 u51.2.2.2.2.1 u51.2.2.2.2.2.1 u51.2.2.2.2.2.2.1 u51.2.2.2.2.2.2.2.1 u51.2.2.2.2.2.2.2.2.1 u51.2.2.2.2.2.2.2.2.2)))))))))
def MX0_chanceOfTenths (N : Nat) (P : PlanV) (Nw : LineV) (Tr : LineV) (p1 : Int32) (p2 : Int32) (p3 : Int32) : Option (Int32 × (Nat → Int32) × (Nat → Int32) × (Nat → Int32) × (Nat → Int32) × (Nat → Int32) × Int32 × Int32 × Int32 × Int32) :=
  MX0_chanceOfTenths_l6 N P Nw p1 p2 p3 N (0 : Int32) (0 : Int32) Tr.1 Tr.2.1 Tr.2.2.1 Tr.2.2.2.1 Tr.2.2.2.2.1 Tr.2.2.2.2.2.1 Tr.2.2.2.2.2.2.1 Tr.2.2.2.2.2.2.2.1 Tr.2.2.2.2.2.2.2.2
set_option maxHeartbeats 4000000 in
set_option maxRecDepth 100000 in
theorem c_X0_chanceOfTenths (l : Launch) (G : va_G) (cI cZ cL : ClassId) (N : Nat) (fc : Nat) (aP : Nat → Nat) (aNw : Nat → Nat) (aGs : Nat → Nat) (aTr : Nat → Nat) (aO : Nat → Nat) (P : PlanV) (Nw : LineV) (Gs : PlanV) (Tr : LineV) (O : OrdV) (p1 : Int32) (p2 : Int32) (p3 : Int32) (rr : Int32 × (Nat → Int32) × (Nat → Int32) × (Nat → Int32) × (Nat → Int32) × (Nat → Int32) × Int32 × Int32 × Int32 × Int32) (hM : MX0_chanceOfTenths N P Nw Tr p1 p2 p3 = some rr) : CtI l yX0_chanceOfTenths cX0_chanceOfTenths 8 .int 5 116 G cI cZ cL [.ref fc, .int p1, .int p2, .int p3] [wFc fc (aP 0) (aNw 0) (aGs 0) (aTr 0) (aO 0), wPlan cI aP P, wLine cI aNw Nw, wPlan cI aGs Gs, wLine cI aTr Tr, wOrd cI aO O] rr.1 [wFc fc (aP 0) (aNw 0) (aGs 0) (aTr 0) (aO 0), wPlan cI aP P, wLine cI aNw Nw, wPlan cI aGs Gs, wLine cI aTr (rr.2.1, rr.2.2.1, rr.2.2.2.1, rr.2.2.2.2.1, rr.2.2.2.2.2.1, rr.2.2.2.2.2.2.1, rr.2.2.2.2.2.2.2.1, rr.2.2.2.2.2.2.2.2.1, rr.2.2.2.2.2.2.2.2.2), wOrd cI aO O] := by
  refine ct_body (fun A => qI G rr.1 [wFc fc (aP 0) (aNw 0) (aGs 0) (aTr 0) (aO 0), wPlan cI aP P, wLine cI aNw Nw, wPlan cI aGs Gs, wLine cI aTr (rr.2.1, rr.2.2.1, rr.2.2.2.1, rr.2.2.2.2.1, rr.2.2.2.2.2.1, rr.2.2.2.2.2.2.1, rr.2.2.2.2.2.2.2.1, rr.2.2.2.2.2.2.2.2.1, rr.2.2.2.2.2.2.2.2.2), wOrd cI aO O] A) (by decide) (Nat.le_of_ble_eq_true rfl) (fun p e s m below meth c A ls X hW hl => ?_)
  have hx := X.1
  have hb := X.2.1
  have hts := X.2.2.2.2.2.1
  have hown := X.2.2.2.2.2.2.1
  have hl : lv_has ls 8 [(0, .ref fc), (1, .int p1), (2, .int p2), (3, .int p3)] := hl
  unfold MX0_chanceOfTenths at hM
  refine lv_iconst (v := (0 : Int32)) hx hb dX0_chanceOfTenths_0 (by decide) ?_
  refine lv_istore (lv' := [(4, .int (0 : Int32)), (0, .ref fc), (1, .int p1), (2, .int p2), (3, .int p3)]) hx hb dX0_chanceOfTenths_1 hl (by decide) rfl (fun ls hl => ?_)
  refine lv_iconst (v := (0 : Int32)) hx hb dX0_chanceOfTenths_3 (by decide) ?_
  refine lv_istore (lv' := [(5, .int (0 : Int32)), (4, .int (0 : Int32)), (0, .ref fc), (1, .int p1), (2, .int p2), (3, .int p3)]) hx hb dX0_chanceOfTenths_4 hl (by decide) rfl (fun ls hl => ?_)
  have j70 : ∀ (x4_70 : Int32) (yTr0_70 : (Nat → Int32)) (yTr1_70 : (Nat → Int32)) (yTr2_70 : (Nat → Int32)) (yTr3_70 : (Nat → Int32)) (yTr4_70 : (Nat → Int32)) (yTr5_70 : Int32) (yTr6_70 : Int32) (yTr7_70 : Int32) (yTr8_70 : Int32) (H : Heap) (locs : List Loc) (ls : Array Slot), Wd G A s [wFc fc (aP 0) (aNw 0) (aGs 0) (aTr 0) (aO 0), wPlan cI aP P, wLine cI aNw Nw, wPlan cI aGs Gs, wLine cI aTr (yTr0_70, yTr1_70, yTr2_70, yTr3_70, yTr4_70, yTr5_70, yTr6_70, yTr7_70, yTr8_70), wOrd cI aO O] H locs → lv_has ls 8 [(4, .int x4_70)] → MX0_chanceOfTenths_j70 x4_70 yTr0_70 yTr1_70 yTr2_70 yTr3_70 yTr4_70 yTr5_70 yTr6_70 yTr7_70 yTr8_70 = some rr → W p l e (rmO 5 116) s m ([.ref fc, .int p1, .int p2, .int p3] : List Value).toArray below meth c H locs 0 0 (MQ below (qI G rr.1 [wFc fc (aP 0) (aNw 0) (aGs 0) (aTr 0) (aO 0), wPlan cI aP P, wLine cI aNw Nw, wPlan cI aGs Gs, wLine cI aTr (rr.2.1, rr.2.2.1, rr.2.2.2.1, rr.2.2.2.2.1, rr.2.2.2.2.2.1, rr.2.2.2.2.2.2.1, rr.2.2.2.2.2.2.2.1, rr.2.2.2.2.2.2.2.2.1, rr.2.2.2.2.2.2.2.2.2), wOrd cI aO O] A) ([.ref fc, .int p1, .int p2, .int p3] : List Value).toArray s 0 0 A) (F0 m 70 ls []) := by
    intro x4_70 yTr0_70 yTr1_70 yTr2_70 yTr3_70 yTr4_70 yTr5_70 yTr6_70 yTr7_70 yTr8_70 H locs ls hW hl hM
    unfold MX0_chanceOfTenths_j70 at hM
    refine lv_iload hx hb dX0_chanceOfTenths_70 (lv_at hl 0 rfl) ?_
    obtain rfl := Option.some.inj hM
    exact g_reti X hW rfl rfl dX0_chanceOfTenths_72
  have lp6 : ∀ (n6 : Nat) (x4_6 : Int32) (x5_6 : Int32) (yTr0_6 : (Nat → Int32)) (yTr1_6 : (Nat → Int32)) (yTr2_6 : (Nat → Int32)) (yTr3_6 : (Nat → Int32)) (yTr4_6 : (Nat → Int32)) (yTr5_6 : Int32) (yTr6_6 : Int32) (yTr7_6 : Int32) (yTr8_6 : Int32) (H : Heap) (locs : List Loc) (ls : Array Slot), Wd G A s [wFc fc (aP 0) (aNw 0) (aGs 0) (aTr 0) (aO 0), wPlan cI aP P, wLine cI aNw Nw, wPlan cI aGs Gs, wLine cI aTr (yTr0_6, yTr1_6, yTr2_6, yTr3_6, yTr4_6, yTr5_6, yTr6_6, yTr7_6, yTr8_6), wOrd cI aO O] H locs → lv_has ls 8 [(0, .ref fc), (1, .int p1), (2, .int p2), (3, .int p3), (4, .int x4_6), (5, .int x5_6)] → MX0_chanceOfTenths_l6 N P Nw p1 p2 p3 n6 x4_6 x5_6 yTr0_6 yTr1_6 yTr2_6 yTr3_6 yTr4_6 yTr5_6 yTr6_6 yTr7_6 yTr8_6 = some rr → W p l e (rmO 5 116) s m ([.ref fc, .int p1, .int p2, .int p3] : List Value).toArray below meth c H locs 0 0 (MQ below (qI G rr.1 [wFc fc (aP 0) (aNw 0) (aGs 0) (aTr 0) (aO 0), wPlan cI aP P, wLine cI aNw Nw, wPlan cI aGs Gs, wLine cI aTr (rr.2.1, rr.2.2.1, rr.2.2.2.1, rr.2.2.2.2.1, rr.2.2.2.2.2.1, rr.2.2.2.2.2.2.1, rr.2.2.2.2.2.2.2.1, rr.2.2.2.2.2.2.2.2.1, rr.2.2.2.2.2.2.2.2.2), wOrd cI aO O] A) ([.ref fc, .int p1, .int p2, .int p3] : List Value).toArray s 0 0 A) (F0 m 6 ls []) := by
    intro n6
    induction n6 with
    | zero =>
      intro x4_6 x5_6 yTr0_6 yTr1_6 yTr2_6 yTr3_6 yTr4_6 yTr5_6 yTr6_6 yTr7_6 yTr8_6 H locs ls hW hl hM
      rw [MX0_chanceOfTenths_l6] at hM
      cases hM
    | succ n6 ih6 =>
      intro x4_6 x5_6 yTr0_6 yTr1_6 yTr2_6 yTr3_6 yTr4_6 yTr5_6 yTr6_6 yTr7_6 yTr8_6 H locs ls hW hl hM
      rw [MX0_chanceOfTenths_l6] at hM
      refine lv_iload hx hb dX0_chanceOfTenths_6 (lv_at hl 5 rfl) ?_
      refine lv_iconst (v := (1 : Int32)) hx hb dX0_chanceOfTenths_8 (by decide) ?_
      refine lv_iload_n hx hb dX0_chanceOfTenths_9 rfl (lv_at hl 2 rfl) ?_
      refine lv_ishl hx hb dX0_chanceOfTenths_10 ?_
      refine lv_icmp_ge (tgt := 70) hx hb dX0_chanceOfTenths_11 (by decide) (fun hc => ?_) (fun hc => ?_)
      · have hM := (if_pos hc).symm.trans hM
        exact j70 x4_6 yTr0_6 yTr1_6 yTr2_6 yTr3_6 yTr4_6 yTr5_6 yTr6_6 yTr7_6 yTr8_6 _ _ _ hW (lv_sub hl [4] rfl) hM
      · have hM := (if_neg hc).symm.trans hM
        refine lv_iload hx hb dX0_chanceOfTenths_14 (lv_at hl 5 rfl) ?_
        obtain ⟨u16, hu16, hM⟩ := bind_some hM
        refine g_callSi (rest := []) X hl.1 hW (c_J6_bitCount_0f7a4 l G cI cZ cL N x5_6 u16 hu16) q_756 q_754 q_755 q_69 hd_J6_bitCount_0f7a4 rfl ⟨Nat.le_of_ble_eq_true rfl, Nat.le_of_ble_eq_true rfl⟩ ⟨Nat.zero_le _, Nat.zero_le _⟩ rfl (Nat.le_of_ble_eq_true rfl) dX0_chanceOfTenths_16 (fun H locs hW => ?_)
        refine lv_istore (lv' := [(6, .int u16), (0, .ref fc), (1, .int p1), (2, .int p2), (3, .int p3), (4, .int x4_6), (5, .int x5_6)]) hx hb dX0_chanceOfTenths_19 hl (by decide) rfl (fun ls hl => ?_)
        refine lv_iload_n hx hb dX0_chanceOfTenths_21 rfl (lv_at hl 4 rfl) ?_
        refine lv_iload hx hb dX0_chanceOfTenths_22 (lv_at hl 0 rfl) ?_
        obtain ⟨u24, hu24, hM⟩ := bind_some hM
        refine g_callSNi (rest := []) X hl.1 hW (c_X7_power l G cI cZ cL N p3 u16 u24 hu24) q_762 nt_28 q_761 q_54 hd_X7_power rfl ⟨Nat.le_of_ble_eq_true rfl, Nat.le_of_ble_eq_true rfl⟩ ⟨Nat.zero_le _, Nat.zero_le _⟩ rfl (Nat.le_of_ble_eq_true rfl) dX0_chanceOfTenths_24 (fun H locs hW => ?_)
        refine lv_bipush (v := (10 : Int32)) hx hb dX0_chanceOfTenths_27 (by decide) ?_
        refine lv_iload_n hx hb dX0_chanceOfTenths_29 rfl (lv_at hl 4 rfl) ?_
        refine lv_isub hx hb dX0_chanceOfTenths_30 ?_
        refine lv_iload_n hx hb dX0_chanceOfTenths_31 rfl (lv_at hl 3 rfl) ?_
        refine lv_iload hx hb dX0_chanceOfTenths_32 (lv_at hl 0 rfl) ?_
        refine lv_isub hx hb dX0_chanceOfTenths_34 ?_
        obtain ⟨u35, hu35, hM⟩ := bind_some hM
        refine g_callSNi (rest := [.int u24]) X hl.1 hW (c_X7_power l G cI cZ cL N ((10 : Int32) - p3) (p2 - u16) u35 hu35) q_762 nt_28 q_761 q_54 hd_X7_power rfl ⟨Nat.le_of_ble_eq_true rfl, Nat.le_of_ble_eq_true rfl⟩ ⟨Nat.zero_le _, Nat.zero_le _⟩ rfl (Nat.le_of_ble_eq_true rfl) dX0_chanceOfTenths_35 (fun H locs hW => ?_)
        refine lv_imul hx hb dX0_chanceOfTenths_38 ?_
        refine lv_topi (fun z39 ez39 => ?_)
        have hM := MLet_some hM z39 ez39
        refine lv_istore (lv' := [(7, .int z39), (6, .int u16), (0, .ref fc), (1, .int p1), (2, .int p2), (3, .int p3), (4, .int x4_6), (5, .int x5_6)]) hx hb dX0_chanceOfTenths_39 hl (by decide) rfl (fun ls hl => ?_)
        refine lv_iload hx hb dX0_chanceOfTenths_41 (lv_at hl 0 rfl) ?_
        have j64 : ∀ (x4_64 : Int32) (yTr0_64 : (Nat → Int32)) (yTr1_64 : (Nat → Int32)) (yTr2_64 : (Nat → Int32)) (yTr3_64 : (Nat → Int32)) (yTr4_64 : (Nat → Int32)) (yTr5_64 : Int32) (yTr6_64 : Int32) (yTr7_64 : Int32) (yTr8_64 : Int32) (H : Heap) (locs : List Loc) (ls : Array Slot), Wd G A s [wFc fc (aP 0) (aNw 0) (aGs 0) (aTr 0) (aO 0), wPlan cI aP P, wLine cI aNw Nw, wPlan cI aGs Gs, wLine cI aTr (yTr0_64, yTr1_64, yTr2_64, yTr3_64, yTr4_64, yTr5_64, yTr6_64, yTr7_64, yTr8_64), wOrd cI aO O] H locs → lv_has ls 8 [(0, .ref fc), (1, .int p1), (2, .int p2), (3, .int p3), (4, .int x4_64), (5, .int x5_6)] → MX0_chanceOfTenths_j64 x5_6 (MX0_chanceOfTenths_l6 N P Nw p1 p2 p3 n6) x4_64 yTr0_64 yTr1_64 yTr2_64 yTr3_64 yTr4_64 yTr5_64 yTr6_64 yTr7_64 yTr8_64 = some rr → W p l e (rmO 5 116) s m ([.ref fc, .int p1, .int p2, .int p3] : List Value).toArray below meth c H locs 0 0 (MQ below (qI G rr.1 [wFc fc (aP 0) (aNw 0) (aGs 0) (aTr 0) (aO 0), wPlan cI aP P, wLine cI aNw Nw, wPlan cI aGs Gs, wLine cI aTr (rr.2.1, rr.2.2.1, rr.2.2.2.1, rr.2.2.2.2.1, rr.2.2.2.2.2.1, rr.2.2.2.2.2.2.1, rr.2.2.2.2.2.2.2.1, rr.2.2.2.2.2.2.2.2.1, rr.2.2.2.2.2.2.2.2.2), wOrd cI aO O] A) ([.ref fc, .int p1, .int p2, .int p3] : List Value).toArray s 0 0 A) (F0 m 64 ls []) := by
          intro x4_64 yTr0_64 yTr1_64 yTr2_64 yTr3_64 yTr4_64 yTr5_64 yTr6_64 yTr7_64 yTr8_64 H locs ls hW hl hM
          unfold MX0_chanceOfTenths_j64 at hM
          refine lv_iinc (v := x5_6 + (1 : Int32)) (lv' := [(5, .int (x5_6 + (1 : Int32))), (0, .ref fc), (1, .int p1), (2, .int p2), (3, .int p3), (4, .int x4_64)]) hx hb dX0_chanceOfTenths_64 hl (k := 5) rfl rfl (by decide) rfl (fun ls hl => ?_)
          refine lv_goto (tgt := 6) hx hb dX0_chanceOfTenths_67 (by decide) ?_
          exact ih6 x4_64 (x5_6 + (1 : Int32)) yTr0_64 yTr1_64 yTr2_64 yTr3_64 yTr4_64 yTr5_64 yTr6_64 yTr7_64 yTr8_64 _ _ _ hW (lv_sub hl [1, 2, 3, 4, 5, 0] rfl) hM
        refine lv_if_le (tgt := 64) hx hb dX0_chanceOfTenths_43 (by decide) (fun hc => ?_) (fun hc => ?_)
        · have hM := (if_pos hc).symm.trans hM
          exact j64 x4_6 yTr0_6 yTr1_6 yTr2_6 yTr3_6 yTr4_6 yTr5_6 yTr6_6 yTr7_6 yTr8_6 _ _ _ hW (lv_sub hl [2, 3, 4, 5, 6, 7] rfl) hM
        · have hM := (if_neg hc).symm.trans hM
          refine lv_aload_n hx hb dX0_chanceOfTenths_46 rfl (lv_at hl 2 rfl) ?_
          refine lv_iload_n hx hb dX0_chanceOfTenths_47 rfl (lv_at hl 3 rfl) ?_
          refine lv_iload_n hx hb dX0_chanceOfTenths_48 rfl (lv_at hl 4 rfl) ?_
          refine lv_iload hx hb dX0_chanceOfTenths_49 (lv_at hl 7 rfl) ?_
          obtain ⟨u51, hu51, hM⟩ := bind_some hM
          refine g_callVi (rest := []) (gr := []) X hl.1 hW (c_X0_isFedByRumours l G cI cZ cL N fc aP aNw aGs aTr aO P Nw Gs (yTr0_6, yTr1_6, yTr2_6, yTr3_6, yTr4_6, yTr5_6, yTr6_6, yTr7_6, yTr8_6) O p1 p2 x5_6 u51 hu51) q_766 q_763 q_765 q_17 q_57 hd_X0_isFedByRumours rfl ⟨Nat.le_of_ble_eq_true rfl, Nat.le_of_ble_eq_true rfl⟩ ⟨Nat.zero_le _, Nat.zero_le _⟩ [0, 1, 2, 3, 4, 5] [] [wFc fc (aP 0) (aNw 0) (aGs 0) (aTr 0) (aO 0), wPlan cI aP P, wLine cI aNw Nw, wPlan cI aGs Gs, wLine cI aTr (u51.2.1, u51.2.2.1, u51.2.2.2.1, u51.2.2.2.2.1, u51.2.2.2.2.2.1, u51.2.2.2.2.2.2.1, u51.2.2.2.2.2.2.2.1, u51.2.2.2.2.2.2.2.2.1, u51.2.2.2.2.2.2.2.2.2), wOrd cI aO O] ⟨pm_6_0_1_2_3_4_5, rfl, rfl, rfl⟩ ⟨pm_6_0_1_2_3_4_5, rfl, rfl, rfl⟩ (q0 := 0) rfl rfl rfl (Nat.le_of_ble_eq_true rfl) dX0_chanceOfTenths_51 (fun H locs hW => ?_)
          refine lv_if_eq (tgt := 64) hx hb dX0_chanceOfTenths_54 (by decide) (fun hc => ?_) (fun hc => ?_)
          · have hM := (if_pos hc).symm.trans hM
            exact j64 x4_6 u51.2.1 u51.2.2.1 u51.2.2.2.1 u51.2.2.2.2.1 u51.2.2.2.2.2.1 u51.2.2.2.2.2.2.1 u51.2.2.2.2.2.2.2.1 u51.2.2.2.2.2.2.2.2.1 u51.2.2.2.2.2.2.2.2.2 _ _ _ hW (lv_sub hl [2, 3, 4, 5, 6, 7] rfl) hM
          · have hM := (if_neg hc).symm.trans hM
            refine lv_iload hx hb dX0_chanceOfTenths_57 (lv_at hl 6 rfl) ?_
            refine lv_iload hx hb dX0_chanceOfTenths_59 (lv_at hl 0 rfl) ?_
            refine lv_iadd hx hb dX0_chanceOfTenths_61 ?_
            refine lv_topi (fun z62 ez62 => ?_)
            have hM := MLet_some hM z62 ez62
            refine lv_istore (lv' := [(4, .int z62), (7, .int z39), (6, .int u16), (0, .ref fc), (1, .int p1), (2, .int p2), (3, .int p3), (5, .int x5_6)]) hx hb dX0_chanceOfTenths_62 hl (by decide) rfl (fun ls hl => ?_)
            exact j64 z62 u51.2.1 u51.2.2.1 u51.2.2.2.1 u51.2.2.2.2.1 u51.2.2.2.2.2.1 u51.2.2.2.2.2.2.1 u51.2.2.2.2.2.2.2.1 u51.2.2.2.2.2.2.2.2.1 u51.2.2.2.2.2.2.2.2.2 _ _ _ hW (lv_sub hl [3, 4, 5, 6, 0, 7] rfl) hM
  exact lp6 N (0 : Int32) (0 : Int32) Tr.1 Tr.2.1 Tr.2.2.1 Tr.2.2.2.1 Tr.2.2.2.2.1 Tr.2.2.2.2.2.1 Tr.2.2.2.2.2.2.1 Tr.2.2.2.2.2.2.2.1 Tr.2.2.2.2.2.2.2.2 _ _ _ hW (lv_sub hl [2, 3, 4, 5, 1, 0] rfl) hM

def MX0_comeAgain (N : Nat) (P : PlanV) (Tr : LineV) (p1 : Int32) : Option ((Nat → Int32) × (Nat → Int32) × (Nat → Int32) × Int32) :=
  (MX1_whereIs N Tr p1).bind (fun u5 => if u5 = (2 : Int32) then ((MX1_join N Tr P p1).bind (fun u21 => some (u21.1, u21.2.1, u21.2.2.1, u21.2.2.2))) else some (Tr.1, Tr.2.1, Tr.2.2.1, Tr.2.2.2.2.2.1))
set_option maxHeartbeats 4000000 in
set_option maxRecDepth 100000 in
theorem c_X0_comeAgain (l : Launch) (G : va_G) (cI cZ cL : ClassId) (N : Nat) (fc : Nat) (aP : Nat → Nat) (aNw : Nat → Nat) (aGs : Nat → Nat) (aTr : Nat → Nat) (aO : Nat → Nat) (P : PlanV) (Nw : LineV) (Gs : PlanV) (Tr : LineV) (O : OrdV) (p1 : Int32) (rr : (Nat → Int32) × (Nat → Int32) × (Nat → Int32) × Int32) (hM : MX0_comeAgain N P Tr p1 = some rr) : CtV l yX0_comeAgain cX0_comeAgain 2 2 46 G cI cZ cL [.ref fc, .int p1] [wFc fc (aP 0) (aNw 0) (aGs 0) (aTr 0) (aO 0), wPlan cI aP P, wLine cI aNw Nw, wPlan cI aGs Gs, wLine cI aTr Tr, wOrd cI aO O] [wFc fc (aP 0) (aNw 0) (aGs 0) (aTr 0) (aO 0), wPlan cI aP P, wLine cI aNw Nw, wPlan cI aGs Gs, wLine cI aTr (rr.1, rr.2.1, rr.2.2.1, Tr.2.2.2.1, Tr.2.2.2.2.1, rr.2.2.2, Tr.2.2.2.2.2.2), wOrd cI aO O] := by
  refine ct_body (fun A => qV G [wFc fc (aP 0) (aNw 0) (aGs 0) (aTr 0) (aO 0), wPlan cI aP P, wLine cI aNw Nw, wPlan cI aGs Gs, wLine cI aTr (rr.1, rr.2.1, rr.2.2.1, Tr.2.2.2.1, Tr.2.2.2.2.1, rr.2.2.2, Tr.2.2.2.2.2.2), wOrd cI aO O] A) (by decide) (Nat.le_of_ble_eq_true rfl) (fun p e s m below meth c A ls X hW hl => ?_)
  have hx := X.1
  have hb := X.2.1
  have hts := X.2.2.2.2.2.1
  have hown := X.2.2.2.2.2.2.1
  have hl : lv_has ls 2 [(0, .ref fc), (1, .int p1)] := hl
  unfold MX0_comeAgain at hM
  refine lv_aload_n hx hb dX0_comeAgain_0 rfl (lv_at hl 0 rfl) ?_
  refine g_get X hW 0 rfl rfl inX0 3 (by decide) q_201 rfl dX0_comeAgain_1 ?_
  refine lv_iload_n hx hb dX0_comeAgain_4 rfl (lv_at hl 1 rfl) ?_
  obtain ⟨u5, hu5, hM⟩ := bind_some hM
  refine g_callVi (rest := []) (gr := [wFc fc (aP 0) (aNw 0) (aGs 0) (aTr 0) (aO 0), wPlan cI aP P, wLine cI aNw Nw, wPlan cI aGs Gs, wOrd cI aO O]) X hl.1 hW (c_X1_whereIs l G cI cZ cL N aTr Tr p1 u5 hu5) q_450 q_616 q_448 q_449 q_58 hd_X1_whereIs rfl ⟨Nat.le_of_ble_eq_true rfl, Nat.le_of_ble_eq_true rfl⟩ ⟨Nat.zero_le _, Nat.zero_le _⟩ [4] [0, 1, 2, 3, 5] [wFc fc (aP 0) (aNw 0) (aGs 0) (aTr 0) (aO 0), wPlan cI aP P, wLine cI aNw Nw, wPlan cI aGs Gs, wLine cI aTr Tr, wOrd cI aO O] ⟨pm_6_4, rfl, rfl, rfl⟩ ⟨pm_6_4, rfl, rfl, rfl⟩ (q0 := 15) rfl rfl rfl (Nat.le_of_ble_eq_true rfl) dX0_comeAgain_5 (fun H locs hW => ?_)
  refine lv_iconst (v := (2 : Int32)) hx hb dX0_comeAgain_8 (by decide) ?_
  refine lv_icmp_ne (tgt := 24) hx hb dX0_comeAgain_9 (by decide) (fun hc => ?_) (fun hc => ?_)
  · have hM := (if_neg hc).symm.trans hM
    obtain rfl := Option.some.inj hM
    exact g_retv X hW dX0_comeAgain_24
  · have hM := (if_pos hc).symm.trans hM
    refine lv_aload_n hx hb dX0_comeAgain_12 rfl (lv_at hl 0 rfl) ?_
    refine g_get X hW 0 rfl rfl inX0 3 (by decide) q_201 rfl dX0_comeAgain_13 ?_
    refine lv_aload_n hx hb dX0_comeAgain_16 rfl (lv_at hl 0 rfl) ?_
    refine g_get X hW 0 rfl rfl inX0 0 (by decide) q_196 rfl dX0_comeAgain_17 ?_
    refine lv_iload_n hx hb dX0_comeAgain_20 rfl (lv_at hl 1 rfl) ?_
    obtain ⟨u21, hu21, hM⟩ := bind_some hM
    refine g_callVv (rest := []) (gr := [wFc fc (aP 0) (aNw 0) (aGs 0) (aTr 0) (aO 0), wLine cI aNw Nw, wPlan cI aGs Gs, wOrd cI aO O]) X hl.1 hW (c_X1_join l G cI cZ cL N aTr aP Tr P p1 u21 hu21) q_510 q_633 q_508 q_509 q_58 hd_X1_join rfl ⟨Nat.le_of_ble_eq_true rfl, Nat.le_of_ble_eq_true rfl⟩ ⟨Nat.zero_le _, Nat.zero_le _⟩ [4, 1] [0, 2, 3, 5] [wFc fc (aP 0) (aNw 0) (aGs 0) (aTr 0) (aO 0), wPlan cI aP P, wLine cI aNw Nw, wPlan cI aGs Gs, wLine cI aTr (u21.1, u21.2.1, u21.2.2.1, Tr.2.2.2.1, Tr.2.2.2.2.1, u21.2.2.2, Tr.2.2.2.2.2.2), wOrd cI aO O] ⟨pm_6_4_1, rfl, rfl, rfl⟩ ⟨pm_6_4_1, rfl, rfl, rfl⟩ (q0 := 15) rfl rfl rfl (Nat.le_of_ble_eq_true rfl) dX0_comeAgain_21 (fun H locs hW => ?_)
    obtain rfl := Option.some.inj hM
    exact g_retv X hW dX0_comeAgain_24

def MX0_drawOne (N : Nat) (P : PlanV) (Tr : LineV) (p1 : Int32) (p2 : Int32) : Option ((Nat → Int32) × (Nat → Int32) × (Nat → Int32) × Int32) :=
  if (1 : Int32) ≤ P.2.2.2.1 then (MLet ((((7919 : Int64) * p1.toInt64) + ((6151 : Int64) * p2.toInt64)) + (1 : Int64)) (fun z27 => MLet (((z27 * z27) - (z27 * z27) / (65521 : Int64) * (65521 : Int64)).toInt32) (fun z36 => MD P.2.2.2.1 (MLet ((z36 / (8 : Int32)) - (z36 / (8 : Int32)) / P.2.2.2.1 * P.2.2.2.1) (fun z51 => if (z36 - z36 / (5 : Int32) * (5 : Int32)) = (0 : Int32) then ((MX1_yieldPlace N Tr z51).bind (fun u94 => some (u94, Tr.2.1, Tr.2.2.1, Tr.2.2.2.2.2.1))) else if (z36 - z36 / (5 : Int32) * (5 : Int32)) = (1 : Int32) then ((MX1_goToHead N Tr z51).bind (fun u106 => some (u106.1, Tr.2.1, u106.2, Tr.2.2.2.2.2.1))) else if (z36 - z36 / (5 : Int32) * (5 : Int32)) = (2 : Int32) then ((MX1_goAway N Tr z51).bind (fun u118 => some (u118.1, u118.2.1, Tr.2.2.1, u118.2.2))) else if (z36 - z36 / (5 : Int32) * (5 : Int32)) = (3 : Int32) then ((MX0_comeAgain N P Tr z51).bind (fun u127 => some (u127.1, u127.2.1, u127.2.2.1, u127.2.2.2))) else some (Tr.1, Tr.2.1, Tr.2.2.1, Tr.2.2.2.2.2.1)))))) else some (Tr.1, Tr.2.1, Tr.2.2.1, Tr.2.2.2.2.2.1)
set_option maxHeartbeats 4000000 in
set_option maxRecDepth 100000 in
theorem c_X0_drawOne (l : Launch) (G : va_G) (cI cZ cL : ClassId) (N : Nat) (fc : Nat) (aP : Nat → Nat) (aNw : Nat → Nat) (aGs : Nat → Nat) (aTr : Nat → Nat) (aO : Nat → Nat) (P : PlanV) (Nw : LineV) (Gs : PlanV) (Tr : LineV) (O : OrdV) (p1 : Int32) (p2 : Int32) (rr : (Nat → Int32) × (Nat → Int32) × (Nat → Int32) × Int32) (hM : MX0_drawOne N P Tr p1 p2 = some rr) : CtV l yX0_drawOne cX0_drawOne 7 3 67 G cI cZ cL [.ref fc, .int p1, .int p2] [wFc fc (aP 0) (aNw 0) (aGs 0) (aTr 0) (aO 0), wPlan cI aP P, wLine cI aNw Nw, wPlan cI aGs Gs, wLine cI aTr Tr, wOrd cI aO O] [wFc fc (aP 0) (aNw 0) (aGs 0) (aTr 0) (aO 0), wPlan cI aP P, wLine cI aNw Nw, wPlan cI aGs Gs, wLine cI aTr (rr.1, rr.2.1, rr.2.2.1, Tr.2.2.2.1, Tr.2.2.2.2.1, rr.2.2.2, Tr.2.2.2.2.2.2), wOrd cI aO O] := by
  refine ct_body (fun A => qV G [wFc fc (aP 0) (aNw 0) (aGs 0) (aTr 0) (aO 0), wPlan cI aP P, wLine cI aNw Nw, wPlan cI aGs Gs, wLine cI aTr (rr.1, rr.2.1, rr.2.2.1, Tr.2.2.2.1, Tr.2.2.2.2.1, rr.2.2.2, Tr.2.2.2.2.2.2), wOrd cI aO O] A) (by decide) (Nat.le_of_ble_eq_true rfl) (fun p e s m below meth c A ls X hW hl => ?_)
  have hx := X.1
  have hb := X.2.1
  have hts := X.2.2.2.2.2.1
  have hown := X.2.2.2.2.2.2.1
  have hl : lv_has ls 7 [(0, .ref fc), (1, .int p1), (2, .int p2)] := hl
  unfold MX0_drawOne at hM
  refine lv_aload_n hx hb dX0_drawOne_0 rfl (lv_at hl 0 rfl) ?_
  refine g_get X hW 0 rfl rfl inX0 0 (by decide) q_196 rfl dX0_drawOne_1 ?_
  refine g_getN X hW 1 rfl rfl inX3 3 (by decide) nt_6 rfl dX0_drawOne_4 ?_
  refine lv_iconst (v := (1 : Int32)) hx hb dX0_drawOne_7 (by decide) ?_
  refine lv_icmp_ge (tgt := 12) hx hb dX0_drawOne_8 (by decide) (fun hc => ?_) (fun hc => ?_)
  · have hM := (if_pos hc).symm.trans hM
    refine lv_ldc2 (v := (7919 : Int64)) hx hb hown (hts _ q_783) dX0_drawOne_12 ?_
    refine lv_iload_n hx hb dX0_drawOne_15 rfl (lv_at hl 1 rfl) ?_
    refine lv_i2l hx hb dX0_drawOne_16 rfl ?_
    refine lv_lmul hx hb dX0_drawOne_17 ?_
    refine lv_ldc2 (v := (6151 : Int64)) hx hb hown (hts _ q_784) dX0_drawOne_18 ?_
    refine lv_iload_n hx hb dX0_drawOne_21 rfl (lv_at hl 2 rfl) ?_
    refine lv_i2l hx hb dX0_drawOne_22 rfl ?_
    refine lv_lmul hx hb dX0_drawOne_23 ?_
    refine lv_ladd hx hb dX0_drawOne_24 ?_
    refine lv_lconst (v := (1 : Int64)) hx hb dX0_drawOne_25 (by decide) ?_
    refine lv_ladd hx hb dX0_drawOne_26 ?_
    refine lv_topl (fun z27 ez27 => ?_)
    have hM := MLet_some hM z27 ez27
    refine lv_lstore_n (lv' := [(3, .long z27), (0, .ref fc), (1, .int p1), (2, .int p2)]) hx hb dX0_drawOne_27 rfl hl (by decide) rfl (fun ls hl => ?_)
    refine lv_lload_n hx hb dX0_drawOne_28 rfl (lv_at hl 0 rfl) ?_
    refine lv_lload_n hx hb dX0_drawOne_29 rfl (lv_at hl 0 rfl) ?_
    refine lv_lmul hx hb dX0_drawOne_30 ?_
    refine lv_ldc2 (v := (65521 : Int64)) hx hb hown (hts _ q_785) dX0_drawOne_31 ?_
    refine lv_lrem hx hb dX0_drawOne_34 (by decide) ?_
    refine lv_l2i hx hb dX0_drawOne_35 rfl ?_
    refine lv_topi (fun z36 ez36 => ?_)
    have hM := MLet_some hM z36 ez36
    refine lv_istore (lv' := [(5, .int z36), (3, .long z27), (0, .ref fc), (1, .int p1), (2, .int p2)]) hx hb dX0_drawOne_36 hl (by decide) rfl (fun ls hl => ?_)
    refine lv_iload hx hb dX0_drawOne_38 (lv_at hl 0 rfl) ?_
    refine lv_bipush (v := (8 : Int32)) hx hb dX0_drawOne_40 (by decide) ?_
    refine lv_idiv hx hb dX0_drawOne_42 (by decide) ?_
    refine lv_aload_n hx hb dX0_drawOne_43 rfl (lv_at hl 2 rfl) ?_
    refine g_get X hW 0 rfl rfl inX0 0 (by decide) q_196 rfl dX0_drawOne_44 ?_
    refine g_getN X hW 1 rfl rfl inX3 3 (by decide) nt_6 rfl dX0_drawOne_47 ?_
    obtain ⟨hz50, hM⟩ := MD_some hM
    refine lv_irem hx hb dX0_drawOne_50 hz50 ?_
    refine lv_topi (fun z51 ez51 => ?_)
    have hM := MLet_some hM z51 ez51
    refine lv_istore (lv' := [(6, .int z51), (5, .int z36), (3, .long z27), (0, .ref fc), (1, .int p1), (2, .int p2)]) hx hb dX0_drawOne_51 hl (by decide) rfl (fun ls hl => ?_)
    refine lv_iload hx hb dX0_drawOne_53 (lv_at hl 1 rfl) ?_
    refine lv_iconst (v := (5 : Int32)) hx hb dX0_drawOne_55 (by decide) ?_
    refine lv_irem hx hb dX0_drawOne_56 (by decide) ?_
    by_cases hs57_0 : (z36 - z36 / (5 : Int32) * (5 : Int32)) = (0 : Int32)
    · have hM := (if_pos hs57_0).symm.trans hM
      refine lv_tableIn (off := 31) (tgt := 88) hx hb dX0_drawOne_57 (by rw [hs57_0]; decide) (by rw [hs57_0]; decide) (by rw [hs57_0]; rfl) (by decide) ?_
      refine lv_aload_n hx hb dX0_drawOne_88 rfl (lv_at hl 3 rfl) ?_
      refine g_get X hW 0 rfl rfl inX0 3 (by decide) q_201 rfl dX0_drawOne_89 ?_
      refine lv_iload hx hb dX0_drawOne_92 (lv_at hl 0 rfl) ?_
      obtain ⟨u94, hu94, hM⟩ := bind_some hM
      refine g_callVv (rest := []) (gr := [wFc fc (aP 0) (aNw 0) (aGs 0) (aTr 0) (aO 0), wPlan cI aP P, wLine cI aNw Nw, wPlan cI aGs Gs, wOrd cI aO O]) X hl.1 hW (c_X1_yieldPlace l G cI cZ cL N aTr Tr z51 u94 hu94) q_562 q_786 q_560 q_561 q_58 hd_X1_yieldPlace rfl ⟨Nat.le_of_ble_eq_true rfl, Nat.le_of_ble_eq_true rfl⟩ ⟨Nat.zero_le _, Nat.zero_le _⟩ [4] [0, 1, 2, 3, 5] [wFc fc (aP 0) (aNw 0) (aGs 0) (aTr 0) (aO 0), wPlan cI aP P, wLine cI aNw Nw, wPlan cI aGs Gs, wLine cI aTr (u94, Tr.2), wOrd cI aO O] ⟨pm_6_4, rfl, rfl, rfl⟩ ⟨pm_6_4, rfl, rfl, rfl⟩ (q0 := 15) rfl rfl rfl (Nat.le_of_ble_eq_true rfl) dX0_drawOne_94 (fun H locs hW => ?_)
      refine lv_goto (tgt := 133) hx hb dX0_drawOne_97 (by decide) ?_
      obtain rfl := Option.some.inj hM
      exact g_retv X hW dX0_drawOne_133
    · have hM := (if_neg hs57_0).symm.trans hM
      by_cases hs57_1 : (z36 - z36 / (5 : Int32) * (5 : Int32)) = (1 : Int32)
      · have hM := (if_pos hs57_1).symm.trans hM
        refine lv_tableIn (off := 43) (tgt := 100) hx hb dX0_drawOne_57 (by rw [hs57_1]; decide) (by rw [hs57_1]; decide) (by rw [hs57_1]; rfl) (by decide) ?_
        refine lv_aload_n hx hb dX0_drawOne_100 rfl (lv_at hl 3 rfl) ?_
        refine g_get X hW 0 rfl rfl inX0 3 (by decide) q_201 rfl dX0_drawOne_101 ?_
        refine lv_iload hx hb dX0_drawOne_104 (lv_at hl 0 rfl) ?_
        obtain ⟨u106, hu106, hM⟩ := bind_some hM
        refine g_callVv (rest := []) (gr := [wFc fc (aP 0) (aNw 0) (aGs 0) (aTr 0) (aO 0), wPlan cI aP P, wLine cI aNw Nw, wPlan cI aGs Gs, wOrd cI aO O]) X hl.1 hW (c_X1_goToHead l G cI cZ cL N aTr Tr z51 u106 hu106) q_522 q_634 q_520 q_521 q_58 hd_X1_goToHead rfl ⟨Nat.le_of_ble_eq_true rfl, Nat.le_of_ble_eq_true rfl⟩ ⟨Nat.zero_le _, Nat.zero_le _⟩ [4] [0, 1, 2, 3, 5] [wFc fc (aP 0) (aNw 0) (aGs 0) (aTr 0) (aO 0), wPlan cI aP P, wLine cI aNw Nw, wPlan cI aGs Gs, wLine cI aTr (u106.1, Tr.2.1, u106.2, Tr.2.2.2), wOrd cI aO O] ⟨pm_6_4, rfl, rfl, rfl⟩ ⟨pm_6_4, rfl, rfl, rfl⟩ (q0 := 15) rfl rfl rfl (Nat.le_of_ble_eq_true rfl) dX0_drawOne_106 (fun H locs hW => ?_)
        refine lv_goto (tgt := 133) hx hb dX0_drawOne_109 (by decide) ?_
        obtain rfl := Option.some.inj hM
        exact g_retv X hW dX0_drawOne_133
      · have hM := (if_neg hs57_1).symm.trans hM
        by_cases hs57_2 : (z36 - z36 / (5 : Int32) * (5 : Int32)) = (2 : Int32)
        · have hM := (if_pos hs57_2).symm.trans hM
          refine lv_tableIn (off := 55) (tgt := 112) hx hb dX0_drawOne_57 (by rw [hs57_2]; decide) (by rw [hs57_2]; decide) (by rw [hs57_2]; rfl) (by decide) ?_
          refine lv_aload_n hx hb dX0_drawOne_112 rfl (lv_at hl 3 rfl) ?_
          refine g_get X hW 0 rfl rfl inX0 3 (by decide) q_201 rfl dX0_drawOne_113 ?_
          refine lv_iload hx hb dX0_drawOne_116 (lv_at hl 0 rfl) ?_
          obtain ⟨u118, hu118, hM⟩ := bind_some hM
          refine g_callVv (rest := []) (gr := [wFc fc (aP 0) (aNw 0) (aGs 0) (aTr 0) (aO 0), wPlan cI aP P, wLine cI aNw Nw, wPlan cI aGs Gs, wOrd cI aO O]) X hl.1 hW (c_X1_goAway l G cI cZ cL N aTr Tr z51 u118 hu118) q_575 q_632 q_573 q_574 q_58 hd_X1_goAway rfl ⟨Nat.le_of_ble_eq_true rfl, Nat.le_of_ble_eq_true rfl⟩ ⟨Nat.zero_le _, Nat.zero_le _⟩ [4] [0, 1, 2, 3, 5] [wFc fc (aP 0) (aNw 0) (aGs 0) (aTr 0) (aO 0), wPlan cI aP P, wLine cI aNw Nw, wPlan cI aGs Gs, wLine cI aTr (u118.1, u118.2.1, Tr.2.2.1, Tr.2.2.2.1, Tr.2.2.2.2.1, u118.2.2, Tr.2.2.2.2.2.2), wOrd cI aO O] ⟨pm_6_4, rfl, rfl, rfl⟩ ⟨pm_6_4, rfl, rfl, rfl⟩ (q0 := 15) rfl rfl rfl (Nat.le_of_ble_eq_true rfl) dX0_drawOne_118 (fun H locs hW => ?_)
          refine lv_goto (tgt := 133) hx hb dX0_drawOne_121 (by decide) ?_
          obtain rfl := Option.some.inj hM
          exact g_retv X hW dX0_drawOne_133
        · have hM := (if_neg hs57_2).symm.trans hM
          by_cases hs57_3 : (z36 - z36 / (5 : Int32) * (5 : Int32)) = (3 : Int32)
          · have hM := (if_pos hs57_3).symm.trans hM
            refine lv_tableIn (off := 67) (tgt := 124) hx hb dX0_drawOne_57 (by rw [hs57_3]; decide) (by rw [hs57_3]; decide) (by rw [hs57_3]; rfl) (by decide) ?_
            refine lv_aload_n hx hb dX0_drawOne_124 rfl (lv_at hl 3 rfl) ?_
            refine lv_iload hx hb dX0_drawOne_125 (lv_at hl 0 rfl) ?_
            obtain ⟨u127, hu127, hM⟩ := bind_some hM
            refine g_callVv (rest := []) (gr := []) X hl.1 hW (c_X0_comeAgain l G cI cZ cL N fc aP aNw aGs aTr aO P Nw Gs Tr O z51 u127 hu127) q_790 q_787 q_789 q_19 q_57 hd_X0_comeAgain rfl ⟨Nat.le_of_ble_eq_true rfl, Nat.le_of_ble_eq_true rfl⟩ ⟨Nat.zero_le _, Nat.zero_le _⟩ [0, 1, 2, 3, 4, 5] [] [wFc fc (aP 0) (aNw 0) (aGs 0) (aTr 0) (aO 0), wPlan cI aP P, wLine cI aNw Nw, wPlan cI aGs Gs, wLine cI aTr (u127.1, u127.2.1, u127.2.2.1, Tr.2.2.2.1, Tr.2.2.2.2.1, u127.2.2.2, Tr.2.2.2.2.2.2), wOrd cI aO O] ⟨pm_6_0_1_2_3_4_5, rfl, rfl, rfl⟩ ⟨pm_6_0_1_2_3_4_5, rfl, rfl, rfl⟩ (q0 := 0) rfl rfl rfl (Nat.le_of_ble_eq_true rfl) dX0_drawOne_127 (fun H locs hW => ?_)
            refine lv_goto (tgt := 133) hx hb dX0_drawOne_130 (by decide) ?_
            obtain rfl := Option.some.inj hM
            exact g_retv X hW dX0_drawOne_133
          · have hM := (if_neg hs57_3).symm.trans hM
            refine lv_tableOut (tgt := 133) hx hb dX0_drawOne_57 (sw_out 3 (fun j hj => by rcases sw_le3 hj with rfl | rfl | rfl | rfl <;> assumption)) (by decide) ?_
            obtain rfl := Option.some.inj hM
            exact g_retv X hW dX0_drawOne_133
  · have hM := (if_neg hc).symm.trans hM
    obtain rfl := Option.some.inj hM
    exact g_retv X hW dX0_drawOne_11

def MX0_lineBehindDay_j49 (yTr0_49 : (Nat → Int32)) (yTr1_49 : (Nat → Int32)) (yTr2_49 : (Nat → Int32)) (yTr3_49 : (Nat → Int32)) (yTr4_49 : (Nat → Int32)) (yTr5_49 : Int32) (yTr6_49 : Int32) (yTr7_49 : Int32) (yTr8_49 : Int32) : Option ((Nat → Int32) × (Nat → Int32) × (Nat → Int32) × (Nat → Int32) × (Nat → Int32) × Int32 × Int32 × Int32 × Int32) :=
  some (yTr0_49, yTr1_49, yTr2_49, yTr3_49, yTr4_49, yTr5_49, yTr6_49, yTr7_49, yTr8_49)
def MX0_lineBehindDay_l6 (N : Nat) (P : PlanV) (p1 : Int32) (p2 : Int32) : Nat → Int32 → (Nat → Int32) → (Nat → Int32) → (Nat → Int32) → (Nat → Int32) → (Nat → Int32) → Int32 → Int32 → Int32 → Int32 → Option ((Nat → Int32) × (Nat → Int32) × (Nat → Int32) × (Nat → Int32) × (Nat → Int32) × Int32 × Int32 × Int32 × Int32)
  | 0, _, _, _, _, _, _, _, _, _, _ => none
  | n6 + 1, x3_6, yTr0_6, yTr1_6, yTr2_6, yTr3_6, yTr4_6, yTr5_6, yTr6_6, yTr7_6, yTr8_6 =>
    if p2 ≤ x3_6 then (MX0_lineBehindDay_j49 yTr0_6 yTr1_6 yTr2_6 yTr3_6 yTr4_6 yTr5_6 yTr6_6 yTr7_6 yTr8_6) else ((MX0_drawOne N P (yTr0_6, yTr1_6, yTr2_6, yTr3_6, yTr4_6, yTr5_6, yTr6_6, yTr7_6, yTr8_6) p1 x3_6).bind (fun u14 => (MX3_rumourIn N P yTr6_6).bind (fun u36 => (MX1_goOn N (u14.1, u14.2.1, u14.2.2.1, yTr3_6, yTr4_6, u14.2.2.2, yTr6_6, yTr7_6, yTr8_6) P u36 (0 : Int32)).bind (fun u40 => (MX0_lineBehindDay_l6 N P p1 p2 n6) (x3_6 + (1 : Int32)) u40.1 u40.2.1 u40.2.2.1 u40.2.2.2.1 u40.2.2.2.2.1 u40.2.2.2.2.2.1 u40.2.2.2.2.2.2.1 u40.2.2.2.2.2.2.2.1 u40.2.2.2.2.2.2.2.2))))
def MX0_lineBehindDay (N : Nat) (P : PlanV) (Nw : LineV) (Tr : LineV) (p1 : Int32) (p2 : Int32) : Option ((Nat → Int32) × (Nat → Int32) × (Nat → Int32) × (Nat → Int32) × (Nat → Int32) × Int32 × Int32 × Int32 × Int32) :=
  (MX0_startTrial N Nw Tr).bind (fun u1 => MX0_lineBehindDay_l6 N P p1 p2 N (0 : Int32) u1.1 u1.2.1 u1.2.2.1 u1.2.2.2.1 u1.2.2.2.2.1 u1.2.2.2.2.2.1 u1.2.2.2.2.2.2.1 u1.2.2.2.2.2.2.2.1 u1.2.2.2.2.2.2.2.2)
set_option maxHeartbeats 4000000 in
set_option maxRecDepth 100000 in
theorem c_X0_lineBehindDay (l : Launch) (G : va_G) (cI cZ cL : ClassId) (N : Nat) (fc : Nat) (aP : Nat → Nat) (aNw : Nat → Nat) (aGs : Nat → Nat) (aTr : Nat → Nat) (aO : Nat → Nat) (P : PlanV) (Nw : LineV) (Gs : PlanV) (Tr : LineV) (O : OrdV) (p1 : Int32) (p2 : Int32) (rr : (Nat → Int32) × (Nat → Int32) × (Nat → Int32) × (Nat → Int32) × (Nat → Int32) × Int32 × Int32 × Int32 × Int32) (hM : MX0_lineBehindDay N P Nw Tr p1 p2 = some rr) : CtR l yX0_lineBehindDay cX0_lineBehindDay 4 (.object "BackwardsLine$Line") 4 93 G cI cZ cL [.ref fc, .int p1, .int p2] [wFc fc (aP 0) (aNw 0) (aGs 0) (aTr 0) (aO 0), wPlan cI aP P, wLine cI aNw Nw, wPlan cI aGs Gs, wLine cI aTr Tr, wOrd cI aO O] (aTr 0) [wFc fc (aP 0) (aNw 0) (aGs 0) (aTr 0) (aO 0), wPlan cI aP P, wLine cI aNw Nw, wPlan cI aGs Gs, wLine cI aTr rr, wOrd cI aO O] := by
  refine ct_body (fun A => qR G (aTr 0) [wFc fc (aP 0) (aNw 0) (aGs 0) (aTr 0) (aO 0), wPlan cI aP P, wLine cI aNw Nw, wPlan cI aGs Gs, wLine cI aTr rr, wOrd cI aO O] A) (by decide) (Nat.le_of_ble_eq_true rfl) (fun p e s m below meth c A ls X hW hl => ?_)
  have hx := X.1
  have hb := X.2.1
  have hts := X.2.2.2.2.2.1
  have hown := X.2.2.2.2.2.2.1
  have hl : lv_has ls 4 [(0, .ref fc), (1, .int p1), (2, .int p2)] := hl
  unfold MX0_lineBehindDay at hM
  refine lv_aload_n hx hb dX0_lineBehindDay_0 rfl (lv_at hl 0 rfl) ?_
  obtain ⟨u1, hu1, hM⟩ := bind_some hM
  refine g_callVv (rest := []) (gr := []) X hl.1 hW (c_X0_startTrial l G cI cZ cL N fc aP aNw aGs aTr aO P Nw Gs Tr O u1 hu1) q_600 q_597 q_598 q_599 q_57 hd_X0_startTrial rfl ⟨Nat.le_of_ble_eq_true rfl, Nat.le_of_ble_eq_true rfl⟩ ⟨Nat.zero_le _, Nat.zero_le _⟩ [0, 1, 2, 3, 4, 5] [] [wFc fc (aP 0) (aNw 0) (aGs 0) (aTr 0) (aO 0), wPlan cI aP P, wLine cI aNw Nw, wPlan cI aGs Gs, wLine cI aTr u1, wOrd cI aO O] ⟨pm_6_0_1_2_3_4_5, rfl, rfl, rfl⟩ ⟨pm_6_0_1_2_3_4_5, rfl, rfl, rfl⟩ (q0 := 0) rfl rfl rfl (Nat.le_of_ble_eq_true rfl) dX0_lineBehindDay_1 (fun H locs hW => ?_)
  refine lv_iconst (v := (0 : Int32)) hx hb dX0_lineBehindDay_4 (by decide) ?_
  refine lv_istore_n (lv' := [(3, .int (0 : Int32)), (0, .ref fc), (1, .int p1), (2, .int p2)]) hx hb dX0_lineBehindDay_5 rfl hl (by decide) rfl (fun ls hl => ?_)
  have j49 : ∀ (yTr0_49 : (Nat → Int32)) (yTr1_49 : (Nat → Int32)) (yTr2_49 : (Nat → Int32)) (yTr3_49 : (Nat → Int32)) (yTr4_49 : (Nat → Int32)) (yTr5_49 : Int32) (yTr6_49 : Int32) (yTr7_49 : Int32) (yTr8_49 : Int32) (H : Heap) (locs : List Loc) (ls : Array Slot), Wd G A s [wFc fc (aP 0) (aNw 0) (aGs 0) (aTr 0) (aO 0), wPlan cI aP P, wLine cI aNw Nw, wPlan cI aGs Gs, wLine cI aTr (yTr0_49, yTr1_49, yTr2_49, yTr3_49, yTr4_49, yTr5_49, yTr6_49, yTr7_49, yTr8_49), wOrd cI aO O] H locs → lv_has ls 4 [(0, .ref fc)] → MX0_lineBehindDay_j49 yTr0_49 yTr1_49 yTr2_49 yTr3_49 yTr4_49 yTr5_49 yTr6_49 yTr7_49 yTr8_49 = some rr → W p l e (rmO 4 93) s m ([.ref fc, .int p1, .int p2] : List Value).toArray below meth c H locs 0 0 (MQ below (qR G (aTr 0) [wFc fc (aP 0) (aNw 0) (aGs 0) (aTr 0) (aO 0), wPlan cI aP P, wLine cI aNw Nw, wPlan cI aGs Gs, wLine cI aTr rr, wOrd cI aO O] A) ([.ref fc, .int p1, .int p2] : List Value).toArray s 0 0 A) (F0 m 49 ls []) := by
    intro yTr0_49 yTr1_49 yTr2_49 yTr3_49 yTr4_49 yTr5_49 yTr6_49 yTr7_49 yTr8_49 H locs ls hW hl hM
    unfold MX0_lineBehindDay_j49 at hM
    refine lv_aload_n hx hb dX0_lineBehindDay_49 rfl (lv_at hl 0 rfl) ?_
    refine g_get X hW 0 rfl rfl inX0 3 (by decide) q_201 rfl dX0_lineBehindDay_50 ?_
    obtain rfl := Option.some.inj hM
    exact g_reta X hW dX0_lineBehindDay_53
  have lp6 : ∀ (n6 : Nat) (x3_6 : Int32) (yTr0_6 : (Nat → Int32)) (yTr1_6 : (Nat → Int32)) (yTr2_6 : (Nat → Int32)) (yTr3_6 : (Nat → Int32)) (yTr4_6 : (Nat → Int32)) (yTr5_6 : Int32) (yTr6_6 : Int32) (yTr7_6 : Int32) (yTr8_6 : Int32) (H : Heap) (locs : List Loc) (ls : Array Slot), Wd G A s [wFc fc (aP 0) (aNw 0) (aGs 0) (aTr 0) (aO 0), wPlan cI aP P, wLine cI aNw Nw, wPlan cI aGs Gs, wLine cI aTr (yTr0_6, yTr1_6, yTr2_6, yTr3_6, yTr4_6, yTr5_6, yTr6_6, yTr7_6, yTr8_6), wOrd cI aO O] H locs → lv_has ls 4 [(0, .ref fc), (1, .int p1), (2, .int p2), (3, .int x3_6)] → MX0_lineBehindDay_l6 N P p1 p2 n6 x3_6 yTr0_6 yTr1_6 yTr2_6 yTr3_6 yTr4_6 yTr5_6 yTr6_6 yTr7_6 yTr8_6 = some rr → W p l e (rmO 4 93) s m ([.ref fc, .int p1, .int p2] : List Value).toArray below meth c H locs 0 0 (MQ below (qR G (aTr 0) [wFc fc (aP 0) (aNw 0) (aGs 0) (aTr 0) (aO 0), wPlan cI aP P, wLine cI aNw Nw, wPlan cI aGs Gs, wLine cI aTr rr, wOrd cI aO O] A) ([.ref fc, .int p1, .int p2] : List Value).toArray s 0 0 A) (F0 m 6 ls []) := by
    intro n6
    induction n6 with
    | zero =>
      intro x3_6 yTr0_6 yTr1_6 yTr2_6 yTr3_6 yTr4_6 yTr5_6 yTr6_6 yTr7_6 yTr8_6 H locs ls hW hl hM
      rw [MX0_lineBehindDay_l6] at hM
      cases hM
    | succ n6 ih6 =>
      intro x3_6 yTr0_6 yTr1_6 yTr2_6 yTr3_6 yTr4_6 yTr5_6 yTr6_6 yTr7_6 yTr8_6 H locs ls hW hl hM
      rw [MX0_lineBehindDay_l6] at hM
      refine lv_iload_n hx hb dX0_lineBehindDay_6 rfl (lv_at hl 3 rfl) ?_
      refine lv_iload_n hx hb dX0_lineBehindDay_7 rfl (lv_at hl 2 rfl) ?_
      refine lv_icmp_ge (tgt := 49) hx hb dX0_lineBehindDay_8 (by decide) (fun hc => ?_) (fun hc => ?_)
      · have hM := (if_pos hc).symm.trans hM
        exact j49 yTr0_6 yTr1_6 yTr2_6 yTr3_6 yTr4_6 yTr5_6 yTr6_6 yTr7_6 yTr8_6 _ _ _ hW (lv_sub hl [0] rfl) hM
      · have hM := (if_neg hc).symm.trans hM
        refine lv_aload_n hx hb dX0_lineBehindDay_11 rfl (lv_at hl 0 rfl) ?_
        refine lv_iload_n hx hb dX0_lineBehindDay_12 rfl (lv_at hl 1 rfl) ?_
        refine lv_iload_n hx hb dX0_lineBehindDay_13 rfl (lv_at hl 3 rfl) ?_
        obtain ⟨u14, hu14, hM⟩ := bind_some hM
        refine g_callVv (rest := []) (gr := []) X hl.1 hW (c_X0_drawOne l G cI cZ cL N fc aP aNw aGs aTr aO P Nw Gs (yTr0_6, yTr1_6, yTr2_6, yTr3_6, yTr4_6, yTr5_6, yTr6_6, yTr7_6, yTr8_6) O p1 x3_6 u14 hu14) q_782 q_779 q_781 q_18 q_57 hd_X0_drawOne rfl ⟨Nat.le_of_ble_eq_true rfl, Nat.le_of_ble_eq_true rfl⟩ ⟨Nat.zero_le _, Nat.zero_le _⟩ [0, 1, 2, 3, 4, 5] [] [wFc fc (aP 0) (aNw 0) (aGs 0) (aTr 0) (aO 0), wPlan cI aP P, wLine cI aNw Nw, wPlan cI aGs Gs, wLine cI aTr (u14.1, u14.2.1, u14.2.2.1, yTr3_6, yTr4_6, u14.2.2.2, yTr6_6, yTr7_6, yTr8_6), wOrd cI aO O] ⟨pm_6_0_1_2_3_4_5, rfl, rfl, rfl⟩ ⟨pm_6_0_1_2_3_4_5, rfl, rfl, rfl⟩ (q0 := 0) rfl rfl rfl (Nat.le_of_ble_eq_true rfl) dX0_lineBehindDay_14 (fun H locs hW => ?_)
        refine lv_aload_n hx hb dX0_lineBehindDay_17 rfl (lv_at hl 0 rfl) ?_
        refine g_get X hW 0 rfl rfl inX0 3 (by decide) q_201 rfl dX0_lineBehindDay_18 ?_
        refine lv_aload_n hx hb dX0_lineBehindDay_21 rfl (lv_at hl 0 rfl) ?_
        refine g_get X hW 0 rfl rfl inX0 0 (by decide) q_196 rfl dX0_lineBehindDay_22 ?_
        refine lv_aload_n hx hb dX0_lineBehindDay_25 rfl (lv_at hl 0 rfl) ?_
        refine g_get X hW 0 rfl rfl inX0 0 (by decide) q_196 rfl dX0_lineBehindDay_26 ?_
        refine lv_aload_n hx hb dX0_lineBehindDay_29 rfl (lv_at hl 0 rfl) ?_
        refine g_get X hW 0 rfl rfl inX0 3 (by decide) q_201 rfl dX0_lineBehindDay_30 ?_
        refine g_getN X hW 15 rfl rfl inX1 6 (by decide) nt_15 rfl dX0_lineBehindDay_33 ?_
        obtain ⟨u36, hu36, hM⟩ := bind_some hM
        refine g_callVi (rest := [.ref (aP 0), .ref (aTr 0)]) (gr := [wFc fc (aP 0) (aNw 0) (aGs 0) (aTr 0) (aO 0), wLine cI aNw Nw, wPlan cI aGs Gs, wLine cI aTr (u14.1, u14.2.1, u14.2.2.1, yTr3_6, yTr4_6, u14.2.2.2, yTr6_6, yTr7_6, yTr8_6), wOrd cI aO O]) X hl.1 hW (c_X3_rumourIn l G cI cZ cL N aP P yTr6_6 u36 hu36) q_498 q_617 q_496 q_497 q_56 hd_X3_rumourIn rfl ⟨Nat.le_of_ble_eq_true rfl, Nat.le_of_ble_eq_true rfl⟩ ⟨Nat.zero_le _, Nat.zero_le _⟩ [1] [0, 2, 3, 4, 5] [wFc fc (aP 0) (aNw 0) (aGs 0) (aTr 0) (aO 0), wPlan cI aP P, wLine cI aNw Nw, wPlan cI aGs Gs, wLine cI aTr (u14.1, u14.2.1, u14.2.2.1, yTr3_6, yTr4_6, u14.2.2.2, yTr6_6, yTr7_6, yTr8_6), wOrd cI aO O] ⟨pm_6_1, rfl, rfl, rfl⟩ ⟨pm_6_1, rfl, rfl, rfl⟩ (q0 := 1) rfl rfl rfl (Nat.le_of_ble_eq_true rfl) dX0_lineBehindDay_36 (fun H locs hW => ?_)
        refine lv_iconst (v := (0 : Int32)) hx hb dX0_lineBehindDay_39 (by decide) ?_
        obtain ⟨u40, hu40, hM⟩ := bind_some hM
        refine g_callVv (rest := []) (gr := [wFc fc (aP 0) (aNw 0) (aGs 0) (aTr 0) (aO 0), wLine cI aNw Nw, wPlan cI aGs Gs, wOrd cI aO O]) X hl.1 hW (c_X1_goOn l G cI cZ cL N aTr aP (u14.1, u14.2.1, u14.2.2.1, yTr3_6, yTr4_6, u14.2.2.2, yTr6_6, yTr7_6, yTr8_6) P u36 (0 : Int32) u40 hu40) q_502 q_618 q_500 q_501 q_58 hd_X1_goOn rfl ⟨Nat.le_of_ble_eq_true rfl, Nat.le_of_ble_eq_true rfl⟩ ⟨Nat.zero_le _, Nat.zero_le _⟩ [4, 1] [0, 2, 3, 5] [wFc fc (aP 0) (aNw 0) (aGs 0) (aTr 0) (aO 0), wPlan cI aP P, wLine cI aNw Nw, wPlan cI aGs Gs, wLine cI aTr u40, wOrd cI aO O] ⟨pm_6_4_1, rfl, rfl, rfl⟩ ⟨pm_6_4_1, rfl, rfl, rfl⟩ (q0 := 15) rfl rfl rfl (Nat.le_of_ble_eq_true rfl) dX0_lineBehindDay_40 (fun H locs hW => ?_)
        refine lv_iinc (v := x3_6 + (1 : Int32)) (lv' := [(3, .int (x3_6 + (1 : Int32))), (0, .ref fc), (1, .int p1), (2, .int p2)]) hx hb dX0_lineBehindDay_43 hl (k := 3) rfl rfl (by decide) rfl (fun ls hl => ?_)
        refine lv_goto (tgt := 6) hx hb dX0_lineBehindDay_46 (by decide) ?_
        exact ih6 (x3_6 + (1 : Int32)) u40.1 u40.2.1 u40.2.2.1 u40.2.2.2.1 u40.2.2.2.2.1 u40.2.2.2.2.2.1 u40.2.2.2.2.2.2.1 u40.2.2.2.2.2.2.2.1 u40.2.2.2.2.2.2.2.2 _ _ _ hW (lv_sub hl [1, 2, 3, 0] rfl) hM
  exact lp6 N (0 : Int32) u1.1 u1.2.1 u1.2.2.1 u1.2.2.2.1 u1.2.2.2.2.1 u1.2.2.2.2.2.1 u1.2.2.2.2.2.2.1 u1.2.2.2.2.2.2.2.1 u1.2.2.2.2.2.2.2.2 _ _ _ hW (lv_sub hl [1, 2, 3, 0] rfl) hM
