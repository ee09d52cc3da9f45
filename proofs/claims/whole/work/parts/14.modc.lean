def MX8_waitBy_j137 (yT0_59 : (Nat → Int32)) (x2_137 : Int32) : Option (Int32 × (Nat → Int32)) :=
  some (x2_137, yT0_59)
def MX8_waitBy_j130 (x3_63 : Int32) (rc63 : (Int32 → Int32 → Option (Int32 × (Nat → Int32)))) (t0_130 : Int32) : Option (Int32 × (Nat → Int32)) :=
  rc63 t0_130 (x3_63 + (1 : Int32))
def MX8_waitBy_j116 (x2_63 : Int32) (x3_63 : Int32) (rc63 : (Int32 → Int32 → Option (Int32 × (Nat → Int32)))) (t0_116 : Int32) : Option (Int32 × (Nat → Int32)) :=
  if t0_116 ≤ x2_63 then (MX8_waitBy_j130 x3_63 rc63 x2_63) else (MX8_waitBy_j130 x3_63 rc63 t0_116)
def MX8_waitBy_l63 (N : Nat) (T_order : (Nat → Int32)) (p1 : Int32) (yT0_59 : (Nat → Int32)) : Nat → Int32 → Int32 → Option (Int32 × (Nat → Int32))
  | 0, _, _ => none
  | n63 + 1, x2_63, x3_63 =>
    if p1 ≤ x3_63 then (MX8_waitBy_j137 yT0_59 x2_63) else MG x3_63 5 ((MX8_isWhere N yT0_59 (66 : Int32) (T_order x3_63.toNatClampNeg) (3 : Int32)).bind (fun u78 => if u78 = 0 then (MX8_waitBy_j116 x2_63 x3_63 (MX8_waitBy_l63 N T_order p1 yT0_59 n63) (99 : Int32)) else MG x3_63 5 (MG ((96 : Int32) + (T_order x3_63.toNatClampNeg)) 792 (MG (0 : Int32) 792 (MX8_waitBy_j116 x2_63 x3_63 (MX8_waitBy_l63 N T_order p1 yT0_59 n63) (((yT0_59 ((96 : Int32) + (T_order x3_63.toNatClampNeg)).toNatClampNeg) - (yT0_59 (0 : Int32).toNatClampNeg)) - x3_63))))))
def MX8_waitBy_j59 (N : Nat) (T_order : (Nat → Int32)) (p1 : Int32) (yT0_59 : (Nat → Int32)) : Option (Int32 × (Nat → Int32)) :=
  MX8_waitBy_l63 N T_order p1 yT0_59 N (0 : Int32) (0 : Int32)
def MX8_waitBy_l41 (N : Nat) (T_persons : Int32) (T_family : (Nat → Int32)) (T_gives : Int32) (T_warm : Int32) (T_rumour : Int32) (T_order : (Nat → Int32)) (p1 : Int32) : Nat → Int32 → (Nat → Int32) → Option (Int32 × (Nat → Int32))
  | 0, _, _ => none
  | n41 + 1, x2_41, yT0_41 =>
    if (99 : Int32) ≤ x2_41 then (MX8_waitBy_j59 N T_order p1 yT0_41) else ((MX8_passes N yT0_41 T_persons T_family T_gives T_warm T_rumour (66 : Int32)).bind (fun u50 => (MX8_waitBy_l41 N T_persons T_family T_gives T_warm T_rumour T_order p1 n41) (x2_41 + (1 : Int32)) u50))
def MX8_waitBy_j39 (N : Nat) (T_persons : Int32) (T_family : (Nat → Int32)) (T_gives : Int32) (T_warm : Int32) (T_rumour : Int32) (T_order : (Nat → Int32)) (p1 : Int32) (yT0_39 : (Nat → Int32)) : Option (Int32 × (Nat → Int32)) :=
  MX8_waitBy_l41 N T_persons T_family T_gives T_warm T_rumour T_order p1 N (0 : Int32) yT0_39
def MX8_waitBy_l6 (N : Nat) (T_persons : Int32) (T_family : (Nat → Int32)) (T_gives : Int32) (T_warm : Int32) (T_rumour : Int32) (T_order : (Nat → Int32)) (p1 : Int32) : Nat → Int32 → (Nat → Int32) → Option (Int32 × (Nat → Int32))
  | 0, _, _ => none
  | n6 + 1, x2_6, yT0_6 =>
    if p1 ≤ x2_6 then (MX8_waitBy_j39 N T_persons T_family T_gives T_warm T_rumour T_order p1 yT0_6) else MG x2_6 5 (MG (0 : Int32) 792 (MG ((114 : Int32) + (T_order x2_6.toNatClampNeg)) 792 ((MX8_waitBy_l6 N T_persons T_family T_gives T_warm T_rumour T_order p1 n6) (x2_6 + (1 : Int32)) (upd yT0_6 ((114 : Int32) + (T_order x2_6.toNatClampNeg)).toNatClampNeg ((yT0_6 (0 : Int32).toNatClampNeg) + x2_6)))))
def MX8_waitBy (N : Nat) (T_w : (Nat → Int32)) (T_persons : Int32) (T_family : (Nat → Int32)) (T_gives : Int32) (T_warm : Int32) (T_rumour : Int32) (T_order : (Nat → Int32)) (p1 : Int32) : Option (Int32 × (Nat → Int32)) :=
  (MX8_tries N T_w).bind (fun u1 => MX8_waitBy_l6 N T_persons T_family T_gives T_warm T_rumour T_order p1 N (0 : Int32) u1)
set_option maxHeartbeats 4000000 in
set_option maxRecDepth 100000 in
theorem c_X8_waitBy (l : Launch) (G : va_G) (cI cZ cL : ClassId) (N : Nat) (aT : Nat → Nat) (T_w : (Nat → Int32)) (T_undoes : Int32) (T_kept : Int32) (T_persons : Int32) (T_family : (Nat → Int32)) (T_gives : Int32) (T_warm : Int32) (T_rumour : Int32) (T_seen : Int32) (T_seenOf : (Nat → Int32)) (T_seenBehind : (Nat → Int32)) (T_seenHas : (Nat → Int32)) (T_text : (Nat → Int32)) (T_texted : Int32) (T_place : Int32) (T_number : Int32) (T_readPersons : Int32) (T_readKind : (Nat → Int32)) (T_readComes : (Nat → Int32)) (T_readFamily : (Nat → Int32)) (T_readGives : Int32) (T_readWarm : Int32) (T_readRumour : Int32) (T_toCome : (Nat → Int32)) (T_order : (Nat → Int32)) (T_bestOrder : (Nat → Int32)) (p1 : Int32) (rr : Int32 × (Nat → Int32)) (hM : MX8_waitBy N T_w T_persons T_family T_gives T_warm T_rumour T_order p1 = some rr) : CtI l yX8_waitBy cX8_waitBy 6 .int 5 119 G cI cZ cL [.ref (aT 0), .int p1] [wMod cI cZ aT T_w T_undoes T_kept T_persons T_family T_gives T_warm T_rumour T_seen T_seenOf T_seenBehind T_seenHas T_text T_texted T_place T_number T_readPersons T_readKind T_readComes T_readFamily T_readGives T_readWarm T_readRumour T_toCome T_order T_bestOrder] rr.1 [wMod cI cZ aT rr.2 T_undoes T_kept T_persons T_family T_gives T_warm T_rumour T_seen T_seenOf T_seenBehind T_seenHas T_text T_texted T_place T_number T_readPersons T_readKind T_readComes T_readFamily T_readGives T_readWarm T_readRumour T_toCome T_order T_bestOrder] := by
  refine ct_body (fun A => qI G rr.1 [wMod cI cZ aT rr.2 T_undoes T_kept T_persons T_family T_gives T_warm T_rumour T_seen T_seenOf T_seenBehind T_seenHas T_text T_texted T_place T_number T_readPersons T_readKind T_readComes T_readFamily T_readGives T_readWarm T_readRumour T_toCome T_order T_bestOrder] A) (by decide) (Nat.le_of_ble_eq_true rfl) (fun p e s m below meth c A ls X hW hl => ?_)
  have hx := X.1
  have hb := X.2.1
  have hts := X.2.2.2.2.2.1
  have hown := X.2.2.2.2.2.2.1
  have hl : lv_has ls 6 [(0, .ref (aT 0)), (1, .int p1)] := hl
  unfold MX8_waitBy at hM
  refine lv_aload_n hx hb dX8_waitBy_0 rfl (lv_at hl 0 rfl) ?_
  obtain ⟨u1, hu1, hM⟩ := bind_some hM
  refine g_callVv (rest := []) (gr := []) X hl.1 hW (c_X8_tries l G cI cZ cL N aT T_w T_undoes T_kept T_persons T_family T_gives T_warm T_rumour T_seen T_seenOf T_seenBehind T_seenHas T_text T_texted T_place T_number T_readPersons T_readKind T_readComes T_readFamily T_readGives T_readWarm T_readRumour T_toCome T_order T_bestOrder u1 hu1) q_1054 q_1051 q_1053 q_45 q_67 hd_X8_tries rfl ⟨Nat.le_of_ble_eq_true rfl, Nat.le_of_ble_eq_true rfl⟩ ⟨Nat.zero_le _, Nat.zero_le _⟩ [0] [] [wMod cI cZ aT u1 T_undoes T_kept T_persons T_family T_gives T_warm T_rumour T_seen T_seenOf T_seenBehind T_seenHas T_text T_texted T_place T_number T_readPersons T_readKind T_readComes T_readFamily T_readGives T_readWarm T_readRumour T_toCome T_order T_bestOrder] ⟨pm_1_0, rfl, rfl, rfl⟩ ⟨pm_1_0, rfl, rfl, rfl⟩ (q0 := 0) rfl rfl rfl (Nat.le_of_ble_eq_true rfl) dX8_waitBy_1 (fun H locs hW => ?_)
  refine lv_iconst (v := (0 : Int32)) hx hb dX8_waitBy_4 (by decide) ?_
  refine lv_istore_n (lv' := [(2, .int (0 : Int32)), (0, .ref (aT 0)), (1, .int p1)]) hx hb dX8_waitBy_5 rfl hl (by decide) rfl (fun ls hl => ?_)
  have j39 : ∀ (yT0_39 : (Nat → Int32)) (H : Heap) (locs : List Loc) (ls : Array Slot), Wd G A s [wMod cI cZ aT yT0_39 T_undoes T_kept T_persons T_family T_gives T_warm T_rumour T_seen T_seenOf T_seenBehind T_seenHas T_text T_texted T_place T_number T_readPersons T_readKind T_readComes T_readFamily T_readGives T_readWarm T_readRumour T_toCome T_order T_bestOrder] H locs → lv_has ls 6 [(0, .ref (aT 0)), (1, .int p1)] → MX8_waitBy_j39 N T_persons T_family T_gives T_warm T_rumour T_order p1 yT0_39 = some rr → W p l e (rmO 5 119) s m ([.ref (aT 0), .int p1] : List Value).toArray below meth c H locs 0 0 (MQ below (qI G rr.1 [wMod cI cZ aT rr.2 T_undoes T_kept T_persons T_family T_gives T_warm T_rumour T_seen T_seenOf T_seenBehind T_seenHas T_text T_texted T_place T_number T_readPersons T_readKind T_readComes T_readFamily T_readGives T_readWarm T_readRumour T_toCome T_order T_bestOrder] A) ([.ref (aT 0), .int p1] : List Value).toArray s 0 0 A) (F0 m 39 ls []) := by
    intro yT0_39 H locs ls hW hl hM
    unfold MX8_waitBy_j39 at hM
    refine lv_iconst (v := (0 : Int32)) hx hb dX8_waitBy_39 (by decide) ?_
    refine lv_istore_n (lv' := [(2, .int (0 : Int32)), (0, .ref (aT 0)), (1, .int p1)]) hx hb dX8_waitBy_40 rfl hl (by decide) rfl (fun ls hl => ?_)
    have j59 : ∀ (yT0_59 : (Nat → Int32)) (H : Heap) (locs : List Loc) (ls : Array Slot), Wd G A s [wMod cI cZ aT yT0_59 T_undoes T_kept T_persons T_family T_gives T_warm T_rumour T_seen T_seenOf T_seenBehind T_seenHas T_text T_texted T_place T_number T_readPersons T_readKind T_readComes T_readFamily T_readGives T_readWarm T_readRumour T_toCome T_order T_bestOrder] H locs → lv_has ls 6 [(0, .ref (aT 0)), (1, .int p1)] → MX8_waitBy_j59 N T_order p1 yT0_59 = some rr → W p l e (rmO 5 119) s m ([.ref (aT 0), .int p1] : List Value).toArray below meth c H locs 0 0 (MQ below (qI G rr.1 [wMod cI cZ aT rr.2 T_undoes T_kept T_persons T_family T_gives T_warm T_rumour T_seen T_seenOf T_seenBehind T_seenHas T_text T_texted T_place T_number T_readPersons T_readKind T_readComes T_readFamily T_readGives T_readWarm T_readRumour T_toCome T_order T_bestOrder] A) ([.ref (aT 0), .int p1] : List Value).toArray s 0 0 A) (F0 m 59 ls []) := by
      intro yT0_59 H locs ls hW hl hM
      unfold MX8_waitBy_j59 at hM
      refine lv_iconst (v := (0 : Int32)) hx hb dX8_waitBy_59 (by decide) ?_
      refine lv_istore_n (lv' := [(2, .int (0 : Int32)), (0, .ref (aT 0)), (1, .int p1)]) hx hb dX8_waitBy_60 rfl hl (by decide) rfl (fun ls hl => ?_)
      refine lv_iconst (v := (0 : Int32)) hx hb dX8_waitBy_61 (by decide) ?_
      refine lv_istore_n (lv' := [(3, .int (0 : Int32)), (2, .int (0 : Int32)), (0, .ref (aT 0)), (1, .int p1)]) hx hb dX8_waitBy_62 rfl hl (by decide) rfl (fun ls hl => ?_)
      have j137 : ∀ (x2_137 : Int32) (H : Heap) (locs : List Loc) (ls : Array Slot), Wd G A s [wMod cI cZ aT yT0_59 T_undoes T_kept T_persons T_family T_gives T_warm T_rumour T_seen T_seenOf T_seenBehind T_seenHas T_text T_texted T_place T_number T_readPersons T_readKind T_readComes T_readFamily T_readGives T_readWarm T_readRumour T_toCome T_order T_bestOrder] H locs → lv_has ls 6 [(2, .int x2_137)] → MX8_waitBy_j137 yT0_59 x2_137 = some rr → W p l e (rmO 5 119) s m ([.ref (aT 0), .int p1] : List Value).toArray below meth c H locs 0 0 (MQ below (qI G rr.1 [wMod cI cZ aT rr.2 T_undoes T_kept T_persons T_family T_gives T_warm T_rumour T_seen T_seenOf T_seenBehind T_seenHas T_text T_texted T_place T_number T_readPersons T_readKind T_readComes T_readFamily T_readGives T_readWarm T_readRumour T_toCome T_order T_bestOrder] A) ([.ref (aT 0), .int p1] : List Value).toArray s 0 0 A) (F0 m 137 ls []) := by
        intro x2_137 H locs ls hW hl hM
        unfold MX8_waitBy_j137 at hM
        refine lv_iload_n hx hb dX8_waitBy_137 rfl (lv_at hl 0 rfl) ?_
        obtain rfl := Option.some.inj hM
        exact g_reti X hW rfl rfl dX8_waitBy_138
      have lp63 : ∀ (n63 : Nat) (x2_63 : Int32) (x3_63 : Int32) (H : Heap) (locs : List Loc) (ls : Array Slot), Wd G A s [wMod cI cZ aT yT0_59 T_undoes T_kept T_persons T_family T_gives T_warm T_rumour T_seen T_seenOf T_seenBehind T_seenHas T_text T_texted T_place T_number T_readPersons T_readKind T_readComes T_readFamily T_readGives T_readWarm T_readRumour T_toCome T_order T_bestOrder] H locs → lv_has ls 6 [(0, .ref (aT 0)), (1, .int p1), (2, .int x2_63), (3, .int x3_63)] → MX8_waitBy_l63 N T_order p1 yT0_59 n63 x2_63 x3_63 = some rr → W p l e (rmO 5 119) s m ([.ref (aT 0), .int p1] : List Value).toArray below meth c H locs 0 0 (MQ below (qI G rr.1 [wMod cI cZ aT rr.2 T_undoes T_kept T_persons T_family T_gives T_warm T_rumour T_seen T_seenOf T_seenBehind T_seenHas T_text T_texted T_place T_number T_readPersons T_readKind T_readComes T_readFamily T_readGives T_readWarm T_readRumour T_toCome T_order T_bestOrder] A) ([.ref (aT 0), .int p1] : List Value).toArray s 0 0 A) (F0 m 63 ls []) := by
        intro n63
        induction n63 with
        | zero =>
          intro x2_63 x3_63 H locs ls hW hl hM
          rw [MX8_waitBy_l63] at hM
          cases hM
        | succ n63 ih63 =>
          intro x2_63 x3_63 H locs ls hW hl hM
          rw [MX8_waitBy_l63] at hM
          refine lv_iload_n hx hb dX8_waitBy_63 rfl (lv_at hl 3 rfl) ?_
          refine lv_iload_n hx hb dX8_waitBy_64 rfl (lv_at hl 1 rfl) ?_
          refine lv_icmp_ge (tgt := 137) hx hb dX8_waitBy_65 (by decide) (fun hc => ?_) (fun hc => ?_)
          · have hM := (if_pos hc).symm.trans hM
            exact j137 x2_63 _ _ _ hW (lv_sub hl [2] rfl) hM
          · have hM := (if_neg hc).symm.trans hM
            refine lv_aload_n hx hb dX8_waitBy_68 rfl (lv_at hl 0 rfl) ?_
            refine lv_bipush (v := (66 : Int32)) hx hb dX8_waitBy_69 (by decide) ?_
            refine lv_aload_n hx hb dX8_waitBy_71 rfl (lv_at hl 0 rfl) ?_
            refine g_get X hW 0 rfl rfl inX8 24 (by decide) q_841 rfl dX8_waitBy_72 ?_
            refine lv_iload_n hx hb dX8_waitBy_75 rfl (lv_at hl 3 rfl) ?_
            obtain ⟨hi76, hM⟩ := MG_some hM
            refine g_ald X hW 11 rfl hi76 dX8_waitBy_76 ?_
            refine lv_iconst (v := (3 : Int32)) hx hb dX8_waitBy_77 (by decide) ?_
            obtain ⟨u78, hu78, hM⟩ := bind_some hM
            refine g_callVi (rest := []) (gr := []) X hl.1 hW (c_X8_isWhere l G cI cZ cL N aT yT0_59 T_undoes T_kept T_persons T_family T_gives T_warm T_rumour T_seen T_seenOf T_seenBehind T_seenHas T_text T_texted T_place T_number T_readPersons T_readKind T_readComes T_readFamily T_readGives T_readWarm T_readRumour T_toCome T_order T_bestOrder (66 : Int32) (T_order x3_63.toNatClampNeg) (3 : Int32) u78 hu78) q_1015 q_1012 q_1014 q_42 q_67 hd_X8_isWhere rfl ⟨Nat.le_of_ble_eq_true rfl, Nat.le_of_ble_eq_true rfl⟩ ⟨Nat.zero_le _, Nat.zero_le _⟩ [0] [] [wMod cI cZ aT yT0_59 T_undoes T_kept T_persons T_family T_gives T_warm T_rumour T_seen T_seenOf T_seenBehind T_seenHas T_text T_texted T_place T_number T_readPersons T_readKind T_readComes T_readFamily T_readGives T_readWarm T_readRumour T_toCome T_order T_bestOrder] ⟨pm_1_0, rfl, rfl, rfl⟩ ⟨pm_1_0, rfl, rfl, rfl⟩ (q0 := 0) rfl rfl rfl (Nat.le_of_ble_eq_true rfl) dX8_waitBy_78 (fun H locs hW => ?_)
            refine lv_istore (lv' := [(4, .int u78), (0, .ref (aT 0)), (1, .int p1), (2, .int x2_63), (3, .int x3_63)]) hx hb dX8_waitBy_81 hl (by decide) rfl (fun ls hl => ?_)
            refine lv_iload hx hb dX8_waitBy_83 (lv_at hl 0 rfl) ?_
            have j116 : ∀ (t0_116 : Int32) (H : Heap) (locs : List Loc) (ls : Array Slot), Wd G A s [wMod cI cZ aT yT0_59 T_undoes T_kept T_persons T_family T_gives T_warm T_rumour T_seen T_seenOf T_seenBehind T_seenHas T_text T_texted T_place T_number T_readPersons T_readKind T_readComes T_readFamily T_readGives T_readWarm T_readRumour T_toCome T_order T_bestOrder] H locs → lv_has ls 6 [(0, .ref (aT 0)), (1, .int p1), (2, .int x2_63), (3, .int x3_63)] → MX8_waitBy_j116 x2_63 x3_63 (MX8_waitBy_l63 N T_order p1 yT0_59 n63) t0_116 = some rr → W p l e (rmO 5 119) s m ([.ref (aT 0), .int p1] : List Value).toArray below meth c H locs 0 0 (MQ below (qI G rr.1 [wMod cI cZ aT rr.2 T_undoes T_kept T_persons T_family T_gives T_warm T_rumour T_seen T_seenOf T_seenBehind T_seenHas T_text T_texted T_place T_number T_readPersons T_readKind T_readComes T_readFamily T_readGives T_readWarm T_readRumour T_toCome T_order T_bestOrder] A) ([.ref (aT 0), .int p1] : List Value).toArray s 0 0 A) (F0 m 116 ls [.int t0_116]) := by
              intro t0_116 H locs ls hW hl hM
              unfold MX8_waitBy_j116 at hM
              refine lv_istore (lv' := [(5, .int t0_116), (0, .ref (aT 0)), (1, .int p1), (2, .int x2_63), (3, .int x3_63)]) hx hb dX8_waitBy_116 hl (by decide) rfl (fun ls hl => ?_)
              refine lv_iload hx hb dX8_waitBy_118 (lv_at hl 0 rfl) ?_
              refine lv_iload_n hx hb dX8_waitBy_120 rfl (lv_at hl 3 rfl) ?_
              have j130 : ∀ (t0_130 : Int32) (H : Heap) (locs : List Loc) (ls : Array Slot), Wd G A s [wMod cI cZ aT yT0_59 T_undoes T_kept T_persons T_family T_gives T_warm T_rumour T_seen T_seenOf T_seenBehind T_seenHas T_text T_texted T_place T_number T_readPersons T_readKind T_readComes T_readFamily T_readGives T_readWarm T_readRumour T_toCome T_order T_bestOrder] H locs → lv_has ls 6 [(0, .ref (aT 0)), (1, .int p1), (3, .int x3_63)] → MX8_waitBy_j130 x3_63 (MX8_waitBy_l63 N T_order p1 yT0_59 n63) t0_130 = some rr → W p l e (rmO 5 119) s m ([.ref (aT 0), .int p1] : List Value).toArray below meth c H locs 0 0 (MQ below (qI G rr.1 [wMod cI cZ aT rr.2 T_undoes T_kept T_persons T_family T_gives T_warm T_rumour T_seen T_seenOf T_seenBehind T_seenHas T_text T_texted T_place T_number T_readPersons T_readKind T_readComes T_readFamily T_readGives T_readWarm T_readRumour T_toCome T_order T_bestOrder] A) ([.ref (aT 0), .int p1] : List Value).toArray s 0 0 A) (F0 m 130 ls [.int t0_130]) := by
                intro t0_130 H locs ls hW hl hM
                unfold MX8_waitBy_j130 at hM
                refine lv_istore_n (lv' := [(2, .int t0_130), (0, .ref (aT 0)), (1, .int p1), (3, .int x3_63)]) hx hb dX8_waitBy_130 rfl hl (by decide) rfl (fun ls hl => ?_)
                refine lv_iinc (v := x3_63 + (1 : Int32)) (lv' := [(3, .int (x3_63 + (1 : Int32))), (2, .int t0_130), (0, .ref (aT 0)), (1, .int p1)]) hx hb dX8_waitBy_131 hl (k := 3) rfl rfl (by decide) rfl (fun ls hl => ?_)
                refine lv_goto (tgt := 63) hx hb dX8_waitBy_134 (by decide) ?_
                exact ih63 t0_130 (x3_63 + (1 : Int32)) _ _ _ hW (lv_sub hl [2, 3, 1, 0] rfl) hM
              refine lv_icmp_le (tgt := 129) hx hb dX8_waitBy_121 (by decide) (fun hc => ?_) (fun hc => ?_)
              · have hM := (if_pos hc).symm.trans hM
                refine lv_iload_n hx hb dX8_waitBy_129 rfl (lv_at hl 3 rfl) ?_
                exact j130 x2_63 _ _ _ hW (lv_sub hl [1, 2, 4] rfl) hM
              · have hM := (if_neg hc).symm.trans hM
                refine lv_iload hx hb dX8_waitBy_124 (lv_at hl 0 rfl) ?_
                refine lv_goto (tgt := 130) hx hb dX8_waitBy_126 (by decide) ?_
                exact j130 t0_116 _ _ _ hW (lv_sub hl [1, 2, 4] rfl) hM
            refine lv_if_eq (tgt := 114) hx hb dX8_waitBy_85 (by decide) (fun hc => ?_) (fun hc => ?_)
            · have hM := (if_pos hc).symm.trans hM
              refine lv_bipush (v := (99 : Int32)) hx hb dX8_waitBy_114 (by decide) ?_
              exact j116 (99 : Int32) _ _ _ hW (lv_sub hl [1, 2, 3, 4] rfl) hM
            · have hM := (if_neg hc).symm.trans hM
              refine lv_aload_n hx hb dX8_waitBy_88 rfl (lv_at hl 1 rfl) ?_
              refine g_get X hW 0 rfl rfl inX8 0 (by decide) q_817 rfl dX8_waitBy_89 ?_
              refine lv_bipush (v := (96 : Int32)) hx hb dX8_waitBy_92 (by decide) ?_
              refine lv_aload_n hx hb dX8_waitBy_94 rfl (lv_at hl 1 rfl) ?_
              refine g_get X hW 0 rfl rfl inX8 24 (by decide) q_841 rfl dX8_waitBy_95 ?_
              refine lv_iload_n hx hb dX8_waitBy_98 rfl (lv_at hl 4 rfl) ?_
              obtain ⟨hi99, hM⟩ := MG_some hM
              refine g_ald X hW 11 rfl hi99 dX8_waitBy_99 ?_
              refine lv_iadd hx hb dX8_waitBy_100 ?_
              obtain ⟨hi101, hM⟩ := MG_some hM
              refine g_ald X hW 1 rfl hi101 dX8_waitBy_101 ?_
              refine lv_aload_n hx hb dX8_waitBy_102 rfl (lv_at hl 1 rfl) ?_
              refine g_get X hW 0 rfl rfl inX8 0 (by decide) q_817 rfl dX8_waitBy_103 ?_
              refine lv_iconst (v := (0 : Int32)) hx hb dX8_waitBy_106 (by decide) ?_
              obtain ⟨hi107, hM⟩ := MG_some hM
              refine g_ald X hW 1 rfl hi107 dX8_waitBy_107 ?_
              refine lv_isub hx hb dX8_waitBy_108 ?_
              refine lv_iload_n hx hb dX8_waitBy_109 rfl (lv_at hl 4 rfl) ?_
              refine lv_isub hx hb dX8_waitBy_110 ?_
              refine lv_goto (tgt := 116) hx hb dX8_waitBy_111 (by decide) ?_
              exact j116 (((yT0_59 ((96 : Int32) + (T_order x3_63.toNatClampNeg)).toNatClampNeg) - (yT0_59 (0 : Int32).toNatClampNeg)) - x3_63) _ _ _ hW (lv_sub hl [1, 2, 3, 4] rfl) hM
      exact lp63 N (0 : Int32) (0 : Int32) _ _ _ hW (lv_sub hl [2, 3, 1, 0] rfl) hM
    have lp41 : ∀ (n41 : Nat) (x2_41 : Int32) (yT0_41 : (Nat → Int32)) (H : Heap) (locs : List Loc) (ls : Array Slot), Wd G A s [wMod cI cZ aT yT0_41 T_undoes T_kept T_persons T_family T_gives T_warm T_rumour T_seen T_seenOf T_seenBehind T_seenHas T_text T_texted T_place T_number T_readPersons T_readKind T_readComes T_readFamily T_readGives T_readWarm T_readRumour T_toCome T_order T_bestOrder] H locs → lv_has ls 6 [(0, .ref (aT 0)), (1, .int p1), (2, .int x2_41)] → MX8_waitBy_l41 N T_persons T_family T_gives T_warm T_rumour T_order p1 n41 x2_41 yT0_41 = some rr → W p l e (rmO 5 119) s m ([.ref (aT 0), .int p1] : List Value).toArray below meth c H locs 0 0 (MQ below (qI G rr.1 [wMod cI cZ aT rr.2 T_undoes T_kept T_persons T_family T_gives T_warm T_rumour T_seen T_seenOf T_seenBehind T_seenHas T_text T_texted T_place T_number T_readPersons T_readKind T_readComes T_readFamily T_readGives T_readWarm T_readRumour T_toCome T_order T_bestOrder] A) ([.ref (aT 0), .int p1] : List Value).toArray s 0 0 A) (F0 m 41 ls []) := by
      intro n41
      induction n41 with
      | zero =>
        intro x2_41 yT0_41 H locs ls hW hl hM
        rw [MX8_waitBy_l41] at hM
        cases hM
      | succ n41 ih41 =>
        intro x2_41 yT0_41 H locs ls hW hl hM
        rw [MX8_waitBy_l41] at hM
        refine lv_iload_n hx hb dX8_waitBy_41 rfl (lv_at hl 2 rfl) ?_
        refine lv_bipush (v := (99 : Int32)) hx hb dX8_waitBy_42 (by decide) ?_
        refine lv_icmp_ge (tgt := 59) hx hb dX8_waitBy_44 (by decide) (fun hc => ?_) (fun hc => ?_)
        · have hM := (if_pos hc).symm.trans hM
          exact j59 yT0_41 _ _ _ hW (lv_sub hl [0, 1] rfl) hM
        · have hM := (if_neg hc).symm.trans hM
          refine lv_aload_n hx hb dX8_waitBy_47 rfl (lv_at hl 0 rfl) ?_
          refine lv_bipush (v := (66 : Int32)) hx hb dX8_waitBy_48 (by decide) ?_
          obtain ⟨u50, hu50, hM⟩ := bind_some hM
          refine g_callVv (rest := []) (gr := []) X hl.1 hW (c_X8_passes l G cI cZ cL N aT yT0_41 T_undoes T_kept T_persons T_family T_gives T_warm T_rumour T_seen T_seenOf T_seenBehind T_seenHas T_text T_texted T_place T_number T_readPersons T_readKind T_readComes T_readFamily T_readGives T_readWarm T_readRumour T_toCome T_order T_bestOrder (66 : Int32) u50 hu50) q_979 q_976 q_978 q_33 q_67 hd_X8_passes rfl ⟨Nat.le_of_ble_eq_true rfl, Nat.le_of_ble_eq_true rfl⟩ ⟨Nat.zero_le _, Nat.zero_le _⟩ [0] [] [wMod cI cZ aT u50 T_undoes T_kept T_persons T_family T_gives T_warm T_rumour T_seen T_seenOf T_seenBehind T_seenHas T_text T_texted T_place T_number T_readPersons T_readKind T_readComes T_readFamily T_readGives T_readWarm T_readRumour T_toCome T_order T_bestOrder] ⟨pm_1_0, rfl, rfl, rfl⟩ ⟨pm_1_0, rfl, rfl, rfl⟩ (q0 := 0) rfl rfl rfl (Nat.le_of_ble_eq_true rfl) dX8_waitBy_50 (fun H locs hW => ?_)
          refine lv_iinc (v := x2_41 + (1 : Int32)) (lv' := [(2, .int (x2_41 + (1 : Int32))), (0, .ref (aT 0)), (1, .int p1)]) hx hb dX8_waitBy_53 hl (k := 2) rfl rfl (by decide) rfl (fun ls hl => ?_)
          refine lv_goto (tgt := 41) hx hb dX8_waitBy_56 (by decide) ?_
          exact ih41 (x2_41 + (1 : Int32)) u50 _ _ _ hW (lv_sub hl [1, 2, 0] rfl) hM
    exact lp41 N (0 : Int32) yT0_39 _ _ _ hW (lv_sub hl [1, 2, 0] rfl) hM
  have lp6 : ∀ (n6 : Nat) (x2_6 : Int32) (yT0_6 : (Nat → Int32)) (H : Heap) (locs : List Loc) (ls : Array Slot), Wd G A s [wMod cI cZ aT yT0_6 T_undoes T_kept T_persons T_family T_gives T_warm T_rumour T_seen T_seenOf T_seenBehind T_seenHas T_text T_texted T_place T_number T_readPersons T_readKind T_readComes T_readFamily T_readGives T_readWarm T_readRumour T_toCome T_order T_bestOrder] H locs → lv_has ls 6 [(0, .ref (aT 0)), (1, .int p1), (2, .int x2_6)] → MX8_waitBy_l6 N T_persons T_family T_gives T_warm T_rumour T_order p1 n6 x2_6 yT0_6 = some rr → W p l e (rmO 5 119) s m ([.ref (aT 0), .int p1] : List Value).toArray below meth c H locs 0 0 (MQ below (qI G rr.1 [wMod cI cZ aT rr.2 T_undoes T_kept T_persons T_family T_gives T_warm T_rumour T_seen T_seenOf T_seenBehind T_seenHas T_text T_texted T_place T_number T_readPersons T_readKind T_readComes T_readFamily T_readGives T_readWarm T_readRumour T_toCome T_order T_bestOrder] A) ([.ref (aT 0), .int p1] : List Value).toArray s 0 0 A) (F0 m 6 ls []) := by
    intro n6
    induction n6 with
    | zero =>
      intro x2_6 yT0_6 H locs ls hW hl hM
      rw [MX8_waitBy_l6] at hM
      cases hM
    | succ n6 ih6 =>
      intro x2_6 yT0_6 H locs ls hW hl hM
      rw [MX8_waitBy_l6] at hM
      refine lv_iload_n hx hb dX8_waitBy_6 rfl (lv_at hl 2 rfl) ?_
      refine lv_iload_n hx hb dX8_waitBy_7 rfl (lv_at hl 1 rfl) ?_
      refine lv_icmp_ge (tgt := 39) hx hb dX8_waitBy_8 (by decide) (fun hc => ?_) (fun hc => ?_)
      · have hM := (if_pos hc).symm.trans hM
        exact j39 yT0_6 _ _ _ hW (lv_sub hl [0, 1] rfl) hM
      · have hM := (if_neg hc).symm.trans hM
        refine lv_aload_n hx hb dX8_waitBy_11 rfl (lv_at hl 0 rfl) ?_
        refine g_get X hW 0 rfl rfl inX8 0 (by decide) q_817 rfl dX8_waitBy_12 ?_
        refine lv_bipush (v := (114 : Int32)) hx hb dX8_waitBy_15 (by decide) ?_
        refine lv_aload_n hx hb dX8_waitBy_17 rfl (lv_at hl 0 rfl) ?_
        refine g_get X hW 0 rfl rfl inX8 24 (by decide) q_841 rfl dX8_waitBy_18 ?_
        refine lv_iload_n hx hb dX8_waitBy_21 rfl (lv_at hl 2 rfl) ?_
        obtain ⟨hi22, hM⟩ := MG_some hM
        refine g_ald X hW 11 rfl hi22 dX8_waitBy_22 ?_
        refine lv_iadd hx hb dX8_waitBy_23 ?_
        refine lv_aload_n hx hb dX8_waitBy_24 rfl (lv_at hl 0 rfl) ?_
        refine g_get X hW 0 rfl rfl inX8 0 (by decide) q_817 rfl dX8_waitBy_25 ?_
        refine lv_iconst (v := (0 : Int32)) hx hb dX8_waitBy_28 (by decide) ?_
        obtain ⟨hi29, hM⟩ := MG_some hM
        refine g_ald X hW 1 rfl hi29 dX8_waitBy_29 ?_
        refine lv_iload_n hx hb dX8_waitBy_30 rfl (lv_at hl 2 rfl) ?_
        refine lv_iadd hx hb dX8_waitBy_31 ?_
        obtain ⟨hi32, hM⟩ := MG_some hM
        refine g_ast X hW 1 rfl hi32 [wMod cI cZ aT (upd yT0_6 ((114 : Int32) + (T_order x2_6.toNatClampNeg)).toNatClampNeg ((yT0_6 (0 : Int32).toNatClampNeg) + x2_6)) T_undoes T_kept T_persons T_family T_gives T_warm T_rumour T_seen T_seenOf T_seenBehind T_seenHas T_text T_texted T_place T_number T_readPersons T_readKind T_readComes T_readFamily T_readGives T_readWarm T_readRumour T_toCome T_order T_bestOrder] rfl dX8_waitBy_32 (fun H locs hW => ?_)
        refine lv_iinc (v := x2_6 + (1 : Int32)) (lv' := [(2, .int (x2_6 + (1 : Int32))), (0, .ref (aT 0)), (1, .int p1)]) hx hb dX8_waitBy_33 hl (k := 2) rfl rfl (by decide) rfl (fun ls hl => ?_)
        refine lv_goto (tgt := 6) hx hb dX8_waitBy_36 (by decide) ?_
        exact ih6 (x2_6 + (1 : Int32)) (upd yT0_6 ((114 : Int32) + (T_order x2_6.toNatClampNeg)).toNatClampNeg ((yT0_6 (0 : Int32).toNatClampNeg) + x2_6)) _ _ _ hW (lv_sub hl [1, 2, 0] rfl) hM
  exact lp6 N (0 : Int32) u1 _ _ _ hW (lv_sub hl [1, 2, 0] rfl) hM

def MX8_family_j248 (p2 : Int32) (x3_79 : Int32) (yT23_79 : (Nat → Int32)) (x5_248 : Int32) (yT0_248 : (Nat → Int32)) (yT24_248 : (Nat → Int32)) (yT25_248 : (Nat → Int32)) : Option (Int32 × (Nat → Int32) × (Nat → Int32) × (Nat → Int32) × (Nat → Int32)) :=
  if p2 = 0 then some (x5_248, yT0_248, yT23_79, yT24_248, yT25_248) else (if x3_79 < p2 then some ((-4 : Int32), yT0_248, yT23_79, yT24_248, yT25_248) else (MG (p2 - (1 : Int32)) 5 (some (yT25_248 (p2 - (1 : Int32)).toNatClampNeg, yT0_248, yT23_79, yT24_248, yT25_248))))
def MX8_family_j242 (x6_117 : Int32) (rc117 : (Int32 → Int32 → (Nat → Int32) → (Nat → Int32) → (Nat → Int32) → Option (Int32 × (Nat → Int32) × (Nat → Int32) × (Nat → Int32) × (Nat → Int32)))) (yT24_180 : (Nat → Int32)) (yT0_200 : (Nat → Int32)) (x5_242 : Int32) (yT25_242 : (Nat → Int32)) : Option (Int32 × (Nat → Int32) × (Nat → Int32) × (Nat → Int32) × (Nat → Int32)) :=
  rc117 x5_242 (x6_117 + (1 : Int32)) yT0_200 yT24_180 yT25_242
def MX8_family_l216 (x3_79 : Int32) (x6_117 : Int32) (rc117 : (Int32 → Int32 → (Nat → Int32) → (Nat → Int32) → (Nat → Int32) → Option (Int32 × (Nat → Int32) × (Nat → Int32) × (Nat → Int32) × (Nat → Int32)))) (yT24_180 : (Nat → Int32)) (yT0_200 : (Nat → Int32)) (t0_200 : Int32) : Nat → Int32 → (Nat → Int32) → Option (Int32 × (Nat → Int32) × (Nat → Int32) × (Nat → Int32) × (Nat → Int32))
  | 0, _, _ => none
  | n216 + 1, x10_216, yT25_216 =>
    if x3_79 ≤ x10_216 then (MX8_family_j242 x6_117 rc117 yT24_180 yT0_200 t0_200 yT25_216) else MG x10_216 5 (MG x10_216 5 ((MX8_family_l216 x3_79 x6_117 rc117 yT24_180 yT0_200 t0_200 n216) (x10_216 + (1 : Int32)) (upd yT25_216 x10_216.toNatClampNeg (yT24_180 x10_216.toNatClampNeg))))
def MX8_family_j200 (N : Nat) (x3_79 : Int32) (x5_117 : Int32) (x6_117 : Int32) (yT25_117 : (Nat → Int32)) (rc117 : (Int32 → Int32 → (Nat → Int32) → (Nat → Int32) → (Nat → Int32) → Option (Int32 × (Nat → Int32) × (Nat → Int32) × (Nat → Int32) × (Nat → Int32)))) (yT24_180 : (Nat → Int32)) (yT0_200 : (Nat → Int32)) (t0_200 : Int32) : Option (Int32 × (Nat → Int32) × (Nat → Int32) × (Nat → Int32) × (Nat → Int32)) :=
  if x5_117 ≤ t0_200 then (MX8_family_j242 x6_117 rc117 yT24_180 yT0_200 x5_117 yT25_117) else (MX8_family_l216 x3_79 x6_117 rc117 yT24_180 yT0_200 t0_200 N (0 : Int32) yT25_117)
def MX8_family_j180 (N : Nat) (T_persons : Int32) (T_family : (Nat → Int32)) (T_gives : Int32) (T_warm : Int32) (T_rumour : Int32) (x3_79 : Int32) (x5_117 : Int32) (x6_117 : Int32) (yT0_117 : (Nat → Int32)) (yT25_117 : (Nat → Int32)) (rc117 : (Int32 → Int32 → (Nat → Int32) → (Nat → Int32) → (Nat → Int32) → Option (Int32 × (Nat → Int32) × (Nat → Int32) × (Nat → Int32) × (Nat → Int32)))) (x8_180 : Int32) (yT24_180 : (Nat → Int32)) : Option (Int32 × (Nat → Int32) × (Nat → Int32) × (Nat → Int32) × (Nat → Int32)) :=
  if x8_180 = (((1 : Int32) <<< (x3_79 &&& 31)) - (1 : Int32)) then ((MX8_waitBy N yT0_117 T_persons T_family T_gives T_warm T_rumour yT24_180 x3_79).bind (fun u192 => MX8_family_j200 N x3_79 x5_117 x6_117 yT25_117 rc117 yT24_180 u192.2 u192.1)) else MX8_family_j200 N x3_79 x5_117 x6_117 yT25_117 rc117 yT24_180 yT0_117 (100 : Int32)
def MX8_family_l136 (N : Nat) (T_persons : Int32) (T_family : (Nat → Int32)) (T_gives : Int32) (T_warm : Int32) (T_rumour : Int32) (x3_79 : Int32) (yT23_79 : (Nat → Int32)) (x5_117 : Int32) (x6_117 : Int32) (yT0_117 : (Nat → Int32)) (yT25_117 : (Nat → Int32)) (rc117 : (Int32 → Int32 → (Nat → Int32) → (Nat → Int32) → (Nat → Int32) → Option (Int32 × (Nat → Int32) × (Nat → Int32) × (Nat → Int32) × (Nat → Int32)))) : Nat → Int32 → Int32 → Int32 → (Nat → Int32) → Option (Int32 × (Nat → Int32) × (Nat → Int32) × (Nat → Int32) × (Nat → Int32))
  | 0, _, _, _, _ => none
  | n136 + 1, x7_136, x8_136, x9_136, yT24_136 =>
    if x9_136 < 0 then (MX8_family_j180 N T_persons T_family T_gives T_warm T_rumour x3_79 x5_117 x6_117 yT0_117 yT25_117 rc117 x8_136 yT24_136) else MD x3_79 (MG (x7_136 - x7_136 / x3_79 * x3_79) 5 (MG x9_136 5 (MD x3_79 (MLet (x8_136 ||| ((1 : Int32) <<< ((x7_136 - x7_136 / x3_79 * x3_79) &&& 31))) (fun z166 => MD x3_79 (MLet (x7_136 / x3_79) (fun z172 => (MX8_family_l136 N T_persons T_family T_gives T_warm T_rumour x3_79 yT23_79 x5_117 x6_117 yT0_117 yT25_117 rc117 n136) z172 z166 (x9_136 + (-1 : Int32)) (upd yT24_136 x9_136.toNatClampNeg (yT23_79 (x7_136 - x7_136 / x3_79 * x3_79).toNatClampNeg)))))))))
def MX8_family_l117 (N : Nat) (T_persons : Int32) (T_family : (Nat → Int32)) (T_gives : Int32) (T_warm : Int32) (T_rumour : Int32) (p2 : Int32) (x3_79 : Int32) (yT23_79 : (Nat → Int32)) (x4_110 : Int32) : Nat → Int32 → Int32 → (Nat → Int32) → (Nat → Int32) → (Nat → Int32) → Option (Int32 × (Nat → Int32) × (Nat → Int32) × (Nat → Int32) × (Nat → Int32))
  | 0, _, _, _, _, _ => none
  | n117 + 1, x5_117, x6_117, yT0_117, yT24_117, yT25_117 =>
    if x4_110 ≤ x6_117 then (MX8_family_j248 p2 x3_79 yT23_79 x5_117 yT0_117 yT24_117 yT25_117) else (MLet (x3_79 - (1 : Int32)) (fun z134 => MX8_family_l136 N T_persons T_family T_gives T_warm T_rumour x3_79 yT23_79 x5_117 x6_117 yT0_117 yT25_117 (MX8_family_l117 N T_persons T_family T_gives T_warm T_rumour p2 x3_79 yT23_79 x4_110 n117) N x6_117 (0 : Int32) z134 yT24_117))
def MX8_family_j110 (N : Nat) (T_w : (Nat → Int32)) (T_persons : Int32) (T_family : (Nat → Int32)) (T_gives : Int32) (T_warm : Int32) (T_rumour : Int32) (T_order : (Nat → Int32)) (T_bestOrder : (Nat → Int32)) (p2 : Int32) (x3_79 : Int32) (yT23_79 : (Nat → Int32)) (x4_110 : Int32) : Option (Int32 × (Nat → Int32) × (Nat → Int32) × (Nat → Int32) × (Nat → Int32)) :=
  MX8_family_l117 N T_persons T_family T_gives T_warm T_rumour p2 x3_79 yT23_79 x4_110 N (100 : Int32) (0 : Int32) T_w T_order T_bestOrder
def MX8_family_l92 (N : Nat) (T_w : (Nat → Int32)) (T_persons : Int32) (T_family : (Nat → Int32)) (T_gives : Int32) (T_warm : Int32) (T_rumour : Int32) (T_order : (Nat → Int32)) (T_bestOrder : (Nat → Int32)) (p2 : Int32) (x3_79 : Int32) (yT23_79 : (Nat → Int32)) : Nat → Int32 → Int32 → Option (Int32 × (Nat → Int32) × (Nat → Int32) × (Nat → Int32) × (Nat → Int32))
  | 0, _, _ => none
  | n92 + 1, x4_92, x5_92 =>
    if x3_79 ≤ x5_92 then (MX8_family_j110 N T_w T_persons T_family T_gives T_warm T_rumour T_order T_bestOrder p2 x3_79 yT23_79 x4_92) else (MLet (x4_92 * x3_79) (fun z102 => (MX8_family_l92 N T_w T_persons T_family T_gives T_warm T_rumour T_order T_bestOrder p2 x3_79 yT23_79 n92) z102 (x5_92 + (1 : Int32))))
def MX8_family_j79 (N : Nat) (T_w : (Nat → Int32)) (T_persons : Int32) (T_family : (Nat → Int32)) (T_gives : Int32) (T_warm : Int32) (T_rumour : Int32) (T_order : (Nat → Int32)) (T_bestOrder : (Nat → Int32)) (p2 : Int32) (x3_79 : Int32) (yT23_79 : (Nat → Int32)) : Option (Int32 × (Nat → Int32) × (Nat → Int32) × (Nat → Int32) × (Nat → Int32)) :=
  if x3_79 = 0 then some ((-2 : Int32), T_w, yT23_79, T_order, T_bestOrder) else (MX8_family_l92 N T_w T_persons T_family T_gives T_warm T_rumour T_order T_bestOrder p2 x3_79 yT23_79 N (1 : Int32) (0 : Int32))
def MX8_family_j73 (x4_31 : Int32) (rc31 : (Int32 → Int32 → (Nat → Int32) → Option (Int32 × (Nat → Int32) × (Nat → Int32) × (Nat → Int32) × (Nat → Int32)))) (x3_73 : Int32) (yT23_73 : (Nat → Int32)) : Option (Int32 × (Nat → Int32) × (Nat → Int32) × (Nat → Int32) × (Nat → Int32)) :=
  rc31 x3_73 (x4_31 + (1 : Int32)) yT23_73
def MX8_family_l31 (N : Nat) (T_w : (Nat → Int32)) (T_persons : Int32) (T_family : (Nat → Int32)) (T_gives : Int32) (T_warm : Int32) (T_rumour : Int32) (T_order : (Nat → Int32)) (T_bestOrder : (Nat → Int32)) (p1 : Int32) (p2 : Int32) : Nat → Int32 → Int32 → (Nat → Int32) → Option (Int32 × (Nat → Int32) × (Nat → Int32) × (Nat → Int32) × (Nat → Int32))
  | 0, _, _, _ => none
  | n31 + 1, x3_31, x4_31, yT23_31 =>
    if T_persons ≤ x4_31 then (MX8_family_j79 N T_w T_persons T_family T_gives T_warm T_rumour T_order T_bestOrder p2 x3_31 yT23_31) else MG x4_31 9 (if (T_family x4_31.toNatClampNeg) = p1 then ((MX8_isWhere N T_w (0 : Int32) x4_31 (0 : Int32)).bind (fun u56 => if u56 = 0 then (MX8_family_j73 x4_31 (MX8_family_l31 N T_w T_persons T_family T_gives T_warm T_rumour T_order T_bestOrder p1 p2 n31) x3_31 yT23_31) else MG x3_31 5 (MX8_family_j73 x4_31 (MX8_family_l31 N T_w T_persons T_family T_gives T_warm T_rumour T_order T_bestOrder p1 p2 n31) (x3_31 + (1 : Int32)) (upd yT23_31 x3_31.toNatClampNeg x4_31)))) else (MX8_family_j73 x4_31 (MX8_family_l31 N T_w T_persons T_family T_gives T_warm T_rumour T_order T_bestOrder p1 p2 n31) x3_31 yT23_31))
def MX8_family (N : Nat) (T_w : (Nat → Int32)) (T_persons : Int32) (T_family : (Nat → Int32)) (T_gives : Int32) (T_warm : Int32) (T_rumour : Int32) (T_toCome : (Nat → Int32)) (T_order : (Nat → Int32)) (T_bestOrder : (Nat → Int32)) (p1 : Int32) (p2 : Int32) : Option (Int32 × (Nat → Int32) × (Nat → Int32) × (Nat → Int32) × (Nat → Int32)) :=
  (MX8_in N p1.toInt64 (1 : Int64) (4 : Int64)).bind (fun u6 => if u6 = 0 then some ((-1 : Int32), T_w, T_toCome, T_order, T_bestOrder) else ((MX8_in N p2.toInt64 (0 : Int64) (5 : Int64)).bind (fun u18 => if u18 = 0 then some ((-1 : Int32), T_w, T_toCome, T_order, T_bestOrder) else (MX8_family_l31 N T_w T_persons T_family T_gives T_warm T_rumour T_order T_bestOrder p1 p2 N (0 : Int32) (0 : Int32) T_toCome))))
set_option maxHeartbeats 4000000 in
set_option maxRecDepth 100000 in
theorem c_X8_family (l : Launch) (G : va_G) (cI cZ cL : ClassId) (N : Nat) (aT : Nat → Nat) (T_w : (Nat → Int32)) (T_undoes : Int32) (T_kept : Int32) (T_persons : Int32) (T_family : (Nat → Int32)) (T_gives : Int32) (T_warm : Int32) (T_rumour : Int32) (T_seen : Int32) (T_seenOf : (Nat → Int32)) (T_seenBehind : (Nat → Int32)) (T_seenHas : (Nat → Int32)) (T_text : (Nat → Int32)) (T_texted : Int32) (T_place : Int32) (T_number : Int32) (T_readPersons : Int32) (T_readKind : (Nat → Int32)) (T_readComes : (Nat → Int32)) (T_readFamily : (Nat → Int32)) (T_readGives : Int32) (T_readWarm : Int32) (T_readRumour : Int32) (T_toCome : (Nat → Int32)) (T_order : (Nat → Int32)) (T_bestOrder : (Nat → Int32)) (p1 : Int32) (p2 : Int32) (rr : Int32 × (Nat → Int32) × (Nat → Int32) × (Nat → Int32) × (Nat → Int32)) (hM : MX8_family N T_w T_persons T_family T_gives T_warm T_rumour T_toCome T_order T_bestOrder p1 p2 = some rr) : CtI l yX8_family cX8_family 11 .int 6 144 G cI cZ cL [.ref (aT 0), .int p1, .int p2] [wMod cI cZ aT T_w T_undoes T_kept T_persons T_family T_gives T_warm T_rumour T_seen T_seenOf T_seenBehind T_seenHas T_text T_texted T_place T_number T_readPersons T_readKind T_readComes T_readFamily T_readGives T_readWarm T_readRumour T_toCome T_order T_bestOrder] rr.1 [wMod cI cZ aT rr.2.1 T_undoes T_kept T_persons T_family T_gives T_warm T_rumour T_seen T_seenOf T_seenBehind T_seenHas T_text T_texted T_place T_number T_readPersons T_readKind T_readComes T_readFamily T_readGives T_readWarm T_readRumour rr.2.2.1 rr.2.2.2.1 rr.2.2.2.2] := by
  refine ct_body (fun A => qI G rr.1 [wMod cI cZ aT rr.2.1 T_undoes T_kept T_persons T_family T_gives T_warm T_rumour T_seen T_seenOf T_seenBehind T_seenHas T_text T_texted T_place T_number T_readPersons T_readKind T_readComes T_readFamily T_readGives T_readWarm T_readRumour rr.2.2.1 rr.2.2.2.1 rr.2.2.2.2] A) (by decide) (Nat.le_of_ble_eq_true rfl) (fun p e s m below meth c A ls X hW hl => ?_)
  have hx := X.1
  have hb := X.2.1
  have hts := X.2.2.2.2.2.1
  have hown := X.2.2.2.2.2.2.1
  have hl : lv_has ls 11 [(0, .ref (aT 0)), (1, .int p1), (2, .int p2)] := hl
  unfold MX8_family at hM
  refine lv_iload_n hx hb dX8_family_0 rfl (lv_at hl 1 rfl) ?_
  refine lv_i2l hx hb dX8_family_1 rfl ?_
  refine lv_lconst (v := (1 : Int64)) hx hb dX8_family_2 (by decide) ?_
  refine lv_ldc2 (v := (4 : Int64)) hx hb hown (hts _ q_1087) dX8_family_3 ?_
  obtain ⟨u6, hu6, hM⟩ := bind_some hM
  refine g_callSi (rest := []) X hl.1 hW (c_X8_in l G cI cZ cL N p1.toInt64 (1 : Int64) (4 : Int64) u6 hu6) q_904 q_902 q_903 q_67 hd_X8_in rfl ⟨Nat.le_of_ble_eq_true rfl, Nat.le_of_ble_eq_true rfl⟩ ⟨Nat.zero_le _, Nat.zero_le _⟩ rfl (Nat.le_of_ble_eq_true rfl) dX8_family_6 (fun H locs hW => ?_)
  refine lv_if_eq (tgt := 24) hx hb dX8_family_9 (by decide) (fun hc => ?_) (fun hc => ?_)
  · have hM := (if_pos hc).symm.trans hM
    refine lv_iconst (v := (-1 : Int32)) hx hb dX8_family_24 (by decide) ?_
    obtain rfl := Option.some.inj hM
    exact g_reti X hW rfl rfl dX8_family_25
  · have hM := (if_neg hc).symm.trans hM
    refine lv_iload_n hx hb dX8_family_12 rfl (lv_at hl 2 rfl) ?_
    refine lv_i2l hx hb dX8_family_13 rfl ?_
    refine lv_lconst (v := (0 : Int64)) hx hb dX8_family_14 (by decide) ?_
    refine lv_ldc2 (v := (5 : Int64)) hx hb hown (hts _ q_1088) dX8_family_15 ?_
    obtain ⟨u18, hu18, hM⟩ := bind_some hM
    refine g_callSi (rest := []) X hl.1 hW (c_X8_in l G cI cZ cL N p2.toInt64 (0 : Int64) (5 : Int64) u18 hu18) q_904 q_902 q_903 q_67 hd_X8_in rfl ⟨Nat.le_of_ble_eq_true rfl, Nat.le_of_ble_eq_true rfl⟩ ⟨Nat.zero_le _, Nat.zero_le _⟩ rfl (Nat.le_of_ble_eq_true rfl) dX8_family_18 (fun H locs hW => ?_)
    refine lv_if_ne (tgt := 26) hx hb dX8_family_21 (by decide) (fun hc => ?_) (fun hc => ?_)
    · have hM := (if_neg hc).symm.trans hM
      refine lv_iconst (v := (0 : Int32)) hx hb dX8_family_26 (by decide) ?_
      refine lv_istore_n (lv' := [(3, .int (0 : Int32)), (0, .ref (aT 0)), (1, .int p1), (2, .int p2)]) hx hb dX8_family_27 rfl hl (by decide) rfl (fun ls hl => ?_)
      refine lv_iconst (v := (0 : Int32)) hx hb dX8_family_28 (by decide) ?_
      refine lv_istore (lv' := [(4, .int (0 : Int32)), (3, .int (0 : Int32)), (0, .ref (aT 0)), (1, .int p1), (2, .int p2)]) hx hb dX8_family_29 hl (by decide) rfl (fun ls hl => ?_)
      have j79 : ∀ (x3_79 : Int32) (yT23_79 : (Nat → Int32)) (H : Heap) (locs : List Loc) (ls : Array Slot), Wd G A s [wMod cI cZ aT T_w T_undoes T_kept T_persons T_family T_gives T_warm T_rumour T_seen T_seenOf T_seenBehind T_seenHas T_text T_texted T_place T_number T_readPersons T_readKind T_readComes T_readFamily T_readGives T_readWarm T_readRumour yT23_79 T_order T_bestOrder] H locs → lv_has ls 11 [(0, .ref (aT 0)), (2, .int p2), (3, .int x3_79)] → MX8_family_j79 N T_w T_persons T_family T_gives T_warm T_rumour T_order T_bestOrder p2 x3_79 yT23_79 = some rr → W p l e (rmO 6 144) s m ([.ref (aT 0), .int p1, .int p2] : List Value).toArray below meth c H locs 0 0 (MQ below (qI G rr.1 [wMod cI cZ aT rr.2.1 T_undoes T_kept T_persons T_family T_gives T_warm T_rumour T_seen T_seenOf T_seenBehind T_seenHas T_text T_texted T_place T_number T_readPersons T_readKind T_readComes T_readFamily T_readGives T_readWarm T_readRumour rr.2.2.1 rr.2.2.2.1 rr.2.2.2.2] A) ([.ref (aT 0), .int p1, .int p2] : List Value).toArray s 0 0 A) (F0 m 79 ls []) := by
        intro x3_79 yT23_79 H locs ls hW hl hM
        unfold MX8_family_j79 at hM
        refine lv_iload_n hx hb dX8_family_79 rfl (lv_at hl 2 rfl) ?_
        refine lv_if_ne (tgt := 86) hx hb dX8_family_80 (by decide) (fun hc => ?_) (fun hc => ?_)
        · have hM := (if_neg hc).symm.trans hM
          refine lv_iconst (v := (1 : Int32)) hx hb dX8_family_86 (by decide) ?_
          refine lv_istore (lv' := [(4, .int (1 : Int32)), (0, .ref (aT 0)), (2, .int p2), (3, .int x3_79)]) hx hb dX8_family_87 hl (by decide) rfl (fun ls hl => ?_)
          refine lv_iconst (v := (0 : Int32)) hx hb dX8_family_89 (by decide) ?_
          refine lv_istore (lv' := [(5, .int (0 : Int32)), (4, .int (1 : Int32)), (0, .ref (aT 0)), (2, .int p2), (3, .int x3_79)]) hx hb dX8_family_90 hl (by decide) rfl (fun ls hl => ?_)
          have j110 : ∀ (x4_110 : Int32) (H : Heap) (locs : List Loc) (ls : Array Slot), Wd G A s [wMod cI cZ aT T_w T_undoes T_kept T_persons T_family T_gives T_warm T_rumour T_seen T_seenOf T_seenBehind T_seenHas T_text T_texted T_place T_number T_readPersons T_readKind T_readComes T_readFamily T_readGives T_readWarm T_readRumour yT23_79 T_order T_bestOrder] H locs → lv_has ls 11 [(0, .ref (aT 0)), (2, .int p2), (3, .int x3_79), (4, .int x4_110)] → MX8_family_j110 N T_w T_persons T_family T_gives T_warm T_rumour T_order T_bestOrder p2 x3_79 yT23_79 x4_110 = some rr → W p l e (rmO 6 144) s m ([.ref (aT 0), .int p1, .int p2] : List Value).toArray below meth c H locs 0 0 (MQ below (qI G rr.1 [wMod cI cZ aT rr.2.1 T_undoes T_kept T_persons T_family T_gives T_warm T_rumour T_seen T_seenOf T_seenBehind T_seenHas T_text T_texted T_place T_number T_readPersons T_readKind T_readComes T_readFamily T_readGives T_readWarm T_readRumour rr.2.2.1 rr.2.2.2.1 rr.2.2.2.2] A) ([.ref (aT 0), .int p1, .int p2] : List Value).toArray s 0 0 A) (F0 m 110 ls []) := by
            intro x4_110 H locs ls hW hl hM
            unfold MX8_family_j110 at hM
            refine lv_bipush (v := (100 : Int32)) hx hb dX8_family_110 (by decide) ?_
            refine lv_istore (lv' := [(5, .int (100 : Int32)), (0, .ref (aT 0)), (2, .int p2), (3, .int x3_79), (4, .int x4_110)]) hx hb dX8_family_112 hl (by decide) rfl (fun ls hl => ?_)
            refine lv_iconst (v := (0 : Int32)) hx hb dX8_family_114 (by decide) ?_
            refine lv_istore (lv' := [(6, .int (0 : Int32)), (5, .int (100 : Int32)), (0, .ref (aT 0)), (2, .int p2), (3, .int x3_79), (4, .int x4_110)]) hx hb dX8_family_115 hl (by decide) rfl (fun ls hl => ?_)
            have j248 : ∀ (x5_248 : Int32) (yT0_248 : (Nat → Int32)) (yT24_248 : (Nat → Int32)) (yT25_248 : (Nat → Int32)) (H : Heap) (locs : List Loc) (ls : Array Slot), Wd G A s [wMod cI cZ aT yT0_248 T_undoes T_kept T_persons T_family T_gives T_warm T_rumour T_seen T_seenOf T_seenBehind T_seenHas T_text T_texted T_place T_number T_readPersons T_readKind T_readComes T_readFamily T_readGives T_readWarm T_readRumour yT23_79 yT24_248 yT25_248] H locs → lv_has ls 11 [(0, .ref (aT 0)), (2, .int p2), (3, .int x3_79), (5, .int x5_248)] → MX8_family_j248 p2 x3_79 yT23_79 x5_248 yT0_248 yT24_248 yT25_248 = some rr → W p l e (rmO 6 144) s m ([.ref (aT 0), .int p1, .int p2] : List Value).toArray below meth c H locs 0 0 (MQ below (qI G rr.1 [wMod cI cZ aT rr.2.1 T_undoes T_kept T_persons T_family T_gives T_warm T_rumour T_seen T_seenOf T_seenBehind T_seenHas T_text T_texted T_place T_number T_readPersons T_readKind T_readComes T_readFamily T_readGives T_readWarm T_readRumour rr.2.2.1 rr.2.2.2.1 rr.2.2.2.2] A) ([.ref (aT 0), .int p1, .int p2] : List Value).toArray s 0 0 A) (F0 m 248 ls []) := by
              intro x5_248 yT0_248 yT24_248 yT25_248 H locs ls hW hl hM
              unfold MX8_family_j248 at hM
              refine lv_iload_n hx hb dX8_family_248 rfl (lv_at hl 1 rfl) ?_
              refine lv_if_ne (tgt := 257) hx hb dX8_family_249 (by decide) (fun hc => ?_) (fun hc => ?_)
              · have hM := (if_neg hc).symm.trans hM
                refine lv_iload_n hx hb dX8_family_257 rfl (lv_at hl 1 rfl) ?_
                refine lv_iload_n hx hb dX8_family_258 rfl (lv_at hl 2 rfl) ?_
                refine lv_icmp_gt (tgt := 273) hx hb dX8_family_259 (by decide) (fun hc => ?_) (fun hc => ?_)
                · have hM := (if_pos hc).symm.trans hM
                  refine lv_bipush (v := (-4 : Int32)) hx hb dX8_family_273 (by decide) ?_
                  obtain rfl := Option.some.inj hM
                  exact g_reti X hW rfl rfl dX8_family_275
                · have hM := (if_neg hc).symm.trans hM
                  refine lv_aload_n hx hb dX8_family_262 rfl (lv_at hl 0 rfl) ?_
                  refine g_get X hW 0 rfl rfl inX8 25 (by decide) q_842 rfl dX8_family_263 ?_
                  refine lv_iload_n hx hb dX8_family_266 rfl (lv_at hl 1 rfl) ?_
                  refine lv_iconst (v := (1 : Int32)) hx hb dX8_family_267 (by decide) ?_
                  refine lv_isub hx hb dX8_family_268 ?_
                  obtain ⟨hi269, hM⟩ := MG_some hM
                  refine g_ald X hW 12 rfl hi269 dX8_family_269 ?_
                  refine lv_goto (tgt := 275) hx hb dX8_family_270 (by decide) ?_
                  obtain rfl := Option.some.inj hM
                  exact g_reti X hW rfl rfl dX8_family_275
              · have hM := (if_pos hc).symm.trans hM
                refine lv_iload hx hb dX8_family_252 (lv_at hl 3 rfl) ?_
                refine lv_goto (tgt := 275) hx hb dX8_family_254 (by decide) ?_
                obtain rfl := Option.some.inj hM
                exact g_reti X hW rfl rfl dX8_family_275
            have lp117 : ∀ (n117 : Nat) (x5_117 : Int32) (x6_117 : Int32) (yT0_117 : (Nat → Int32)) (yT24_117 : (Nat → Int32)) (yT25_117 : (Nat → Int32)) (H : Heap) (locs : List Loc) (ls : Array Slot), Wd G A s [wMod cI cZ aT yT0_117 T_undoes T_kept T_persons T_family T_gives T_warm T_rumour T_seen T_seenOf T_seenBehind T_seenHas T_text T_texted T_place T_number T_readPersons T_readKind T_readComes T_readFamily T_readGives T_readWarm T_readRumour yT23_79 yT24_117 yT25_117] H locs → lv_has ls 11 [(0, .ref (aT 0)), (2, .int p2), (3, .int x3_79), (4, .int x4_110), (5, .int x5_117), (6, .int x6_117)] → MX8_family_l117 N T_persons T_family T_gives T_warm T_rumour p2 x3_79 yT23_79 x4_110 n117 x5_117 x6_117 yT0_117 yT24_117 yT25_117 = some rr → W p l e (rmO 6 144) s m ([.ref (aT 0), .int p1, .int p2] : List Value).toArray below meth c H locs 0 0 (MQ below (qI G rr.1 [wMod cI cZ aT rr.2.1 T_undoes T_kept T_persons T_family T_gives T_warm T_rumour T_seen T_seenOf T_seenBehind T_seenHas T_text T_texted T_place T_number T_readPersons T_readKind T_readComes T_readFamily T_readGives T_readWarm T_readRumour rr.2.2.1 rr.2.2.2.1 rr.2.2.2.2] A) ([.ref (aT 0), .int p1, .int p2] : List Value).toArray s 0 0 A) (F0 m 117 ls []) := by
              intro n117
              induction n117 with
              | zero =>
                intro x5_117 x6_117 yT0_117 yT24_117 yT25_117 H locs ls hW hl hM
                rw [MX8_family_l117] at hM
                cases hM
              | succ n117 ih117 =>
                intro x5_117 x6_117 yT0_117 yT24_117 yT25_117 H locs ls hW hl hM
                rw [MX8_family_l117] at hM
                refine lv_iload hx hb dX8_family_117 (lv_at hl 5 rfl) ?_
                refine lv_iload hx hb dX8_family_119 (lv_at hl 3 rfl) ?_
                refine lv_icmp_ge (tgt := 248) hx hb dX8_family_121 (by decide) (fun hc => ?_) (fun hc => ?_)
                · have hM := (if_pos hc).symm.trans hM
                  exact j248 x5_117 yT0_117 yT24_117 yT25_117 _ _ _ hW (lv_sub hl [0, 1, 2, 4] rfl) hM
                · have hM := (if_neg hc).symm.trans hM
                  refine lv_iload hx hb dX8_family_124 (lv_at hl 5 rfl) ?_
                  refine lv_istore (lv' := [(7, .int x6_117), (0, .ref (aT 0)), (2, .int p2), (3, .int x3_79), (4, .int x4_110), (5, .int x5_117), (6, .int x6_117)]) hx hb dX8_family_126 hl (by decide) rfl (fun ls hl => ?_)
                  refine lv_iconst (v := (0 : Int32)) hx hb dX8_family_128 (by decide) ?_
                  refine lv_istore (lv' := [(8, .int (0 : Int32)), (7, .int x6_117), (0, .ref (aT 0)), (2, .int p2), (3, .int x3_79), (4, .int x4_110), (5, .int x5_117), (6, .int x6_117)]) hx hb dX8_family_129 hl (by decide) rfl (fun ls hl => ?_)
                  refine lv_iload_n hx hb dX8_family_131 rfl (lv_at hl 4 rfl) ?_
                  refine lv_iconst (v := (1 : Int32)) hx hb dX8_family_132 (by decide) ?_
                  refine lv_isub hx hb dX8_family_133 ?_
                  refine lv_topi (fun z134 ez134 => ?_)
                  have hM := MLet_some hM z134 ez134
                  refine lv_istore (lv' := [(9, .int z134), (8, .int (0 : Int32)), (7, .int x6_117), (0, .ref (aT 0)), (2, .int p2), (3, .int x3_79), (4, .int x4_110), (5, .int x5_117), (6, .int x6_117)]) hx hb dX8_family_134 hl (by decide) rfl (fun ls hl => ?_)
                  have j180 : ∀ (x8_180 : Int32) (yT24_180 : (Nat → Int32)) (H : Heap) (locs : List Loc) (ls : Array Slot), Wd G A s [wMod cI cZ aT yT0_117 T_undoes T_kept T_persons T_family T_gives T_warm T_rumour T_seen T_seenOf T_seenBehind T_seenHas T_text T_texted T_place T_number T_readPersons T_readKind T_readComes T_readFamily T_readGives T_readWarm T_readRumour yT23_79 yT24_180 yT25_117] H locs → lv_has ls 11 [(0, .ref (aT 0)), (2, .int p2), (3, .int x3_79), (4, .int x4_110), (5, .int x5_117), (6, .int x6_117), (8, .int x8_180)] → MX8_family_j180 N T_persons T_family T_gives T_warm T_rumour x3_79 x5_117 x6_117 yT0_117 yT25_117 (MX8_family_l117 N T_persons T_family T_gives T_warm T_rumour p2 x3_79 yT23_79 x4_110 n117) x8_180 yT24_180 = some rr → W p l e (rmO 6 144) s m ([.ref (aT 0), .int p1, .int p2] : List Value).toArray below meth c H locs 0 0 (MQ below (qI G rr.1 [wMod cI cZ aT rr.2.1 T_undoes T_kept T_persons T_family T_gives T_warm T_rumour T_seen T_seenOf T_seenBehind T_seenHas T_text T_texted T_place T_number T_readPersons T_readKind T_readComes T_readFamily T_readGives T_readWarm T_readRumour rr.2.2.1 rr.2.2.2.1 rr.2.2.2.2] A) ([.ref (aT 0), .int p1, .int p2] : List Value).toArray s 0 0 A) (F0 m 180 ls []) := by
                    intro x8_180 yT24_180 H locs ls hW hl hM
                    unfold MX8_family_j180 at hM
                    refine lv_iload hx hb dX8_family_180 (lv_at hl 6 rfl) ?_
                    refine lv_iconst (v := (1 : Int32)) hx hb dX8_family_182 (by decide) ?_
                    refine lv_iload_n hx hb dX8_family_183 rfl (lv_at hl 2 rfl) ?_
                    refine lv_ishl hx hb dX8_family_184 ?_
                    refine lv_iconst (v := (1 : Int32)) hx hb dX8_family_185 (by decide) ?_
                    refine lv_isub hx hb dX8_family_186 ?_
                    have j200 : ∀ (yT0_200 : (Nat → Int32)) (t0_200 : Int32) (H : Heap) (locs : List Loc) (ls : Array Slot), Wd G A s [wMod cI cZ aT yT0_200 T_undoes T_kept T_persons T_family T_gives T_warm T_rumour T_seen T_seenOf T_seenBehind T_seenHas T_text T_texted T_place T_number T_readPersons T_readKind T_readComes T_readFamily T_readGives T_readWarm T_readRumour yT23_79 yT24_180 yT25_117] H locs → lv_has ls 11 [(0, .ref (aT 0)), (2, .int p2), (3, .int x3_79), (4, .int x4_110), (5, .int x5_117), (6, .int x6_117)] → MX8_family_j200 N x3_79 x5_117 x6_117 yT25_117 (MX8_family_l117 N T_persons T_family T_gives T_warm T_rumour p2 x3_79 yT23_79 x4_110 n117) yT24_180 yT0_200 t0_200 = some rr → W p l e (rmO 6 144) s m ([.ref (aT 0), .int p1, .int p2] : List Value).toArray below meth c H locs 0 0 (MQ below (qI G rr.1 [wMod cI cZ aT rr.2.1 T_undoes T_kept T_persons T_family T_gives T_warm T_rumour T_seen T_seenOf T_seenBehind T_seenHas T_text T_texted T_place T_number T_readPersons T_readKind T_readComes T_readFamily T_readGives T_readWarm T_readRumour rr.2.2.1 rr.2.2.2.1 rr.2.2.2.2] A) ([.ref (aT 0), .int p1, .int p2] : List Value).toArray s 0 0 A) (F0 m 200 ls [.int t0_200]) := by
                      intro yT0_200 t0_200 H locs ls hW hl hM
                      unfold MX8_family_j200 at hM
                      refine lv_istore (lv' := [(9, .int t0_200), (0, .ref (aT 0)), (2, .int p2), (3, .int x3_79), (4, .int x4_110), (5, .int x5_117), (6, .int x6_117)]) hx hb dX8_family_200 hl (by decide) rfl (fun ls hl => ?_)
                      refine lv_iload hx hb dX8_family_202 (lv_at hl 0 rfl) ?_
                      refine lv_iload hx hb dX8_family_204 (lv_at hl 5 rfl) ?_
                      have j242 : ∀ (x5_242 : Int32) (yT25_242 : (Nat → Int32)) (H : Heap) (locs : List Loc) (ls : Array Slot), Wd G A s [wMod cI cZ aT yT0_200 T_undoes T_kept T_persons T_family T_gives T_warm T_rumour T_seen T_seenOf T_seenBehind T_seenHas T_text T_texted T_place T_number T_readPersons T_readKind T_readComes T_readFamily T_readGives T_readWarm T_readRumour yT23_79 yT24_180 yT25_242] H locs → lv_has ls 11 [(0, .ref (aT 0)), (2, .int p2), (3, .int x3_79), (4, .int x4_110), (5, .int x5_242), (6, .int x6_117)] → MX8_family_j242 x6_117 (MX8_family_l117 N T_persons T_family T_gives T_warm T_rumour p2 x3_79 yT23_79 x4_110 n117) yT24_180 yT0_200 x5_242 yT25_242 = some rr → W p l e (rmO 6 144) s m ([.ref (aT 0), .int p1, .int p2] : List Value).toArray below meth c H locs 0 0 (MQ below (qI G rr.1 [wMod cI cZ aT rr.2.1 T_undoes T_kept T_persons T_family T_gives T_warm T_rumour T_seen T_seenOf T_seenBehind T_seenHas T_text T_texted T_place T_number T_readPersons T_readKind T_readComes T_readFamily T_readGives T_readWarm T_readRumour rr.2.2.1 rr.2.2.2.1 rr.2.2.2.2] A) ([.ref (aT 0), .int p1, .int p2] : List Value).toArray s 0 0 A) (F0 m 242 ls []) := by
                        intro x5_242 yT25_242 H locs ls hW hl hM
                        unfold MX8_family_j242 at hM
                        refine lv_iinc (v := x6_117 + (1 : Int32)) (lv' := [(6, .int (x6_117 + (1 : Int32))), (0, .ref (aT 0)), (2, .int p2), (3, .int x3_79), (4, .int x4_110), (5, .int x5_242)]) hx hb dX8_family_242 hl (k := 5) rfl rfl (by decide) rfl (fun ls hl => ?_)
                        refine lv_goto (tgt := 117) hx hb dX8_family_245 (by decide) ?_
                        exact ih117 x5_242 (x6_117 + (1 : Int32)) yT0_200 yT24_180 yT25_242 _ _ _ hW (lv_sub hl [1, 2, 3, 4, 5, 0] rfl) hM
                      refine lv_icmp_ge (tgt := 242) hx hb dX8_family_206 (by decide) (fun hc => ?_) (fun hc => ?_)
                      · have hM := (if_pos hc).symm.trans hM
                        exact j242 x5_117 yT25_117 _ _ _ hW (lv_sub hl [1, 2, 3, 4, 5, 6] rfl) hM
                      · have hM := (if_neg hc).symm.trans hM
                        refine lv_iload hx hb dX8_family_209 (lv_at hl 0 rfl) ?_
                        refine lv_istore (lv' := [(5, .int t0_200), (9, .int t0_200), (0, .ref (aT 0)), (2, .int p2), (3, .int x3_79), (4, .int x4_110), (6, .int x6_117)]) hx hb dX8_family_211 hl (by decide) rfl (fun ls hl => ?_)
                        refine lv_iconst (v := (0 : Int32)) hx hb dX8_family_213 (by decide) ?_
                        refine lv_istore (lv' := [(10, .int (0 : Int32)), (5, .int t0_200), (9, .int t0_200), (0, .ref (aT 0)), (2, .int p2), (3, .int x3_79), (4, .int x4_110), (6, .int x6_117)]) hx hb dX8_family_214 hl (by decide) rfl (fun ls hl => ?_)
                        have lp216 : ∀ (n216 : Nat) (x10_216 : Int32) (yT25_216 : (Nat → Int32)) (H : Heap) (locs : List Loc) (ls : Array Slot), Wd G A s [wMod cI cZ aT yT0_200 T_undoes T_kept T_persons T_family T_gives T_warm T_rumour T_seen T_seenOf T_seenBehind T_seenHas T_text T_texted T_place T_number T_readPersons T_readKind T_readComes T_readFamily T_readGives T_readWarm T_readRumour yT23_79 yT24_180 yT25_216] H locs → lv_has ls 11 [(0, .ref (aT 0)), (2, .int p2), (3, .int x3_79), (4, .int x4_110), (5, .int t0_200), (6, .int x6_117), (10, .int x10_216)] → MX8_family_l216 x3_79 x6_117 (MX8_family_l117 N T_persons T_family T_gives T_warm T_rumour p2 x3_79 yT23_79 x4_110 n117) yT24_180 yT0_200 t0_200 n216 x10_216 yT25_216 = some rr → W p l e (rmO 6 144) s m ([.ref (aT 0), .int p1, .int p2] : List Value).toArray below meth c H locs 0 0 (MQ below (qI G rr.1 [wMod cI cZ aT rr.2.1 T_undoes T_kept T_persons T_family T_gives T_warm T_rumour T_seen T_seenOf T_seenBehind T_seenHas T_text T_texted T_place T_number T_readPersons T_readKind T_readComes T_readFamily T_readGives T_readWarm T_readRumour rr.2.2.1 rr.2.2.2.1 rr.2.2.2.2] A) ([.ref (aT 0), .int p1, .int p2] : List Value).toArray s 0 0 A) (F0 m 216 ls []) := by
                          intro n216
                          induction n216 with
                          | zero =>
                            intro x10_216 yT25_216 H locs ls hW hl hM
                            rw [MX8_family_l216] at hM
                            cases hM
                          | succ n216 ih216 =>
                            intro x10_216 yT25_216 H locs ls hW hl hM
                            rw [MX8_family_l216] at hM
                            refine lv_iload hx hb dX8_family_216 (lv_at hl 6 rfl) ?_
                            refine lv_iload_n hx hb dX8_family_218 rfl (lv_at hl 2 rfl) ?_
                            refine lv_icmp_ge (tgt := 242) hx hb dX8_family_219 (by decide) (fun hc => ?_) (fun hc => ?_)
                            · have hM := (if_pos hc).symm.trans hM
                              exact j242 t0_200 yT25_216 _ _ _ hW (lv_sub hl [0, 1, 2, 3, 4, 5] rfl) hM
                            · have hM := (if_neg hc).symm.trans hM
                              refine lv_aload_n hx hb dX8_family_222 rfl (lv_at hl 0 rfl) ?_
                              refine g_get X hW 0 rfl rfl inX8 25 (by decide) q_842 rfl dX8_family_223 ?_
                              refine lv_iload hx hb dX8_family_226 (lv_at hl 6 rfl) ?_
                              refine lv_aload_n hx hb dX8_family_228 rfl (lv_at hl 0 rfl) ?_
                              refine g_get X hW 0 rfl rfl inX8 24 (by decide) q_841 rfl dX8_family_229 ?_
                              refine lv_iload hx hb dX8_family_232 (lv_at hl 6 rfl) ?_
                              obtain ⟨hi234, hM⟩ := MG_some hM
                              refine g_ald X hW 11 rfl hi234 dX8_family_234 ?_
                              obtain ⟨hi235, hM⟩ := MG_some hM
                              refine g_ast X hW 12 rfl hi235 [wMod cI cZ aT yT0_200 T_undoes T_kept T_persons T_family T_gives T_warm T_rumour T_seen T_seenOf T_seenBehind T_seenHas T_text T_texted T_place T_number T_readPersons T_readKind T_readComes T_readFamily T_readGives T_readWarm T_readRumour yT23_79 yT24_180 (upd yT25_216 x10_216.toNatClampNeg (yT24_180 x10_216.toNatClampNeg))] rfl dX8_family_235 (fun H locs hW => ?_)
                              refine lv_iinc (v := x10_216 + (1 : Int32)) (lv' := [(10, .int (x10_216 + (1 : Int32))), (0, .ref (aT 0)), (2, .int p2), (3, .int x3_79), (4, .int x4_110), (5, .int t0_200), (6, .int x6_117)]) hx hb dX8_family_236 hl (k := 6) rfl rfl (by decide) rfl (fun ls hl => ?_)
                              refine lv_goto (tgt := 216) hx hb dX8_family_239 (by decide) ?_
                              exact ih216 (x10_216 + (1 : Int32)) (upd yT25_216 x10_216.toNatClampNeg (yT24_180 x10_216.toNatClampNeg)) _ _ _ hW (lv_sub hl [1, 2, 3, 4, 5, 6, 0] rfl) hM
                        exact lp216 N (0 : Int32) yT25_117 _ _ _ hW (lv_sub hl [3, 4, 5, 6, 1, 7, 0] rfl) hM
                    refine lv_icmp_ne (tgt := 198) hx hb dX8_family_187 (by decide) (fun hc => ?_) (fun hc => ?_)
                    · have hM := (if_neg hc).symm.trans hM
                      refine lv_bipush (v := (100 : Int32)) hx hb dX8_family_198 (by decide) ?_
                      exact j200 yT0_117 (100 : Int32) _ _ _ hW (lv_sub hl [0, 1, 2, 3, 4, 5] rfl) hM
                    · have hM := (if_pos hc).symm.trans hM
                      refine lv_aload_n hx hb dX8_family_190 rfl (lv_at hl 0 rfl) ?_
                      refine lv_iload_n hx hb dX8_family_191 rfl (lv_at hl 2 rfl) ?_
                      obtain ⟨u192, hu192, hM⟩ := bind_some hM
                      refine g_callVi (rest := []) (gr := []) X hl.1 hW (c_X8_waitBy l G cI cZ cL N aT yT0_117 T_undoes T_kept T_persons T_family T_gives T_warm T_rumour T_seen T_seenOf T_seenBehind T_seenHas T_text T_texted T_place T_number T_readPersons T_readKind T_readComes T_readFamily T_readGives T_readWarm T_readRumour yT23_79 yT24_180 yT25_117 x3_79 u192 hu192) q_1092 q_1089 q_1091 q_49 q_67 hd_X8_waitBy rfl ⟨Nat.le_of_ble_eq_true rfl, Nat.le_of_ble_eq_true rfl⟩ ⟨Nat.zero_le _, Nat.zero_le _⟩ [0] [] [wMod cI cZ aT u192.2 T_undoes T_kept T_persons T_family T_gives T_warm T_rumour T_seen T_seenOf T_seenBehind T_seenHas T_text T_texted T_place T_number T_readPersons T_readKind T_readComes T_readFamily T_readGives T_readWarm T_readRumour yT23_79 yT24_180 yT25_117] ⟨pm_1_0, rfl, rfl, rfl⟩ ⟨pm_1_0, rfl, rfl, rfl⟩ (q0 := 0) rfl rfl rfl (Nat.le_of_ble_eq_true rfl) dX8_family_192 (fun H locs hW => ?_)
                      refine lv_goto (tgt := 200) hx hb dX8_family_195 (by decide) ?_
                      exact j200 u192.2 u192.1 _ _ _ hW (lv_sub hl [0, 1, 2, 3, 4, 5] rfl) hM
                  have lp136 : ∀ (n136 : Nat) (x7_136 : Int32) (x8_136 : Int32) (x9_136 : Int32) (yT24_136 : (Nat → Int32)) (H : Heap) (locs : List Loc) (ls : Array Slot), Wd G A s [wMod cI cZ aT yT0_117 T_undoes T_kept T_persons T_family T_gives T_warm T_rumour T_seen T_seenOf T_seenBehind T_seenHas T_text T_texted T_place T_number T_readPersons T_readKind T_readComes T_readFamily T_readGives T_readWarm T_readRumour yT23_79 yT24_136 yT25_117] H locs → lv_has ls 11 [(0, .ref (aT 0)), (2, .int p2), (3, .int x3_79), (4, .int x4_110), (5, .int x5_117), (6, .int x6_117), (7, .int x7_136), (8, .int x8_136), (9, .int x9_136)] → MX8_family_l136 N T_persons T_family T_gives T_warm T_rumour x3_79 yT23_79 x5_117 x6_117 yT0_117 yT25_117 (MX8_family_l117 N T_persons T_family T_gives T_warm T_rumour p2 x3_79 yT23_79 x4_110 n117) n136 x7_136 x8_136 x9_136 yT24_136 = some rr → W p l e (rmO 6 144) s m ([.ref (aT 0), .int p1, .int p2] : List Value).toArray below meth c H locs 0 0 (MQ below (qI G rr.1 [wMod cI cZ aT rr.2.1 T_undoes T_kept T_persons T_family T_gives T_warm T_rumour T_seen T_seenOf T_seenBehind T_seenHas T_text T_texted T_place T_number T_readPersons T_readKind T_readComes T_readFamily T_readGives T_readWarm T_readRumour rr.2.2.1 rr.2.2.2.1 rr.2.2.2.2] A) ([.ref (aT 0), .int p1, .int p2] : List Value).toArray s 0 0 A) (F0 m 136 ls []) := by
                    intro n136
                    induction n136 with
                    | zero =>
                      intro x7_136 x8_136 x9_136 yT24_136 H locs ls hW hl hM
                      rw [MX8_family_l136] at hM
                      cases hM
                    | succ n136 ih136 =>
                      intro x7_136 x8_136 x9_136 yT24_136 H locs ls hW hl hM
                      rw [MX8_family_l136] at hM
                      refine lv_iload hx hb dX8_family_136 (lv_at hl 8 rfl) ?_
                      refine lv_if_lt (tgt := 180) hx hb dX8_family_138 (by decide) (fun hc => ?_) (fun hc => ?_)
                      · have hM := (if_pos hc).symm.trans hM
                        exact j180 x8_136 yT24_136 _ _ _ hW (lv_sub hl [0, 1, 2, 3, 4, 5, 7] rfl) hM
                      · have hM := (if_neg hc).symm.trans hM
                        refine lv_aload_n hx hb dX8_family_141 rfl (lv_at hl 0 rfl) ?_
                        refine g_get X hW 0 rfl rfl inX8 24 (by decide) q_841 rfl dX8_family_142 ?_
                        refine lv_iload hx hb dX8_family_145 (lv_at hl 8 rfl) ?_
                        refine lv_aload_n hx hb dX8_family_147 rfl (lv_at hl 0 rfl) ?_
                        refine g_get X hW 0 rfl rfl inX8 23 (by decide) q_840 rfl dX8_family_148 ?_
                        refine lv_iload hx hb dX8_family_151 (lv_at hl 6 rfl) ?_
                        refine lv_iload_n hx hb dX8_family_153 rfl (lv_at hl 2 rfl) ?_
                        obtain ⟨hz154, hM⟩ := MD_some hM
                        refine lv_irem hx hb dX8_family_154 hz154 ?_
                        obtain ⟨hi155, hM⟩ := MG_some hM
                        refine g_ald X hW 10 rfl hi155 dX8_family_155 ?_
                        obtain ⟨hi156, hM⟩ := MG_some hM
                        refine g_ast X hW 11 rfl hi156 [wMod cI cZ aT yT0_117 T_undoes T_kept T_persons T_family T_gives T_warm T_rumour T_seen T_seenOf T_seenBehind T_seenHas T_text T_texted T_place T_number T_readPersons T_readKind T_readComes T_readFamily T_readGives T_readWarm T_readRumour yT23_79 (upd yT24_136 x9_136.toNatClampNeg (yT23_79 (x7_136 - x7_136 / x3_79 * x3_79).toNatClampNeg)) yT25_117] rfl dX8_family_156 (fun H locs hW => ?_)
                        refine lv_iload hx hb dX8_family_157 (lv_at hl 7 rfl) ?_
                        refine lv_iconst (v := (1 : Int32)) hx hb dX8_family_159 (by decide) ?_
                        refine lv_iload hx hb dX8_family_160 (lv_at hl 6 rfl) ?_
                        refine lv_iload_n hx hb dX8_family_162 rfl (lv_at hl 2 rfl) ?_
                        obtain ⟨hz163, hM⟩ := MD_some hM
                        refine lv_irem hx hb dX8_family_163 hz163 ?_
                        refine lv_ishl hx hb dX8_family_164 ?_
                        refine lv_ior hx hb dX8_family_165 ?_
                        refine lv_topi (fun z166 ez166 => ?_)
                        have hM := MLet_some hM z166 ez166
                        refine lv_istore (lv' := [(8, .int z166), (0, .ref (aT 0)), (2, .int p2), (3, .int x3_79), (4, .int x4_110), (5, .int x5_117), (6, .int x6_117), (7, .int x7_136), (9, .int x9_136)]) hx hb dX8_family_166 hl (by decide) rfl (fun ls hl => ?_)
                        refine lv_iload hx hb dX8_family_168 (lv_at hl 7 rfl) ?_
                        refine lv_iload_n hx hb dX8_family_170 rfl (lv_at hl 3 rfl) ?_
                        obtain ⟨hz171, hM⟩ := MD_some hM
                        refine lv_idiv hx hb dX8_family_171 hz171 ?_
                        refine lv_topi (fun z172 ez172 => ?_)
                        have hM := MLet_some hM z172 ez172
                        refine lv_istore (lv' := [(7, .int z172), (8, .int z166), (0, .ref (aT 0)), (2, .int p2), (3, .int x3_79), (4, .int x4_110), (5, .int x5_117), (6, .int x6_117), (9, .int x9_136)]) hx hb dX8_family_172 hl (by decide) rfl (fun ls hl => ?_)
                        refine lv_iinc (v := x9_136 + (-1 : Int32)) (lv' := [(9, .int (x9_136 + (-1 : Int32))), (7, .int z172), (8, .int z166), (0, .ref (aT 0)), (2, .int p2), (3, .int x3_79), (4, .int x4_110), (5, .int x5_117), (6, .int x6_117)]) hx hb dX8_family_174 hl (k := 8) rfl rfl (by decide) rfl (fun ls hl => ?_)
                        refine lv_goto (tgt := 136) hx hb dX8_family_177 (by decide) ?_
                        exact ih136 z172 z166 (x9_136 + (-1 : Int32)) (upd yT24_136 x9_136.toNatClampNeg (yT23_79 (x7_136 - x7_136 / x3_79 * x3_79).toNatClampNeg)) _ _ _ hW (lv_sub hl [3, 4, 5, 6, 7, 8, 1, 2, 0] rfl) hM
                  exact lp136 N x6_117 (0 : Int32) z134 yT24_117 _ _ _ hW (lv_sub hl [3, 4, 5, 6, 7, 8, 2, 1, 0] rfl) hM
            exact lp117 N (100 : Int32) (0 : Int32) T_w T_order T_bestOrder _ _ _ hW (lv_sub hl [2, 3, 4, 5, 1, 0] rfl) hM
          have lp92 : ∀ (n92 : Nat) (x4_92 : Int32) (x5_92 : Int32) (H : Heap) (locs : List Loc) (ls : Array Slot), Wd G A s [wMod cI cZ aT T_w T_undoes T_kept T_persons T_family T_gives T_warm T_rumour T_seen T_seenOf T_seenBehind T_seenHas T_text T_texted T_place T_number T_readPersons T_readKind T_readComes T_readFamily T_readGives T_readWarm T_readRumour yT23_79 T_order T_bestOrder] H locs → lv_has ls 11 [(0, .ref (aT 0)), (2, .int p2), (3, .int x3_79), (4, .int x4_92), (5, .int x5_92)] → MX8_family_l92 N T_w T_persons T_family T_gives T_warm T_rumour T_order T_bestOrder p2 x3_79 yT23_79 n92 x4_92 x5_92 = some rr → W p l e (rmO 6 144) s m ([.ref (aT 0), .int p1, .int p2] : List Value).toArray below meth c H locs 0 0 (MQ below (qI G rr.1 [wMod cI cZ aT rr.2.1 T_undoes T_kept T_persons T_family T_gives T_warm T_rumour T_seen T_seenOf T_seenBehind T_seenHas T_text T_texted T_place T_number T_readPersons T_readKind T_readComes T_readFamily T_readGives T_readWarm T_readRumour rr.2.2.1 rr.2.2.2.1 rr.2.2.2.2] A) ([.ref (aT 0), .int p1, .int p2] : List Value).toArray s 0 0 A) (F0 m 92 ls []) := by
            intro n92
            induction n92 with
            | zero =>
              intro x4_92 x5_92 H locs ls hW hl hM
              rw [MX8_family_l92] at hM
              cases hM
            | succ n92 ih92 =>
              intro x4_92 x5_92 H locs ls hW hl hM
              rw [MX8_family_l92] at hM
              refine lv_iload hx hb dX8_family_92 (lv_at hl 4 rfl) ?_
              refine lv_iload_n hx hb dX8_family_94 rfl (lv_at hl 2 rfl) ?_
              refine lv_icmp_ge (tgt := 110) hx hb dX8_family_95 (by decide) (fun hc => ?_) (fun hc => ?_)
              · have hM := (if_pos hc).symm.trans hM
                exact j110 x4_92 _ _ _ hW (lv_sub hl [0, 1, 2, 3] rfl) hM
              · have hM := (if_neg hc).symm.trans hM
                refine lv_iload hx hb dX8_family_98 (lv_at hl 3 rfl) ?_
                refine lv_iload_n hx hb dX8_family_100 rfl (lv_at hl 2 rfl) ?_
                refine lv_imul hx hb dX8_family_101 ?_
                refine lv_topi (fun z102 ez102 => ?_)
                have hM := MLet_some hM z102 ez102
                refine lv_istore (lv' := [(4, .int z102), (0, .ref (aT 0)), (2, .int p2), (3, .int x3_79), (5, .int x5_92)]) hx hb dX8_family_102 hl (by decide) rfl (fun ls hl => ?_)
                refine lv_iinc (v := x5_92 + (1 : Int32)) (lv' := [(5, .int (x5_92 + (1 : Int32))), (4, .int z102), (0, .ref (aT 0)), (2, .int p2), (3, .int x3_79)]) hx hb dX8_family_104 hl (k := 4) rfl rfl (by decide) rfl (fun ls hl => ?_)
                refine lv_goto (tgt := 92) hx hb dX8_family_107 (by decide) ?_
                exact ih92 z102 (x5_92 + (1 : Int32)) _ _ _ hW (lv_sub hl [2, 3, 4, 1, 0] rfl) hM
          exact lp92 N (1 : Int32) (0 : Int32) _ _ _ hW (lv_sub hl [2, 3, 4, 1, 0] rfl) hM
        · have hM := (if_pos hc).symm.trans hM
          refine lv_bipush (v := (-2 : Int32)) hx hb dX8_family_83 (by decide) ?_
          obtain rfl := Option.some.inj hM
          exact g_reti X hW rfl rfl dX8_family_85
      have lp31 : ∀ (n31 : Nat) (x3_31 : Int32) (x4_31 : Int32) (yT23_31 : (Nat → Int32)) (H : Heap) (locs : List Loc) (ls : Array Slot), Wd G A s [wMod cI cZ aT T_w T_undoes T_kept T_persons T_family T_gives T_warm T_rumour T_seen T_seenOf T_seenBehind T_seenHas T_text T_texted T_place T_number T_readPersons T_readKind T_readComes T_readFamily T_readGives T_readWarm T_readRumour yT23_31 T_order T_bestOrder] H locs → lv_has ls 11 [(0, .ref (aT 0)), (1, .int p1), (2, .int p2), (3, .int x3_31), (4, .int x4_31)] → MX8_family_l31 N T_w T_persons T_family T_gives T_warm T_rumour T_order T_bestOrder p1 p2 n31 x3_31 x4_31 yT23_31 = some rr → W p l e (rmO 6 144) s m ([.ref (aT 0), .int p1, .int p2] : List Value).toArray below meth c H locs 0 0 (MQ below (qI G rr.1 [wMod cI cZ aT rr.2.1 T_undoes T_kept T_persons T_family T_gives T_warm T_rumour T_seen T_seenOf T_seenBehind T_seenHas T_text T_texted T_place T_number T_readPersons T_readKind T_readComes T_readFamily T_readGives T_readWarm T_readRumour rr.2.2.1 rr.2.2.2.1 rr.2.2.2.2] A) ([.ref (aT 0), .int p1, .int p2] : List Value).toArray s 0 0 A) (F0 m 31 ls []) := by
        intro n31
        induction n31 with
        | zero =>
          intro x3_31 x4_31 yT23_31 H locs ls hW hl hM
          rw [MX8_family_l31] at hM
          cases hM
        | succ n31 ih31 =>
          intro x3_31 x4_31 yT23_31 H locs ls hW hl hM
          rw [MX8_family_l31] at hM
          refine lv_iload hx hb dX8_family_31 (lv_at hl 4 rfl) ?_
          refine lv_aload_n hx hb dX8_family_33 rfl (lv_at hl 0 rfl) ?_
          refine g_get X hW 0 rfl rfl inX8 3 (by decide) q_820 rfl dX8_family_34 ?_
          refine lv_icmp_ge (tgt := 79) hx hb dX8_family_37 (by decide) (fun hc => ?_) (fun hc => ?_)
          · have hM := (if_pos hc).symm.trans hM
            exact j79 x3_31 yT23_31 _ _ _ hW (lv_sub hl [0, 2, 3] rfl) hM
          · have hM := (if_neg hc).symm.trans hM
            refine lv_aload_n hx hb dX8_family_40 rfl (lv_at hl 0 rfl) ?_
            refine g_get X hW 0 rfl rfl inX8 4 (by decide) q_821 rfl dX8_family_41 ?_
            refine lv_iload hx hb dX8_family_44 (lv_at hl 4 rfl) ?_
            obtain ⟨hi46, hM⟩ := MG_some hM
            refine g_ald X hW 2 rfl hi46 dX8_family_46 ?_
            refine lv_iload_n hx hb dX8_family_47 rfl (lv_at hl 1 rfl) ?_
            have j73 : ∀ (x3_73 : Int32) (yT23_73 : (Nat → Int32)) (H : Heap) (locs : List Loc) (ls : Array Slot), Wd G A s [wMod cI cZ aT T_w T_undoes T_kept T_persons T_family T_gives T_warm T_rumour T_seen T_seenOf T_seenBehind T_seenHas T_text T_texted T_place T_number T_readPersons T_readKind T_readComes T_readFamily T_readGives T_readWarm T_readRumour yT23_73 T_order T_bestOrder] H locs → lv_has ls 11 [(0, .ref (aT 0)), (1, .int p1), (2, .int p2), (3, .int x3_73), (4, .int x4_31)] → MX8_family_j73 x4_31 (MX8_family_l31 N T_w T_persons T_family T_gives T_warm T_rumour T_order T_bestOrder p1 p2 n31) x3_73 yT23_73 = some rr → W p l e (rmO 6 144) s m ([.ref (aT 0), .int p1, .int p2] : List Value).toArray below meth c H locs 0 0 (MQ below (qI G rr.1 [wMod cI cZ aT rr.2.1 T_undoes T_kept T_persons T_family T_gives T_warm T_rumour T_seen T_seenOf T_seenBehind T_seenHas T_text T_texted T_place T_number T_readPersons T_readKind T_readComes T_readFamily T_readGives T_readWarm T_readRumour rr.2.2.1 rr.2.2.2.1 rr.2.2.2.2] A) ([.ref (aT 0), .int p1, .int p2] : List Value).toArray s 0 0 A) (F0 m 73 ls []) := by
              intro x3_73 yT23_73 H locs ls hW hl hM
              unfold MX8_family_j73 at hM
              refine lv_iinc (v := x4_31 + (1 : Int32)) (lv' := [(4, .int (x4_31 + (1 : Int32))), (0, .ref (aT 0)), (1, .int p1), (2, .int p2), (3, .int x3_73)]) hx hb dX8_family_73 hl (k := 4) rfl rfl (by decide) rfl (fun ls hl => ?_)
              refine lv_goto (tgt := 31) hx hb dX8_family_76 (by decide) ?_
              exact ih31 x3_73 (x4_31 + (1 : Int32)) yT23_73 _ _ _ hW (lv_sub hl [1, 2, 3, 4, 0] rfl) hM
            refine lv_icmp_ne (tgt := 73) hx hb dX8_family_48 (by decide) (fun hc => ?_) (fun hc => ?_)
            · have hM := (if_neg hc).symm.trans hM
              exact j73 x3_31 yT23_31 _ _ _ hW (lv_sub hl [0, 1, 2, 3, 4] rfl) hM
            · have hM := (if_pos hc).symm.trans hM
              refine lv_aload_n hx hb dX8_family_51 rfl (lv_at hl 0 rfl) ?_
              refine lv_iconst (v := (0 : Int32)) hx hb dX8_family_52 (by decide) ?_
              refine lv_iload hx hb dX8_family_53 (lv_at hl 4 rfl) ?_
              refine lv_iconst (v := (0 : Int32)) hx hb dX8_family_55 (by decide) ?_
              obtain ⟨u56, hu56, hM⟩ := bind_some hM
              refine g_callVi (rest := []) (gr := []) X hl.1 hW (c_X8_isWhere l G cI cZ cL N aT T_w T_undoes T_kept T_persons T_family T_gives T_warm T_rumour T_seen T_seenOf T_seenBehind T_seenHas T_text T_texted T_place T_number T_readPersons T_readKind T_readComes T_readFamily T_readGives T_readWarm T_readRumour yT23_31 T_order T_bestOrder (0 : Int32) x4_31 (0 : Int32) u56 hu56) q_1015 q_1012 q_1014 q_42 q_67 hd_X8_isWhere rfl ⟨Nat.le_of_ble_eq_true rfl, Nat.le_of_ble_eq_true rfl⟩ ⟨Nat.zero_le _, Nat.zero_le _⟩ [0] [] [wMod cI cZ aT T_w T_undoes T_kept T_persons T_family T_gives T_warm T_rumour T_seen T_seenOf T_seenBehind T_seenHas T_text T_texted T_place T_number T_readPersons T_readKind T_readComes T_readFamily T_readGives T_readWarm T_readRumour yT23_31 T_order T_bestOrder] ⟨pm_1_0, rfl, rfl, rfl⟩ ⟨pm_1_0, rfl, rfl, rfl⟩ (q0 := 0) rfl rfl rfl (Nat.le_of_ble_eq_true rfl) dX8_family_56 (fun H locs hW => ?_)
              refine lv_if_eq (tgt := 73) hx hb dX8_family_59 (by decide) (fun hc => ?_) (fun hc => ?_)
              · have hM := (if_pos hc).symm.trans hM
                exact j73 x3_31 yT23_31 _ _ _ hW (lv_sub hl [0, 1, 2, 3, 4] rfl) hM
              · have hM := (if_neg hc).symm.trans hM
                refine lv_aload_n hx hb dX8_family_62 rfl (lv_at hl 0 rfl) ?_
                refine g_get X hW 0 rfl rfl inX8 23 (by decide) q_840 rfl dX8_family_63 ?_
                refine lv_iload_n hx hb dX8_family_66 rfl (lv_at hl 3 rfl) ?_
                refine lv_iload hx hb dX8_family_67 (lv_at hl 4 rfl) ?_
                obtain ⟨hi69, hM⟩ := MG_some hM
                refine g_ast X hW 10 rfl hi69 [wMod cI cZ aT T_w T_undoes T_kept T_persons T_family T_gives T_warm T_rumour T_seen T_seenOf T_seenBehind T_seenHas T_text T_texted T_place T_number T_readPersons T_readKind T_readComes T_readFamily T_readGives T_readWarm T_readRumour (upd yT23_31 x3_31.toNatClampNeg x4_31) T_order T_bestOrder] rfl dX8_family_69 (fun H locs hW => ?_)
                refine lv_iinc (v := x3_31 + (1 : Int32)) (lv' := [(3, .int (x3_31 + (1 : Int32))), (0, .ref (aT 0)), (1, .int p1), (2, .int p2), (4, .int x4_31)]) hx hb dX8_family_70 hl (k := 3) rfl rfl (by decide) rfl (fun ls hl => ?_)
                exact j73 (x3_31 + (1 : Int32)) (upd yT23_31 x3_31.toNatClampNeg x4_31) _ _ _ hW (lv_sub hl [1, 2, 3, 0, 4] rfl) hM
      exact lp31 N (0 : Int32) (0 : Int32) T_toCome _ _ _ hW (lv_sub hl [2, 3, 4, 1, 0] rfl) hM
    · have hM := (if_pos hc).symm.trans hM
      refine lv_iconst (v := (-1 : Int32)) hx hb dX8_family_24 (by decide) ?_
      obtain rfl := Option.some.inj hM
      exact g_reti X hW rfl rfl dX8_family_25

def MX8_warmthOf_j40 (x3_40 : Int32) : Option (Int32) :=
  some (x3_40)
def MX8_warmthOf_j32 (x3_5 : Int32) (x4_5 : Int32) (rc5 : (Int32 → Int32 → Option (Int32))) (t1_32 : Int32) : Option (Int32) :=
  MLet (x3_5 + t1_32) (fun z33 => rc5 z33 (x4_5 + (1 : Int32)))
def MX8_warmthOf_l5 (T_warm : Int32) (p2 : Int32) : Nat → Int32 → Int32 → Option (Int32)
  | 0, _, _ => none
  | n5 + 1, x3_5, x4_5 =>
    if p2 ≤ x4_5 then (MX8_warmthOf_j40 x3_5) else (if T_warm ≤ x4_5 then (MX8_warmthOf_j32 x3_5 x4_5 (MX8_warmthOf_l5 T_warm p2 n5) (0 : Int32)) else (MX8_warmthOf_j32 x3_5 x4_5 (MX8_warmthOf_l5 T_warm p2 n5) (T_warm - x4_5)))
def MX8_warmthOf (N : Nat) (T_warm : Int32) (p1 : Int32) (p2 : Int32) : Option (Int32) :=
  MX8_warmthOf_l5 T_warm p2 N (0 : Int32) p1
set_option maxHeartbeats 4000000 in
set_option maxRecDepth 100000 in
theorem c_X8_warmthOf (l : Launch) (G : va_G) (cI cZ cL : ClassId) (N : Nat) (aT : Nat → Nat) (T_w : (Nat → Int32)) (T_undoes : Int32) (T_kept : Int32) (T_persons : Int32) (T_family : (Nat → Int32)) (T_gives : Int32) (T_warm : Int32) (T_rumour : Int32) (T_seen : Int32) (T_seenOf : (Nat → Int32)) (T_seenBehind : (Nat → Int32)) (T_seenHas : (Nat → Int32)) (T_text : (Nat → Int32)) (T_texted : Int32) (T_place : Int32) (T_number : Int32) (T_readPersons : Int32) (T_readKind : (Nat → Int32)) (T_readComes : (Nat → Int32)) (T_readFamily : (Nat → Int32)) (T_readGives : Int32) (T_readWarm : Int32) (T_readRumour : Int32) (T_toCome : (Nat → Int32)) (T_order : (Nat → Int32)) (T_bestOrder : (Nat → Int32)) (p1 : Int32) (p2 : Int32) (rr : Int32) (hM : MX8_warmthOf N T_warm p1 p2 = some rr) : CtI l yX8_warmthOf cX8_warmthOf 5 .int 0 0 G cI cZ cL [.ref (aT 0), .int p1, .int p2] [wMod cI cZ aT T_w T_undoes T_kept T_persons T_family T_gives T_warm T_rumour T_seen T_seenOf T_seenBehind T_seenHas T_text T_texted T_place T_number T_readPersons T_readKind T_readComes T_readFamily T_readGives T_readWarm T_readRumour T_toCome T_order T_bestOrder] rr [wMod cI cZ aT T_w T_undoes T_kept T_persons T_family T_gives T_warm T_rumour T_seen T_seenOf T_seenBehind T_seenHas T_text T_texted T_place T_number T_readPersons T_readKind T_readComes T_readFamily T_readGives T_readWarm T_readRumour T_toCome T_order T_bestOrder] := by
  refine ct_body (fun A => qI G rr [wMod cI cZ aT T_w T_undoes T_kept T_persons T_family T_gives T_warm T_rumour T_seen T_seenOf T_seenBehind T_seenHas T_text T_texted T_place T_number T_readPersons T_readKind T_readComes T_readFamily T_readGives T_readWarm T_readRumour T_toCome T_order T_bestOrder] A) (by decide) (Nat.le_of_ble_eq_true rfl) (fun p e s m below meth c A ls X hW hl => ?_)
  have hx := X.1
  have hb := X.2.1
  have hts := X.2.2.2.2.2.1
  have hown := X.2.2.2.2.2.2.1
  have hl : lv_has ls 5 [(0, .ref (aT 0)), (1, .int p1), (2, .int p2)] := hl
  unfold MX8_warmthOf at hM
  refine lv_iconst (v := (0 : Int32)) hx hb dX8_warmthOf_0 (by decide) ?_
  refine lv_istore_n (lv' := [(3, .int (0 : Int32)), (0, .ref (aT 0)), (1, .int p1), (2, .int p2)]) hx hb dX8_warmthOf_1 rfl hl (by decide) rfl (fun ls hl => ?_)
  refine lv_iload_n hx hb dX8_warmthOf_2 rfl (lv_at hl 2 rfl) ?_
  refine lv_istore (lv' := [(4, .int p1), (3, .int (0 : Int32)), (0, .ref (aT 0)), (1, .int p1), (2, .int p2)]) hx hb dX8_warmthOf_3 hl (by decide) rfl (fun ls hl => ?_)
  have j40 : ∀ (x3_40 : Int32) (H : Heap) (locs : List Loc) (ls : Array Slot), Wd G A s [wMod cI cZ aT T_w T_undoes T_kept T_persons T_family T_gives T_warm T_rumour T_seen T_seenOf T_seenBehind T_seenHas T_text T_texted T_place T_number T_readPersons T_readKind T_readComes T_readFamily T_readGives T_readWarm T_readRumour T_toCome T_order T_bestOrder] H locs → lv_has ls 5 [(3, .int x3_40)] → MX8_warmthOf_j40 x3_40 = some rr → W p l e (rmO 0 0) s m ([.ref (aT 0), .int p1, .int p2] : List Value).toArray below meth c H locs 0 0 (MQ below (qI G rr [wMod cI cZ aT T_w T_undoes T_kept T_persons T_family T_gives T_warm T_rumour T_seen T_seenOf T_seenBehind T_seenHas T_text T_texted T_place T_number T_readPersons T_readKind T_readComes T_readFamily T_readGives T_readWarm T_readRumour T_toCome T_order T_bestOrder] A) ([.ref (aT 0), .int p1, .int p2] : List Value).toArray s 0 0 A) (F0 m 40 ls []) := by
    intro x3_40 H locs ls hW hl hM
    unfold MX8_warmthOf_j40 at hM
    refine lv_iload_n hx hb dX8_warmthOf_40 rfl (lv_at hl 0 rfl) ?_
    obtain rfl := Option.some.inj hM
    exact g_reti X hW rfl rfl dX8_warmthOf_41
  have lp5 : ∀ (n5 : Nat) (x3_5 : Int32) (x4_5 : Int32) (H : Heap) (locs : List Loc) (ls : Array Slot), Wd G A s [wMod cI cZ aT T_w T_undoes T_kept T_persons T_family T_gives T_warm T_rumour T_seen T_seenOf T_seenBehind T_seenHas T_text T_texted T_place T_number T_readPersons T_readKind T_readComes T_readFamily T_readGives T_readWarm T_readRumour T_toCome T_order T_bestOrder] H locs → lv_has ls 5 [(0, .ref (aT 0)), (2, .int p2), (3, .int x3_5), (4, .int x4_5)] → MX8_warmthOf_l5 T_warm p2 n5 x3_5 x4_5 = some rr → W p l e (rmO 0 0) s m ([.ref (aT 0), .int p1, .int p2] : List Value).toArray below meth c H locs 0 0 (MQ below (qI G rr [wMod cI cZ aT T_w T_undoes T_kept T_persons T_family T_gives T_warm T_rumour T_seen T_seenOf T_seenBehind T_seenHas T_text T_texted T_place T_number T_readPersons T_readKind T_readComes T_readFamily T_readGives T_readWarm T_readRumour T_toCome T_order T_bestOrder] A) ([.ref (aT 0), .int p1, .int p2] : List Value).toArray s 0 0 A) (F0 m 5 ls []) := by
    intro n5
    induction n5 with
    | zero =>
      intro x3_5 x4_5 H locs ls hW hl hM
      rw [MX8_warmthOf_l5] at hM
      cases hM
    | succ n5 ih5 =>
      intro x3_5 x4_5 H locs ls hW hl hM
      rw [MX8_warmthOf_l5] at hM
      refine lv_iload hx hb dX8_warmthOf_5 (lv_at hl 3 rfl) ?_
      refine lv_iload_n hx hb dX8_warmthOf_7 rfl (lv_at hl 1 rfl) ?_
      refine lv_icmp_ge (tgt := 40) hx hb dX8_warmthOf_8 (by decide) (fun hc => ?_) (fun hc => ?_)
      · have hM := (if_pos hc).symm.trans hM
        exact j40 x3_5 _ _ _ hW (lv_sub hl [2] rfl) hM
      · have hM := (if_neg hc).symm.trans hM
        refine lv_iload_n hx hb dX8_warmthOf_11 rfl (lv_at hl 2 rfl) ?_
        refine lv_aload_n hx hb dX8_warmthOf_12 rfl (lv_at hl 0 rfl) ?_
        refine g_get X hW 0 rfl rfl inX8 6 (by decide) q_823 rfl dX8_warmthOf_13 ?_
        refine lv_iload hx hb dX8_warmthOf_16 (lv_at hl 3 rfl) ?_
        have j32 : ∀ (t1_32 : Int32) (H : Heap) (locs : List Loc) (ls : Array Slot), Wd G A s [wMod cI cZ aT T_w T_undoes T_kept T_persons T_family T_gives T_warm T_rumour T_seen T_seenOf T_seenBehind T_seenHas T_text T_texted T_place T_number T_readPersons T_readKind T_readComes T_readFamily T_readGives T_readWarm T_readRumour T_toCome T_order T_bestOrder] H locs → lv_has ls 5 [(0, .ref (aT 0)), (2, .int p2), (4, .int x4_5)] → MX8_warmthOf_j32 x3_5 x4_5 (MX8_warmthOf_l5 T_warm p2 n5) t1_32 = some rr → W p l e (rmO 0 0) s m ([.ref (aT 0), .int p1, .int p2] : List Value).toArray below meth c H locs 0 0 (MQ below (qI G rr [wMod cI cZ aT T_w T_undoes T_kept T_persons T_family T_gives T_warm T_rumour T_seen T_seenOf T_seenBehind T_seenHas T_text T_texted T_place T_number T_readPersons T_readKind T_readComes T_readFamily T_readGives T_readWarm T_readRumour T_toCome T_order T_bestOrder] A) ([.ref (aT 0), .int p1, .int p2] : List Value).toArray s 0 0 A) (F0 m 32 ls [.int t1_32, .int x3_5]) := by
          intro t1_32 H locs ls hW hl hM
          unfold MX8_warmthOf_j32 at hM
          refine lv_iadd hx hb dX8_warmthOf_32 ?_
          refine lv_topi (fun z33 ez33 => ?_)
          have hM := MLet_some hM z33 ez33
          refine lv_istore_n (lv' := [(3, .int z33), (0, .ref (aT 0)), (2, .int p2), (4, .int x4_5)]) hx hb dX8_warmthOf_33 rfl hl (by decide) rfl (fun ls hl => ?_)
          refine lv_iinc (v := x4_5 + (1 : Int32)) (lv' := [(4, .int (x4_5 + (1 : Int32))), (3, .int z33), (0, .ref (aT 0)), (2, .int p2)]) hx hb dX8_warmthOf_34 hl (k := 3) rfl rfl (by decide) rfl (fun ls hl => ?_)
          refine lv_goto (tgt := 5) hx hb dX8_warmthOf_37 (by decide) ?_
          exact ih5 z33 (x4_5 + (1 : Int32)) _ _ _ hW (lv_sub hl [2, 3, 1, 0] rfl) hM
        refine lv_icmp_le (tgt := 31) hx hb dX8_warmthOf_18 (by decide) (fun hc => ?_) (fun hc => ?_)
        · have hM := (if_pos hc).symm.trans hM
          refine lv_iconst (v := (0 : Int32)) hx hb dX8_warmthOf_31 (by decide) ?_
          exact j32 (0 : Int32) _ _ _ hW (lv_sub hl [0, 1, 3] rfl) hM
        · have hM := (if_neg hc).symm.trans hM
          refine lv_aload_n hx hb dX8_warmthOf_21 rfl (lv_at hl 0 rfl) ?_
          refine g_get X hW 0 rfl rfl inX8 6 (by decide) q_823 rfl dX8_warmthOf_22 ?_
          refine lv_iload hx hb dX8_warmthOf_25 (lv_at hl 3 rfl) ?_
          refine lv_isub hx hb dX8_warmthOf_27 ?_
          refine lv_goto (tgt := 32) hx hb dX8_warmthOf_28 (by decide) ?_
          exact j32 (T_warm - x4_5) _ _ _ hW (lv_sub hl [0, 1, 3] rfl) hM
  exact lp5 N (0 : Int32) p1 _ _ _ hW (lv_sub hl [2, 4, 1, 0] rfl) hM

def MX8_warmth_j37 (N : Nat) (T_warm : Int32) (yT0_37 : (Nat → Int32)) : Option (Int32 × (Nat → Int32)) :=
  MG (1 : Int32) 792 (MG (67 : Int32) 792 ((MX8_warmthOf N T_warm (yT0_37 (1 : Int32).toNatClampNeg) (yT0_37 (67 : Int32).toNatClampNeg)).bind (fun u51 => some (u51, yT0_37))))
def MX8_warmth_l20 (N : Nat) (T_persons : Int32) (T_family : (Nat → Int32)) (T_gives : Int32) (T_warm : Int32) (T_rumour : Int32) (p1 : Int32) : Nat → Int32 → (Nat → Int32) → Option (Int32 × (Nat → Int32))
  | 0, _, _ => none
  | n20 + 1, x2_20, yT0_20 =>
    if p1 ≤ x2_20 then (MX8_warmth_j37 N T_warm yT0_20) else ((MX8_passes N yT0_20 T_persons T_family T_gives T_warm T_rumour (66 : Int32)).bind (fun u28 => (MX8_warmth_l20 N T_persons T_family T_gives T_warm T_rumour p1 n20) (x2_20 + (1 : Int32)) u28))
def MX8_warmth (N : Nat) (T_w : (Nat → Int32)) (T_persons : Int32) (T_family : (Nat → Int32)) (T_gives : Int32) (T_warm : Int32) (T_rumour : Int32) (p1 : Int32) : Option (Int32 × (Nat → Int32)) :=
  (MX8_in N p1.toInt64 (0 : Int64) (60 : Int64)).bind (fun u6 => if u6 = 0 then some ((-1 : Int32), T_w) else ((MX8_tries N T_w).bind (fun u15 => MX8_warmth_l20 N T_persons T_family T_gives T_warm T_rumour p1 N (0 : Int32) u15)))
set_option maxHeartbeats 4000000 in
set_option maxRecDepth 100000 in
theorem c_X8_warmth (l : Launch) (G : va_G) (cI cZ cL : ClassId) (N : Nat) (aT : Nat → Nat) (T_w : (Nat → Int32)) (T_undoes : Int32) (T_kept : Int32) (T_persons : Int32) (T_family : (Nat → Int32)) (T_gives : Int32) (T_warm : Int32) (T_rumour : Int32) (T_seen : Int32) (T_seenOf : (Nat → Int32)) (T_seenBehind : (Nat → Int32)) (T_seenHas : (Nat → Int32)) (T_text : (Nat → Int32)) (T_texted : Int32) (T_place : Int32) (T_number : Int32) (T_readPersons : Int32) (T_readKind : (Nat → Int32)) (T_readComes : (Nat → Int32)) (T_readFamily : (Nat → Int32)) (T_readGives : Int32) (T_readWarm : Int32) (T_readRumour : Int32) (T_toCome : (Nat → Int32)) (T_order : (Nat → Int32)) (T_bestOrder : (Nat → Int32)) (p1 : Int32) (rr : Int32 × (Nat → Int32)) (hM : MX8_warmth N T_w T_persons T_family T_gives T_warm T_rumour p1 = some rr) : CtI l yX8_warmth cX8_warmth 3 .int 5 119 G cI cZ cL [.ref (aT 0), .int p1] [wMod cI cZ aT T_w T_undoes T_kept T_persons T_family T_gives T_warm T_rumour T_seen T_seenOf T_seenBehind T_seenHas T_text T_texted T_place T_number T_readPersons T_readKind T_readComes T_readFamily T_readGives T_readWarm T_readRumour T_toCome T_order T_bestOrder] rr.1 [wMod cI cZ aT rr.2 T_undoes T_kept T_persons T_family T_gives T_warm T_rumour T_seen T_seenOf T_seenBehind T_seenHas T_text T_texted T_place T_number T_readPersons T_readKind T_readComes T_readFamily T_readGives T_readWarm T_readRumour T_toCome T_order T_bestOrder] := by
  refine ct_body (fun A => qI G rr.1 [wMod cI cZ aT rr.2 T_undoes T_kept T_persons T_family T_gives T_warm T_rumour T_seen T_seenOf T_seenBehind T_seenHas T_text T_texted T_place T_number T_readPersons T_readKind T_readComes T_readFamily T_readGives T_readWarm T_readRumour T_toCome T_order T_bestOrder] A) (by decide) (Nat.le_of_ble_eq_true rfl) (fun p e s m below meth c A ls X hW hl => ?_)
  have hx := X.1
  have hb := X.2.1
  have hts := X.2.2.2.2.2.1
  have hown := X.2.2.2.2.2.2.1
  have hl : lv_has ls 3 [(0, .ref (aT 0)), (1, .int p1)] := hl
  unfold MX8_warmth at hM
  refine lv_iload_n hx hb dX8_warmth_0 rfl (lv_at hl 1 rfl) ?_
  refine lv_i2l hx hb dX8_warmth_1 rfl ?_
  refine lv_lconst (v := (0 : Int64)) hx hb dX8_warmth_2 (by decide) ?_
  refine lv_ldc2 (v := (60 : Int64)) hx hb hown (hts _ q_1048) dX8_warmth_3 ?_
  obtain ⟨u6, hu6, hM⟩ := bind_some hM
  refine g_callSi (rest := []) X hl.1 hW (c_X8_in l G cI cZ cL N p1.toInt64 (0 : Int64) (60 : Int64) u6 hu6) q_904 q_902 q_903 q_67 hd_X8_in rfl ⟨Nat.le_of_ble_eq_true rfl, Nat.le_of_ble_eq_true rfl⟩ ⟨Nat.zero_le _, Nat.zero_le _⟩ rfl (Nat.le_of_ble_eq_true rfl) dX8_warmth_6 (fun H locs hW => ?_)
  refine lv_if_ne (tgt := 14) hx hb dX8_warmth_9 (by decide) (fun hc => ?_) (fun hc => ?_)
  · have hM := (if_neg hc).symm.trans hM
    refine lv_aload_n hx hb dX8_warmth_14 rfl (lv_at hl 0 rfl) ?_
    obtain ⟨u15, hu15, hM⟩ := bind_some hM
    refine g_callVv (rest := []) (gr := []) X hl.1 hW (c_X8_tries l G cI cZ cL N aT T_w T_undoes T_kept T_persons T_family T_gives T_warm T_rumour T_seen T_seenOf T_seenBehind T_seenHas T_text T_texted T_place T_number T_readPersons T_readKind T_readComes T_readFamily T_readGives T_readWarm T_readRumour T_toCome T_order T_bestOrder u15 hu15) q_1054 q_1051 q_1053 q_45 q_67 hd_X8_tries rfl ⟨Nat.le_of_ble_eq_true rfl, Nat.le_of_ble_eq_true rfl⟩ ⟨Nat.zero_le _, Nat.zero_le _⟩ [0] [] [wMod cI cZ aT u15 T_undoes T_kept T_persons T_family T_gives T_warm T_rumour T_seen T_seenOf T_seenBehind T_seenHas T_text T_texted T_place T_number T_readPersons T_readKind T_readComes T_readFamily T_readGives T_readWarm T_readRumour T_toCome T_order T_bestOrder] ⟨pm_1_0, rfl, rfl, rfl⟩ ⟨pm_1_0, rfl, rfl, rfl⟩ (q0 := 0) rfl rfl rfl (Nat.le_of_ble_eq_true rfl) dX8_warmth_15 (fun H locs hW => ?_)
    refine lv_iconst (v := (0 : Int32)) hx hb dX8_warmth_18 (by decide) ?_
    refine lv_istore_n (lv' := [(2, .int (0 : Int32)), (0, .ref (aT 0)), (1, .int p1)]) hx hb dX8_warmth_19 rfl hl (by decide) rfl (fun ls hl => ?_)
    have j37 : ∀ (yT0_37 : (Nat → Int32)) (H : Heap) (locs : List Loc) (ls : Array Slot), Wd G A s [wMod cI cZ aT yT0_37 T_undoes T_kept T_persons T_family T_gives T_warm T_rumour T_seen T_seenOf T_seenBehind T_seenHas T_text T_texted T_place T_number T_readPersons T_readKind T_readComes T_readFamily T_readGives T_readWarm T_readRumour T_toCome T_order T_bestOrder] H locs → lv_has ls 3 [(0, .ref (aT 0))] → MX8_warmth_j37 N T_warm yT0_37 = some rr → W p l e (rmO 5 119) s m ([.ref (aT 0), .int p1] : List Value).toArray below meth c H locs 0 0 (MQ below (qI G rr.1 [wMod cI cZ aT rr.2 T_undoes T_kept T_persons T_family T_gives T_warm T_rumour T_seen T_seenOf T_seenBehind T_seenHas T_text T_texted T_place T_number T_readPersons T_readKind T_readComes T_readFamily T_readGives T_readWarm T_readRumour T_toCome T_order T_bestOrder] A) ([.ref (aT 0), .int p1] : List Value).toArray s 0 0 A) (F0 m 37 ls []) := by
      intro yT0_37 H locs ls hW hl hM
      unfold MX8_warmth_j37 at hM
      refine lv_aload_n hx hb dX8_warmth_37 rfl (lv_at hl 0 rfl) ?_
      refine lv_aload_n hx hb dX8_warmth_38 rfl (lv_at hl 0 rfl) ?_
      refine g_get X hW 0 rfl rfl inX8 0 (by decide) q_817 rfl dX8_warmth_39 ?_
      refine lv_iconst (v := (1 : Int32)) hx hb dX8_warmth_42 (by decide) ?_
      obtain ⟨hi43, hM⟩ := MG_some hM
      refine g_ald X hW 1 rfl hi43 dX8_warmth_43 ?_
      refine lv_aload_n hx hb dX8_warmth_44 rfl (lv_at hl 0 rfl) ?_
      refine g_get X hW 0 rfl rfl inX8 0 (by decide) q_817 rfl dX8_warmth_45 ?_
      refine lv_bipush (v := (67 : Int32)) hx hb dX8_warmth_48 (by decide) ?_
      obtain ⟨hi50, hM⟩ := MG_some hM
      refine g_ald X hW 1 rfl hi50 dX8_warmth_50 ?_
      obtain ⟨u51, hu51, hM⟩ := bind_some hM
      refine g_callVi (rest := []) (gr := []) X hl.1 hW (c_X8_warmthOf l G cI cZ cL N aT yT0_37 T_undoes T_kept T_persons T_family T_gives T_warm T_rumour T_seen T_seenOf T_seenBehind T_seenHas T_text T_texted T_place T_number T_readPersons T_readKind T_readComes T_readFamily T_readGives T_readWarm T_readRumour T_toCome T_order T_bestOrder (yT0_37 (1 : Int32).toNatClampNeg) (yT0_37 (67 : Int32).toNatClampNeg) u51 hu51) q_1100 q_1097 q_1099 q_50 q_67 hd_X8_warmthOf rfl ⟨Nat.le_of_ble_eq_true rfl, Nat.le_of_ble_eq_true rfl⟩ ⟨Nat.zero_le _, Nat.zero_le _⟩ [0] [] [wMod cI cZ aT yT0_37 T_undoes T_kept T_persons T_family T_gives T_warm T_rumour T_seen T_seenOf T_seenBehind T_seenHas T_text T_texted T_place T_number T_readPersons T_readKind T_readComes T_readFamily T_readGives T_readWarm T_readRumour T_toCome T_order T_bestOrder] ⟨pm_1_0, rfl, rfl, rfl⟩ ⟨pm_1_0, rfl, rfl, rfl⟩ (q0 := 0) rfl rfl rfl (Nat.le_of_ble_eq_true rfl) dX8_warmth_51 (fun H locs hW => ?_)
      obtain rfl := Option.some.inj hM
      exact g_reti X hW rfl rfl dX8_warmth_54
    have lp20 : ∀ (n20 : Nat) (x2_20 : Int32) (yT0_20 : (Nat → Int32)) (H : Heap) (locs : List Loc) (ls : Array Slot), Wd G A s [wMod cI cZ aT yT0_20 T_undoes T_kept T_persons T_family T_gives T_warm T_rumour T_seen T_seenOf T_seenBehind T_seenHas T_text T_texted T_place T_number T_readPersons T_readKind T_readComes T_readFamily T_readGives T_readWarm T_readRumour T_toCome T_order T_bestOrder] H locs → lv_has ls 3 [(0, .ref (aT 0)), (1, .int p1), (2, .int x2_20)] → MX8_warmth_l20 N T_persons T_family T_gives T_warm T_rumour p1 n20 x2_20 yT0_20 = some rr → W p l e (rmO 5 119) s m ([.ref (aT 0), .int p1] : List Value).toArray below meth c H locs 0 0 (MQ below (qI G rr.1 [wMod cI cZ aT rr.2 T_undoes T_kept T_persons T_family T_gives T_warm T_rumour T_seen T_seenOf T_seenBehind T_seenHas T_text T_texted T_place T_number T_readPersons T_readKind T_readComes T_readFamily T_readGives T_readWarm T_readRumour T_toCome T_order T_bestOrder] A) ([.ref (aT 0), .int p1] : List Value).toArray s 0 0 A) (F0 m 20 ls []) := by
      intro n20
      induction n20 with
      | zero =>
        intro x2_20 yT0_20 H locs ls hW hl hM
        rw [MX8_warmth_l20] at hM
        cases hM
      | succ n20 ih20 =>
        intro x2_20 yT0_20 H locs ls hW hl hM
        rw [MX8_warmth_l20] at hM
        refine lv_iload_n hx hb dX8_warmth_20 rfl (lv_at hl 2 rfl) ?_
        refine lv_iload_n hx hb dX8_warmth_21 rfl (lv_at hl 1 rfl) ?_
        refine lv_icmp_ge (tgt := 37) hx hb dX8_warmth_22 (by decide) (fun hc => ?_) (fun hc => ?_)
        · have hM := (if_pos hc).symm.trans hM
          exact j37 yT0_20 _ _ _ hW (lv_sub hl [0] rfl) hM
        · have hM := (if_neg hc).symm.trans hM
          refine lv_aload_n hx hb dX8_warmth_25 rfl (lv_at hl 0 rfl) ?_
          refine lv_bipush (v := (66 : Int32)) hx hb dX8_warmth_26 (by decide) ?_
          obtain ⟨u28, hu28, hM⟩ := bind_some hM
          refine g_callVv (rest := []) (gr := []) X hl.1 hW (c_X8_passes l G cI cZ cL N aT yT0_20 T_undoes T_kept T_persons T_family T_gives T_warm T_rumour T_seen T_seenOf T_seenBehind T_seenHas T_text T_texted T_place T_number T_readPersons T_readKind T_readComes T_readFamily T_readGives T_readWarm T_readRumour T_toCome T_order T_bestOrder (66 : Int32) u28 hu28) q_979 q_976 q_978 q_33 q_67 hd_X8_passes rfl ⟨Nat.le_of_ble_eq_true rfl, Nat.le_of_ble_eq_true rfl⟩ ⟨Nat.zero_le _, Nat.zero_le _⟩ [0] [] [wMod cI cZ aT u28 T_undoes T_kept T_persons T_family T_gives T_warm T_rumour T_seen T_seenOf T_seenBehind T_seenHas T_text T_texted T_place T_number T_readPersons T_readKind T_readComes T_readFamily T_readGives T_readWarm T_readRumour T_toCome T_order T_bestOrder] ⟨pm_1_0, rfl, rfl, rfl⟩ ⟨pm_1_0, rfl, rfl, rfl⟩ (q0 := 0) rfl rfl rfl (Nat.le_of_ble_eq_true rfl) dX8_warmth_28 (fun H locs hW => ?_)
          refine lv_iinc (v := x2_20 + (1 : Int32)) (lv' := [(2, .int (x2_20 + (1 : Int32))), (0, .ref (aT 0)), (1, .int p1)]) hx hb dX8_warmth_31 hl (k := 2) rfl rfl (by decide) rfl (fun ls hl => ?_)
          refine lv_goto (tgt := 20) hx hb dX8_warmth_34 (by decide) ?_
          exact ih20 (x2_20 + (1 : Int32)) u28 _ _ _ hW (lv_sub hl [1, 2, 0] rfl) hM
    exact lp20 N (0 : Int32) u15 _ _ _ hW (lv_sub hl [1, 2, 0] rfl) hM
  · have hM := (if_pos hc).symm.trans hM
    refine lv_iconst (v := (-1 : Int32)) hx hb dX8_warmth_12 (by decide) ?_
    obtain rfl := Option.some.inj hM
    exact g_reti X hW rfl rfl dX8_warmth_13

def MX8_see (N : Nat) (T_persons : Int32) (T_seen : Int32) (T_seenOf : (Nat → Int32)) (T_seenBehind : (Nat → Int32)) (T_seenHas : (Nat → Int32)) (p1 : Int32) (p2 : Int32) (p3 : Int32) : Option (Int32 × Int32 × (Nat → Int32) × (Nat → Int32) × (Nat → Int32)) :=
  (MX8_isPerson N T_persons p1).bind (fun u2 => if u2 = 0 then some ((-1 : Int32), T_seen, T_seenOf, T_seenBehind, T_seenHas) else ((MX8_in N p2.toInt64 (1 : Int64) (60 : Int64)).bind (fun u14 => if u14 = 0 then some ((-1 : Int32), T_seen, T_seenOf, T_seenBehind, T_seenHas) else (if T_seen = (6 : Int32) then some ((-3 : Int32), T_seen, T_seenOf, T_seenBehind, T_seenHas) else MG T_seen 6 (MG T_seen 6 (MG T_seen 6 (some ((T_seen + (1 : Int32)), (T_seen + (1 : Int32)), (upd T_seenOf T_seen.toNatClampNeg p1), (upd T_seenBehind T_seen.toNatClampNeg p2), (upd T_seenHas T_seen.toNatClampNeg (vp_nar .boolean p3))))))))))
set_option maxHeartbeats 4000000 in
set_option maxRecDepth 100000 in
theorem c_X8_see (l : Launch) (G : va_G) (cI cZ cL : ClassId) (N : Nat) (aT : Nat → Nat) (T_w : (Nat → Int32)) (T_undoes : Int32) (T_kept : Int32) (T_persons : Int32) (T_family : (Nat → Int32)) (T_gives : Int32) (T_warm : Int32) (T_rumour : Int32) (T_seen : Int32) (T_seenOf : (Nat → Int32)) (T_seenBehind : (Nat → Int32)) (T_seenHas : (Nat → Int32)) (T_text : (Nat → Int32)) (T_texted : Int32) (T_place : Int32) (T_number : Int32) (T_readPersons : Int32) (T_readKind : (Nat → Int32)) (T_readComes : (Nat → Int32)) (T_readFamily : (Nat → Int32)) (T_readGives : Int32) (T_readWarm : Int32) (T_readRumour : Int32) (T_toCome : (Nat → Int32)) (T_order : (Nat → Int32)) (T_bestOrder : (Nat → Int32)) (p1 : Int32) (p2 : Int32) (p3 : Int32) (rr : Int32 × Int32 × (Nat → Int32) × (Nat → Int32) × (Nat → Int32)) (hM : MX8_see N T_persons T_seen T_seenOf T_seenBehind T_seenHas p1 p2 p3 = some rr) : CtI l yX8_see cX8_see 4 .int 2 46 G cI cZ cL [.ref (aT 0), .int p1, .int p2, .int p3] [wMod cI cZ aT T_w T_undoes T_kept T_persons T_family T_gives T_warm T_rumour T_seen T_seenOf T_seenBehind T_seenHas T_text T_texted T_place T_number T_readPersons T_readKind T_readComes T_readFamily T_readGives T_readWarm T_readRumour T_toCome T_order T_bestOrder] rr.1 [wMod cI cZ aT T_w T_undoes T_kept T_persons T_family T_gives T_warm T_rumour rr.2.1 rr.2.2.1 rr.2.2.2.1 rr.2.2.2.2 T_text T_texted T_place T_number T_readPersons T_readKind T_readComes T_readFamily T_readGives T_readWarm T_readRumour T_toCome T_order T_bestOrder] := by
  refine ct_body (fun A => qI G rr.1 [wMod cI cZ aT T_w T_undoes T_kept T_persons T_family T_gives T_warm T_rumour rr.2.1 rr.2.2.1 rr.2.2.2.1 rr.2.2.2.2 T_text T_texted T_place T_number T_readPersons T_readKind T_readComes T_readFamily T_readGives T_readWarm T_readRumour T_toCome T_order T_bestOrder] A) (by decide) (Nat.le_of_ble_eq_true rfl) (fun p e s m below meth c A ls X hW hl => ?_)
  have hx := X.1
  have hb := X.2.1
  have hts := X.2.2.2.2.2.1
  have hown := X.2.2.2.2.2.2.1
  have hl : lv_has ls 4 [(0, .ref (aT 0)), (1, .int p1), (2, .int p2), (3, .int p3)] := hl
  unfold MX8_see at hM
  refine lv_aload_n hx hb dX8_see_0 rfl (lv_at hl 0 rfl) ?_
  refine lv_iload_n hx hb dX8_see_1 rfl (lv_at hl 1 rfl) ?_
  obtain ⟨u2, hu2, hM⟩ := bind_some hM
  refine g_callVi (rest := []) (gr := []) X hl.1 hW (c_X8_isPerson l G cI cZ cL N aT T_w T_undoes T_kept T_persons T_family T_gives T_warm T_rumour T_seen T_seenOf T_seenBehind T_seenHas T_text T_texted T_place T_number T_readPersons T_readKind T_readComes T_readFamily T_readGives T_readWarm T_readRumour T_toCome T_order T_bestOrder p1 u2 hu2) q_954 q_951 q_953 q_29 q_67 hd_X8_isPerson rfl ⟨Nat.le_of_ble_eq_true rfl, Nat.le_of_ble_eq_true rfl⟩ ⟨Nat.zero_le _, Nat.zero_le _⟩ [0] [] [wMod cI cZ aT T_w T_undoes T_kept T_persons T_family T_gives T_warm T_rumour T_seen T_seenOf T_seenBehind T_seenHas T_text T_texted T_place T_number T_readPersons T_readKind T_readComes T_readFamily T_readGives T_readWarm T_readRumour T_toCome T_order T_bestOrder] ⟨pm_1_0, rfl, rfl, rfl⟩ ⟨pm_1_0, rfl, rfl, rfl⟩ (q0 := 0) rfl rfl rfl (Nat.le_of_ble_eq_true rfl) dX8_see_2 (fun H locs hW => ?_)
  refine lv_if_eq (tgt := 20) hx hb dX8_see_5 (by decide) (fun hc => ?_) (fun hc => ?_)
  · have hM := (if_pos hc).symm.trans hM
    refine lv_iconst (v := (-1 : Int32)) hx hb dX8_see_20 (by decide) ?_
    obtain rfl := Option.some.inj hM
    exact g_reti X hW rfl rfl dX8_see_21
  · have hM := (if_neg hc).symm.trans hM
    refine lv_iload_n hx hb dX8_see_8 rfl (lv_at hl 2 rfl) ?_
    refine lv_i2l hx hb dX8_see_9 rfl ?_
    refine lv_lconst (v := (1 : Int64)) hx hb dX8_see_10 (by decide) ?_
    refine lv_ldc2 (v := (60 : Int64)) hx hb hown (hts _ q_1048) dX8_see_11 ?_
    obtain ⟨u14, hu14, hM⟩ := bind_some hM
    refine g_callSi (rest := []) X hl.1 hW (c_X8_in l G cI cZ cL N p2.toInt64 (1 : Int64) (60 : Int64) u14 hu14) q_904 q_902 q_903 q_67 hd_X8_in rfl ⟨Nat.le_of_ble_eq_true rfl, Nat.le_of_ble_eq_true rfl⟩ ⟨Nat.zero_le _, Nat.zero_le _⟩ rfl (Nat.le_of_ble_eq_true rfl) dX8_see_14 (fun H locs hW => ?_)
    refine lv_if_ne (tgt := 22) hx hb dX8_see_17 (by decide) (fun hc => ?_) (fun hc => ?_)
    · have hM := (if_neg hc).symm.trans hM
      refine lv_aload_n hx hb dX8_see_22 rfl (lv_at hl 0 rfl) ?_
      refine g_get X hW 0 rfl rfl inX8 8 (by decide) q_825 rfl dX8_see_23 ?_
      refine lv_bipush (v := (6 : Int32)) hx hb dX8_see_26 (by decide) ?_
      refine lv_icmp_ne (tgt := 34) hx hb dX8_see_28 (by decide) (fun hc => ?_) (fun hc => ?_)
      · have hM := (if_neg hc).symm.trans hM
        refine lv_aload_n hx hb dX8_see_34 rfl (lv_at hl 0 rfl) ?_
        refine g_get X hW 0 rfl rfl inX8 9 (by decide) q_826 rfl dX8_see_35 ?_
        refine lv_aload_n hx hb dX8_see_38 rfl (lv_at hl 0 rfl) ?_
        refine g_get X hW 0 rfl rfl inX8 8 (by decide) q_825 rfl dX8_see_39 ?_
        refine lv_iload_n hx hb dX8_see_42 rfl (lv_at hl 1 rfl) ?_
        obtain ⟨hi43, hM⟩ := MG_some hM
        refine g_ast X hW 3 rfl hi43 [wMod cI cZ aT T_w T_undoes T_kept T_persons T_family T_gives T_warm T_rumour T_seen (upd T_seenOf T_seen.toNatClampNeg p1) T_seenBehind T_seenHas T_text T_texted T_place T_number T_readPersons T_readKind T_readComes T_readFamily T_readGives T_readWarm T_readRumour T_toCome T_order T_bestOrder] rfl dX8_see_43 (fun H locs hW => ?_)
        refine lv_aload_n hx hb dX8_see_44 rfl (lv_at hl 0 rfl) ?_
        refine g_get X hW 0 rfl rfl inX8 10 (by decide) q_827 rfl dX8_see_45 ?_
        refine lv_aload_n hx hb dX8_see_48 rfl (lv_at hl 0 rfl) ?_
        refine g_get X hW 0 rfl rfl inX8 8 (by decide) q_825 rfl dX8_see_49 ?_
        refine lv_iload_n hx hb dX8_see_52 rfl (lv_at hl 2 rfl) ?_
        obtain ⟨hi53, hM⟩ := MG_some hM
        refine g_ast X hW 4 rfl hi53 [wMod cI cZ aT T_w T_undoes T_kept T_persons T_family T_gives T_warm T_rumour T_seen (upd T_seenOf T_seen.toNatClampNeg p1) (upd T_seenBehind T_seen.toNatClampNeg p2) T_seenHas T_text T_texted T_place T_number T_readPersons T_readKind T_readComes T_readFamily T_readGives T_readWarm T_readRumour T_toCome T_order T_bestOrder] rfl dX8_see_53 (fun H locs hW => ?_)
        refine lv_aload_n hx hb dX8_see_54 rfl (lv_at hl 0 rfl) ?_
        refine g_get X hW 0 rfl rfl inX8 11 (by decide) q_828 rfl dX8_see_55 ?_
        refine lv_aload_n hx hb dX8_see_58 rfl (lv_at hl 0 rfl) ?_
        refine g_get X hW 0 rfl rfl inX8 8 (by decide) q_825 rfl dX8_see_59 ?_
        refine lv_iload_n hx hb dX8_see_62 rfl (lv_at hl 3 rfl) ?_
        obtain ⟨hi63, hM⟩ := MG_some hM
        refine g_zast X hW 5 rfl hi63 [wMod cI cZ aT T_w T_undoes T_kept T_persons T_family T_gives T_warm T_rumour T_seen (upd T_seenOf T_seen.toNatClampNeg p1) (upd T_seenBehind T_seen.toNatClampNeg p2) (upd T_seenHas T_seen.toNatClampNeg (vp_nar .boolean p3)) T_text T_texted T_place T_number T_readPersons T_readKind T_readComes T_readFamily T_readGives T_readWarm T_readRumour T_toCome T_order T_bestOrder] rfl dX8_see_63 (fun H locs hW => ?_)
        refine lv_aload_n hx hb dX8_see_64 rfl (lv_at hl 0 rfl) ?_
        refine lv_dup hx hb dX8_see_65 rfl ?_
        refine g_get X hW 0 rfl rfl inX8 8 (by decide) q_825 rfl dX8_see_66 ?_
        refine lv_iconst (v := (1 : Int32)) hx hb dX8_see_69 (by decide) ?_
        refine lv_iadd hx hb dX8_see_70 ?_
        refine g_put X hW 0 rfl rfl inX8 tyX8 tyX8_ok nmX8 8 (by decide) q_825 rfl rfl (Nat.le_of_ble_eq_true rfl) [wMod cI cZ aT T_w T_undoes T_kept T_persons T_family T_gives T_warm T_rumour (T_seen + (1 : Int32)) (upd T_seenOf T_seen.toNatClampNeg p1) (upd T_seenBehind T_seen.toNatClampNeg p2) (upd T_seenHas T_seen.toNatClampNeg (vp_nar .boolean p3)) T_text T_texted T_place T_number T_readPersons T_readKind T_readComes T_readFamily T_readGives T_readWarm T_readRumour T_toCome T_order T_bestOrder] rfl dX8_see_71 (fun H locs hW => ?_)
        refine lv_aload_n hx hb dX8_see_74 rfl (lv_at hl 0 rfl) ?_
        refine g_get X hW 0 rfl rfl inX8 8 (by decide) q_825 rfl dX8_see_75 ?_
        obtain rfl := Option.some.inj hM
        exact g_reti X hW rfl rfl dX8_see_78
      · have hM := (if_pos hc).symm.trans hM
        refine lv_bipush (v := (-3 : Int32)) hx hb dX8_see_31 (by decide) ?_
        obtain rfl := Option.some.inj hM
        exact g_reti X hW rfl rfl dX8_see_33
    · have hM := (if_pos hc).symm.trans hM
      refine lv_iconst (v := (-1 : Int32)) hx hb dX8_see_20 (by decide) ?_
      obtain rfl := Option.some.inj hM
      exact g_reti X hW rfl rfl dX8_see_21

def MX8_forget (N : Nat) (T_seen : Int32) : Option (Int32 × Int32) :=
  some (T_seen, (0 : Int32))
set_option maxHeartbeats 4000000 in
set_option maxRecDepth 100000 in
theorem c_X8_forget (l : Launch) (G : va_G) (cI cZ cL : ClassId) (N : Nat) (aT : Nat → Nat) (T_w : (Nat → Int32)) (T_undoes : Int32) (T_kept : Int32) (T_persons : Int32) (T_family : (Nat → Int32)) (T_gives : Int32) (T_warm : Int32) (T_rumour : Int32) (T_seen : Int32) (T_seenOf : (Nat → Int32)) (T_seenBehind : (Nat → Int32)) (T_seenHas : (Nat → Int32)) (T_text : (Nat → Int32)) (T_texted : Int32) (T_place : Int32) (T_number : Int32) (T_readPersons : Int32) (T_readKind : (Nat → Int32)) (T_readComes : (Nat → Int32)) (T_readFamily : (Nat → Int32)) (T_readGives : Int32) (T_readWarm : Int32) (T_readRumour : Int32) (T_toCome : (Nat → Int32)) (T_order : (Nat → Int32)) (T_bestOrder : (Nat → Int32)) (rr : Int32 × Int32) (hM : MX8_forget N T_seen = some rr) : CtI l yX8_forget cX8_forget 2 .int 0 0 G cI cZ cL [.ref (aT 0)] [wMod cI cZ aT T_w T_undoes T_kept T_persons T_family T_gives T_warm T_rumour T_seen T_seenOf T_seenBehind T_seenHas T_text T_texted T_place T_number T_readPersons T_readKind T_readComes T_readFamily T_readGives T_readWarm T_readRumour T_toCome T_order T_bestOrder] rr.1 [wMod cI cZ aT T_w T_undoes T_kept T_persons T_family T_gives T_warm T_rumour rr.2 T_seenOf T_seenBehind T_seenHas T_text T_texted T_place T_number T_readPersons T_readKind T_readComes T_readFamily T_readGives T_readWarm T_readRumour T_toCome T_order T_bestOrder] := by
  refine ct_body (fun A => qI G rr.1 [wMod cI cZ aT T_w T_undoes T_kept T_persons T_family T_gives T_warm T_rumour rr.2 T_seenOf T_seenBehind T_seenHas T_text T_texted T_place T_number T_readPersons T_readKind T_readComes T_readFamily T_readGives T_readWarm T_readRumour T_toCome T_order T_bestOrder] A) (by decide) (Nat.le_of_ble_eq_true rfl) (fun p e s m below meth c A ls X hW hl => ?_)
  have hx := X.1
  have hb := X.2.1
  have hts := X.2.2.2.2.2.1
  have hown := X.2.2.2.2.2.2.1
  have hl : lv_has ls 2 [(0, .ref (aT 0))] := hl
  unfold MX8_forget at hM
  refine lv_aload_n hx hb dX8_forget_0 rfl (lv_at hl 0 rfl) ?_
  refine g_get X hW 0 rfl rfl inX8 8 (by decide) q_825 rfl dX8_forget_1 ?_
  refine lv_istore_n (lv' := [(1, .int T_seen), (0, .ref (aT 0))]) hx hb dX8_forget_4 rfl hl (by decide) rfl (fun ls hl => ?_)
  refine lv_aload_n hx hb dX8_forget_5 rfl (lv_at hl 1 rfl) ?_
  refine lv_iconst (v := (0 : Int32)) hx hb dX8_forget_6 (by decide) ?_
  refine g_put X hW 0 rfl rfl inX8 tyX8 tyX8_ok nmX8 8 (by decide) q_825 rfl rfl (Nat.le_of_ble_eq_true rfl) [wMod cI cZ aT T_w T_undoes T_kept T_persons T_family T_gives T_warm T_rumour (0 : Int32) T_seenOf T_seenBehind T_seenHas T_text T_texted T_place T_number T_readPersons T_readKind T_readComes T_readFamily T_readGives T_readWarm T_readRumour T_toCome T_order T_bestOrder] rfl dX8_forget_7 (fun H locs hW => ?_)
  refine lv_iload_n hx hb dX8_forget_10 rfl (lv_at hl 0 rfl) ?_
  obtain rfl := Option.some.inj hM
  exact g_reti X hW rfl rfl dX8_forget_11

def MX8_isSeen_j80 (x1_80 : Int32) (yT0_80 : (Nat → Int32)) : Option (Int32 × (Nat → Int32)) :=
  MB x1_80 (some (x1_80, yT0_80))
def MX8_isSeen_j74 (x2_4 : Int32) (rc4 : (Int32 → Int32 → (Nat → Int32) → Option (Int32 × (Nat → Int32)))) (u13 : (Nat → Int32)) (x1_74 : Int32) : Option (Int32 × (Nat → Int32)) :=
  rc4 x1_74 (x2_4 + (1 : Int32)) u13
def MX8_isSeen_j67 (x3_18 : Int32) (rc18 : (Int32 → Int32 → Option (Int32 × (Nat → Int32)))) (t0_67 : Int32) : Option (Int32 × (Nat → Int32)) :=
  rc18 t0_67 (x3_18 + (1 : Int32))
def MX8_isSeen_j66 (x3_18 : Int32) (rc18 : (Int32 → Int32 → Option (Int32 × (Nat → Int32)))) : Option (Int32 × (Nat → Int32)) :=
  MX8_isSeen_j67 x3_18 rc18 (0 : Int32)
def MX8_isSeen_j62 (x3_18 : Int32) (rc18 : (Int32 → Int32 → Option (Int32 × (Nat → Int32)))) : Option (Int32 × (Nat → Int32)) :=
  MX8_isSeen_j67 x3_18 rc18 (1 : Int32)
def MX8_isSeen_l18 (N : Nat) (T_seen : Int32) (T_seenOf : (Nat → Int32)) (T_seenBehind : (Nat → Int32)) (T_seenHas : (Nat → Int32)) (x2_4 : Int32) (rc4 : (Int32 → Int32 → (Nat → Int32) → Option (Int32 × (Nat → Int32)))) (u13 : (Nat → Int32)) : Nat → Int32 → Int32 → Option (Int32 × (Nat → Int32))
  | 0, _, _ => none
  | n18 + 1, x1_18, x3_18 =>
    if T_seen ≤ x3_18 then (MX8_isSeen_j74 x2_4 rc4 u13 x1_18) else (if x1_18 = 0 then MX8_isSeen_j66 x3_18 (MX8_isSeen_l18 N T_seen T_seenOf T_seenBehind T_seenHas x2_4 rc4 u13 n18) else MG x3_18 6 (if (T_seenBehind x3_18.toNatClampNeg) = x2_4 then MG x3_18 6 ((MX8_isWhere N u13 (66 : Int32) (T_seenOf x3_18.toNatClampNeg) (3 : Int32)).bind (fun u50 => MG x3_18 6 (if u50 = (T_seenHas x3_18.toNatClampNeg) then MX8_isSeen_j62 x3_18 (MX8_isSeen_l18 N T_seen T_seenOf T_seenBehind T_seenHas x2_4 rc4 u13 n18) else MX8_isSeen_j66 x3_18 (MX8_isSeen_l18 N T_seen T_seenOf T_seenBehind T_seenHas x2_4 rc4 u13 n18)))) else MX8_isSeen_j62 x3_18 (MX8_isSeen_l18 N T_seen T_seenOf T_seenBehind T_seenHas x2_4 rc4 u13 n18)))
def MX8_isSeen_l4 (N : Nat) (T_persons : Int32) (T_family : (Nat → Int32)) (T_gives : Int32) (T_warm : Int32) (T_rumour : Int32) (T_seen : Int32) (T_seenOf : (Nat → Int32)) (T_seenBehind : (Nat → Int32)) (T_seenHas : (Nat → Int32)) : Nat → Int32 → Int32 → (Nat → Int32) → Option (Int32 × (Nat → Int32))
  | 0, _, _, _ => none
  | n4 + 1, x1_4, x2_4, yT0_4 =>
    if (60 : Int32) < x2_4 then (MX8_isSeen_j80 x1_4 yT0_4) else ((MX8_passes N yT0_4 T_persons T_family T_gives T_warm T_rumour (66 : Int32)).bind (fun u13 => MX8_isSeen_l18 N T_seen T_seenOf T_seenBehind T_seenHas x2_4 (MX8_isSeen_l4 N T_persons T_family T_gives T_warm T_rumour T_seen T_seenOf T_seenBehind T_seenHas n4) u13 N x1_4 (0 : Int32)))
def MX8_isSeen (N : Nat) (T_w : (Nat → Int32)) (T_persons : Int32) (T_family : (Nat → Int32)) (T_gives : Int32) (T_warm : Int32) (T_rumour : Int32) (T_seen : Int32) (T_seenOf : (Nat → Int32)) (T_seenBehind : (Nat → Int32)) (T_seenHas : (Nat → Int32)) : Option (Int32 × (Nat → Int32)) :=
  MX8_isSeen_l4 N T_persons T_family T_gives T_warm T_rumour T_seen T_seenOf T_seenBehind T_seenHas N (1 : Int32) (1 : Int32) T_w
set_option maxHeartbeats 4000000 in
set_option maxRecDepth 100000 in
theorem c_X8_isSeen (l : Launch) (G : va_G) (cI cZ cL : ClassId) (N : Nat) (aT : Nat → Nat) (T_w : (Nat → Int32)) (T_undoes : Int32) (T_kept : Int32) (T_persons : Int32) (T_family : (Nat → Int32)) (T_gives : Int32) (T_warm : Int32) (T_rumour : Int32) (T_seen : Int32) (T_seenOf : (Nat → Int32)) (T_seenBehind : (Nat → Int32)) (T_seenHas : (Nat → Int32)) (T_text : (Nat → Int32)) (T_texted : Int32) (T_place : Int32) (T_number : Int32) (T_readPersons : Int32) (T_readKind : (Nat → Int32)) (T_readComes : (Nat → Int32)) (T_readFamily : (Nat → Int32)) (T_readGives : Int32) (T_readWarm : Int32) (T_readRumour : Int32) (T_toCome : (Nat → Int32)) (T_order : (Nat → Int32)) (T_bestOrder : (Nat → Int32)) (rr : Int32 × (Nat → Int32)) (hM : MX8_isSeen N T_w T_persons T_family T_gives T_warm T_rumour T_seen T_seenOf T_seenBehind T_seenHas = some rr) : CtI l yX8_isSeen cX8_isSeen 4 .boolean 5 119 G cI cZ cL [.ref (aT 0)] [wMod cI cZ aT T_w T_undoes T_kept T_persons T_family T_gives T_warm T_rumour T_seen T_seenOf T_seenBehind T_seenHas T_text T_texted T_place T_number T_readPersons T_readKind T_readComes T_readFamily T_readGives T_readWarm T_readRumour T_toCome T_order T_bestOrder] rr.1 [wMod cI cZ aT rr.2 T_undoes T_kept T_persons T_family T_gives T_warm T_rumour T_seen T_seenOf T_seenBehind T_seenHas T_text T_texted T_place T_number T_readPersons T_readKind T_readComes T_readFamily T_readGives T_readWarm T_readRumour T_toCome T_order T_bestOrder] := by
  refine ct_body (fun A => qI G rr.1 [wMod cI cZ aT rr.2 T_undoes T_kept T_persons T_family T_gives T_warm T_rumour T_seen T_seenOf T_seenBehind T_seenHas T_text T_texted T_place T_number T_readPersons T_readKind T_readComes T_readFamily T_readGives T_readWarm T_readRumour T_toCome T_order T_bestOrder] A) (by decide) (Nat.le_of_ble_eq_true rfl) (fun p e s m below meth c A ls X hW hl => ?_)
  have hx := X.1
  have hb := X.2.1
  have hts := X.2.2.2.2.2.1
  have hown := X.2.2.2.2.2.2.1
  have hl : lv_has ls 4 [(0, .ref (aT 0))] := hl
  unfold MX8_isSeen at hM
  refine lv_iconst (v := (1 : Int32)) hx hb dX8_isSeen_0 (by decide) ?_
  refine lv_istore_n (lv' := [(1, .int (1 : Int32)), (0, .ref (aT 0))]) hx hb dX8_isSeen_1 rfl hl (by decide) rfl (fun ls hl => ?_)
  refine lv_iconst (v := (1 : Int32)) hx hb dX8_isSeen_2 (by decide) ?_
  refine lv_istore_n (lv' := [(2, .int (1 : Int32)), (1, .int (1 : Int32)), (0, .ref (aT 0))]) hx hb dX8_isSeen_3 rfl hl (by decide) rfl (fun ls hl => ?_)
  have j80 : ∀ (x1_80 : Int32) (yT0_80 : (Nat → Int32)) (H : Heap) (locs : List Loc) (ls : Array Slot), Wd G A s [wMod cI cZ aT yT0_80 T_undoes T_kept T_persons T_family T_gives T_warm T_rumour T_seen T_seenOf T_seenBehind T_seenHas T_text T_texted T_place T_number T_readPersons T_readKind T_readComes T_readFamily T_readGives T_readWarm T_readRumour T_toCome T_order T_bestOrder] H locs → lv_has ls 4 [(1, .int x1_80)] → MX8_isSeen_j80 x1_80 yT0_80 = some rr → W p l e (rmO 5 119) s m ([.ref (aT 0)] : List Value).toArray below meth c H locs 0 0 (MQ below (qI G rr.1 [wMod cI cZ aT rr.2 T_undoes T_kept T_persons T_family T_gives T_warm T_rumour T_seen T_seenOf T_seenBehind T_seenHas T_text T_texted T_place T_number T_readPersons T_readKind T_readComes T_readFamily T_readGives T_readWarm T_readRumour T_toCome T_order T_bestOrder] A) ([.ref (aT 0)] : List Value).toArray s 0 0 A) (F0 m 80 ls []) := by
    intro x1_80 yT0_80 H locs ls hW hl hM
    unfold MX8_isSeen_j80 at hM
    refine lv_iload_n hx hb dX8_isSeen_80 rfl (lv_at hl 0 rfl) ?_
    obtain ⟨hn, hM⟩ := MB_some hM
    obtain rfl := Option.some.inj hM
    exact g_reti X hW rfl hn dX8_isSeen_81
  have lp4 : ∀ (n4 : Nat) (x1_4 : Int32) (x2_4 : Int32) (yT0_4 : (Nat → Int32)) (H : Heap) (locs : List Loc) (ls : Array Slot), Wd G A s [wMod cI cZ aT yT0_4 T_undoes T_kept T_persons T_family T_gives T_warm T_rumour T_seen T_seenOf T_seenBehind T_seenHas T_text T_texted T_place T_number T_readPersons T_readKind T_readComes T_readFamily T_readGives T_readWarm T_readRumour T_toCome T_order T_bestOrder] H locs → lv_has ls 4 [(0, .ref (aT 0)), (1, .int x1_4), (2, .int x2_4)] → MX8_isSeen_l4 N T_persons T_family T_gives T_warm T_rumour T_seen T_seenOf T_seenBehind T_seenHas n4 x1_4 x2_4 yT0_4 = some rr → W p l e (rmO 5 119) s m ([.ref (aT 0)] : List Value).toArray below meth c H locs 0 0 (MQ below (qI G rr.1 [wMod cI cZ aT rr.2 T_undoes T_kept T_persons T_family T_gives T_warm T_rumour T_seen T_seenOf T_seenBehind T_seenHas T_text T_texted T_place T_number T_readPersons T_readKind T_readComes T_readFamily T_readGives T_readWarm T_readRumour T_toCome T_order T_bestOrder] A) ([.ref (aT 0)] : List Value).toArray s 0 0 A) (F0 m 4 ls []) := by
    intro n4
    induction n4 with
    | zero =>
      intro x1_4 x2_4 yT0_4 H locs ls hW hl hM
      rw [MX8_isSeen_l4] at hM
      cases hM
    | succ n4 ih4 =>
      intro x1_4 x2_4 yT0_4 H locs ls hW hl hM
      rw [MX8_isSeen_l4] at hM
      refine lv_iload_n hx hb dX8_isSeen_4 rfl (lv_at hl 2 rfl) ?_
      refine lv_bipush (v := (60 : Int32)) hx hb dX8_isSeen_5 (by decide) ?_
      refine lv_icmp_gt (tgt := 80) hx hb dX8_isSeen_7 (by decide) (fun hc => ?_) (fun hc => ?_)
      · have hM := (if_pos hc).symm.trans hM
        exact j80 x1_4 yT0_4 _ _ _ hW (lv_sub hl [1] rfl) hM
      · have hM := (if_neg hc).symm.trans hM
        refine lv_aload_n hx hb dX8_isSeen_10 rfl (lv_at hl 0 rfl) ?_
        refine lv_bipush (v := (66 : Int32)) hx hb dX8_isSeen_11 (by decide) ?_
        obtain ⟨u13, hu13, hM⟩ := bind_some hM
        refine g_callVv (rest := []) (gr := []) X hl.1 hW (c_X8_passes l G cI cZ cL N aT yT0_4 T_undoes T_kept T_persons T_family T_gives T_warm T_rumour T_seen T_seenOf T_seenBehind T_seenHas T_text T_texted T_place T_number T_readPersons T_readKind T_readComes T_readFamily T_readGives T_readWarm T_readRumour T_toCome T_order T_bestOrder (66 : Int32) u13 hu13) q_979 q_976 q_978 q_33 q_67 hd_X8_passes rfl ⟨Nat.le_of_ble_eq_true rfl, Nat.le_of_ble_eq_true rfl⟩ ⟨Nat.zero_le _, Nat.zero_le _⟩ [0] [] [wMod cI cZ aT u13 T_undoes T_kept T_persons T_family T_gives T_warm T_rumour T_seen T_seenOf T_seenBehind T_seenHas T_text T_texted T_place T_number T_readPersons T_readKind T_readComes T_readFamily T_readGives T_readWarm T_readRumour T_toCome T_order T_bestOrder] ⟨pm_1_0, rfl, rfl, rfl⟩ ⟨pm_1_0, rfl, rfl, rfl⟩ (q0 := 0) rfl rfl rfl (Nat.le_of_ble_eq_true rfl) dX8_isSeen_13 (fun H locs hW => ?_)
        refine lv_iconst (v := (0 : Int32)) hx hb dX8_isSeen_16 (by decide) ?_
        refine lv_istore_n (lv' := [(3, .int (0 : Int32)), (0, .ref (aT 0)), (1, .int x1_4), (2, .int x2_4)]) hx hb dX8_isSeen_17 rfl hl (by decide) rfl (fun ls hl => ?_)
        have j74 : ∀ (x1_74 : Int32) (H : Heap) (locs : List Loc) (ls : Array Slot), Wd G A s [wMod cI cZ aT u13 T_undoes T_kept T_persons T_family T_gives T_warm T_rumour T_seen T_seenOf T_seenBehind T_seenHas T_text T_texted T_place T_number T_readPersons T_readKind T_readComes T_readFamily T_readGives T_readWarm T_readRumour T_toCome T_order T_bestOrder] H locs → lv_has ls 4 [(0, .ref (aT 0)), (1, .int x1_74), (2, .int x2_4)] → MX8_isSeen_j74 x2_4 (MX8_isSeen_l4 N T_persons T_family T_gives T_warm T_rumour T_seen T_seenOf T_seenBehind T_seenHas n4) u13 x1_74 = some rr → W p l e (rmO 5 119) s m ([.ref (aT 0)] : List Value).toArray below meth c H locs 0 0 (MQ below (qI G rr.1 [wMod cI cZ aT rr.2 T_undoes T_kept T_persons T_family T_gives T_warm T_rumour T_seen T_seenOf T_seenBehind T_seenHas T_text T_texted T_place T_number T_readPersons T_readKind T_readComes T_readFamily T_readGives T_readWarm T_readRumour T_toCome T_order T_bestOrder] A) ([.ref (aT 0)] : List Value).toArray s 0 0 A) (F0 m 74 ls []) := by
          intro x1_74 H locs ls hW hl hM
          unfold MX8_isSeen_j74 at hM
          refine lv_iinc (v := x2_4 + (1 : Int32)) (lv' := [(2, .int (x2_4 + (1 : Int32))), (0, .ref (aT 0)), (1, .int x1_74)]) hx hb dX8_isSeen_74 hl (k := 2) rfl rfl (by decide) rfl (fun ls hl => ?_)
          refine lv_goto (tgt := 4) hx hb dX8_isSeen_77 (by decide) ?_
          exact ih4 x1_74 (x2_4 + (1 : Int32)) u13 _ _ _ hW (lv_sub hl [1, 2, 0] rfl) hM
        have lp18 : ∀ (n18 : Nat) (x1_18 : Int32) (x3_18 : Int32) (H : Heap) (locs : List Loc) (ls : Array Slot), Wd G A s [wMod cI cZ aT u13 T_undoes T_kept T_persons T_family T_gives T_warm T_rumour T_seen T_seenOf T_seenBehind T_seenHas T_text T_texted T_place T_number T_readPersons T_readKind T_readComes T_readFamily T_readGives T_readWarm T_readRumour T_toCome T_order T_bestOrder] H locs → lv_has ls 4 [(0, .ref (aT 0)), (1, .int x1_18), (2, .int x2_4), (3, .int x3_18)] → MX8_isSeen_l18 N T_seen T_seenOf T_seenBehind T_seenHas x2_4 (MX8_isSeen_l4 N T_persons T_family T_gives T_warm T_rumour T_seen T_seenOf T_seenBehind T_seenHas n4) u13 n18 x1_18 x3_18 = some rr → W p l e (rmO 5 119) s m ([.ref (aT 0)] : List Value).toArray below meth c H locs 0 0 (MQ below (qI G rr.1 [wMod cI cZ aT rr.2 T_undoes T_kept T_persons T_family T_gives T_warm T_rumour T_seen T_seenOf T_seenBehind T_seenHas T_text T_texted T_place T_number T_readPersons T_readKind T_readComes T_readFamily T_readGives T_readWarm T_readRumour T_toCome T_order T_bestOrder] A) ([.ref (aT 0)] : List Value).toArray s 0 0 A) (F0 m 18 ls []) := by
          intro n18
          induction n18 with
          | zero =>
            intro x1_18 x3_18 H locs ls hW hl hM
            rw [MX8_isSeen_l18] at hM
            cases hM
          | succ n18 ih18 =>
            intro x1_18 x3_18 H locs ls hW hl hM
            rw [MX8_isSeen_l18] at hM
            refine lv_iload_n hx hb dX8_isSeen_18 rfl (lv_at hl 3 rfl) ?_
            refine lv_aload_n hx hb dX8_isSeen_19 rfl (lv_at hl 0 rfl) ?_
            refine g_get X hW 0 rfl rfl inX8 8 (by decide) q_825 rfl dX8_isSeen_20 ?_
            refine lv_icmp_ge (tgt := 74) hx hb dX8_isSeen_23 (by decide) (fun hc => ?_) (fun hc => ?_)
            · have hM := (if_pos hc).symm.trans hM
              exact j74 x1_18 _ _ _ hW (lv_sub hl [0, 1, 2] rfl) hM
            · have hM := (if_neg hc).symm.trans hM
              refine lv_iload_n hx hb dX8_isSeen_26 rfl (lv_at hl 1 rfl) ?_
              have j67 : ∀ (t0_67 : Int32) (H : Heap) (locs : List Loc) (ls : Array Slot), Wd G A s [wMod cI cZ aT u13 T_undoes T_kept T_persons T_family T_gives T_warm T_rumour T_seen T_seenOf T_seenBehind T_seenHas T_text T_texted T_place T_number T_readPersons T_readKind T_readComes T_readFamily T_readGives T_readWarm T_readRumour T_toCome T_order T_bestOrder] H locs → lv_has ls 4 [(0, .ref (aT 0)), (2, .int x2_4), (3, .int x3_18)] → MX8_isSeen_j67 x3_18 (MX8_isSeen_l18 N T_seen T_seenOf T_seenBehind T_seenHas x2_4 (MX8_isSeen_l4 N T_persons T_family T_gives T_warm T_rumour T_seen T_seenOf T_seenBehind T_seenHas n4) u13 n18) t0_67 = some rr → W p l e (rmO 5 119) s m ([.ref (aT 0)] : List Value).toArray below meth c H locs 0 0 (MQ below (qI G rr.1 [wMod cI cZ aT rr.2 T_undoes T_kept T_persons T_family T_gives T_warm T_rumour T_seen T_seenOf T_seenBehind T_seenHas T_text T_texted T_place T_number T_readPersons T_readKind T_readComes T_readFamily T_readGives T_readWarm T_readRumour T_toCome T_order T_bestOrder] A) ([.ref (aT 0)] : List Value).toArray s 0 0 A) (F0 m 67 ls [.int t0_67]) := by
                intro t0_67 H locs ls hW hl hM
                unfold MX8_isSeen_j67 at hM
                refine lv_istore_n (lv' := [(1, .int t0_67), (0, .ref (aT 0)), (2, .int x2_4), (3, .int x3_18)]) hx hb dX8_isSeen_67 rfl hl (by decide) rfl (fun ls hl => ?_)
                refine lv_iinc (v := x3_18 + (1 : Int32)) (lv' := [(3, .int (x3_18 + (1 : Int32))), (1, .int t0_67), (0, .ref (aT 0)), (2, .int x2_4)]) hx hb dX8_isSeen_68 hl (k := 3) rfl rfl (by decide) rfl (fun ls hl => ?_)
                refine lv_goto (tgt := 18) hx hb dX8_isSeen_71 (by decide) ?_
                exact ih18 t0_67 (x3_18 + (1 : Int32)) _ _ _ hW (lv_sub hl [2, 1, 3, 0] rfl) hM
              have j66 : ∀ (H : Heap) (locs : List Loc) (ls : Array Slot), Wd G A s [wMod cI cZ aT u13 T_undoes T_kept T_persons T_family T_gives T_warm T_rumour T_seen T_seenOf T_seenBehind T_seenHas T_text T_texted T_place T_number T_readPersons T_readKind T_readComes T_readFamily T_readGives T_readWarm T_readRumour T_toCome T_order T_bestOrder] H locs → lv_has ls 4 [(0, .ref (aT 0)), (2, .int x2_4), (3, .int x3_18)] → MX8_isSeen_j66 x3_18 (MX8_isSeen_l18 N T_seen T_seenOf T_seenBehind T_seenHas x2_4 (MX8_isSeen_l4 N T_persons T_family T_gives T_warm T_rumour T_seen T_seenOf T_seenBehind T_seenHas n4) u13 n18) = some rr → W p l e (rmO 5 119) s m ([.ref (aT 0)] : List Value).toArray below meth c H locs 0 0 (MQ below (qI G rr.1 [wMod cI cZ aT rr.2 T_undoes T_kept T_persons T_family T_gives T_warm T_rumour T_seen T_seenOf T_seenBehind T_seenHas T_text T_texted T_place T_number T_readPersons T_readKind T_readComes T_readFamily T_readGives T_readWarm T_readRumour T_toCome T_order T_bestOrder] A) ([.ref (aT 0)] : List Value).toArray s 0 0 A) (F0 m 66 ls []) := by
                intro H locs ls hW hl hM
                unfold MX8_isSeen_j66 at hM
                refine lv_iconst (v := (0 : Int32)) hx hb dX8_isSeen_66 (by decide) ?_
                exact j67 (0 : Int32) _ _ _ hW (lv_sub hl [0, 1, 2] rfl) hM
              refine lv_if_eq (tgt := 66) hx hb dX8_isSeen_27 (by decide) (fun hc => ?_) (fun hc => ?_)
              · have hM := (if_pos hc).symm.trans hM
                exact j66 _ _ _ hW (lv_sub hl [0, 2, 3] rfl) hM
              · have hM := (if_neg hc).symm.trans hM
                refine lv_aload_n hx hb dX8_isSeen_30 rfl (lv_at hl 0 rfl) ?_
                refine g_get X hW 0 rfl rfl inX8 10 (by decide) q_827 rfl dX8_isSeen_31 ?_
                refine lv_iload_n hx hb dX8_isSeen_34 rfl (lv_at hl 3 rfl) ?_
                obtain ⟨hi35, hM⟩ := MG_some hM
                refine g_ald X hW 4 rfl hi35 dX8_isSeen_35 ?_
                refine lv_iload_n hx hb dX8_isSeen_36 rfl (lv_at hl 2 rfl) ?_
                have j62 : ∀ (H : Heap) (locs : List Loc) (ls : Array Slot), Wd G A s [wMod cI cZ aT u13 T_undoes T_kept T_persons T_family T_gives T_warm T_rumour T_seen T_seenOf T_seenBehind T_seenHas T_text T_texted T_place T_number T_readPersons T_readKind T_readComes T_readFamily T_readGives T_readWarm T_readRumour T_toCome T_order T_bestOrder] H locs → lv_has ls 4 [(0, .ref (aT 0)), (2, .int x2_4), (3, .int x3_18)] → MX8_isSeen_j62 x3_18 (MX8_isSeen_l18 N T_seen T_seenOf T_seenBehind T_seenHas x2_4 (MX8_isSeen_l4 N T_persons T_family T_gives T_warm T_rumour T_seen T_seenOf T_seenBehind T_seenHas n4) u13 n18) = some rr → W p l e (rmO 5 119) s m ([.ref (aT 0)] : List Value).toArray below meth c H locs 0 0 (MQ below (qI G rr.1 [wMod cI cZ aT rr.2 T_undoes T_kept T_persons T_family T_gives T_warm T_rumour T_seen T_seenOf T_seenBehind T_seenHas T_text T_texted T_place T_number T_readPersons T_readKind T_readComes T_readFamily T_readGives T_readWarm T_readRumour T_toCome T_order T_bestOrder] A) ([.ref (aT 0)] : List Value).toArray s 0 0 A) (F0 m 62 ls []) := by
                  intro H locs ls hW hl hM
                  unfold MX8_isSeen_j62 at hM
                  refine lv_iconst (v := (1 : Int32)) hx hb dX8_isSeen_62 (by decide) ?_
                  refine lv_goto (tgt := 67) hx hb dX8_isSeen_63 (by decide) ?_
                  exact j67 (1 : Int32) _ _ _ hW (lv_sub hl [0, 1, 2] rfl) hM
                refine lv_icmp_ne (tgt := 62) hx hb dX8_isSeen_37 (by decide) (fun hc => ?_) (fun hc => ?_)
                · have hM := (if_neg hc).symm.trans hM
                  exact j62 _ _ _ hW (lv_sub hl [0, 2, 3] rfl) hM
                · have hM := (if_pos hc).symm.trans hM
                  refine lv_aload_n hx hb dX8_isSeen_40 rfl (lv_at hl 0 rfl) ?_
                  refine lv_bipush (v := (66 : Int32)) hx hb dX8_isSeen_41 (by decide) ?_
                  refine lv_aload_n hx hb dX8_isSeen_43 rfl (lv_at hl 0 rfl) ?_
                  refine g_get X hW 0 rfl rfl inX8 9 (by decide) q_826 rfl dX8_isSeen_44 ?_
                  refine lv_iload_n hx hb dX8_isSeen_47 rfl (lv_at hl 3 rfl) ?_
                  obtain ⟨hi48, hM⟩ := MG_some hM
                  refine g_ald X hW 3 rfl hi48 dX8_isSeen_48 ?_
                  refine lv_iconst (v := (3 : Int32)) hx hb dX8_isSeen_49 (by decide) ?_
                  obtain ⟨u50, hu50, hM⟩ := bind_some hM
                  refine g_callVi (rest := []) (gr := []) X hl.1 hW (c_X8_isWhere l G cI cZ cL N aT u13 T_undoes T_kept T_persons T_family T_gives T_warm T_rumour T_seen T_seenOf T_seenBehind T_seenHas T_text T_texted T_place T_number T_readPersons T_readKind T_readComes T_readFamily T_readGives T_readWarm T_readRumour T_toCome T_order T_bestOrder (66 : Int32) (T_seenOf x3_18.toNatClampNeg) (3 : Int32) u50 hu50) q_1015 q_1012 q_1014 q_42 q_67 hd_X8_isWhere rfl ⟨Nat.le_of_ble_eq_true rfl, Nat.le_of_ble_eq_true rfl⟩ ⟨Nat.zero_le _, Nat.zero_le _⟩ [0] [] [wMod cI cZ aT u13 T_undoes T_kept T_persons T_family T_gives T_warm T_rumour T_seen T_seenOf T_seenBehind T_seenHas T_text T_texted T_place T_number T_readPersons T_readKind T_readComes T_readFamily T_readGives T_readWarm T_readRumour T_toCome T_order T_bestOrder] ⟨pm_1_0, rfl, rfl, rfl⟩ ⟨pm_1_0, rfl, rfl, rfl⟩ (q0 := 0) rfl rfl rfl (Nat.le_of_ble_eq_true rfl) dX8_isSeen_50 (fun H locs hW => ?_)
                  refine lv_aload_n hx hb dX8_isSeen_53 rfl (lv_at hl 0 rfl) ?_
                  refine g_get X hW 0 rfl rfl inX8 11 (by decide) q_828 rfl dX8_isSeen_54 ?_
                  refine lv_iload_n hx hb dX8_isSeen_57 rfl (lv_at hl 3 rfl) ?_
                  obtain ⟨hi58, hM⟩ := MG_some hM
                  refine g_zald X hW 5 rfl hi58 dX8_isSeen_58 ?_
                  refine lv_icmp_ne (tgt := 66) hx hb dX8_isSeen_59 (by decide) (fun hc => ?_) (fun hc => ?_)
                  · have hM := (if_neg hc).symm.trans hM
                    exact j66 _ _ _ hW (lv_sub hl [0, 2, 3] rfl) hM
                  · have hM := (if_pos hc).symm.trans hM
                    exact j62 _ _ _ hW (lv_sub hl [0, 2, 3] rfl) hM
        exact lp18 N x1_4 (0 : Int32) _ _ _ hW (lv_sub hl [1, 2, 3, 0] rfl) hM
  exact lp4 N (1 : Int32) (1 : Int32) T_w _ _ _ hW (lv_sub hl [2, 1, 0] rfl) hM

def MX8_sneezed_j73 (x1_73 : Int32) (yT0_73 : (Nat → Int32)) : Option (Int32 × (Nat → Int32)) :=
  some (x1_73, yT0_73)
def MX8_sneezed_j67 (x2_21 : Int32) (rc21 : (Int32 → Int32 → (Nat → Int32) → Option (Int32 × (Nat → Int32)))) (x1_67 : Int32) (yT0_67 : (Nat → Int32)) : Option (Int32 × (Nat → Int32)) :=
  rc21 x1_67 (x2_21 + (1 : Int32)) yT0_67
def MX8_sneezed_j65 (x1_21 : Int32) (x2_21 : Int32) (rc21 : (Int32 → Int32 → (Nat → Int32) → Option (Int32 × (Nat → Int32)))) (u52 : Int32 × (Nat → Int32)) (t1_65 : Int32) : Option (Int32 × (Nat → Int32)) :=
  MLet (x1_21 ||| t1_65) (fun z66 => MX8_sneezed_j67 x2_21 rc21 z66 u52.2)
def MX8_sneezed_l21 (N : Nat) (T_persons : Int32) (T_family : (Nat → Int32)) (T_gives : Int32) (T_warm : Int32) (T_rumour : Int32) (T_seen : Int32) (T_seenOf : (Nat → Int32)) (T_seenBehind : (Nat → Int32)) (T_seenHas : (Nat → Int32)) : Nat → Int32 → Int32 → (Nat → Int32) → Option (Int32 × (Nat → Int32))
  | 0, _, _, _ => none
  | n21 + 1, x1_21, x2_21, yT0_21 =>
    if T_persons ≤ x2_21 then (MX8_sneezed_j73 x1_21 yT0_21) else ((MX8_isWhere N yT0_21 (0 : Int32) x2_21 (1 : Int32)).bind (fun u33 => if u33 = 0 then (MX8_sneezed_j67 x2_21 (MX8_sneezed_l21 N T_persons T_family T_gives T_warm T_rumour T_seen T_seenOf T_seenBehind T_seenHas n21) x1_21 yT0_21) else ((MX8_tries N yT0_21).bind (fun u40 => (MX8_sneezes N u40 (66 : Int32) x2_21).bind (fun u47 => (MX8_isSeen N u47 T_persons T_family T_gives T_warm T_rumour T_seen T_seenOf T_seenBehind T_seenHas).bind (fun u52 => if u52.1 = 0 then (MX8_sneezed_j65 x1_21 x2_21 (MX8_sneezed_l21 N T_persons T_family T_gives T_warm T_rumour T_seen T_seenOf T_seenBehind T_seenHas n21) u52 (0 : Int32)) else (MX8_sneezed_j65 x1_21 x2_21 (MX8_sneezed_l21 N T_persons T_family T_gives T_warm T_rumour T_seen T_seenOf T_seenBehind T_seenHas n21) u52 ((1 : Int32) <<< (x2_21 &&& 31)))))))))
def MX8_sneezed_j18 (N : Nat) (T_persons : Int32) (T_family : (Nat → Int32)) (T_gives : Int32) (T_warm : Int32) (T_rumour : Int32) (T_seen : Int32) (T_seenOf : (Nat → Int32)) (T_seenBehind : (Nat → Int32)) (T_seenHas : (Nat → Int32)) (u5 : Int32 × (Nat → Int32)) (t0_18 : Int32) : Option (Int32 × (Nat → Int32)) :=
  MX8_sneezed_l21 N T_persons T_family T_gives T_warm T_rumour T_seen T_seenOf T_seenBehind T_seenHas N t0_18 (0 : Int32) u5.2
def MX8_sneezed (N : Nat) (T_w : (Nat → Int32)) (T_persons : Int32) (T_family : (Nat → Int32)) (T_gives : Int32) (T_warm : Int32) (T_rumour : Int32) (T_seen : Int32) (T_seenOf : (Nat → Int32)) (T_seenBehind : (Nat → Int32)) (T_seenHas : (Nat → Int32)) : Option (Int32 × (Nat → Int32)) :=
  (MX8_tries N T_w).bind (fun u1 => (MX8_isSeen N u1 T_persons T_family T_gives T_warm T_rumour T_seen T_seenOf T_seenBehind T_seenHas).bind (fun u5 => if u5.1 = 0 then MX8_sneezed_j18 N T_persons T_family T_gives T_warm T_rumour T_seen T_seenOf T_seenBehind T_seenHas u5 (0 : Int32) else MX8_sneezed_j18 N T_persons T_family T_gives T_warm T_rumour T_seen T_seenOf T_seenBehind T_seenHas u5 (512 : Int32)))
set_option maxHeartbeats 4000000 in
set_option maxRecDepth 100000 in
theorem c_X8_sneezed (l : Launch) (G : va_G) (cI cZ cL : ClassId) (N : Nat) (aT : Nat → Nat) (T_w : (Nat → Int32)) (T_undoes : Int32) (T_kept : Int32) (T_persons : Int32) (T_family : (Nat → Int32)) (T_gives : Int32) (T_warm : Int32) (T_rumour : Int32) (T_seen : Int32) (T_seenOf : (Nat → Int32)) (T_seenBehind : (Nat → Int32)) (T_seenHas : (Nat → Int32)) (T_text : (Nat → Int32)) (T_texted : Int32) (T_place : Int32) (T_number : Int32) (T_readPersons : Int32) (T_readKind : (Nat → Int32)) (T_readComes : (Nat → Int32)) (T_readFamily : (Nat → Int32)) (T_readGives : Int32) (T_readWarm : Int32) (T_readRumour : Int32) (T_toCome : (Nat → Int32)) (T_order : (Nat → Int32)) (T_bestOrder : (Nat → Int32)) (rr : Int32 × (Nat → Int32)) (hM : MX8_sneezed N T_w T_persons T_family T_gives T_warm T_rumour T_seen T_seenOf T_seenBehind T_seenHas = some rr) : CtI l yX8_sneezed cX8_sneezed 3 .int 6 142 G cI cZ cL [.ref (aT 0)] [wMod cI cZ aT T_w T_undoes T_kept T_persons T_family T_gives T_warm T_rumour T_seen T_seenOf T_seenBehind T_seenHas T_text T_texted T_place T_number T_readPersons T_readKind T_readComes T_readFamily T_readGives T_readWarm T_readRumour T_toCome T_order T_bestOrder] rr.1 [wMod cI cZ aT rr.2 T_undoes T_kept T_persons T_family T_gives T_warm T_rumour T_seen T_seenOf T_seenBehind T_seenHas T_text T_texted T_place T_number T_readPersons T_readKind T_readComes T_readFamily T_readGives T_readWarm T_readRumour T_toCome T_order T_bestOrder] := by
  refine ct_body (fun A => qI G rr.1 [wMod cI cZ aT rr.2 T_undoes T_kept T_persons T_family T_gives T_warm T_rumour T_seen T_seenOf T_seenBehind T_seenHas T_text T_texted T_place T_number T_readPersons T_readKind T_readComes T_readFamily T_readGives T_readWarm T_readRumour T_toCome T_order T_bestOrder] A) (by decide) (Nat.le_of_ble_eq_true rfl) (fun p e s m below meth c A ls X hW hl => ?_)
  have hx := X.1
  have hb := X.2.1
  have hts := X.2.2.2.2.2.1
  have hown := X.2.2.2.2.2.2.1
  have hl : lv_has ls 3 [(0, .ref (aT 0))] := hl
  unfold MX8_sneezed at hM
  refine lv_aload_n hx hb dX8_sneezed_0 rfl (lv_at hl 0 rfl) ?_
  obtain ⟨u1, hu1, hM⟩ := bind_some hM
  refine g_callVv (rest := []) (gr := []) X hl.1 hW (c_X8_tries l G cI cZ cL N aT T_w T_undoes T_kept T_persons T_family T_gives T_warm T_rumour T_seen T_seenOf T_seenBehind T_seenHas T_text T_texted T_place T_number T_readPersons T_readKind T_readComes T_readFamily T_readGives T_readWarm T_readRumour T_toCome T_order T_bestOrder u1 hu1) q_1054 q_1051 q_1053 q_45 q_67 hd_X8_tries rfl ⟨Nat.le_of_ble_eq_true rfl, Nat.le_of_ble_eq_true rfl⟩ ⟨Nat.zero_le _, Nat.zero_le _⟩ [0] [] [wMod cI cZ aT u1 T_undoes T_kept T_persons T_family T_gives T_warm T_rumour T_seen T_seenOf T_seenBehind T_seenHas T_text T_texted T_place T_number T_readPersons T_readKind T_readComes T_readFamily T_readGives T_readWarm T_readRumour T_toCome T_order T_bestOrder] ⟨pm_1_0, rfl, rfl, rfl⟩ ⟨pm_1_0, rfl, rfl, rfl⟩ (q0 := 0) rfl rfl rfl (Nat.le_of_ble_eq_true rfl) dX8_sneezed_1 (fun H locs hW => ?_)
  refine lv_aload_n hx hb dX8_sneezed_4 rfl (lv_at hl 0 rfl) ?_
  obtain ⟨u5, hu5, hM⟩ := bind_some hM
  refine g_callVi (rest := []) (gr := []) X hl.1 hW (c_X8_isSeen l G cI cZ cL N aT u1 T_undoes T_kept T_persons T_family T_gives T_warm T_rumour T_seen T_seenOf T_seenBehind T_seenHas T_text T_texted T_place T_number T_readPersons T_readKind T_readComes T_readFamily T_readGives T_readWarm T_readRumour T_toCome T_order T_bestOrder u5 hu5) q_1116 q_1113 q_1115 q_51 q_67 hd_X8_isSeen rfl ⟨Nat.le_of_ble_eq_true rfl, Nat.le_of_ble_eq_true rfl⟩ ⟨Nat.zero_le _, Nat.zero_le _⟩ [0] [] [wMod cI cZ aT u5.2 T_undoes T_kept T_persons T_family T_gives T_warm T_rumour T_seen T_seenOf T_seenBehind T_seenHas T_text T_texted T_place T_number T_readPersons T_readKind T_readComes T_readFamily T_readGives T_readWarm T_readRumour T_toCome T_order T_bestOrder] ⟨pm_1_0, rfl, rfl, rfl⟩ ⟨pm_1_0, rfl, rfl, rfl⟩ (q0 := 0) rfl rfl rfl (Nat.le_of_ble_eq_true rfl) dX8_sneezed_5 (fun H locs hW => ?_)
  have j18 : ∀ (t0_18 : Int32) (H : Heap) (locs : List Loc) (ls : Array Slot), Wd G A s [wMod cI cZ aT u5.2 T_undoes T_kept T_persons T_family T_gives T_warm T_rumour T_seen T_seenOf T_seenBehind T_seenHas T_text T_texted T_place T_number T_readPersons T_readKind T_readComes T_readFamily T_readGives T_readWarm T_readRumour T_toCome T_order T_bestOrder] H locs → lv_has ls 3 [(0, .ref (aT 0))] → MX8_sneezed_j18 N T_persons T_family T_gives T_warm T_rumour T_seen T_seenOf T_seenBehind T_seenHas u5 t0_18 = some rr → W p l e (rmO 6 142) s m ([.ref (aT 0)] : List Value).toArray below meth c H locs 0 0 (MQ below (qI G rr.1 [wMod cI cZ aT rr.2 T_undoes T_kept T_persons T_family T_gives T_warm T_rumour T_seen T_seenOf T_seenBehind T_seenHas T_text T_texted T_place T_number T_readPersons T_readKind T_readComes T_readFamily T_readGives T_readWarm T_readRumour T_toCome T_order T_bestOrder] A) ([.ref (aT 0)] : List Value).toArray s 0 0 A) (F0 m 18 ls [.int t0_18]) := by
    intro t0_18 H locs ls hW hl hM
    unfold MX8_sneezed_j18 at hM
    refine lv_istore_n (lv' := [(1, .int t0_18), (0, .ref (aT 0))]) hx hb dX8_sneezed_18 rfl hl (by decide) rfl (fun ls hl => ?_)
    refine lv_iconst (v := (0 : Int32)) hx hb dX8_sneezed_19 (by decide) ?_
    refine lv_istore_n (lv' := [(2, .int (0 : Int32)), (1, .int t0_18), (0, .ref (aT 0))]) hx hb dX8_sneezed_20 rfl hl (by decide) rfl (fun ls hl => ?_)
    have j73 : ∀ (x1_73 : Int32) (yT0_73 : (Nat → Int32)) (H : Heap) (locs : List Loc) (ls : Array Slot), Wd G A s [wMod cI cZ aT yT0_73 T_undoes T_kept T_persons T_family T_gives T_warm T_rumour T_seen T_seenOf T_seenBehind T_seenHas T_text T_texted T_place T_number T_readPersons T_readKind T_readComes T_readFamily T_readGives T_readWarm T_readRumour T_toCome T_order T_bestOrder] H locs → lv_has ls 3 [(1, .int x1_73)] → MX8_sneezed_j73 x1_73 yT0_73 = some rr → W p l e (rmO 6 142) s m ([.ref (aT 0)] : List Value).toArray below meth c H locs 0 0 (MQ below (qI G rr.1 [wMod cI cZ aT rr.2 T_undoes T_kept T_persons T_family T_gives T_warm T_rumour T_seen T_seenOf T_seenBehind T_seenHas T_text T_texted T_place T_number T_readPersons T_readKind T_readComes T_readFamily T_readGives T_readWarm T_readRumour T_toCome T_order T_bestOrder] A) ([.ref (aT 0)] : List Value).toArray s 0 0 A) (F0 m 73 ls []) := by
      intro x1_73 yT0_73 H locs ls hW hl hM
      unfold MX8_sneezed_j73 at hM
      refine lv_iload_n hx hb dX8_sneezed_73 rfl (lv_at hl 0 rfl) ?_
      obtain rfl := Option.some.inj hM
      exact g_reti X hW rfl rfl dX8_sneezed_74
    have lp21 : ∀ (n21 : Nat) (x1_21 : Int32) (x2_21 : Int32) (yT0_21 : (Nat → Int32)) (H : Heap) (locs : List Loc) (ls : Array Slot), Wd G A s [wMod cI cZ aT yT0_21 T_undoes T_kept T_persons T_family T_gives T_warm T_rumour T_seen T_seenOf T_seenBehind T_seenHas T_text T_texted T_place T_number T_readPersons T_readKind T_readComes T_readFamily T_readGives T_readWarm T_readRumour T_toCome T_order T_bestOrder] H locs → lv_has ls 3 [(0, .ref (aT 0)), (1, .int x1_21), (2, .int x2_21)] → MX8_sneezed_l21 N T_persons T_family T_gives T_warm T_rumour T_seen T_seenOf T_seenBehind T_seenHas n21 x1_21 x2_21 yT0_21 = some rr → W p l e (rmO 6 142) s m ([.ref (aT 0)] : List Value).toArray below meth c H locs 0 0 (MQ below (qI G rr.1 [wMod cI cZ aT rr.2 T_undoes T_kept T_persons T_family T_gives T_warm T_rumour T_seen T_seenOf T_seenBehind T_seenHas T_text T_texted T_place T_number T_readPersons T_readKind T_readComes T_readFamily T_readGives T_readWarm T_readRumour T_toCome T_order T_bestOrder] A) ([.ref (aT 0)] : List Value).toArray s 0 0 A) (F0 m 21 ls []) := by
      intro n21
      induction n21 with
      | zero =>
        intro x1_21 x2_21 yT0_21 H locs ls hW hl hM
        rw [MX8_sneezed_l21] at hM
        cases hM
      | succ n21 ih21 =>
        intro x1_21 x2_21 yT0_21 H locs ls hW hl hM
        rw [MX8_sneezed_l21] at hM
        refine lv_iload_n hx hb dX8_sneezed_21 rfl (lv_at hl 2 rfl) ?_
        refine lv_aload_n hx hb dX8_sneezed_22 rfl (lv_at hl 0 rfl) ?_
        refine g_get X hW 0 rfl rfl inX8 3 (by decide) q_820 rfl dX8_sneezed_23 ?_
        refine lv_icmp_ge (tgt := 73) hx hb dX8_sneezed_26 (by decide) (fun hc => ?_) (fun hc => ?_)
        · have hM := (if_pos hc).symm.trans hM
          exact j73 x1_21 yT0_21 _ _ _ hW (lv_sub hl [1] rfl) hM
        · have hM := (if_neg hc).symm.trans hM
          refine lv_aload_n hx hb dX8_sneezed_29 rfl (lv_at hl 0 rfl) ?_
          refine lv_iconst (v := (0 : Int32)) hx hb dX8_sneezed_30 (by decide) ?_
          refine lv_iload_n hx hb dX8_sneezed_31 rfl (lv_at hl 2 rfl) ?_
          refine lv_iconst (v := (1 : Int32)) hx hb dX8_sneezed_32 (by decide) ?_
          obtain ⟨u33, hu33, hM⟩ := bind_some hM
          refine g_callVi (rest := []) (gr := []) X hl.1 hW (c_X8_isWhere l G cI cZ cL N aT yT0_21 T_undoes T_kept T_persons T_family T_gives T_warm T_rumour T_seen T_seenOf T_seenBehind T_seenHas T_text T_texted T_place T_number T_readPersons T_readKind T_readComes T_readFamily T_readGives T_readWarm T_readRumour T_toCome T_order T_bestOrder (0 : Int32) x2_21 (1 : Int32) u33 hu33) q_1015 q_1012 q_1014 q_42 q_67 hd_X8_isWhere rfl ⟨Nat.le_of_ble_eq_true rfl, Nat.le_of_ble_eq_true rfl⟩ ⟨Nat.zero_le _, Nat.zero_le _⟩ [0] [] [wMod cI cZ aT yT0_21 T_undoes T_kept T_persons T_family T_gives T_warm T_rumour T_seen T_seenOf T_seenBehind T_seenHas T_text T_texted T_place T_number T_readPersons T_readKind T_readComes T_readFamily T_readGives T_readWarm T_readRumour T_toCome T_order T_bestOrder] ⟨pm_1_0, rfl, rfl, rfl⟩ ⟨pm_1_0, rfl, rfl, rfl⟩ (q0 := 0) rfl rfl rfl (Nat.le_of_ble_eq_true rfl) dX8_sneezed_33 (fun H locs hW => ?_)
          have j67 : ∀ (x1_67 : Int32) (yT0_67 : (Nat → Int32)) (H : Heap) (locs : List Loc) (ls : Array Slot), Wd G A s [wMod cI cZ aT yT0_67 T_undoes T_kept T_persons T_family T_gives T_warm T_rumour T_seen T_seenOf T_seenBehind T_seenHas T_text T_texted T_place T_number T_readPersons T_readKind T_readComes T_readFamily T_readGives T_readWarm T_readRumour T_toCome T_order T_bestOrder] H locs → lv_has ls 3 [(0, .ref (aT 0)), (1, .int x1_67), (2, .int x2_21)] → MX8_sneezed_j67 x2_21 (MX8_sneezed_l21 N T_persons T_family T_gives T_warm T_rumour T_seen T_seenOf T_seenBehind T_seenHas n21) x1_67 yT0_67 = some rr → W p l e (rmO 6 142) s m ([.ref (aT 0)] : List Value).toArray below meth c H locs 0 0 (MQ below (qI G rr.1 [wMod cI cZ aT rr.2 T_undoes T_kept T_persons T_family T_gives T_warm T_rumour T_seen T_seenOf T_seenBehind T_seenHas T_text T_texted T_place T_number T_readPersons T_readKind T_readComes T_readFamily T_readGives T_readWarm T_readRumour T_toCome T_order T_bestOrder] A) ([.ref (aT 0)] : List Value).toArray s 0 0 A) (F0 m 67 ls []) := by
            intro x1_67 yT0_67 H locs ls hW hl hM
            unfold MX8_sneezed_j67 at hM
            refine lv_iinc (v := x2_21 + (1 : Int32)) (lv' := [(2, .int (x2_21 + (1 : Int32))), (0, .ref (aT 0)), (1, .int x1_67)]) hx hb dX8_sneezed_67 hl (k := 2) rfl rfl (by decide) rfl (fun ls hl => ?_)
            refine lv_goto (tgt := 21) hx hb dX8_sneezed_70 (by decide) ?_
            exact ih21 x1_67 (x2_21 + (1 : Int32)) yT0_67 _ _ _ hW (lv_sub hl [1, 2, 0] rfl) hM
          refine lv_if_eq (tgt := 67) hx hb dX8_sneezed_36 (by decide) (fun hc => ?_) (fun hc => ?_)
          · have hM := (if_pos hc).symm.trans hM
            exact j67 x1_21 yT0_21 _ _ _ hW (lv_sub hl [0, 1, 2] rfl) hM
          · have hM := (if_neg hc).symm.trans hM
            refine lv_aload_n hx hb dX8_sneezed_39 rfl (lv_at hl 0 rfl) ?_
            obtain ⟨u40, hu40, hM⟩ := bind_some hM
            refine g_callVv (rest := []) (gr := []) X hl.1 hW (c_X8_tries l G cI cZ cL N aT yT0_21 T_undoes T_kept T_persons T_family T_gives T_warm T_rumour T_seen T_seenOf T_seenBehind T_seenHas T_text T_texted T_place T_number T_readPersons T_readKind T_readComes T_readFamily T_readGives T_readWarm T_readRumour T_toCome T_order T_bestOrder u40 hu40) q_1054 q_1051 q_1053 q_45 q_67 hd_X8_tries rfl ⟨Nat.le_of_ble_eq_true rfl, Nat.le_of_ble_eq_true rfl⟩ ⟨Nat.zero_le _, Nat.zero_le _⟩ [0] [] [wMod cI cZ aT u40 T_undoes T_kept T_persons T_family T_gives T_warm T_rumour T_seen T_seenOf T_seenBehind T_seenHas T_text T_texted T_place T_number T_readPersons T_readKind T_readComes T_readFamily T_readGives T_readWarm T_readRumour T_toCome T_order T_bestOrder] ⟨pm_1_0, rfl, rfl, rfl⟩ ⟨pm_1_0, rfl, rfl, rfl⟩ (q0 := 0) rfl rfl rfl (Nat.le_of_ble_eq_true rfl) dX8_sneezed_40 (fun H locs hW => ?_)
            refine lv_aload_n hx hb dX8_sneezed_43 rfl (lv_at hl 0 rfl) ?_
            refine lv_bipush (v := (66 : Int32)) hx hb dX8_sneezed_44 (by decide) ?_
            refine lv_iload_n hx hb dX8_sneezed_46 rfl (lv_at hl 2 rfl) ?_
            obtain ⟨u47, hu47, hM⟩ := bind_some hM
            refine g_callVv (rest := []) (gr := []) X hl.1 hW (c_X8_sneezes l G cI cZ cL N aT u40 T_undoes T_kept T_persons T_family T_gives T_warm T_rumour T_seen T_seenOf T_seenBehind T_seenHas T_text T_texted T_place T_number T_readPersons T_readKind T_readComes T_readFamily T_readGives T_readWarm T_readRumour T_toCome T_order T_bestOrder (66 : Int32) x2_21 u47 hu47) q_999 q_996 q_998 q_38 q_67 hd_X8_sneezes rfl ⟨Nat.le_of_ble_eq_true rfl, Nat.le_of_ble_eq_true rfl⟩ ⟨Nat.zero_le _, Nat.zero_le _⟩ [0] [] [wMod cI cZ aT u47 T_undoes T_kept T_persons T_family T_gives T_warm T_rumour T_seen T_seenOf T_seenBehind T_seenHas T_text T_texted T_place T_number T_readPersons T_readKind T_readComes T_readFamily T_readGives T_readWarm T_readRumour T_toCome T_order T_bestOrder] ⟨pm_1_0, rfl, rfl, rfl⟩ ⟨pm_1_0, rfl, rfl, rfl⟩ (q0 := 0) rfl rfl rfl (Nat.le_of_ble_eq_true rfl) dX8_sneezed_47 (fun H locs hW => ?_)
            refine lv_iload_n hx hb dX8_sneezed_50 rfl (lv_at hl 1 rfl) ?_
            refine lv_aload_n hx hb dX8_sneezed_51 rfl (lv_at hl 0 rfl) ?_
            obtain ⟨u52, hu52, hM⟩ := bind_some hM
            refine g_callVi (rest := [.int x1_21]) (gr := []) X hl.1 hW (c_X8_isSeen l G cI cZ cL N aT u47 T_undoes T_kept T_persons T_family T_gives T_warm T_rumour T_seen T_seenOf T_seenBehind T_seenHas T_text T_texted T_place T_number T_readPersons T_readKind T_readComes T_readFamily T_readGives T_readWarm T_readRumour T_toCome T_order T_bestOrder u52 hu52) q_1116 q_1113 q_1115 q_51 q_67 hd_X8_isSeen rfl ⟨Nat.le_of_ble_eq_true rfl, Nat.le_of_ble_eq_true rfl⟩ ⟨Nat.zero_le _, Nat.zero_le _⟩ [0] [] [wMod cI cZ aT u52.2 T_undoes T_kept T_persons T_family T_gives T_warm T_rumour T_seen T_seenOf T_seenBehind T_seenHas T_text T_texted T_place T_number T_readPersons T_readKind T_readComes T_readFamily T_readGives T_readWarm T_readRumour T_toCome T_order T_bestOrder] ⟨pm_1_0, rfl, rfl, rfl⟩ ⟨pm_1_0, rfl, rfl, rfl⟩ (q0 := 0) rfl rfl rfl (Nat.le_of_ble_eq_true rfl) dX8_sneezed_52 (fun H locs hW => ?_)
            have j65 : ∀ (t1_65 : Int32) (H : Heap) (locs : List Loc) (ls : Array Slot), Wd G A s [wMod cI cZ aT u52.2 T_undoes T_kept T_persons T_family T_gives T_warm T_rumour T_seen T_seenOf T_seenBehind T_seenHas T_text T_texted T_place T_number T_readPersons T_readKind T_readComes T_readFamily T_readGives T_readWarm T_readRumour T_toCome T_order T_bestOrder] H locs → lv_has ls 3 [(0, .ref (aT 0)), (2, .int x2_21)] → MX8_sneezed_j65 x1_21 x2_21 (MX8_sneezed_l21 N T_persons T_family T_gives T_warm T_rumour T_seen T_seenOf T_seenBehind T_seenHas n21) u52 t1_65 = some rr → W p l e (rmO 6 142) s m ([.ref (aT 0)] : List Value).toArray below meth c H locs 0 0 (MQ below (qI G rr.1 [wMod cI cZ aT rr.2 T_undoes T_kept T_persons T_family T_gives T_warm T_rumour T_seen T_seenOf T_seenBehind T_seenHas T_text T_texted T_place T_number T_readPersons T_readKind T_readComes T_readFamily T_readGives T_readWarm T_readRumour T_toCome T_order T_bestOrder] A) ([.ref (aT 0)] : List Value).toArray s 0 0 A) (F0 m 65 ls [.int t1_65, .int x1_21]) := by
              intro t1_65 H locs ls hW hl hM
              unfold MX8_sneezed_j65 at hM
              refine lv_ior hx hb dX8_sneezed_65 ?_
              refine lv_topi (fun z66 ez66 => ?_)
              have hM := MLet_some hM z66 ez66
              refine lv_istore_n (lv' := [(1, .int z66), (0, .ref (aT 0)), (2, .int x2_21)]) hx hb dX8_sneezed_66 rfl hl (by decide) rfl (fun ls hl => ?_)
              exact j67 z66 u52.2 _ _ _ hW (lv_sub hl [1, 0, 2] rfl) hM
            refine lv_if_eq (tgt := 64) hx hb dX8_sneezed_55 (by decide) (fun hc => ?_) (fun hc => ?_)
            · have hM := (if_pos hc).symm.trans hM
              refine lv_iconst (v := (0 : Int32)) hx hb dX8_sneezed_64 (by decide) ?_
              exact j65 (0 : Int32) _ _ _ hW (lv_sub hl [0, 2] rfl) hM
            · have hM := (if_neg hc).symm.trans hM
              refine lv_iconst (v := (1 : Int32)) hx hb dX8_sneezed_58 (by decide) ?_
              refine lv_iload_n hx hb dX8_sneezed_59 rfl (lv_at hl 2 rfl) ?_
              refine lv_ishl hx hb dX8_sneezed_60 ?_
              refine lv_goto (tgt := 65) hx hb dX8_sneezed_61 (by decide) ?_
              exact j65 ((1 : Int32) <<< (x2_21 &&& 31)) _ _ _ hW (lv_sub hl [0, 2] rfl) hM
    exact lp21 N t0_18 (0 : Int32) u5.2 _ _ _ hW (lv_sub hl [2, 1, 0] rfl) hM
  refine lv_if_eq (tgt := 17) hx hb dX8_sneezed_8 (by decide) (fun hc => ?_) (fun hc => ?_)
  · have hM := (if_pos hc).symm.trans hM
    refine lv_iconst (v := (0 : Int32)) hx hb dX8_sneezed_17 (by decide) ?_
    exact j18 (0 : Int32) _ _ _ hW (lv_sub hl [0] rfl) hM
  · have hM := (if_neg hc).symm.trans hM
    refine lv_sipush (v := (512 : Int32)) hx hb dX8_sneezed_11 (by decide) ?_
    refine lv_goto (tgt := 18) hx hb dX8_sneezed_14 (by decide) ?_
    exact j18 (512 : Int32) _ _ _ hW (lv_sub hl [0] rfl) hM

def MX8_kinds_j56 (x2_56 : Int32) (yT0_56 : (Nat → Int32)) : Option (Int32 × (Nat → Int32)) :=
  some (x2_56, yT0_56)
def MX8_kinds_j48 (x2_14 : Int32) (x3_14 : Int32) (rc14 : (Int32 → Int32 → (Nat → Int32) → Option (Int32 × (Nat → Int32)))) (u35 : Int32 × (Nat → Int32)) (t1_48 : Int32) : Option (Int32 × (Nat → Int32)) :=
  MLet (x2_14 ||| t1_48) (fun z49 => rc14 z49 (x3_14 + (1 : Int32)) u35.2)
def MX8_kinds_l14 (N : Nat) (T_persons : Int32) (T_family : (Nat → Int32)) (T_gives : Int32) (T_warm : Int32) (T_rumour : Int32) (T_seen : Int32) (T_seenOf : (Nat → Int32)) (T_seenBehind : (Nat → Int32)) (T_seenHas : (Nat → Int32)) (p1 : Int32) : Nat → Int32 → Int32 → (Nat → Int32) → Option (Int32 × (Nat → Int32))
  | 0, _, _, _ => none
  | n14 + 1, x2_14, x3_14, yT0_14 =>
    if (3 : Int32) < x3_14 then (MX8_kinds_j56 x2_14 yT0_14) else ((MX8_tries N yT0_14).bind (fun u20 => MG ((123 : Int32) + p1) 792 ((MX8_isSeen N (upd u20 ((123 : Int32) + p1).toNatClampNeg x3_14) T_persons T_family T_gives T_warm T_rumour T_seen T_seenOf T_seenBehind T_seenHas).bind (fun u35 => if u35.1 = 0 then (MX8_kinds_j48 x2_14 x3_14 (MX8_kinds_l14 N T_persons T_family T_gives T_warm T_rumour T_seen T_seenOf T_seenBehind T_seenHas p1 n14) u35 (0 : Int32)) else (MX8_kinds_j48 x2_14 x3_14 (MX8_kinds_l14 N T_persons T_family T_gives T_warm T_rumour T_seen T_seenOf T_seenBehind T_seenHas p1 n14) u35 ((1 : Int32) <<< (x3_14 &&& 31)))))))
def MX8_kinds (N : Nat) (T_w : (Nat → Int32)) (T_persons : Int32) (T_family : (Nat → Int32)) (T_gives : Int32) (T_warm : Int32) (T_rumour : Int32) (T_seen : Int32) (T_seenOf : (Nat → Int32)) (T_seenBehind : (Nat → Int32)) (T_seenHas : (Nat → Int32)) (p1 : Int32) : Option (Int32 × (Nat → Int32)) :=
  (MX8_isPerson N T_persons p1).bind (fun u2 => if u2 = 0 then some ((-1 : Int32), T_w) else (MX8_kinds_l14 N T_persons T_family T_gives T_warm T_rumour T_seen T_seenOf T_seenBehind T_seenHas p1 N (0 : Int32) (0 : Int32) T_w))
set_option maxHeartbeats 4000000 in
set_option maxRecDepth 100000 in
theorem c_X8_kinds (l : Launch) (G : va_G) (cI cZ cL : ClassId) (N : Nat) (aT : Nat → Nat) (T_w : (Nat → Int32)) (T_undoes : Int32) (T_kept : Int32) (T_persons : Int32) (T_family : (Nat → Int32)) (T_gives : Int32) (T_warm : Int32) (T_rumour : Int32) (T_seen : Int32) (T_seenOf : (Nat → Int32)) (T_seenBehind : (Nat → Int32)) (T_seenHas : (Nat → Int32)) (T_text : (Nat → Int32)) (T_texted : Int32) (T_place : Int32) (T_number : Int32) (T_readPersons : Int32) (T_readKind : (Nat → Int32)) (T_readComes : (Nat → Int32)) (T_readFamily : (Nat → Int32)) (T_readGives : Int32) (T_readWarm : Int32) (T_readRumour : Int32) (T_toCome : (Nat → Int32)) (T_order : (Nat → Int32)) (T_bestOrder : (Nat → Int32)) (p1 : Int32) (rr : Int32 × (Nat → Int32)) (hM : MX8_kinds N T_w T_persons T_family T_gives T_warm T_rumour T_seen T_seenOf T_seenBehind T_seenHas p1 = some rr) : CtI l yX8_kinds cX8_kinds 4 .int 6 142 G cI cZ cL [.ref (aT 0), .int p1] [wMod cI cZ aT T_w T_undoes T_kept T_persons T_family T_gives T_warm T_rumour T_seen T_seenOf T_seenBehind T_seenHas T_text T_texted T_place T_number T_readPersons T_readKind T_readComes T_readFamily T_readGives T_readWarm T_readRumour T_toCome T_order T_bestOrder] rr.1 [wMod cI cZ aT rr.2 T_undoes T_kept T_persons T_family T_gives T_warm T_rumour T_seen T_seenOf T_seenBehind T_seenHas T_text T_texted T_place T_number T_readPersons T_readKind T_readComes T_readFamily T_readGives T_readWarm T_readRumour T_toCome T_order T_bestOrder] := by
  refine ct_body (fun A => qI G rr.1 [wMod cI cZ aT rr.2 T_undoes T_kept T_persons T_family T_gives T_warm T_rumour T_seen T_seenOf T_seenBehind T_seenHas T_text T_texted T_place T_number T_readPersons T_readKind T_readComes T_readFamily T_readGives T_readWarm T_readRumour T_toCome T_order T_bestOrder] A) (by decide) (Nat.le_of_ble_eq_true rfl) (fun p e s m below meth c A ls X hW hl => ?_)
  have hx := X.1
  have hb := X.2.1
  have hts := X.2.2.2.2.2.1
  have hown := X.2.2.2.2.2.2.1
  have hl : lv_has ls 4 [(0, .ref (aT 0)), (1, .int p1)] := hl
  unfold MX8_kinds at hM
  refine lv_aload_n hx hb dX8_kinds_0 rfl (lv_at hl 0 rfl) ?_
  refine lv_iload_n hx hb dX8_kinds_1 rfl (lv_at hl 1 rfl) ?_
  obtain ⟨u2, hu2, hM⟩ := bind_some hM
  refine g_callVi (rest := []) (gr := []) X hl.1 hW (c_X8_isPerson l G cI cZ cL N aT T_w T_undoes T_kept T_persons T_family T_gives T_warm T_rumour T_seen T_seenOf T_seenBehind T_seenHas T_text T_texted T_place T_number T_readPersons T_readKind T_readComes T_readFamily T_readGives T_readWarm T_readRumour T_toCome T_order T_bestOrder p1 u2 hu2) q_954 q_951 q_953 q_29 q_67 hd_X8_isPerson rfl ⟨Nat.le_of_ble_eq_true rfl, Nat.le_of_ble_eq_true rfl⟩ ⟨Nat.zero_le _, Nat.zero_le _⟩ [0] [] [wMod cI cZ aT T_w T_undoes T_kept T_persons T_family T_gives T_warm T_rumour T_seen T_seenOf T_seenBehind T_seenHas T_text T_texted T_place T_number T_readPersons T_readKind T_readComes T_readFamily T_readGives T_readWarm T_readRumour T_toCome T_order T_bestOrder] ⟨pm_1_0, rfl, rfl, rfl⟩ ⟨pm_1_0, rfl, rfl, rfl⟩ (q0 := 0) rfl rfl rfl (Nat.le_of_ble_eq_true rfl) dX8_kinds_2 (fun H locs hW => ?_)
  refine lv_if_ne (tgt := 10) hx hb dX8_kinds_5 (by decide) (fun hc => ?_) (fun hc => ?_)
  · have hM := (if_neg hc).symm.trans hM
    refine lv_iconst (v := (0 : Int32)) hx hb dX8_kinds_10 (by decide) ?_
    refine lv_istore_n (lv' := [(2, .int (0 : Int32)), (0, .ref (aT 0)), (1, .int p1)]) hx hb dX8_kinds_11 rfl hl (by decide) rfl (fun ls hl => ?_)
    refine lv_iconst (v := (0 : Int32)) hx hb dX8_kinds_12 (by decide) ?_
    refine lv_istore_n (lv' := [(3, .int (0 : Int32)), (2, .int (0 : Int32)), (0, .ref (aT 0)), (1, .int p1)]) hx hb dX8_kinds_13 rfl hl (by decide) rfl (fun ls hl => ?_)
    have j56 : ∀ (x2_56 : Int32) (yT0_56 : (Nat → Int32)) (H : Heap) (locs : List Loc) (ls : Array Slot), Wd G A s [wMod cI cZ aT yT0_56 T_undoes T_kept T_persons T_family T_gives T_warm T_rumour T_seen T_seenOf T_seenBehind T_seenHas T_text T_texted T_place T_number T_readPersons T_readKind T_readComes T_readFamily T_readGives T_readWarm T_readRumour T_toCome T_order T_bestOrder] H locs → lv_has ls 4 [(2, .int x2_56)] → MX8_kinds_j56 x2_56 yT0_56 = some rr → W p l e (rmO 6 142) s m ([.ref (aT 0), .int p1] : List Value).toArray below meth c H locs 0 0 (MQ below (qI G rr.1 [wMod cI cZ aT rr.2 T_undoes T_kept T_persons T_family T_gives T_warm T_rumour T_seen T_seenOf T_seenBehind T_seenHas T_text T_texted T_place T_number T_readPersons T_readKind T_readComes T_readFamily T_readGives T_readWarm T_readRumour T_toCome T_order T_bestOrder] A) ([.ref (aT 0), .int p1] : List Value).toArray s 0 0 A) (F0 m 56 ls []) := by
      intro x2_56 yT0_56 H locs ls hW hl hM
      unfold MX8_kinds_j56 at hM
      refine lv_iload_n hx hb dX8_kinds_56 rfl (lv_at hl 0 rfl) ?_
      obtain rfl := Option.some.inj hM
      exact g_reti X hW rfl rfl dX8_kinds_57
    have lp14 : ∀ (n14 : Nat) (x2_14 : Int32) (x3_14 : Int32) (yT0_14 : (Nat → Int32)) (H : Heap) (locs : List Loc) (ls : Array Slot), Wd G A s [wMod cI cZ aT yT0_14 T_undoes T_kept T_persons T_family T_gives T_warm T_rumour T_seen T_seenOf T_seenBehind T_seenHas T_text T_texted T_place T_number T_readPersons T_readKind T_readComes T_readFamily T_readGives T_readWarm T_readRumour T_toCome T_order T_bestOrder] H locs → lv_has ls 4 [(0, .ref (aT 0)), (1, .int p1), (2, .int x2_14), (3, .int x3_14)] → MX8_kinds_l14 N T_persons T_family T_gives T_warm T_rumour T_seen T_seenOf T_seenBehind T_seenHas p1 n14 x2_14 x3_14 yT0_14 = some rr → W p l e (rmO 6 142) s m ([.ref (aT 0), .int p1] : List Value).toArray below meth c H locs 0 0 (MQ below (qI G rr.1 [wMod cI cZ aT rr.2 T_undoes T_kept T_persons T_family T_gives T_warm T_rumour T_seen T_seenOf T_seenBehind T_seenHas T_text T_texted T_place T_number T_readPersons T_readKind T_readComes T_readFamily T_readGives T_readWarm T_readRumour T_toCome T_order T_bestOrder] A) ([.ref (aT 0), .int p1] : List Value).toArray s 0 0 A) (F0 m 14 ls []) := by
      intro n14
      induction n14 with
      | zero =>
        intro x2_14 x3_14 yT0_14 H locs ls hW hl hM
        rw [MX8_kinds_l14] at hM
        cases hM
      | succ n14 ih14 =>
        intro x2_14 x3_14 yT0_14 H locs ls hW hl hM
        rw [MX8_kinds_l14] at hM
        refine lv_iload_n hx hb dX8_kinds_14 rfl (lv_at hl 3 rfl) ?_
        refine lv_iconst (v := (3 : Int32)) hx hb dX8_kinds_15 (by decide) ?_
        refine lv_icmp_gt (tgt := 56) hx hb dX8_kinds_16 (by decide) (fun hc => ?_) (fun hc => ?_)
        · have hM := (if_pos hc).symm.trans hM
          exact j56 x2_14 yT0_14 _ _ _ hW (lv_sub hl [2] rfl) hM
        · have hM := (if_neg hc).symm.trans hM
          refine lv_aload_n hx hb dX8_kinds_19 rfl (lv_at hl 0 rfl) ?_
          obtain ⟨u20, hu20, hM⟩ := bind_some hM
          refine g_callVv (rest := []) (gr := []) X hl.1 hW (c_X8_tries l G cI cZ cL N aT yT0_14 T_undoes T_kept T_persons T_family T_gives T_warm T_rumour T_seen T_seenOf T_seenBehind T_seenHas T_text T_texted T_place T_number T_readPersons T_readKind T_readComes T_readFamily T_readGives T_readWarm T_readRumour T_toCome T_order T_bestOrder u20 hu20) q_1054 q_1051 q_1053 q_45 q_67 hd_X8_tries rfl ⟨Nat.le_of_ble_eq_true rfl, Nat.le_of_ble_eq_true rfl⟩ ⟨Nat.zero_le _, Nat.zero_le _⟩ [0] [] [wMod cI cZ aT u20 T_undoes T_kept T_persons T_family T_gives T_warm T_rumour T_seen T_seenOf T_seenBehind T_seenHas T_text T_texted T_place T_number T_readPersons T_readKind T_readComes T_readFamily T_readGives T_readWarm T_readRumour T_toCome T_order T_bestOrder] ⟨pm_1_0, rfl, rfl, rfl⟩ ⟨pm_1_0, rfl, rfl, rfl⟩ (q0 := 0) rfl rfl rfl (Nat.le_of_ble_eq_true rfl) dX8_kinds_20 (fun H locs hW => ?_)
          refine lv_aload_n hx hb dX8_kinds_23 rfl (lv_at hl 0 rfl) ?_
          refine g_get X hW 0 rfl rfl inX8 0 (by decide) q_817 rfl dX8_kinds_24 ?_
          refine lv_bipush (v := (123 : Int32)) hx hb dX8_kinds_27 (by decide) ?_
          refine lv_iload_n hx hb dX8_kinds_29 rfl (lv_at hl 1 rfl) ?_
          refine lv_iadd hx hb dX8_kinds_30 ?_
          refine lv_iload_n hx hb dX8_kinds_31 rfl (lv_at hl 3 rfl) ?_
          obtain ⟨hi32, hM⟩ := MG_some hM
          refine g_ast X hW 1 rfl hi32 [wMod cI cZ aT (upd u20 ((123 : Int32) + p1).toNatClampNeg x3_14) T_undoes T_kept T_persons T_family T_gives T_warm T_rumour T_seen T_seenOf T_seenBehind T_seenHas T_text T_texted T_place T_number T_readPersons T_readKind T_readComes T_readFamily T_readGives T_readWarm T_readRumour T_toCome T_order T_bestOrder] rfl dX8_kinds_32 (fun H locs hW => ?_)
          refine lv_iload_n hx hb dX8_kinds_33 rfl (lv_at hl 2 rfl) ?_
          refine lv_aload_n hx hb dX8_kinds_34 rfl (lv_at hl 0 rfl) ?_
          obtain ⟨u35, hu35, hM⟩ := bind_some hM
          refine g_callVi (rest := [.int x2_14]) (gr := []) X hl.1 hW (c_X8_isSeen l G cI cZ cL N aT (upd u20 ((123 : Int32) + p1).toNatClampNeg x3_14) T_undoes T_kept T_persons T_family T_gives T_warm T_rumour T_seen T_seenOf T_seenBehind T_seenHas T_text T_texted T_place T_number T_readPersons T_readKind T_readComes T_readFamily T_readGives T_readWarm T_readRumour T_toCome T_order T_bestOrder u35 hu35) q_1116 q_1113 q_1115 q_51 q_67 hd_X8_isSeen rfl ⟨Nat.le_of_ble_eq_true rfl, Nat.le_of_ble_eq_true rfl⟩ ⟨Nat.zero_le _, Nat.zero_le _⟩ [0] [] [wMod cI cZ aT u35.2 T_undoes T_kept T_persons T_family T_gives T_warm T_rumour T_seen T_seenOf T_seenBehind T_seenHas T_text T_texted T_place T_number T_readPersons T_readKind T_readComes T_readFamily T_readGives T_readWarm T_readRumour T_toCome T_order T_bestOrder] ⟨pm_1_0, rfl, rfl, rfl⟩ ⟨pm_1_0, rfl, rfl, rfl⟩ (q0 := 0) rfl rfl rfl (Nat.le_of_ble_eq_true rfl) dX8_kinds_35 (fun H locs hW => ?_)
          have j48 : ∀ (t1_48 : Int32) (H : Heap) (locs : List Loc) (ls : Array Slot), Wd G A s [wMod cI cZ aT u35.2 T_undoes T_kept T_persons T_family T_gives T_warm T_rumour T_seen T_seenOf T_seenBehind T_seenHas T_text T_texted T_place T_number T_readPersons T_readKind T_readComes T_readFamily T_readGives T_readWarm T_readRumour T_toCome T_order T_bestOrder] H locs → lv_has ls 4 [(0, .ref (aT 0)), (1, .int p1), (3, .int x3_14)] → MX8_kinds_j48 x2_14 x3_14 (MX8_kinds_l14 N T_persons T_family T_gives T_warm T_rumour T_seen T_seenOf T_seenBehind T_seenHas p1 n14) u35 t1_48 = some rr → W p l e (rmO 6 142) s m ([.ref (aT 0), .int p1] : List Value).toArray below meth c H locs 0 0 (MQ below (qI G rr.1 [wMod cI cZ aT rr.2 T_undoes T_kept T_persons T_family T_gives T_warm T_rumour T_seen T_seenOf T_seenBehind T_seenHas T_text T_texted T_place T_number T_readPersons T_readKind T_readComes T_readFamily T_readGives T_readWarm T_readRumour T_toCome T_order T_bestOrder] A) ([.ref (aT 0), .int p1] : List Value).toArray s 0 0 A) (F0 m 48 ls [.int t1_48, .int x2_14]) := by
            intro t1_48 H locs ls hW hl hM
            unfold MX8_kinds_j48 at hM
            refine lv_ior hx hb dX8_kinds_48 ?_
            refine lv_topi (fun z49 ez49 => ?_)
            have hM := MLet_some hM z49 ez49
            refine lv_istore_n (lv' := [(2, .int z49), (0, .ref (aT 0)), (1, .int p1), (3, .int x3_14)]) hx hb dX8_kinds_49 rfl hl (by decide) rfl (fun ls hl => ?_)
            refine lv_iinc (v := x3_14 + (1 : Int32)) (lv' := [(3, .int (x3_14 + (1 : Int32))), (2, .int z49), (0, .ref (aT 0)), (1, .int p1)]) hx hb dX8_kinds_50 hl (k := 3) rfl rfl (by decide) rfl (fun ls hl => ?_)
            refine lv_goto (tgt := 14) hx hb dX8_kinds_53 (by decide) ?_
            exact ih14 z49 (x3_14 + (1 : Int32)) u35.2 _ _ _ hW (lv_sub hl [2, 3, 1, 0] rfl) hM
          refine lv_if_eq (tgt := 47) hx hb dX8_kinds_38 (by decide) (fun hc => ?_) (fun hc => ?_)
          · have hM := (if_pos hc).symm.trans hM
            refine lv_iconst (v := (0 : Int32)) hx hb dX8_kinds_47 (by decide) ?_
            exact j48 (0 : Int32) _ _ _ hW (lv_sub hl [0, 1, 3] rfl) hM
          · have hM := (if_neg hc).symm.trans hM
            refine lv_iconst (v := (1 : Int32)) hx hb dX8_kinds_41 (by decide) ?_
            refine lv_iload_n hx hb dX8_kinds_42 rfl (lv_at hl 3 rfl) ?_
            refine lv_ishl hx hb dX8_kinds_43 ?_
            refine lv_goto (tgt := 48) hx hb dX8_kinds_44 (by decide) ?_
            exact j48 ((1 : Int32) <<< (x3_14 &&& 31)) _ _ _ hW (lv_sub hl [0, 1, 3] rfl) hM
    exact lp14 N (0 : Int32) (0 : Int32) T_w _ _ _ hW (lv_sub hl [2, 3, 1, 0] rfl) hM
  · have hM := (if_pos hc).symm.trans hM
    refine lv_iconst (v := (-1 : Int32)) hx hb dX8_kinds_8 (by decide) ?_
    obtain rfl := Option.some.inj hM
    exact g_reti X hW rfl rfl dX8_kinds_9

def MX8_rumours_j202 (p4 : Int32) (x6_73 : Int32) (x5_171 : Int32) (yT0_171 : (Nat → Int32)) (x7_202 : Int32) : Option (Int32 × (Nat → Int32)) :=
  if p4 = 0 then MD x7_202 (some (x5_171 / x7_202, yT0_171)) else MD x7_202 (some (x6_73 / x7_202, yT0_171))
def MX8_rumours_l179 (p4 : Int32) (x6_73 : Int32) (x5_171 : Int32) (yT0_171 : (Nat → Int32)) : Nat → Int32 → Int32 → Option (Int32 × (Nat → Int32))
  | 0, _, _ => none
  | n179 + 1, x7_179, x8_179 =>
    if x8_179 = 0 then (MX8_rumours_j202 p4 x6_73 x5_171 yT0_171 x7_179) else MD x8_179 (MLet (x7_179 - x7_179 / x8_179 * x8_179) (fun z189 => (MX8_rumours_l179 p4 x6_73 x5_171 yT0_171 n179) x8_179 z189))
def MX8_rumours_j171 (N : Nat) (p4 : Int32) (x6_73 : Int32) (x5_171 : Int32) (yT0_171 : (Nat → Int32)) : Option (Int32 × (Nat → Int32)) :=
  MX8_rumours_l179 p4 x6_73 x5_171 yT0_171 N x5_171 x6_73
def MX8_rumours_j162 (x5_76 : Int32) (x7_76 : Int32) (rc76 : (Int32 → Int32 → (Nat → Int32) → Option (Int32 × (Nat → Int32)))) (yT0_143 : (Nat → Int32)) (t1_162 : Int32) : Option (Int32 × (Nat → Int32)) :=
  MLet (x5_76 + t1_162) (fun z163 => rc76 z163 (x7_76 + (1 : Int32)) yT0_143)
def MX8_rumours_j143 (N : Nat) (p1 : Int32) (x5_76 : Int32) (x7_76 : Int32) (rc76 : (Int32 → Int32 → (Nat → Int32) → Option (Int32 × (Nat → Int32)))) (x8_143 : Int32) (yT0_143 : (Nat → Int32)) : Option (Int32 × (Nat → Int32)) :=
  (MX8_isWhere N yT0_143 (66 : Int32) p1 (3 : Int32)).bind (fun u150 => if u150 = 0 then MX8_rumours_j162 x5_76 x7_76 rc76 yT0_143 (0 : Int32) else (MX8_rumours_j162 x5_76 x7_76 rc76 yT0_143 x8_143))
def MX8_rumours_j120 (N : Nat) (T_persons : Int32) (T_family : (Nat → Int32)) (T_gives : Int32) (T_warm : Int32) (x7_76 : Int32) (x8_94 : Int32) (x9_94 : Int32) (yT0_94 : (Nat → Int32)) (rc94 : (Int32 → Int32 → (Nat → Int32) → Option (Int32 × (Nat → Int32)))) (t1_120 : Int32) : Option (Int32 × (Nat → Int32)) :=
  MLet (x8_94 * t1_120) (fun z121 => (MX8_isIn N x7_76 x9_94).bind (fun u131 => (MX8_passesBy N yT0_94 T_persons T_family T_gives T_warm (66 : Int32) (0 : Int32) u131).bind (fun u134 => rc94 z121 (x9_94 + (1 : Int32)) u134)))
def MX8_rumours_l94 (N : Nat) (T_persons : Int32) (T_family : (Nat → Int32)) (T_gives : Int32) (T_warm : Int32) (p1 : Int32) (p2 : Int32) (p3 : Int32) (x5_76 : Int32) (x7_76 : Int32) (rc76 : (Int32 → Int32 → (Nat → Int32) → Option (Int32 × (Nat → Int32)))) : Nat → Int32 → Int32 → (Nat → Int32) → Option (Int32 × (Nat → Int32))
  | 0, _, _, _ => none
  | n94 + 1, x8_94, x9_94, yT0_94 =>
    if p2 ≤ x9_94 then (MX8_rumours_j143 N p1 x5_76 x7_76 rc76 x8_94 yT0_94) else ((MX8_isIn N x7_76 x9_94).bind (fun u106 => if u106 = 0 then (MX8_rumours_j120 N T_persons T_family T_gives T_warm x7_76 x8_94 x9_94 yT0_94 (MX8_rumours_l94 N T_persons T_family T_gives T_warm p1 p2 p3 x5_76 x7_76 rc76 n94) ((10 : Int32) - p3)) else (MX8_rumours_j120 N T_persons T_family T_gives T_warm x7_76 x8_94 x9_94 yT0_94 (MX8_rumours_l94 N T_persons T_family T_gives T_warm p1 p2 p3 x5_76 x7_76 rc76 n94) p3)))
def MX8_rumours_l76 (N : Nat) (T_persons : Int32) (T_family : (Nat → Int32)) (T_gives : Int32) (T_warm : Int32) (p1 : Int32) (p2 : Int32) (p3 : Int32) (p4 : Int32) (x6_73 : Int32) : Nat → Int32 → Int32 → (Nat → Int32) → Option (Int32 × (Nat → Int32))
  | 0, _, _, _ => none
  | n76 + 1, x5_76, x7_76, yT0_76 =>
    if ((1 : Int32) <<< (p2 &&& 31)) ≤ x7_76 then (MX8_rumours_j171 N p4 x6_73 x5_76 yT0_76) else ((MX8_tries N yT0_76).bind (fun u88 => MX8_rumours_l94 N T_persons T_family T_gives T_warm p1 p2 p3 x5_76 x7_76 (MX8_rumours_l76 N T_persons T_family T_gives T_warm p1 p2 p3 p4 x6_73 n76) N (1 : Int32) (0 : Int32) u88))
def MX8_rumours_j73 (N : Nat) (T_w : (Nat → Int32)) (T_persons : Int32) (T_family : (Nat → Int32)) (T_gives : Int32) (T_warm : Int32) (p1 : Int32) (p2 : Int32) (p3 : Int32) (p4 : Int32) (x6_73 : Int32) : Option (Int32 × (Nat → Int32)) :=
  MX8_rumours_l76 N T_persons T_family T_gives T_warm p1 p2 p3 p4 x6_73 N (0 : Int32) (0 : Int32) T_w
def MX8_rumours_l54 (N : Nat) (T_w : (Nat → Int32)) (T_persons : Int32) (T_family : (Nat → Int32)) (T_gives : Int32) (T_warm : Int32) (p1 : Int32) (p2 : Int32) (p3 : Int32) (p4 : Int32) : Nat → Int32 → Int32 → Option (Int32 × (Nat → Int32))
  | 0, _, _ => none
  | n54 + 1, x6_54, x7_54 =>
    if p2 ≤ x7_54 then (MX8_rumours_j73 N T_w T_persons T_family T_gives T_warm p1 p2 p3 p4 x6_54) else (MLet (x6_54 * (10 : Int32)) (fun z65 => (MX8_rumours_l54 N T_w T_persons T_family T_gives T_warm p1 p2 p3 p4 n54) z65 (x7_54 + (1 : Int32))))
def MX8_rumours (N : Nat) (T_w : (Nat → Int32)) (T_persons : Int32) (T_family : (Nat → Int32)) (T_gives : Int32) (T_warm : Int32) (p1 : Int32) (p2 : Int32) (p3 : Int32) (p4 : Int32) : Option (Int32 × (Nat → Int32)) :=
  (MX8_isPerson N T_persons p1).bind (fun u2 => if u2 = 0 then some ((-1 : Int32), T_w) else ((MX8_in N p2.toInt64 (0 : Int64) (8 : Int64)).bind (fun u14 => if u14 = 0 then some ((-1 : Int32), T_w) else ((MX8_in N p3.toInt64 (0 : Int64) (10 : Int64)).bind (fun u26 => if u26 = 0 then some ((-1 : Int32), T_w) else ((MX8_in N p4.toInt64 (0 : Int64) (1 : Int64)).bind (fun u37 => if u37 = 0 then some ((-1 : Int32), T_w) else (MX8_rumours_l54 N T_w T_persons T_family T_gives T_warm p1 p2 p3 p4 N (1 : Int32) (0 : Int32)))))))))
set_option maxHeartbeats 4000000 in
set_option maxRecDepth 100000 in
theorem c_X8_rumours (l : Launch) (G : va_G) (cI cZ cL : ClassId) (N : Nat) (aT : Nat → Nat) (T_w : (Nat → Int32)) (T_undoes : Int32) (T_kept : Int32) (T_persons : Int32) (T_family : (Nat → Int32)) (T_gives : Int32) (T_warm : Int32) (T_rumour : Int32) (T_seen : Int32) (T_seenOf : (Nat → Int32)) (T_seenBehind : (Nat → Int32)) (T_seenHas : (Nat → Int32)) (T_text : (Nat → Int32)) (T_texted : Int32) (T_place : Int32) (T_number : Int32) (T_readPersons : Int32) (T_readKind : (Nat → Int32)) (T_readComes : (Nat → Int32)) (T_readFamily : (Nat → Int32)) (T_readGives : Int32) (T_readWarm : Int32) (T_readRumour : Int32) (T_toCome : (Nat → Int32)) (T_order : (Nat → Int32)) (T_bestOrder : (Nat → Int32)) (p1 : Int32) (p2 : Int32) (p3 : Int32) (p4 : Int32) (rr : Int32 × (Nat → Int32)) (hM : MX8_rumours N T_w T_persons T_family T_gives T_warm p1 p2 p3 p4 = some rr) : CtI l yX8_rumours cX8_rumours 10 .int 4 98 G cI cZ cL [.ref (aT 0), .int p1, .int p2, .int p3, .int p4] [wMod cI cZ aT T_w T_undoes T_kept T_persons T_family T_gives T_warm T_rumour T_seen T_seenOf T_seenBehind T_seenHas T_text T_texted T_place T_number T_readPersons T_readKind T_readComes T_readFamily T_readGives T_readWarm T_readRumour T_toCome T_order T_bestOrder] rr.1 [wMod cI cZ aT rr.2 T_undoes T_kept T_persons T_family T_gives T_warm T_rumour T_seen T_seenOf T_seenBehind T_seenHas T_text T_texted T_place T_number T_readPersons T_readKind T_readComes T_readFamily T_readGives T_readWarm T_readRumour T_toCome T_order T_bestOrder] := by
  refine ct_body (fun A => qI G rr.1 [wMod cI cZ aT rr.2 T_undoes T_kept T_persons T_family T_gives T_warm T_rumour T_seen T_seenOf T_seenBehind T_seenHas T_text T_texted T_place T_number T_readPersons T_readKind T_readComes T_readFamily T_readGives T_readWarm T_readRumour T_toCome T_order T_bestOrder] A) (by decide) (Nat.le_of_ble_eq_true rfl) (fun p e s m below meth c A ls X hW hl => ?_)
  have hx := X.1
  have hb := X.2.1
  have hts := X.2.2.2.2.2.1
  have hown := X.2.2.2.2.2.2.1
  have hl : lv_has ls 10 [(0, .ref (aT 0)), (1, .int p1), (2, .int p2), (3, .int p3), (4, .int p4)] := hl
  unfold MX8_rumours at hM
  refine lv_aload_n hx hb dX8_rumours_0 rfl (lv_at hl 0 rfl) ?_
  refine lv_iload_n hx hb dX8_rumours_1 rfl (lv_at hl 1 rfl) ?_
  obtain ⟨u2, hu2, hM⟩ := bind_some hM
  refine g_callVi (rest := []) (gr := []) X hl.1 hW (c_X8_isPerson l G cI cZ cL N aT T_w T_undoes T_kept T_persons T_family T_gives T_warm T_rumour T_seen T_seenOf T_seenBehind T_seenHas T_text T_texted T_place T_number T_readPersons T_readKind T_readComes T_readFamily T_readGives T_readWarm T_readRumour T_toCome T_order T_bestOrder p1 u2 hu2) q_954 q_951 q_953 q_29 q_67 hd_X8_isPerson rfl ⟨Nat.le_of_ble_eq_true rfl, Nat.le_of_ble_eq_true rfl⟩ ⟨Nat.zero_le _, Nat.zero_le _⟩ [0] [] [wMod cI cZ aT T_w T_undoes T_kept T_persons T_family T_gives T_warm T_rumour T_seen T_seenOf T_seenBehind T_seenHas T_text T_texted T_place T_number T_readPersons T_readKind T_readComes T_readFamily T_readGives T_readWarm T_readRumour T_toCome T_order T_bestOrder] ⟨pm_1_0, rfl, rfl, rfl⟩ ⟨pm_1_0, rfl, rfl, rfl⟩ (q0 := 0) rfl rfl rfl (Nat.le_of_ble_eq_true rfl) dX8_rumours_2 (fun H locs hW => ?_)
  refine lv_if_eq (tgt := 43) hx hb dX8_rumours_5 (by decide) (fun hc => ?_) (fun hc => ?_)
  · have hM := (if_pos hc).symm.trans hM
    refine lv_iconst (v := (-1 : Int32)) hx hb dX8_rumours_43 (by decide) ?_
    obtain rfl := Option.some.inj hM
    exact g_reti X hW rfl rfl dX8_rumours_44
  · have hM := (if_neg hc).symm.trans hM
    refine lv_iload_n hx hb dX8_rumours_8 rfl (lv_at hl 2 rfl) ?_
    refine lv_i2l hx hb dX8_rumours_9 rfl ?_
    refine lv_lconst (v := (0 : Int64)) hx hb dX8_rumours_10 (by decide) ?_
    refine lv_ldc2 (v := (8 : Int64)) hx hb hown (hts _ q_1050) dX8_rumours_11 ?_
    obtain ⟨u14, hu14, hM⟩ := bind_some hM
    refine g_callSi (rest := []) X hl.1 hW (c_X8_in l G cI cZ cL N p2.toInt64 (0 : Int64) (8 : Int64) u14 hu14) q_904 q_902 q_903 q_67 hd_X8_in rfl ⟨Nat.le_of_ble_eq_true rfl, Nat.le_of_ble_eq_true rfl⟩ ⟨Nat.zero_le _, Nat.zero_le _⟩ rfl (Nat.le_of_ble_eq_true rfl) dX8_rumours_14 (fun H locs hW => ?_)
    refine lv_if_eq (tgt := 43) hx hb dX8_rumours_17 (by decide) (fun hc => ?_) (fun hc => ?_)
    · have hM := (if_pos hc).symm.trans hM
      refine lv_iconst (v := (-1 : Int32)) hx hb dX8_rumours_43 (by decide) ?_
      obtain rfl := Option.some.inj hM
      exact g_reti X hW rfl rfl dX8_rumours_44
    · have hM := (if_neg hc).symm.trans hM
      refine lv_iload_n hx hb dX8_rumours_20 rfl (lv_at hl 3 rfl) ?_
      refine lv_i2l hx hb dX8_rumours_21 rfl ?_
      refine lv_lconst (v := (0 : Int64)) hx hb dX8_rumours_22 (by decide) ?_
      refine lv_ldc2 (v := (10 : Int64)) hx hb hown (hts _ q_1125) dX8_rumours_23 ?_
      obtain ⟨u26, hu26, hM⟩ := bind_some hM
      refine g_callSi (rest := []) X hl.1 hW (c_X8_in l G cI cZ cL N p3.toInt64 (0 : Int64) (10 : Int64) u26 hu26) q_904 q_902 q_903 q_67 hd_X8_in rfl ⟨Nat.le_of_ble_eq_true rfl, Nat.le_of_ble_eq_true rfl⟩ ⟨Nat.zero_le _, Nat.zero_le _⟩ rfl (Nat.le_of_ble_eq_true rfl) dX8_rumours_26 (fun H locs hW => ?_)
      refine lv_if_eq (tgt := 43) hx hb dX8_rumours_29 (by decide) (fun hc => ?_) (fun hc => ?_)
      · have hM := (if_pos hc).symm.trans hM
        refine lv_iconst (v := (-1 : Int32)) hx hb dX8_rumours_43 (by decide) ?_
        obtain rfl := Option.some.inj hM
        exact g_reti X hW rfl rfl dX8_rumours_44
      · have hM := (if_neg hc).symm.trans hM
        refine lv_iload hx hb dX8_rumours_32 (lv_at hl 4 rfl) ?_
        refine lv_i2l hx hb dX8_rumours_34 rfl ?_
        refine lv_lconst (v := (0 : Int64)) hx hb dX8_rumours_35 (by decide) ?_
        refine lv_lconst (v := (1 : Int64)) hx hb dX8_rumours_36 (by decide) ?_
        obtain ⟨u37, hu37, hM⟩ := bind_some hM
        refine g_callSi (rest := []) X hl.1 hW (c_X8_in l G cI cZ cL N p4.toInt64 (0 : Int64) (1 : Int64) u37 hu37) q_904 q_902 q_903 q_67 hd_X8_in rfl ⟨Nat.le_of_ble_eq_true rfl, Nat.le_of_ble_eq_true rfl⟩ ⟨Nat.zero_le _, Nat.zero_le _⟩ rfl (Nat.le_of_ble_eq_true rfl) dX8_rumours_37 (fun H locs hW => ?_)
        refine lv_if_ne (tgt := 45) hx hb dX8_rumours_40 (by decide) (fun hc => ?_) (fun hc => ?_)
        · have hM := (if_neg hc).symm.trans hM
          refine lv_iconst (v := (0 : Int32)) hx hb dX8_rumours_45 (by decide) ?_
          refine lv_istore (lv' := [(5, .int (0 : Int32)), (0, .ref (aT 0)), (1, .int p1), (2, .int p2), (3, .int p3), (4, .int p4)]) hx hb dX8_rumours_46 hl (by decide) rfl (fun ls hl => ?_)
          refine lv_iconst (v := (1 : Int32)) hx hb dX8_rumours_48 (by decide) ?_
          refine lv_istore (lv' := [(6, .int (1 : Int32)), (5, .int (0 : Int32)), (0, .ref (aT 0)), (1, .int p1), (2, .int p2), (3, .int p3), (4, .int p4)]) hx hb dX8_rumours_49 hl (by decide) rfl (fun ls hl => ?_)
          refine lv_iconst (v := (0 : Int32)) hx hb dX8_rumours_51 (by decide) ?_
          refine lv_istore (lv' := [(7, .int (0 : Int32)), (6, .int (1 : Int32)), (5, .int (0 : Int32)), (0, .ref (aT 0)), (1, .int p1), (2, .int p2), (3, .int p3), (4, .int p4)]) hx hb dX8_rumours_52 hl (by decide) rfl (fun ls hl => ?_)
          have j73 : ∀ (x6_73 : Int32) (H : Heap) (locs : List Loc) (ls : Array Slot), Wd G A s [wMod cI cZ aT T_w T_undoes T_kept T_persons T_family T_gives T_warm T_rumour T_seen T_seenOf T_seenBehind T_seenHas T_text T_texted T_place T_number T_readPersons T_readKind T_readComes T_readFamily T_readGives T_readWarm T_readRumour T_toCome T_order T_bestOrder] H locs → lv_has ls 10 [(0, .ref (aT 0)), (1, .int p1), (2, .int p2), (3, .int p3), (4, .int p4), (5, .int (0 : Int32)), (6, .int x6_73)] → MX8_rumours_j73 N T_w T_persons T_family T_gives T_warm p1 p2 p3 p4 x6_73 = some rr → W p l e (rmO 4 98) s m ([.ref (aT 0), .int p1, .int p2, .int p3, .int p4] : List Value).toArray below meth c H locs 0 0 (MQ below (qI G rr.1 [wMod cI cZ aT rr.2 T_undoes T_kept T_persons T_family T_gives T_warm T_rumour T_seen T_seenOf T_seenBehind T_seenHas T_text T_texted T_place T_number T_readPersons T_readKind T_readComes T_readFamily T_readGives T_readWarm T_readRumour T_toCome T_order T_bestOrder] A) ([.ref (aT 0), .int p1, .int p2, .int p3, .int p4] : List Value).toArray s 0 0 A) (F0 m 73 ls []) := by
            intro x6_73 H locs ls hW hl hM
            unfold MX8_rumours_j73 at hM
            refine lv_iconst (v := (0 : Int32)) hx hb dX8_rumours_73 (by decide) ?_
            refine lv_istore (lv' := [(7, .int (0 : Int32)), (0, .ref (aT 0)), (1, .int p1), (2, .int p2), (3, .int p3), (4, .int p4), (5, .int (0 : Int32)), (6, .int x6_73)]) hx hb dX8_rumours_74 hl (by decide) rfl (fun ls hl => ?_)
            have j171 : ∀ (x5_171 : Int32) (yT0_171 : (Nat → Int32)) (H : Heap) (locs : List Loc) (ls : Array Slot), Wd G A s [wMod cI cZ aT yT0_171 T_undoes T_kept T_persons T_family T_gives T_warm T_rumour T_seen T_seenOf T_seenBehind T_seenHas T_text T_texted T_place T_number T_readPersons T_readKind T_readComes T_readFamily T_readGives T_readWarm T_readRumour T_toCome T_order T_bestOrder] H locs → lv_has ls 10 [(4, .int p4), (5, .int x5_171), (6, .int x6_73)] → MX8_rumours_j171 N p4 x6_73 x5_171 yT0_171 = some rr → W p l e (rmO 4 98) s m ([.ref (aT 0), .int p1, .int p2, .int p3, .int p4] : List Value).toArray below meth c H locs 0 0 (MQ below (qI G rr.1 [wMod cI cZ aT rr.2 T_undoes T_kept T_persons T_family T_gives T_warm T_rumour T_seen T_seenOf T_seenBehind T_seenHas T_text T_texted T_place T_number T_readPersons T_readKind T_readComes T_readFamily T_readGives T_readWarm T_readRumour T_toCome T_order T_bestOrder] A) ([.ref (aT 0), .int p1, .int p2, .int p3, .int p4] : List Value).toArray s 0 0 A) (F0 m 171 ls []) := by
              intro x5_171 yT0_171 H locs ls hW hl hM
              unfold MX8_rumours_j171 at hM
              refine lv_iload hx hb dX8_rumours_171 (lv_at hl 1 rfl) ?_
              refine lv_istore (lv' := [(7, .int x5_171), (4, .int p4), (5, .int x5_171), (6, .int x6_73)]) hx hb dX8_rumours_173 hl (by decide) rfl (fun ls hl => ?_)
              refine lv_iload hx hb dX8_rumours_175 (lv_at hl 3 rfl) ?_
              refine lv_istore (lv' := [(8, .int x6_73), (7, .int x5_171), (4, .int p4), (5, .int x5_171), (6, .int x6_73)]) hx hb dX8_rumours_177 hl (by decide) rfl (fun ls hl => ?_)
              have j202 : ∀ (x7_202 : Int32) (H : Heap) (locs : List Loc) (ls : Array Slot), Wd G A s [wMod cI cZ aT yT0_171 T_undoes T_kept T_persons T_family T_gives T_warm T_rumour T_seen T_seenOf T_seenBehind T_seenHas T_text T_texted T_place T_number T_readPersons T_readKind T_readComes T_readFamily T_readGives T_readWarm T_readRumour T_toCome T_order T_bestOrder] H locs → lv_has ls 10 [(4, .int p4), (5, .int x5_171), (6, .int x6_73), (7, .int x7_202)] → MX8_rumours_j202 p4 x6_73 x5_171 yT0_171 x7_202 = some rr → W p l e (rmO 4 98) s m ([.ref (aT 0), .int p1, .int p2, .int p3, .int p4] : List Value).toArray below meth c H locs 0 0 (MQ below (qI G rr.1 [wMod cI cZ aT rr.2 T_undoes T_kept T_persons T_family T_gives T_warm T_rumour T_seen T_seenOf T_seenBehind T_seenHas T_text T_texted T_place T_number T_readPersons T_readKind T_readComes T_readFamily T_readGives T_readWarm T_readRumour T_toCome T_order T_bestOrder] A) ([.ref (aT 0), .int p1, .int p2, .int p3, .int p4] : List Value).toArray s 0 0 A) (F0 m 202 ls []) := by
                intro x7_202 H locs ls hW hl hM
                unfold MX8_rumours_j202 at hM
                refine lv_iload hx hb dX8_rumours_202 (lv_at hl 0 rfl) ?_
                refine lv_if_ne (tgt := 215) hx hb dX8_rumours_204 (by decide) (fun hc => ?_) (fun hc => ?_)
                · have hM := (if_neg hc).symm.trans hM
                  refine lv_iload hx hb dX8_rumours_215 (lv_at hl 2 rfl) ?_
                  refine lv_iload hx hb dX8_rumours_217 (lv_at hl 3 rfl) ?_
                  obtain ⟨hz219, hM⟩ := MD_some hM
                  refine lv_idiv hx hb dX8_rumours_219 hz219 ?_
                  obtain rfl := Option.some.inj hM
                  exact g_reti X hW rfl rfl dX8_rumours_220
                · have hM := (if_pos hc).symm.trans hM
                  refine lv_iload hx hb dX8_rumours_207 (lv_at hl 1 rfl) ?_
                  refine lv_iload hx hb dX8_rumours_209 (lv_at hl 3 rfl) ?_
                  obtain ⟨hz211, hM⟩ := MD_some hM
                  refine lv_idiv hx hb dX8_rumours_211 hz211 ?_
                  refine lv_goto (tgt := 220) hx hb dX8_rumours_212 (by decide) ?_
                  obtain rfl := Option.some.inj hM
                  exact g_reti X hW rfl rfl dX8_rumours_220
              have lp179 : ∀ (n179 : Nat) (x7_179 : Int32) (x8_179 : Int32) (H : Heap) (locs : List Loc) (ls : Array Slot), Wd G A s [wMod cI cZ aT yT0_171 T_undoes T_kept T_persons T_family T_gives T_warm T_rumour T_seen T_seenOf T_seenBehind T_seenHas T_text T_texted T_place T_number T_readPersons T_readKind T_readComes T_readFamily T_readGives T_readWarm T_readRumour T_toCome T_order T_bestOrder] H locs → lv_has ls 10 [(4, .int p4), (5, .int x5_171), (6, .int x6_73), (7, .int x7_179), (8, .int x8_179)] → MX8_rumours_l179 p4 x6_73 x5_171 yT0_171 n179 x7_179 x8_179 = some rr → W p l e (rmO 4 98) s m ([.ref (aT 0), .int p1, .int p2, .int p3, .int p4] : List Value).toArray below meth c H locs 0 0 (MQ below (qI G rr.1 [wMod cI cZ aT rr.2 T_undoes T_kept T_persons T_family T_gives T_warm T_rumour T_seen T_seenOf T_seenBehind T_seenHas T_text T_texted T_place T_number T_readPersons T_readKind T_readComes T_readFamily T_readGives T_readWarm T_readRumour T_toCome T_order T_bestOrder] A) ([.ref (aT 0), .int p1, .int p2, .int p3, .int p4] : List Value).toArray s 0 0 A) (F0 m 179 ls []) := by
                intro n179
                induction n179 with
                | zero =>
                  intro x7_179 x8_179 H locs ls hW hl hM
                  rw [MX8_rumours_l179] at hM
                  cases hM
                | succ n179 ih179 =>
                  intro x7_179 x8_179 H locs ls hW hl hM
                  rw [MX8_rumours_l179] at hM
                  refine lv_iload hx hb dX8_rumours_179 (lv_at hl 4 rfl) ?_
                  refine lv_if_eq (tgt := 202) hx hb dX8_rumours_181 (by decide) (fun hc => ?_) (fun hc => ?_)
                  · have hM := (if_pos hc).symm.trans hM
                    exact j202 x7_179 _ _ _ hW (lv_sub hl [0, 1, 2, 3] rfl) hM
                  · have hM := (if_neg hc).symm.trans hM
                    refine lv_iload hx hb dX8_rumours_184 (lv_at hl 3 rfl) ?_
                    refine lv_iload hx hb dX8_rumours_186 (lv_at hl 4 rfl) ?_
                    obtain ⟨hz188, hM⟩ := MD_some hM
                    refine lv_irem hx hb dX8_rumours_188 hz188 ?_
                    refine lv_topi (fun z189 ez189 => ?_)
                    have hM := MLet_some hM z189 ez189
                    refine lv_istore (lv' := [(9, .int z189), (4, .int p4), (5, .int x5_171), (6, .int x6_73), (7, .int x7_179), (8, .int x8_179)]) hx hb dX8_rumours_189 hl (by decide) rfl (fun ls hl => ?_)
                    refine lv_iload hx hb dX8_rumours_191 (lv_at hl 5 rfl) ?_
                    refine lv_istore (lv' := [(7, .int x8_179), (9, .int z189), (4, .int p4), (5, .int x5_171), (6, .int x6_73), (8, .int x8_179)]) hx hb dX8_rumours_193 hl (by decide) rfl (fun ls hl => ?_)
                    refine lv_iload hx hb dX8_rumours_195 (lv_at hl 1 rfl) ?_
                    refine lv_istore (lv' := [(8, .int z189), (7, .int x8_179), (9, .int z189), (4, .int p4), (5, .int x5_171), (6, .int x6_73)]) hx hb dX8_rumours_197 hl (by decide) rfl (fun ls hl => ?_)
                    refine lv_goto (tgt := 179) hx hb dX8_rumours_199 (by decide) ?_
                    exact ih179 x8_179 z189 _ _ _ hW (lv_sub hl [3, 4, 5, 1, 0] rfl) hM
              exact lp179 N x5_171 x6_73 _ _ _ hW (lv_sub hl [2, 3, 4, 1, 0] rfl) hM
            have lp76 : ∀ (n76 : Nat) (x5_76 : Int32) (x7_76 : Int32) (yT0_76 : (Nat → Int32)) (H : Heap) (locs : List Loc) (ls : Array Slot), Wd G A s [wMod cI cZ aT yT0_76 T_undoes T_kept T_persons T_family T_gives T_warm T_rumour T_seen T_seenOf T_seenBehind T_seenHas T_text T_texted T_place T_number T_readPersons T_readKind T_readComes T_readFamily T_readGives T_readWarm T_readRumour T_toCome T_order T_bestOrder] H locs → lv_has ls 10 [(0, .ref (aT 0)), (1, .int p1), (2, .int p2), (3, .int p3), (4, .int p4), (5, .int x5_76), (6, .int x6_73), (7, .int x7_76)] → MX8_rumours_l76 N T_persons T_family T_gives T_warm p1 p2 p3 p4 x6_73 n76 x5_76 x7_76 yT0_76 = some rr → W p l e (rmO 4 98) s m ([.ref (aT 0), .int p1, .int p2, .int p3, .int p4] : List Value).toArray below meth c H locs 0 0 (MQ below (qI G rr.1 [wMod cI cZ aT rr.2 T_undoes T_kept T_persons T_family T_gives T_warm T_rumour T_seen T_seenOf T_seenBehind T_seenHas T_text T_texted T_place T_number T_readPersons T_readKind T_readComes T_readFamily T_readGives T_readWarm T_readRumour T_toCome T_order T_bestOrder] A) ([.ref (aT 0), .int p1, .int p2, .int p3, .int p4] : List Value).toArray s 0 0 A) (F0 m 76 ls []) := by
              intro n76
              induction n76 with
              | zero =>
                intro x5_76 x7_76 yT0_76 H locs ls hW hl hM
                rw [MX8_rumours_l76] at hM
                cases hM
              | succ n76 ih76 =>
                intro x5_76 x7_76 yT0_76 H locs ls hW hl hM
                rw [MX8_rumours_l76] at hM
                refine lv_iload hx hb dX8_rumours_76 (lv_at hl 7 rfl) ?_
                refine lv_iconst (v := (1 : Int32)) hx hb dX8_rumours_78 (by decide) ?_
                refine lv_iload_n hx hb dX8_rumours_79 rfl (lv_at hl 2 rfl) ?_
                refine lv_ishl hx hb dX8_rumours_80 ?_
                refine lv_icmp_ge (tgt := 171) hx hb dX8_rumours_81 (by decide) (fun hc => ?_) (fun hc => ?_)
                · have hM := (if_pos hc).symm.trans hM
                  exact j171 x5_76 yT0_76 _ _ _ hW (lv_sub hl [4, 5, 6] rfl) hM
                · have hM := (if_neg hc).symm.trans hM
                  refine lv_iconst (v := (1 : Int32)) hx hb dX8_rumours_84 (by decide) ?_
                  refine lv_istore (lv' := [(8, .int (1 : Int32)), (0, .ref (aT 0)), (1, .int p1), (2, .int p2), (3, .int p3), (4, .int p4), (5, .int x5_76), (6, .int x6_73), (7, .int x7_76)]) hx hb dX8_rumours_85 hl (by decide) rfl (fun ls hl => ?_)
                  refine lv_aload_n hx hb dX8_rumours_87 rfl (lv_at hl 1 rfl) ?_
                  obtain ⟨u88, hu88, hM⟩ := bind_some hM
                  refine g_callVv (rest := []) (gr := []) X hl.1 hW (c_X8_tries l G cI cZ cL N aT yT0_76 T_undoes T_kept T_persons T_family T_gives T_warm T_rumour T_seen T_seenOf T_seenBehind T_seenHas T_text T_texted T_place T_number T_readPersons T_readKind T_readComes T_readFamily T_readGives T_readWarm T_readRumour T_toCome T_order T_bestOrder u88 hu88) q_1054 q_1051 q_1053 q_45 q_67 hd_X8_tries rfl ⟨Nat.le_of_ble_eq_true rfl, Nat.le_of_ble_eq_true rfl⟩ ⟨Nat.zero_le _, Nat.zero_le _⟩ [0] [] [wMod cI cZ aT u88 T_undoes T_kept T_persons T_family T_gives T_warm T_rumour T_seen T_seenOf T_seenBehind T_seenHas T_text T_texted T_place T_number T_readPersons T_readKind T_readComes T_readFamily T_readGives T_readWarm T_readRumour T_toCome T_order T_bestOrder] ⟨pm_1_0, rfl, rfl, rfl⟩ ⟨pm_1_0, rfl, rfl, rfl⟩ (q0 := 0) rfl rfl rfl (Nat.le_of_ble_eq_true rfl) dX8_rumours_88 (fun H locs hW => ?_)
                  refine lv_iconst (v := (0 : Int32)) hx hb dX8_rumours_91 (by decide) ?_
                  refine lv_istore (lv' := [(9, .int (0 : Int32)), (8, .int (1 : Int32)), (0, .ref (aT 0)), (1, .int p1), (2, .int p2), (3, .int p3), (4, .int p4), (5, .int x5_76), (6, .int x6_73), (7, .int x7_76)]) hx hb dX8_rumours_92 hl (by decide) rfl (fun ls hl => ?_)
                  have j143 : ∀ (x8_143 : Int32) (yT0_143 : (Nat → Int32)) (H : Heap) (locs : List Loc) (ls : Array Slot), Wd G A s [wMod cI cZ aT yT0_143 T_undoes T_kept T_persons T_family T_gives T_warm T_rumour T_seen T_seenOf T_seenBehind T_seenHas T_text T_texted T_place T_number T_readPersons T_readKind T_readComes T_readFamily T_readGives T_readWarm T_readRumour T_toCome T_order T_bestOrder] H locs → lv_has ls 10 [(0, .ref (aT 0)), (1, .int p1), (2, .int p2), (3, .int p3), (4, .int p4), (5, .int x5_76), (6, .int x6_73), (7, .int x7_76), (8, .int x8_143)] → MX8_rumours_j143 N p1 x5_76 x7_76 (MX8_rumours_l76 N T_persons T_family T_gives T_warm p1 p2 p3 p4 x6_73 n76) x8_143 yT0_143 = some rr → W p l e (rmO 4 98) s m ([.ref (aT 0), .int p1, .int p2, .int p3, .int p4] : List Value).toArray below meth c H locs 0 0 (MQ below (qI G rr.1 [wMod cI cZ aT rr.2 T_undoes T_kept T_persons T_family T_gives T_warm T_rumour T_seen T_seenOf T_seenBehind T_seenHas T_text T_texted T_place T_number T_readPersons T_readKind T_readComes T_readFamily T_readGives T_readWarm T_readRumour T_toCome T_order T_bestOrder] A) ([.ref (aT 0), .int p1, .int p2, .int p3, .int p4] : List Value).toArray s 0 0 A) (F0 m 143 ls []) := by
                    intro x8_143 yT0_143 H locs ls hW hl hM
                    unfold MX8_rumours_j143 at hM
                    refine lv_iload hx hb dX8_rumours_143 (lv_at hl 5 rfl) ?_
                    refine lv_aload_n hx hb dX8_rumours_145 rfl (lv_at hl 0 rfl) ?_
                    refine lv_bipush (v := (66 : Int32)) hx hb dX8_rumours_146 (by decide) ?_
                    refine lv_iload_n hx hb dX8_rumours_148 rfl (lv_at hl 1 rfl) ?_
                    refine lv_iconst (v := (3 : Int32)) hx hb dX8_rumours_149 (by decide) ?_
                    obtain ⟨u150, hu150, hM⟩ := bind_some hM
                    refine g_callVi (rest := [.int x5_76]) (gr := []) X hl.1 hW (c_X8_isWhere l G cI cZ cL N aT yT0_143 T_undoes T_kept T_persons T_family T_gives T_warm T_rumour T_seen T_seenOf T_seenBehind T_seenHas T_text T_texted T_place T_number T_readPersons T_readKind T_readComes T_readFamily T_readGives T_readWarm T_readRumour T_toCome T_order T_bestOrder (66 : Int32) p1 (3 : Int32) u150 hu150) q_1015 q_1012 q_1014 q_42 q_67 hd_X8_isWhere rfl ⟨Nat.le_of_ble_eq_true rfl, Nat.le_of_ble_eq_true rfl⟩ ⟨Nat.zero_le _, Nat.zero_le _⟩ [0] [] [wMod cI cZ aT yT0_143 T_undoes T_kept T_persons T_family T_gives T_warm T_rumour T_seen T_seenOf T_seenBehind T_seenHas T_text T_texted T_place T_number T_readPersons T_readKind T_readComes T_readFamily T_readGives T_readWarm T_readRumour T_toCome T_order T_bestOrder] ⟨pm_1_0, rfl, rfl, rfl⟩ ⟨pm_1_0, rfl, rfl, rfl⟩ (q0 := 0) rfl rfl rfl (Nat.le_of_ble_eq_true rfl) dX8_rumours_150 (fun H locs hW => ?_)
                    have j162 : ∀ (t1_162 : Int32) (H : Heap) (locs : List Loc) (ls : Array Slot), Wd G A s [wMod cI cZ aT yT0_143 T_undoes T_kept T_persons T_family T_gives T_warm T_rumour T_seen T_seenOf T_seenBehind T_seenHas T_text T_texted T_place T_number T_readPersons T_readKind T_readComes T_readFamily T_readGives T_readWarm T_readRumour T_toCome T_order T_bestOrder] H locs → lv_has ls 10 [(0, .ref (aT 0)), (1, .int p1), (2, .int p2), (3, .int p3), (4, .int p4), (6, .int x6_73), (7, .int x7_76)] → MX8_rumours_j162 x5_76 x7_76 (MX8_rumours_l76 N T_persons T_family T_gives T_warm p1 p2 p3 p4 x6_73 n76) yT0_143 t1_162 = some rr → W p l e (rmO 4 98) s m ([.ref (aT 0), .int p1, .int p2, .int p3, .int p4] : List Value).toArray below meth c H locs 0 0 (MQ below (qI G rr.1 [wMod cI cZ aT rr.2 T_undoes T_kept T_persons T_family T_gives T_warm T_rumour T_seen T_seenOf T_seenBehind T_seenHas T_text T_texted T_place T_number T_readPersons T_readKind T_readComes T_readFamily T_readGives T_readWarm T_readRumour T_toCome T_order T_bestOrder] A) ([.ref (aT 0), .int p1, .int p2, .int p3, .int p4] : List Value).toArray s 0 0 A) (F0 m 162 ls [.int t1_162, .int x5_76]) := by
                      intro t1_162 H locs ls hW hl hM
                      unfold MX8_rumours_j162 at hM
                      refine lv_iadd hx hb dX8_rumours_162 ?_
                      refine lv_topi (fun z163 ez163 => ?_)
                      have hM := MLet_some hM z163 ez163
                      refine lv_istore (lv' := [(5, .int z163), (0, .ref (aT 0)), (1, .int p1), (2, .int p2), (3, .int p3), (4, .int p4), (6, .int x6_73), (7, .int x7_76)]) hx hb dX8_rumours_163 hl (by decide) rfl (fun ls hl => ?_)
                      refine lv_iinc (v := x7_76 + (1 : Int32)) (lv' := [(7, .int (x7_76 + (1 : Int32))), (5, .int z163), (0, .ref (aT 0)), (1, .int p1), (2, .int p2), (3, .int p3), (4, .int p4), (6, .int x6_73)]) hx hb dX8_rumours_165 hl (k := 7) rfl rfl (by decide) rfl (fun ls hl => ?_)
                      refine lv_goto (tgt := 76) hx hb dX8_rumours_168 (by decide) ?_
                      exact ih76 z163 (x7_76 + (1 : Int32)) yT0_143 _ _ _ hW (lv_sub hl [2, 3, 4, 5, 6, 1, 7, 0] rfl) hM
                    refine lv_if_eq (tgt := 161) hx hb dX8_rumours_153 (by decide) (fun hc => ?_) (fun hc => ?_)
                    · have hM := (if_pos hc).symm.trans hM
                      refine lv_iconst (v := (0 : Int32)) hx hb dX8_rumours_161 (by decide) ?_
                      exact j162 (0 : Int32) _ _ _ hW (lv_sub hl [0, 1, 2, 3, 4, 6, 7] rfl) hM
                    · have hM := (if_neg hc).symm.trans hM
                      refine lv_iload hx hb dX8_rumours_156 (lv_at hl 8 rfl) ?_
                      refine lv_goto (tgt := 162) hx hb dX8_rumours_158 (by decide) ?_
                      exact j162 x8_143 _ _ _ hW (lv_sub hl [0, 1, 2, 3, 4, 6, 7] rfl) hM
                  have lp94 : ∀ (n94 : Nat) (x8_94 : Int32) (x9_94 : Int32) (yT0_94 : (Nat → Int32)) (H : Heap) (locs : List Loc) (ls : Array Slot), Wd G A s [wMod cI cZ aT yT0_94 T_undoes T_kept T_persons T_family T_gives T_warm T_rumour T_seen T_seenOf T_seenBehind T_seenHas T_text T_texted T_place T_number T_readPersons T_readKind T_readComes T_readFamily T_readGives T_readWarm T_readRumour T_toCome T_order T_bestOrder] H locs → lv_has ls 10 [(0, .ref (aT 0)), (1, .int p1), (2, .int p2), (3, .int p3), (4, .int p4), (5, .int x5_76), (6, .int x6_73), (7, .int x7_76), (8, .int x8_94), (9, .int x9_94)] → MX8_rumours_l94 N T_persons T_family T_gives T_warm p1 p2 p3 x5_76 x7_76 (MX8_rumours_l76 N T_persons T_family T_gives T_warm p1 p2 p3 p4 x6_73 n76) n94 x8_94 x9_94 yT0_94 = some rr → W p l e (rmO 4 98) s m ([.ref (aT 0), .int p1, .int p2, .int p3, .int p4] : List Value).toArray below meth c H locs 0 0 (MQ below (qI G rr.1 [wMod cI cZ aT rr.2 T_undoes T_kept T_persons T_family T_gives T_warm T_rumour T_seen T_seenOf T_seenBehind T_seenHas T_text T_texted T_place T_number T_readPersons T_readKind T_readComes T_readFamily T_readGives T_readWarm T_readRumour T_toCome T_order T_bestOrder] A) ([.ref (aT 0), .int p1, .int p2, .int p3, .int p4] : List Value).toArray s 0 0 A) (F0 m 94 ls []) := by
                    intro n94
                    induction n94 with
                    | zero =>
                      intro x8_94 x9_94 yT0_94 H locs ls hW hl hM
                      rw [MX8_rumours_l94] at hM
                      cases hM
                    | succ n94 ih94 =>
                      intro x8_94 x9_94 yT0_94 H locs ls hW hl hM
                      rw [MX8_rumours_l94] at hM
                      refine lv_iload hx hb dX8_rumours_94 (lv_at hl 9 rfl) ?_
                      refine lv_iload_n hx hb dX8_rumours_96 rfl (lv_at hl 2 rfl) ?_
                      refine lv_icmp_ge (tgt := 143) hx hb dX8_rumours_97 (by decide) (fun hc => ?_) (fun hc => ?_)
                      · have hM := (if_pos hc).symm.trans hM
                        exact j143 x8_94 yT0_94 _ _ _ hW (lv_sub hl [0, 1, 2, 3, 4, 5, 6, 7, 8] rfl) hM
                      · have hM := (if_neg hc).symm.trans hM
                        refine lv_iload hx hb dX8_rumours_100 (lv_at hl 8 rfl) ?_
                        refine lv_iload hx hb dX8_rumours_102 (lv_at hl 7 rfl) ?_
                        refine lv_iload hx hb dX8_rumours_104 (lv_at hl 9 rfl) ?_
                        obtain ⟨u106, hu106, hM⟩ := bind_some hM
                        refine g_callSi (rest := [.int x8_94]) X hl.1 hW (c_X8_isIn l G cI cZ cL N x7_76 x9_94 u106 hu106) q_1128 q_1126 q_1127 q_67 hd_X8_isIn rfl ⟨Nat.le_of_ble_eq_true rfl, Nat.le_of_ble_eq_true rfl⟩ ⟨Nat.zero_le _, Nat.zero_le _⟩ rfl (Nat.le_of_ble_eq_true rfl) dX8_rumours_106 (fun H locs hW => ?_)
                        have j120 : ∀ (t1_120 : Int32) (H : Heap) (locs : List Loc) (ls : Array Slot), Wd G A s [wMod cI cZ aT yT0_94 T_undoes T_kept T_persons T_family T_gives T_warm T_rumour T_seen T_seenOf T_seenBehind T_seenHas T_text T_texted T_place T_number T_readPersons T_readKind T_readComes T_readFamily T_readGives T_readWarm T_readRumour T_toCome T_order T_bestOrder] H locs → lv_has ls 10 [(0, .ref (aT 0)), (1, .int p1), (2, .int p2), (3, .int p3), (4, .int p4), (5, .int x5_76), (6, .int x6_73), (7, .int x7_76), (9, .int x9_94)] → MX8_rumours_j120 N T_persons T_family T_gives T_warm x7_76 x8_94 x9_94 yT0_94 (MX8_rumours_l94 N T_persons T_family T_gives T_warm p1 p2 p3 x5_76 x7_76 (MX8_rumours_l76 N T_persons T_family T_gives T_warm p1 p2 p3 p4 x6_73 n76) n94) t1_120 = some rr → W p l e (rmO 4 98) s m ([.ref (aT 0), .int p1, .int p2, .int p3, .int p4] : List Value).toArray below meth c H locs 0 0 (MQ below (qI G rr.1 [wMod cI cZ aT rr.2 T_undoes T_kept T_persons T_family T_gives T_warm T_rumour T_seen T_seenOf T_seenBehind T_seenHas T_text T_texted T_place T_number T_readPersons T_readKind T_readComes T_readFamily T_readGives T_readWarm T_readRumour T_toCome T_order T_bestOrder] A) ([.ref (aT 0), .int p1, .int p2, .int p3, .int p4] : List Value).toArray s 0 0 A) (F0 m 120 ls [.int t1_120, .int x8_94]) := by
                          intro t1_120 H locs ls hW hl hM
                          unfold MX8_rumours_j120 at hM
                          refine lv_imul hx hb dX8_rumours_120 ?_
                          refine lv_topi (fun z121 ez121 => ?_)
                          have hM := MLet_some hM z121 ez121
                          refine lv_istore (lv' := [(8, .int z121), (0, .ref (aT 0)), (1, .int p1), (2, .int p2), (3, .int p3), (4, .int p4), (5, .int x5_76), (6, .int x6_73), (7, .int x7_76), (9, .int x9_94)]) hx hb dX8_rumours_121 hl (by decide) rfl (fun ls hl => ?_)
                          refine lv_aload_n hx hb dX8_rumours_123 rfl (lv_at hl 1 rfl) ?_
                          refine lv_bipush (v := (66 : Int32)) hx hb dX8_rumours_124 (by decide) ?_
                          refine lv_iconst (v := (0 : Int32)) hx hb dX8_rumours_126 (by decide) ?_
                          refine lv_iload hx hb dX8_rumours_127 (lv_at hl 8 rfl) ?_
                          refine lv_iload hx hb dX8_rumours_129 (lv_at hl 9 rfl) ?_
                          obtain ⟨u131, hu131, hM⟩ := bind_some hM
                          refine g_callSi (rest := [.int (0 : Int32), .int (66 : Int32), .ref (aT 0)]) X hl.1 hW (c_X8_isIn l G cI cZ cL N x7_76 x9_94 u131 hu131) q_1128 q_1126 q_1127 q_67 hd_X8_isIn rfl ⟨Nat.le_of_ble_eq_true rfl, Nat.le_of_ble_eq_true rfl⟩ ⟨Nat.zero_le _, Nat.zero_le _⟩ rfl (Nat.le_of_ble_eq_true rfl) dX8_rumours_131 (fun H locs hW => ?_)
                          obtain ⟨u134, hu134, hM⟩ := bind_some hM
                          refine g_callVv (rest := []) (gr := []) X hl.1 hW (c_X8_passesBy l G cI cZ cL N aT yT0_94 T_undoes T_kept T_persons T_family T_gives T_warm T_rumour T_seen T_seenOf T_seenBehind T_seenHas T_text T_texted T_place T_number T_readPersons T_readKind T_readComes T_readFamily T_readGives T_readWarm T_readRumour T_toCome T_order T_bestOrder (66 : Int32) (0 : Int32) u131 u134 hu134) q_987 q_984 q_986 q_35 q_67 hd_X8_passesBy rfl ⟨Nat.le_of_ble_eq_true rfl, Nat.le_of_ble_eq_true rfl⟩ ⟨Nat.zero_le _, Nat.zero_le _⟩ [0] [] [wMod cI cZ aT u134 T_undoes T_kept T_persons T_family T_gives T_warm T_rumour T_seen T_seenOf T_seenBehind T_seenHas T_text T_texted T_place T_number T_readPersons T_readKind T_readComes T_readFamily T_readGives T_readWarm T_readRumour T_toCome T_order T_bestOrder] ⟨pm_1_0, rfl, rfl, rfl⟩ ⟨pm_1_0, rfl, rfl, rfl⟩ (q0 := 0) rfl rfl rfl (Nat.le_of_ble_eq_true rfl) dX8_rumours_134 (fun H locs hW => ?_)
                          refine lv_iinc (v := x9_94 + (1 : Int32)) (lv' := [(9, .int (x9_94 + (1 : Int32))), (8, .int z121), (0, .ref (aT 0)), (1, .int p1), (2, .int p2), (3, .int p3), (4, .int p4), (5, .int x5_76), (6, .int x6_73), (7, .int x7_76)]) hx hb dX8_rumours_137 hl (k := 9) rfl rfl (by decide) rfl (fun ls hl => ?_)
                          refine lv_goto (tgt := 94) hx hb dX8_rumours_140 (by decide) ?_
                          exact ih94 z121 (x9_94 + (1 : Int32)) u134 _ _ _ hW (lv_sub hl [2, 3, 4, 5, 6, 7, 8, 9, 1, 0] rfl) hM
                        refine lv_if_eq (tgt := 116) hx hb dX8_rumours_109 (by decide) (fun hc => ?_) (fun hc => ?_)
                        · have hM := (if_pos hc).symm.trans hM
                          refine lv_bipush (v := (10 : Int32)) hx hb dX8_rumours_116 (by decide) ?_
                          refine lv_iload_n hx hb dX8_rumours_118 rfl (lv_at hl 3 rfl) ?_
                          refine lv_isub hx hb dX8_rumours_119 ?_
                          exact j120 ((10 : Int32) - p3) _ _ _ hW (lv_sub hl [0, 1, 2, 3, 4, 5, 6, 7, 9] rfl) hM
                        · have hM := (if_neg hc).symm.trans hM
                          refine lv_iload_n hx hb dX8_rumours_112 rfl (lv_at hl 3 rfl) ?_
                          refine lv_goto (tgt := 120) hx hb dX8_rumours_113 (by decide) ?_
                          exact j120 p3 _ _ _ hW (lv_sub hl [0, 1, 2, 3, 4, 5, 6, 7, 9] rfl) hM
                  exact lp94 N (1 : Int32) (0 : Int32) u88 _ _ _ hW (lv_sub hl [2, 3, 4, 5, 6, 7, 8, 9, 1, 0] rfl) hM
            exact lp76 N (0 : Int32) (0 : Int32) T_w _ _ _ hW (lv_sub hl [1, 2, 3, 4, 5, 6, 7, 0] rfl) hM
          have lp54 : ∀ (n54 : Nat) (x6_54 : Int32) (x7_54 : Int32) (H : Heap) (locs : List Loc) (ls : Array Slot), Wd G A s [wMod cI cZ aT T_w T_undoes T_kept T_persons T_family T_gives T_warm T_rumour T_seen T_seenOf T_seenBehind T_seenHas T_text T_texted T_place T_number T_readPersons T_readKind T_readComes T_readFamily T_readGives T_readWarm T_readRumour T_toCome T_order T_bestOrder] H locs → lv_has ls 10 [(0, .ref (aT 0)), (1, .int p1), (2, .int p2), (3, .int p3), (4, .int p4), (5, .int (0 : Int32)), (6, .int x6_54), (7, .int x7_54)] → MX8_rumours_l54 N T_w T_persons T_family T_gives T_warm p1 p2 p3 p4 n54 x6_54 x7_54 = some rr → W p l e (rmO 4 98) s m ([.ref (aT 0), .int p1, .int p2, .int p3, .int p4] : List Value).toArray below meth c H locs 0 0 (MQ below (qI G rr.1 [wMod cI cZ aT rr.2 T_undoes T_kept T_persons T_family T_gives T_warm T_rumour T_seen T_seenOf T_seenBehind T_seenHas T_text T_texted T_place T_number T_readPersons T_readKind T_readComes T_readFamily T_readGives T_readWarm T_readRumour T_toCome T_order T_bestOrder] A) ([.ref (aT 0), .int p1, .int p2, .int p3, .int p4] : List Value).toArray s 0 0 A) (F0 m 54 ls []) := by
            intro n54
            induction n54 with
            | zero =>
              intro x6_54 x7_54 H locs ls hW hl hM
              rw [MX8_rumours_l54] at hM
              cases hM
            | succ n54 ih54 =>
              intro x6_54 x7_54 H locs ls hW hl hM
              rw [MX8_rumours_l54] at hM
              refine lv_iload hx hb dX8_rumours_54 (lv_at hl 7 rfl) ?_
              refine lv_iload_n hx hb dX8_rumours_56 rfl (lv_at hl 2 rfl) ?_
              refine lv_icmp_ge (tgt := 73) hx hb dX8_rumours_57 (by decide) (fun hc => ?_) (fun hc => ?_)
              · have hM := (if_pos hc).symm.trans hM
                exact j73 x6_54 _ _ _ hW (lv_sub hl [0, 1, 2, 3, 4, 5, 6] rfl) hM
              · have hM := (if_neg hc).symm.trans hM
                refine lv_iload hx hb dX8_rumours_60 (lv_at hl 6 rfl) ?_
                refine lv_bipush (v := (10 : Int32)) hx hb dX8_rumours_62 (by decide) ?_
                refine lv_imul hx hb dX8_rumours_64 ?_
                refine lv_topi (fun z65 ez65 => ?_)
                have hM := MLet_some hM z65 ez65
                refine lv_istore (lv' := [(6, .int z65), (0, .ref (aT 0)), (1, .int p1), (2, .int p2), (3, .int p3), (4, .int p4), (5, .int (0 : Int32)), (7, .int x7_54)]) hx hb dX8_rumours_65 hl (by decide) rfl (fun ls hl => ?_)
                refine lv_iinc (v := x7_54 + (1 : Int32)) (lv' := [(7, .int (x7_54 + (1 : Int32))), (6, .int z65), (0, .ref (aT 0)), (1, .int p1), (2, .int p2), (3, .int p3), (4, .int p4), (5, .int (0 : Int32))]) hx hb dX8_rumours_67 hl (k := 7) rfl rfl (by decide) rfl (fun ls hl => ?_)
                refine lv_goto (tgt := 54) hx hb dX8_rumours_70 (by decide) ?_
                exact ih54 z65 (x7_54 + (1 : Int32)) _ _ _ hW (lv_sub hl [2, 3, 4, 5, 6, 7, 1, 0] rfl) hM
          exact lp54 N (1 : Int32) (0 : Int32) _ _ _ hW (lv_sub hl [3, 4, 5, 6, 7, 2, 1, 0] rfl) hM
        · have hM := (if_pos hc).symm.trans hM
          refine lv_iconst (v := (-1 : Int32)) hx hb dX8_rumours_43 (by decide) ?_
          obtain rfl := Option.some.inj hM
          exact g_reti X hW rfl rfl dX8_rumours_44

def MX8_doesBy (N : Nat) (T_w : (Nat → Int32)) (T_persons : Int32) (T_family : (Nat → Int32)) (p1 : Int32) : Option ((Nat → Int32)) :=
  MD T_persons (MLet ((p1 / (8 : Int32)) - (p1 / (8 : Int32)) / T_persons * T_persons) (fun z9 => (MX8_isWhere N T_w (66 : Int32) z9 (1 : Int32)).bind (fun u15 => if (p1 - p1 / (5 : Int32) * (5 : Int32)) = (0 : Int32) then ((MX8_canGiveUp N T_w (66 : Int32) z9).bind (fun u56 => if u56 = 0 then some (T_w) else ((MX8_givesUp N T_w (66 : Int32) z9).bind (fun u66 => some (u66))))) else if (p1 - p1 / (5 : Int32) * (5 : Int32)) = (1 : Int32) then (if u15 = 0 then some (T_w) else ((MX8_sneezes N T_w (66 : Int32) z9).bind (fun u80 => some (u80)))) else if (p1 - p1 / (5 : Int32) * (5 : Int32)) = (2 : Int32) then (if u15 = 0 then some (T_w) else ((MX8_goes N T_w (66 : Int32) z9 (2 : Int32)).bind (fun u95 => some (u95)))) else if (p1 - p1 / (5 : Int32) * (5 : Int32)) = (3 : Int32) then ((MX8_isWhere N T_w (66 : Int32) z9 (2 : Int32)).bind (fun u106 => if u106 = 0 then some (T_w) else ((MX8_joins N T_w T_family (66 : Int32) z9).bind (fun u116 => some (u116))))) else some (T_w))))
set_option maxHeartbeats 4000000 in
set_option maxRecDepth 100000 in
theorem c_X8_doesBy (l : Launch) (G : va_G) (cI cZ cL : ClassId) (N : Nat) (aT : Nat → Nat) (T_w : (Nat → Int32)) (T_undoes : Int32) (T_kept : Int32) (T_persons : Int32) (T_family : (Nat → Int32)) (T_gives : Int32) (T_warm : Int32) (T_rumour : Int32) (T_seen : Int32) (T_seenOf : (Nat → Int32)) (T_seenBehind : (Nat → Int32)) (T_seenHas : (Nat → Int32)) (T_text : (Nat → Int32)) (T_texted : Int32) (T_place : Int32) (T_number : Int32) (T_readPersons : Int32) (T_readKind : (Nat → Int32)) (T_readComes : (Nat → Int32)) (T_readFamily : (Nat → Int32)) (T_readGives : Int32) (T_readWarm : Int32) (T_readRumour : Int32) (T_toCome : (Nat → Int32)) (T_order : (Nat → Int32)) (T_bestOrder : (Nat → Int32)) (p1 : Int32) (rr : (Nat → Int32)) (hM : MX8_doesBy N T_w T_persons T_family p1 = some rr) : CtV l yX8_doesBy cX8_doesBy 4 3 69 G cI cZ cL [.ref (aT 0), .int p1] [wMod cI cZ aT T_w T_undoes T_kept T_persons T_family T_gives T_warm T_rumour T_seen T_seenOf T_seenBehind T_seenHas T_text T_texted T_place T_number T_readPersons T_readKind T_readComes T_readFamily T_readGives T_readWarm T_readRumour T_toCome T_order T_bestOrder] [wMod cI cZ aT rr T_undoes T_kept T_persons T_family T_gives T_warm T_rumour T_seen T_seenOf T_seenBehind T_seenHas T_text T_texted T_place T_number T_readPersons T_readKind T_readComes T_readFamily T_readGives T_readWarm T_readRumour T_toCome T_order T_bestOrder] := by
  refine ct_body (fun A => qV G [wMod cI cZ aT rr T_undoes T_kept T_persons T_family T_gives T_warm T_rumour T_seen T_seenOf T_seenBehind T_seenHas T_text T_texted T_place T_number T_readPersons T_readKind T_readComes T_readFamily T_readGives T_readWarm T_readRumour T_toCome T_order T_bestOrder] A) (by decide) (Nat.le_of_ble_eq_true rfl) (fun p e s m below meth c A ls X hW hl => ?_)
  have hx := X.1
  have hb := X.2.1
  have hts := X.2.2.2.2.2.1
  have hown := X.2.2.2.2.2.2.1
  have hl : lv_has ls 4 [(0, .ref (aT 0)), (1, .int p1)] := hl
  unfold MX8_doesBy at hM
  refine lv_iload_n hx hb dX8_doesBy_0 rfl (lv_at hl 1 rfl) ?_
  refine lv_bipush (v := (8 : Int32)) hx hb dX8_doesBy_1 (by decide) ?_
  refine lv_idiv hx hb dX8_doesBy_3 (by decide) ?_
  refine lv_aload_n hx hb dX8_doesBy_4 rfl (lv_at hl 0 rfl) ?_
  refine g_get X hW 0 rfl rfl inX8 3 (by decide) q_820 rfl dX8_doesBy_5 ?_
  obtain ⟨hz8, hM⟩ := MD_some hM
  refine lv_irem hx hb dX8_doesBy_8 hz8 ?_
  refine lv_topi (fun z9 ez9 => ?_)
  have hM := MLet_some hM z9 ez9
  refine lv_istore_n (lv' := [(2, .int z9), (0, .ref (aT 0)), (1, .int p1)]) hx hb dX8_doesBy_9 rfl hl (by decide) rfl (fun ls hl => ?_)
  refine lv_aload_n hx hb dX8_doesBy_10 rfl (lv_at hl 1 rfl) ?_
  refine lv_bipush (v := (66 : Int32)) hx hb dX8_doesBy_11 (by decide) ?_
  refine lv_iload_n hx hb dX8_doesBy_13 rfl (lv_at hl 0 rfl) ?_
  refine lv_iconst (v := (1 : Int32)) hx hb dX8_doesBy_14 (by decide) ?_
  obtain ⟨u15, hu15, hM⟩ := bind_some hM
  refine g_callVi (rest := []) (gr := []) X hl.1 hW (c_X8_isWhere l G cI cZ cL N aT T_w T_undoes T_kept T_persons T_family T_gives T_warm T_rumour T_seen T_seenOf T_seenBehind T_seenHas T_text T_texted T_place T_number T_readPersons T_readKind T_readComes T_readFamily T_readGives T_readWarm T_readRumour T_toCome T_order T_bestOrder (66 : Int32) z9 (1 : Int32) u15 hu15) q_1015 q_1012 q_1014 q_42 q_67 hd_X8_isWhere rfl ⟨Nat.le_of_ble_eq_true rfl, Nat.le_of_ble_eq_true rfl⟩ ⟨Nat.zero_le _, Nat.zero_le _⟩ [0] [] [wMod cI cZ aT T_w T_undoes T_kept T_persons T_family T_gives T_warm T_rumour T_seen T_seenOf T_seenBehind T_seenHas T_text T_texted T_place T_number T_readPersons T_readKind T_readComes T_readFamily T_readGives T_readWarm T_readRumour T_toCome T_order T_bestOrder] ⟨pm_1_0, rfl, rfl, rfl⟩ ⟨pm_1_0, rfl, rfl, rfl⟩ (q0 := 0) rfl rfl rfl (Nat.le_of_ble_eq_true rfl) dX8_doesBy_15 (fun H locs hW => ?_)
  refine lv_istore_n (lv' := [(3, .int u15), (2, .int z9), (0, .ref (aT 0)), (1, .int p1)]) hx hb dX8_doesBy_18 rfl hl (by decide) rfl (fun ls hl => ?_)
  refine lv_iload_n hx hb dX8_doesBy_19 rfl (lv_at hl 3 rfl) ?_
  refine lv_iconst (v := (5 : Int32)) hx hb dX8_doesBy_20 (by decide) ?_
  refine lv_irem hx hb dX8_doesBy_21 (by decide) ?_
  by_cases hs22_0 : (p1 - p1 / (5 : Int32) * (5 : Int32)) = (0 : Int32)
  · have hM := (if_pos hs22_0).symm.trans hM
    refine lv_tableIn (off := 30) (tgt := 52) hx hb dX8_doesBy_22 (by rw [hs22_0]; decide) (by rw [hs22_0]; decide) (by rw [hs22_0]; rfl) (by decide) ?_
    refine lv_aload_n hx hb dX8_doesBy_52 rfl (lv_at hl 2 rfl) ?_
    refine lv_bipush (v := (66 : Int32)) hx hb dX8_doesBy_53 (by decide) ?_
    refine lv_iload_n hx hb dX8_doesBy_55 rfl (lv_at hl 1 rfl) ?_
    obtain ⟨u56, hu56, hM⟩ := bind_some hM
    refine g_callVi (rest := []) (gr := []) X hl.1 hW (c_X8_canGiveUp l G cI cZ cL N aT T_w T_undoes T_kept T_persons T_family T_gives T_warm T_rumour T_seen T_seenOf T_seenBehind T_seenHas T_text T_texted T_place T_number T_readPersons T_readKind T_readComes T_readFamily T_readGives T_readWarm T_readRumour T_toCome T_order T_bestOrder (66 : Int32) z9 u56 hu56) q_1023 q_1020 q_1022 q_43 q_67 hd_X8_canGiveUp rfl ⟨Nat.le_of_ble_eq_true rfl, Nat.le_of_ble_eq_true rfl⟩ ⟨Nat.zero_le _, Nat.zero_le _⟩ [0] [] [wMod cI cZ aT T_w T_undoes T_kept T_persons T_family T_gives T_warm T_rumour T_seen T_seenOf T_seenBehind T_seenHas T_text T_texted T_place T_number T_readPersons T_readKind T_readComes T_readFamily T_readGives T_readWarm T_readRumour T_toCome T_order T_bestOrder] ⟨pm_1_0, rfl, rfl, rfl⟩ ⟨pm_1_0, rfl, rfl, rfl⟩ (q0 := 0) rfl rfl rfl (Nat.le_of_ble_eq_true rfl) dX8_doesBy_56 (fun H locs hW => ?_)
    refine lv_if_eq (tgt := 122) hx hb dX8_doesBy_59 (by decide) (fun hc => ?_) (fun hc => ?_)
    · have hM := (if_pos hc).symm.trans hM
      obtain rfl := Option.some.inj hM
      exact g_retv X hW dX8_doesBy_122
    · have hM := (if_neg hc).symm.trans hM
      refine lv_aload_n hx hb dX8_doesBy_62 rfl (lv_at hl 2 rfl) ?_
      refine lv_bipush (v := (66 : Int32)) hx hb dX8_doesBy_63 (by decide) ?_
      refine lv_iload_n hx hb dX8_doesBy_65 rfl (lv_at hl 1 rfl) ?_
      obtain ⟨u66, hu66, hM⟩ := bind_some hM
      refine g_callVv (rest := []) (gr := []) X hl.1 hW (c_X8_givesUp l G cI cZ cL N aT T_w T_undoes T_kept T_persons T_family T_gives T_warm T_rumour T_seen T_seenOf T_seenBehind T_seenHas T_text T_texted T_place T_number T_readPersons T_readKind T_readComes T_readFamily T_readGives T_readWarm T_readRumour T_toCome T_order T_bestOrder (66 : Int32) z9 u66 hu66) q_1027 q_1024 q_1026 q_44 q_67 hd_X8_givesUp rfl ⟨Nat.le_of_ble_eq_true rfl, Nat.le_of_ble_eq_true rfl⟩ ⟨Nat.zero_le _, Nat.zero_le _⟩ [0] [] [wMod cI cZ aT u66 T_undoes T_kept T_persons T_family T_gives T_warm T_rumour T_seen T_seenOf T_seenBehind T_seenHas T_text T_texted T_place T_number T_readPersons T_readKind T_readComes T_readFamily T_readGives T_readWarm T_readRumour T_toCome T_order T_bestOrder] ⟨pm_1_0, rfl, rfl, rfl⟩ ⟨pm_1_0, rfl, rfl, rfl⟩ (q0 := 0) rfl rfl rfl (Nat.le_of_ble_eq_true rfl) dX8_doesBy_66 (fun H locs hW => ?_)
      refine lv_goto (tgt := 122) hx hb dX8_doesBy_69 (by decide) ?_
      obtain rfl := Option.some.inj hM
      exact g_retv X hW dX8_doesBy_122
  · have hM := (if_neg hs22_0).symm.trans hM
    by_cases hs22_1 : (p1 - p1 / (5 : Int32) * (5 : Int32)) = (1 : Int32)
    · have hM := (if_pos hs22_1).symm.trans hM
      refine lv_tableIn (off := 50) (tgt := 72) hx hb dX8_doesBy_22 (by rw [hs22_1]; decide) (by rw [hs22_1]; decide) (by rw [hs22_1]; rfl) (by decide) ?_
      refine lv_iload_n hx hb dX8_doesBy_72 rfl (lv_at hl 0 rfl) ?_
      refine lv_if_eq (tgt := 122) hx hb dX8_doesBy_73 (by decide) (fun hc => ?_) (fun hc => ?_)
      · have hM := (if_pos hc).symm.trans hM
        obtain rfl := Option.some.inj hM
        exact g_retv X hW dX8_doesBy_122
      · have hM := (if_neg hc).symm.trans hM
        refine lv_aload_n hx hb dX8_doesBy_76 rfl (lv_at hl 2 rfl) ?_
        refine lv_bipush (v := (66 : Int32)) hx hb dX8_doesBy_77 (by decide) ?_
        refine lv_iload_n hx hb dX8_doesBy_79 rfl (lv_at hl 1 rfl) ?_
        obtain ⟨u80, hu80, hM⟩ := bind_some hM
        refine g_callVv (rest := []) (gr := []) X hl.1 hW (c_X8_sneezes l G cI cZ cL N aT T_w T_undoes T_kept T_persons T_family T_gives T_warm T_rumour T_seen T_seenOf T_seenBehind T_seenHas T_text T_texted T_place T_number T_readPersons T_readKind T_readComes T_readFamily T_readGives T_readWarm T_readRumour T_toCome T_order T_bestOrder (66 : Int32) z9 u80 hu80) q_999 q_996 q_998 q_38 q_67 hd_X8_sneezes rfl ⟨Nat.le_of_ble_eq_true rfl, Nat.le_of_ble_eq_true rfl⟩ ⟨Nat.zero_le _, Nat.zero_le _⟩ [0] [] [wMod cI cZ aT u80 T_undoes T_kept T_persons T_family T_gives T_warm T_rumour T_seen T_seenOf T_seenBehind T_seenHas T_text T_texted T_place T_number T_readPersons T_readKind T_readComes T_readFamily T_readGives T_readWarm T_readRumour T_toCome T_order T_bestOrder] ⟨pm_1_0, rfl, rfl, rfl⟩ ⟨pm_1_0, rfl, rfl, rfl⟩ (q0 := 0) rfl rfl rfl (Nat.le_of_ble_eq_true rfl) dX8_doesBy_80 (fun H locs hW => ?_)
        refine lv_goto (tgt := 122) hx hb dX8_doesBy_83 (by decide) ?_
        obtain rfl := Option.some.inj hM
        exact g_retv X hW dX8_doesBy_122
    · have hM := (if_neg hs22_1).symm.trans hM
      by_cases hs22_2 : (p1 - p1 / (5 : Int32) * (5 : Int32)) = (2 : Int32)
      · have hM := (if_pos hs22_2).symm.trans hM
        refine lv_tableIn (off := 64) (tgt := 86) hx hb dX8_doesBy_22 (by rw [hs22_2]; decide) (by rw [hs22_2]; decide) (by rw [hs22_2]; rfl) (by decide) ?_
        refine lv_iload_n hx hb dX8_doesBy_86 rfl (lv_at hl 0 rfl) ?_
        refine lv_if_eq (tgt := 122) hx hb dX8_doesBy_87 (by decide) (fun hc => ?_) (fun hc => ?_)
        · have hM := (if_pos hc).symm.trans hM
          obtain rfl := Option.some.inj hM
          exact g_retv X hW dX8_doesBy_122
        · have hM := (if_neg hc).symm.trans hM
          refine lv_aload_n hx hb dX8_doesBy_90 rfl (lv_at hl 2 rfl) ?_
          refine lv_bipush (v := (66 : Int32)) hx hb dX8_doesBy_91 (by decide) ?_
          refine lv_iload_n hx hb dX8_doesBy_93 rfl (lv_at hl 1 rfl) ?_
          refine lv_iconst (v := (2 : Int32)) hx hb dX8_doesBy_94 (by decide) ?_
          obtain ⟨u95, hu95, hM⟩ := bind_some hM
          refine g_callVv (rest := []) (gr := []) X hl.1 hW (c_X8_goes l G cI cZ cL N aT T_w T_undoes T_kept T_persons T_family T_gives T_warm T_rumour T_seen T_seenOf T_seenBehind T_seenHas T_text T_texted T_place T_number T_readPersons T_readKind T_readComes T_readFamily T_readGives T_readWarm T_readRumour T_toCome T_order T_bestOrder (66 : Int32) z9 (2 : Int32) u95 hu95) q_1003 q_1000 q_1002 q_39 q_67 hd_X8_goes rfl ⟨Nat.le_of_ble_eq_true rfl, Nat.le_of_ble_eq_true rfl⟩ ⟨Nat.zero_le _, Nat.zero_le _⟩ [0] [] [wMod cI cZ aT u95 T_undoes T_kept T_persons T_family T_gives T_warm T_rumour T_seen T_seenOf T_seenBehind T_seenHas T_text T_texted T_place T_number T_readPersons T_readKind T_readComes T_readFamily T_readGives T_readWarm T_readRumour T_toCome T_order T_bestOrder] ⟨pm_1_0, rfl, rfl, rfl⟩ ⟨pm_1_0, rfl, rfl, rfl⟩ (q0 := 0) rfl rfl rfl (Nat.le_of_ble_eq_true rfl) dX8_doesBy_95 (fun H locs hW => ?_)
          refine lv_goto (tgt := 122) hx hb dX8_doesBy_98 (by decide) ?_
          obtain rfl := Option.some.inj hM
          exact g_retv X hW dX8_doesBy_122
      · have hM := (if_neg hs22_2).symm.trans hM
        by_cases hs22_3 : (p1 - p1 / (5 : Int32) * (5 : Int32)) = (3 : Int32)
        · have hM := (if_pos hs22_3).symm.trans hM
          refine lv_tableIn (off := 79) (tgt := 101) hx hb dX8_doesBy_22 (by rw [hs22_3]; decide) (by rw [hs22_3]; decide) (by rw [hs22_3]; rfl) (by decide) ?_
          refine lv_aload_n hx hb dX8_doesBy_101 rfl (lv_at hl 2 rfl) ?_
          refine lv_bipush (v := (66 : Int32)) hx hb dX8_doesBy_102 (by decide) ?_
          refine lv_iload_n hx hb dX8_doesBy_104 rfl (lv_at hl 1 rfl) ?_
          refine lv_iconst (v := (2 : Int32)) hx hb dX8_doesBy_105 (by decide) ?_
          obtain ⟨u106, hu106, hM⟩ := bind_some hM
          refine g_callVi (rest := []) (gr := []) X hl.1 hW (c_X8_isWhere l G cI cZ cL N aT T_w T_undoes T_kept T_persons T_family T_gives T_warm T_rumour T_seen T_seenOf T_seenBehind T_seenHas T_text T_texted T_place T_number T_readPersons T_readKind T_readComes T_readFamily T_readGives T_readWarm T_readRumour T_toCome T_order T_bestOrder (66 : Int32) z9 (2 : Int32) u106 hu106) q_1015 q_1012 q_1014 q_42 q_67 hd_X8_isWhere rfl ⟨Nat.le_of_ble_eq_true rfl, Nat.le_of_ble_eq_true rfl⟩ ⟨Nat.zero_le _, Nat.zero_le _⟩ [0] [] [wMod cI cZ aT T_w T_undoes T_kept T_persons T_family T_gives T_warm T_rumour T_seen T_seenOf T_seenBehind T_seenHas T_text T_texted T_place T_number T_readPersons T_readKind T_readComes T_readFamily T_readGives T_readWarm T_readRumour T_toCome T_order T_bestOrder] ⟨pm_1_0, rfl, rfl, rfl⟩ ⟨pm_1_0, rfl, rfl, rfl⟩ (q0 := 0) rfl rfl rfl (Nat.le_of_ble_eq_true rfl) dX8_doesBy_106 (fun H locs hW => ?_)
          refine lv_if_eq (tgt := 122) hx hb dX8_doesBy_109 (by decide) (fun hc => ?_) (fun hc => ?_)
          · have hM := (if_pos hc).symm.trans hM
            obtain rfl := Option.some.inj hM
            exact g_retv X hW dX8_doesBy_122
          · have hM := (if_neg hc).symm.trans hM
            refine lv_aload_n hx hb dX8_doesBy_112 rfl (lv_at hl 2 rfl) ?_
            refine lv_bipush (v := (66 : Int32)) hx hb dX8_doesBy_113 (by decide) ?_
            refine lv_iload_n hx hb dX8_doesBy_115 rfl (lv_at hl 1 rfl) ?_
            obtain ⟨u116, hu116, hM⟩ := bind_some hM
            refine g_callVv (rest := []) (gr := []) X hl.1 hW (c_X8_joins l G cI cZ cL N aT T_w T_undoes T_kept T_persons T_family T_gives T_warm T_rumour T_seen T_seenOf T_seenBehind T_seenHas T_text T_texted T_place T_number T_readPersons T_readKind T_readComes T_readFamily T_readGives T_readWarm T_readRumour T_toCome T_order T_bestOrder (66 : Int32) z9 u116 hu116) q_991 q_988 q_990 q_36 q_67 hd_X8_joins rfl ⟨Nat.le_of_ble_eq_true rfl, Nat.le_of_ble_eq_true rfl⟩ ⟨Nat.zero_le _, Nat.zero_le _⟩ [0] [] [wMod cI cZ aT u116 T_undoes T_kept T_persons T_family T_gives T_warm T_rumour T_seen T_seenOf T_seenBehind T_seenHas T_text T_texted T_place T_number T_readPersons T_readKind T_readComes T_readFamily T_readGives T_readWarm T_readRumour T_toCome T_order T_bestOrder] ⟨pm_1_0, rfl, rfl, rfl⟩ ⟨pm_1_0, rfl, rfl, rfl⟩ (q0 := 0) rfl rfl rfl (Nat.le_of_ble_eq_true rfl) dX8_doesBy_116 (fun H locs hW => ?_)
            refine lv_goto (tgt := 122) hx hb dX8_doesBy_119 (by decide) ?_
            obtain rfl := Option.some.inj hM
            exact g_retv X hW dX8_doesBy_122
        · have hM := (if_neg hs22_3).symm.trans hM
          refine lv_tableOut (tgt := 122) hx hb dX8_doesBy_22 (sw_out 3 (fun j hj => by rcases sw_le3 hj with rfl | rfl | rfl | rfl <;> assumption)) (by decide) ?_
          obtain rfl := Option.some.inj hM
          exact g_retv X hW dX8_doesBy_122

def MX8_day_j136 (N : Nat) (T_warm : Int32) (p3 : Int32) (yT0_93 : (Nat → Int32)) (x4_136 : Int32) : Option (Int32 × (Nat → Int32)) :=
  if p3 = 0 then some (x4_136, yT0_93) else (MG (1 : Int32) 792 (MG (67 : Int32) 792 ((MX8_warmthOf N T_warm (yT0_93 (1 : Int32).toNatClampNeg) (yT0_93 (67 : Int32).toNatClampNeg)).bind (fun u159 => some (u159, yT0_93)))))
def MX8_day_j127 (x4_99 : Int32) (x5_99 : Int32) (rc99 : (Int32 → Int32 → Option (Int32 × (Nat → Int32)))) (t1_127 : Int32) : Option (Int32 × (Nat → Int32)) :=
  MLet (x4_99 + t1_127) (fun z128 => rc99 z128 (x5_99 + (1 : Int32)))
def MX8_day_l99 (N : Nat) (T_persons : Int32) (T_warm : Int32) (p3 : Int32) (yT0_93 : (Nat → Int32)) : Nat → Int32 → Int32 → Option (Int32 × (Nat → Int32))
  | 0, _, _ => none
  | n99 + 1, x4_99, x5_99 =>
    if T_persons ≤ x5_99 then (MX8_day_j136 N T_warm p3 yT0_93 x4_99) else ((MX8_isWhere N yT0_93 (66 : Int32) x5_99 (3 : Int32)).bind (fun u116 => if u116 = 0 then (MX8_day_j127 x4_99 x5_99 (MX8_day_l99 N T_persons T_warm p3 yT0_93 n99) (0 : Int32)) else (MX8_day_j127 x4_99 x5_99 (MX8_day_l99 N T_persons T_warm p3 yT0_93 n99) (1 : Int32))))
def MX8_day_j93 (N : Nat) (T_persons : Int32) (T_warm : Int32) (p3 : Int32) (yT0_93 : (Nat → Int32)) : Option (Int32 × (Nat → Int32)) :=
  MX8_day_l99 N T_persons T_warm p3 yT0_93 N (0 : Int32) (0 : Int32)
def MX8_day_l43 (N : Nat) (T_persons : Int32) (T_family : (Nat → Int32)) (T_gives : Int32) (T_warm : Int32) (T_rumour : Int32) (p1 : Int32) (p2 : Int32) (p3 : Int32) : Nat → Int32 → (Nat → Int32) → Option (Int32 × (Nat → Int32))
  | 0, _, _ => none
  | n43 + 1, x4_43, yT0_43 =>
    if p2 ≤ x4_43 then (MX8_day_j93 N T_persons T_warm p3 yT0_43) else (MLet ((((7919 : Int64) * p1.toInt64) + ((6151 : Int64) * x4_43.toInt64)) + (1 : Int64)) (fun z65 => (MX8_doesBy N yT0_43 T_persons T_family (((z65 * z65) - (z65 * z65) / (65521 : Int64) * (65521 : Int64)).toInt32)).bind (fun u78 => (MX8_passes N u78 T_persons T_family T_gives T_warm T_rumour (66 : Int32)).bind (fun u84 => (MX8_day_l43 N T_persons T_family T_gives T_warm T_rumour p1 p2 p3 n43) (x4_43 + (1 : Int32)) u84))))
def MX8_day (N : Nat) (T_w : (Nat → Int32)) (T_persons : Int32) (T_family : (Nat → Int32)) (T_gives : Int32) (T_warm : Int32) (T_rumour : Int32) (p1 : Int32) (p2 : Int32) (p3 : Int32) : Option (Int32 × (Nat → Int32)) :=
  (MX8_in N p1.toInt64 (0 : Int64) (9999 : Int64)).bind (fun u6 => if u6 = 0 then some ((-1 : Int32), T_w) else ((MX8_in N p2.toInt64 (1 : Int64) (60 : Int64)).bind (fun u18 => if u18 = 0 then some ((-1 : Int32), T_w) else ((MX8_in N p3.toInt64 (0 : Int64) (1 : Int64)).bind (fun u28 => if u28 = 0 then some ((-1 : Int32), T_w) else ((MX8_tries N T_w).bind (fun u37 => MX8_day_l43 N T_persons T_family T_gives T_warm T_rumour p1 p2 p3 N (0 : Int32) u37)))))))
set_option maxHeartbeats 4000000 in
set_option maxRecDepth 100000 in
theorem c_X8_day (l : Launch) (G : va_G) (cI cZ cL : ClassId) (N : Nat) (aT : Nat → Nat) (T_w : (Nat → Int32)) (T_undoes : Int32) (T_kept : Int32) (T_persons : Int32) (T_family : (Nat → Int32)) (T_gives : Int32) (T_warm : Int32) (T_rumour : Int32) (T_seen : Int32) (T_seenOf : (Nat → Int32)) (T_seenBehind : (Nat → Int32)) (T_seenHas : (Nat → Int32)) (T_text : (Nat → Int32)) (T_texted : Int32) (T_place : Int32) (T_number : Int32) (T_readPersons : Int32) (T_readKind : (Nat → Int32)) (T_readComes : (Nat → Int32)) (T_readFamily : (Nat → Int32)) (T_readGives : Int32) (T_readWarm : Int32) (T_readRumour : Int32) (T_toCome : (Nat → Int32)) (T_order : (Nat → Int32)) (T_bestOrder : (Nat → Int32)) (p1 : Int32) (p2 : Int32) (p3 : Int32) (rr : Int32 × (Nat → Int32)) (hM : MX8_day N T_w T_persons T_family T_gives T_warm T_rumour p1 p2 p3 = some rr) : CtI l yX8_day cX8_day 7 .int 5 119 G cI cZ cL [.ref (aT 0), .int p1, .int p2, .int p3] [wMod cI cZ aT T_w T_undoes T_kept T_persons T_family T_gives T_warm T_rumour T_seen T_seenOf T_seenBehind T_seenHas T_text T_texted T_place T_number T_readPersons T_readKind T_readComes T_readFamily T_readGives T_readWarm T_readRumour T_toCome T_order T_bestOrder] rr.1 [wMod cI cZ aT rr.2 T_undoes T_kept T_persons T_family T_gives T_warm T_rumour T_seen T_seenOf T_seenBehind T_seenHas T_text T_texted T_place T_number T_readPersons T_readKind T_readComes T_readFamily T_readGives T_readWarm T_readRumour T_toCome T_order T_bestOrder] := by
  refine ct_body (fun A => qI G rr.1 [wMod cI cZ aT rr.2 T_undoes T_kept T_persons T_family T_gives T_warm T_rumour T_seen T_seenOf T_seenBehind T_seenHas T_text T_texted T_place T_number T_readPersons T_readKind T_readComes T_readFamily T_readGives T_readWarm T_readRumour T_toCome T_order T_bestOrder] A) (by decide) (Nat.le_of_ble_eq_true rfl) (fun p e s m below meth c A ls X hW hl => ?_)
  have hx := X.1
  have hb := X.2.1
  have hts := X.2.2.2.2.2.1
  have hown := X.2.2.2.2.2.2.1
  have hl : lv_has ls 7 [(0, .ref (aT 0)), (1, .int p1), (2, .int p2), (3, .int p3)] := hl
  unfold MX8_day at hM
  refine lv_iload_n hx hb dX8_day_0 rfl (lv_at hl 1 rfl) ?_
  refine lv_i2l hx hb dX8_day_1 rfl ?_
  refine lv_lconst (v := (0 : Int64)) hx hb dX8_day_2 (by decide) ?_
  refine lv_ldc2 (v := (9999 : Int64)) hx hb hown (hts _ q_1133) dX8_day_3 ?_
  obtain ⟨u6, hu6, hM⟩ := bind_some hM
  refine g_callSi (rest := []) X hl.1 hW (c_X8_in l G cI cZ cL N p1.toInt64 (0 : Int64) (9999 : Int64) u6 hu6) q_904 q_902 q_903 q_67 hd_X8_in rfl ⟨Nat.le_of_ble_eq_true rfl, Nat.le_of_ble_eq_true rfl⟩ ⟨Nat.zero_le _, Nat.zero_le _⟩ rfl (Nat.le_of_ble_eq_true rfl) dX8_day_6 (fun H locs hW => ?_)
  refine lv_if_eq (tgt := 34) hx hb dX8_day_9 (by decide) (fun hc => ?_) (fun hc => ?_)
  · have hM := (if_pos hc).symm.trans hM
    refine lv_iconst (v := (-1 : Int32)) hx hb dX8_day_34 (by decide) ?_
    obtain rfl := Option.some.inj hM
    exact g_reti X hW rfl rfl dX8_day_35
  · have hM := (if_neg hc).symm.trans hM
    refine lv_iload_n hx hb dX8_day_12 rfl (lv_at hl 2 rfl) ?_
    refine lv_i2l hx hb dX8_day_13 rfl ?_
    refine lv_lconst (v := (1 : Int64)) hx hb dX8_day_14 (by decide) ?_
    refine lv_ldc2 (v := (60 : Int64)) hx hb hown (hts _ q_1048) dX8_day_15 ?_
    obtain ⟨u18, hu18, hM⟩ := bind_some hM
    refine g_callSi (rest := []) X hl.1 hW (c_X8_in l G cI cZ cL N p2.toInt64 (1 : Int64) (60 : Int64) u18 hu18) q_904 q_902 q_903 q_67 hd_X8_in rfl ⟨Nat.le_of_ble_eq_true rfl, Nat.le_of_ble_eq_true rfl⟩ ⟨Nat.zero_le _, Nat.zero_le _⟩ rfl (Nat.le_of_ble_eq_true rfl) dX8_day_18 (fun H locs hW => ?_)
    refine lv_if_eq (tgt := 34) hx hb dX8_day_21 (by decide) (fun hc => ?_) (fun hc => ?_)
    · have hM := (if_pos hc).symm.trans hM
      refine lv_iconst (v := (-1 : Int32)) hx hb dX8_day_34 (by decide) ?_
      obtain rfl := Option.some.inj hM
      exact g_reti X hW rfl rfl dX8_day_35
    · have hM := (if_neg hc).symm.trans hM
      refine lv_iload_n hx hb dX8_day_24 rfl (lv_at hl 3 rfl) ?_
      refine lv_i2l hx hb dX8_day_25 rfl ?_
      refine lv_lconst (v := (0 : Int64)) hx hb dX8_day_26 (by decide) ?_
      refine lv_lconst (v := (1 : Int64)) hx hb dX8_day_27 (by decide) ?_
      obtain ⟨u28, hu28, hM⟩ := bind_some hM
      refine g_callSi (rest := []) X hl.1 hW (c_X8_in l G cI cZ cL N p3.toInt64 (0 : Int64) (1 : Int64) u28 hu28) q_904 q_902 q_903 q_67 hd_X8_in rfl ⟨Nat.le_of_ble_eq_true rfl, Nat.le_of_ble_eq_true rfl⟩ ⟨Nat.zero_le _, Nat.zero_le _⟩ rfl (Nat.le_of_ble_eq_true rfl) dX8_day_28 (fun H locs hW => ?_)
      refine lv_if_ne (tgt := 36) hx hb dX8_day_31 (by decide) (fun hc => ?_) (fun hc => ?_)
      · have hM := (if_neg hc).symm.trans hM
        refine lv_aload_n hx hb dX8_day_36 rfl (lv_at hl 0 rfl) ?_
        obtain ⟨u37, hu37, hM⟩ := bind_some hM
        refine g_callVv (rest := []) (gr := []) X hl.1 hW (c_X8_tries l G cI cZ cL N aT T_w T_undoes T_kept T_persons T_family T_gives T_warm T_rumour T_seen T_seenOf T_seenBehind T_seenHas T_text T_texted T_place T_number T_readPersons T_readKind T_readComes T_readFamily T_readGives T_readWarm T_readRumour T_toCome T_order T_bestOrder u37 hu37) q_1054 q_1051 q_1053 q_45 q_67 hd_X8_tries rfl ⟨Nat.le_of_ble_eq_true rfl, Nat.le_of_ble_eq_true rfl⟩ ⟨Nat.zero_le _, Nat.zero_le _⟩ [0] [] [wMod cI cZ aT u37 T_undoes T_kept T_persons T_family T_gives T_warm T_rumour T_seen T_seenOf T_seenBehind T_seenHas T_text T_texted T_place T_number T_readPersons T_readKind T_readComes T_readFamily T_readGives T_readWarm T_readRumour T_toCome T_order T_bestOrder] ⟨pm_1_0, rfl, rfl, rfl⟩ ⟨pm_1_0, rfl, rfl, rfl⟩ (q0 := 0) rfl rfl rfl (Nat.le_of_ble_eq_true rfl) dX8_day_37 (fun H locs hW => ?_)
        refine lv_iconst (v := (0 : Int32)) hx hb dX8_day_40 (by decide) ?_
        refine lv_istore (lv' := [(4, .int (0 : Int32)), (0, .ref (aT 0)), (1, .int p1), (2, .int p2), (3, .int p3)]) hx hb dX8_day_41 hl (by decide) rfl (fun ls hl => ?_)
        have j93 : ∀ (yT0_93 : (Nat → Int32)) (H : Heap) (locs : List Loc) (ls : Array Slot), Wd G A s [wMod cI cZ aT yT0_93 T_undoes T_kept T_persons T_family T_gives T_warm T_rumour T_seen T_seenOf T_seenBehind T_seenHas T_text T_texted T_place T_number T_readPersons T_readKind T_readComes T_readFamily T_readGives T_readWarm T_readRumour T_toCome T_order T_bestOrder] H locs → lv_has ls 7 [(0, .ref (aT 0)), (3, .int p3)] → MX8_day_j93 N T_persons T_warm p3 yT0_93 = some rr → W p l e (rmO 5 119) s m ([.ref (aT 0), .int p1, .int p2, .int p3] : List Value).toArray below meth c H locs 0 0 (MQ below (qI G rr.1 [wMod cI cZ aT rr.2 T_undoes T_kept T_persons T_family T_gives T_warm T_rumour T_seen T_seenOf T_seenBehind T_seenHas T_text T_texted T_place T_number T_readPersons T_readKind T_readComes T_readFamily T_readGives T_readWarm T_readRumour T_toCome T_order T_bestOrder] A) ([.ref (aT 0), .int p1, .int p2, .int p3] : List Value).toArray s 0 0 A) (F0 m 93 ls []) := by
          intro yT0_93 H locs ls hW hl hM
          unfold MX8_day_j93 at hM
          refine lv_iconst (v := (0 : Int32)) hx hb dX8_day_93 (by decide) ?_
          refine lv_istore (lv' := [(4, .int (0 : Int32)), (0, .ref (aT 0)), (3, .int p3)]) hx hb dX8_day_94 hl (by decide) rfl (fun ls hl => ?_)
          refine lv_iconst (v := (0 : Int32)) hx hb dX8_day_96 (by decide) ?_
          refine lv_istore (lv' := [(5, .int (0 : Int32)), (4, .int (0 : Int32)), (0, .ref (aT 0)), (3, .int p3)]) hx hb dX8_day_97 hl (by decide) rfl (fun ls hl => ?_)
          have j136 : ∀ (x4_136 : Int32) (H : Heap) (locs : List Loc) (ls : Array Slot), Wd G A s [wMod cI cZ aT yT0_93 T_undoes T_kept T_persons T_family T_gives T_warm T_rumour T_seen T_seenOf T_seenBehind T_seenHas T_text T_texted T_place T_number T_readPersons T_readKind T_readComes T_readFamily T_readGives T_readWarm T_readRumour T_toCome T_order T_bestOrder] H locs → lv_has ls 7 [(0, .ref (aT 0)), (3, .int p3), (4, .int x4_136)] → MX8_day_j136 N T_warm p3 yT0_93 x4_136 = some rr → W p l e (rmO 5 119) s m ([.ref (aT 0), .int p1, .int p2, .int p3] : List Value).toArray below meth c H locs 0 0 (MQ below (qI G rr.1 [wMod cI cZ aT rr.2 T_undoes T_kept T_persons T_family T_gives T_warm T_rumour T_seen T_seenOf T_seenBehind T_seenHas T_text T_texted T_place T_number T_readPersons T_readKind T_readComes T_readFamily T_readGives T_readWarm T_readRumour T_toCome T_order T_bestOrder] A) ([.ref (aT 0), .int p1, .int p2, .int p3] : List Value).toArray s 0 0 A) (F0 m 136 ls []) := by
            intro x4_136 H locs ls hW hl hM
            unfold MX8_day_j136 at hM
            refine lv_iload_n hx hb dX8_day_136 rfl (lv_at hl 1 rfl) ?_
            refine lv_if_ne (tgt := 145) hx hb dX8_day_137 (by decide) (fun hc => ?_) (fun hc => ?_)
            · have hM := (if_neg hc).symm.trans hM
              refine lv_aload_n hx hb dX8_day_145 rfl (lv_at hl 0 rfl) ?_
              refine lv_aload_n hx hb dX8_day_146 rfl (lv_at hl 0 rfl) ?_
              refine g_get X hW 0 rfl rfl inX8 0 (by decide) q_817 rfl dX8_day_147 ?_
              refine lv_iconst (v := (1 : Int32)) hx hb dX8_day_150 (by decide) ?_
              obtain ⟨hi151, hM⟩ := MG_some hM
              refine g_ald X hW 1 rfl hi151 dX8_day_151 ?_
              refine lv_aload_n hx hb dX8_day_152 rfl (lv_at hl 0 rfl) ?_
              refine g_get X hW 0 rfl rfl inX8 0 (by decide) q_817 rfl dX8_day_153 ?_
              refine lv_bipush (v := (67 : Int32)) hx hb dX8_day_156 (by decide) ?_
              obtain ⟨hi158, hM⟩ := MG_some hM
              refine g_ald X hW 1 rfl hi158 dX8_day_158 ?_
              obtain ⟨u159, hu159, hM⟩ := bind_some hM
              refine g_callVi (rest := []) (gr := []) X hl.1 hW (c_X8_warmthOf l G cI cZ cL N aT yT0_93 T_undoes T_kept T_persons T_family T_gives T_warm T_rumour T_seen T_seenOf T_seenBehind T_seenHas T_text T_texted T_place T_number T_readPersons T_readKind T_readComes T_readFamily T_readGives T_readWarm T_readRumour T_toCome T_order T_bestOrder (yT0_93 (1 : Int32).toNatClampNeg) (yT0_93 (67 : Int32).toNatClampNeg) u159 hu159) q_1100 q_1097 q_1099 q_50 q_67 hd_X8_warmthOf rfl ⟨Nat.le_of_ble_eq_true rfl, Nat.le_of_ble_eq_true rfl⟩ ⟨Nat.zero_le _, Nat.zero_le _⟩ [0] [] [wMod cI cZ aT yT0_93 T_undoes T_kept T_persons T_family T_gives T_warm T_rumour T_seen T_seenOf T_seenBehind T_seenHas T_text T_texted T_place T_number T_readPersons T_readKind T_readComes T_readFamily T_readGives T_readWarm T_readRumour T_toCome T_order T_bestOrder] ⟨pm_1_0, rfl, rfl, rfl⟩ ⟨pm_1_0, rfl, rfl, rfl⟩ (q0 := 0) rfl rfl rfl (Nat.le_of_ble_eq_true rfl) dX8_day_159 (fun H locs hW => ?_)
              obtain rfl := Option.some.inj hM
              exact g_reti X hW rfl rfl dX8_day_162
            · have hM := (if_pos hc).symm.trans hM
              refine lv_iload hx hb dX8_day_140 (lv_at hl 2 rfl) ?_
              refine lv_goto (tgt := 162) hx hb dX8_day_142 (by decide) ?_
              obtain rfl := Option.some.inj hM
              exact g_reti X hW rfl rfl dX8_day_162
          have lp99 : ∀ (n99 : Nat) (x4_99 : Int32) (x5_99 : Int32) (H : Heap) (locs : List Loc) (ls : Array Slot), Wd G A s [wMod cI cZ aT yT0_93 T_undoes T_kept T_persons T_family T_gives T_warm T_rumour T_seen T_seenOf T_seenBehind T_seenHas T_text T_texted T_place T_number T_readPersons T_readKind T_readComes T_readFamily T_readGives T_readWarm T_readRumour T_toCome T_order T_bestOrder] H locs → lv_has ls 7 [(0, .ref (aT 0)), (3, .int p3), (4, .int x4_99), (5, .int x5_99)] → MX8_day_l99 N T_persons T_warm p3 yT0_93 n99 x4_99 x5_99 = some rr → W p l e (rmO 5 119) s m ([.ref (aT 0), .int p1, .int p2, .int p3] : List Value).toArray below meth c H locs 0 0 (MQ below (qI G rr.1 [wMod cI cZ aT rr.2 T_undoes T_kept T_persons T_family T_gives T_warm T_rumour T_seen T_seenOf T_seenBehind T_seenHas T_text T_texted T_place T_number T_readPersons T_readKind T_readComes T_readFamily T_readGives T_readWarm T_readRumour T_toCome T_order T_bestOrder] A) ([.ref (aT 0), .int p1, .int p2, .int p3] : List Value).toArray s 0 0 A) (F0 m 99 ls []) := by
            intro n99
            induction n99 with
            | zero =>
              intro x4_99 x5_99 H locs ls hW hl hM
              rw [MX8_day_l99] at hM
              cases hM
            | succ n99 ih99 =>
              intro x4_99 x5_99 H locs ls hW hl hM
              rw [MX8_day_l99] at hM
              refine lv_iload hx hb dX8_day_99 (lv_at hl 3 rfl) ?_
              refine lv_aload_n hx hb dX8_day_101 rfl (lv_at hl 0 rfl) ?_
              refine g_get X hW 0 rfl rfl inX8 3 (by decide) q_820 rfl dX8_day_102 ?_
              refine lv_icmp_ge (tgt := 136) hx hb dX8_day_105 (by decide) (fun hc => ?_) (fun hc => ?_)
              · have hM := (if_pos hc).symm.trans hM
                exact j136 x4_99 _ _ _ hW (lv_sub hl [0, 1, 2] rfl) hM
              · have hM := (if_neg hc).symm.trans hM
                refine lv_iload hx hb dX8_day_108 (lv_at hl 2 rfl) ?_
                refine lv_aload_n hx hb dX8_day_110 rfl (lv_at hl 0 rfl) ?_
                refine lv_bipush (v := (66 : Int32)) hx hb dX8_day_111 (by decide) ?_
                refine lv_iload hx hb dX8_day_113 (lv_at hl 3 rfl) ?_
                refine lv_iconst (v := (3 : Int32)) hx hb dX8_day_115 (by decide) ?_
                obtain ⟨u116, hu116, hM⟩ := bind_some hM
                refine g_callVi (rest := [.int x4_99]) (gr := []) X hl.1 hW (c_X8_isWhere l G cI cZ cL N aT yT0_93 T_undoes T_kept T_persons T_family T_gives T_warm T_rumour T_seen T_seenOf T_seenBehind T_seenHas T_text T_texted T_place T_number T_readPersons T_readKind T_readComes T_readFamily T_readGives T_readWarm T_readRumour T_toCome T_order T_bestOrder (66 : Int32) x5_99 (3 : Int32) u116 hu116) q_1015 q_1012 q_1014 q_42 q_67 hd_X8_isWhere rfl ⟨Nat.le_of_ble_eq_true rfl, Nat.le_of_ble_eq_true rfl⟩ ⟨Nat.zero_le _, Nat.zero_le _⟩ [0] [] [wMod cI cZ aT yT0_93 T_undoes T_kept T_persons T_family T_gives T_warm T_rumour T_seen T_seenOf T_seenBehind T_seenHas T_text T_texted T_place T_number T_readPersons T_readKind T_readComes T_readFamily T_readGives T_readWarm T_readRumour T_toCome T_order T_bestOrder] ⟨pm_1_0, rfl, rfl, rfl⟩ ⟨pm_1_0, rfl, rfl, rfl⟩ (q0 := 0) rfl rfl rfl (Nat.le_of_ble_eq_true rfl) dX8_day_116 (fun H locs hW => ?_)
                have j127 : ∀ (t1_127 : Int32) (H : Heap) (locs : List Loc) (ls : Array Slot), Wd G A s [wMod cI cZ aT yT0_93 T_undoes T_kept T_persons T_family T_gives T_warm T_rumour T_seen T_seenOf T_seenBehind T_seenHas T_text T_texted T_place T_number T_readPersons T_readKind T_readComes T_readFamily T_readGives T_readWarm T_readRumour T_toCome T_order T_bestOrder] H locs → lv_has ls 7 [(0, .ref (aT 0)), (3, .int p3), (5, .int x5_99)] → MX8_day_j127 x4_99 x5_99 (MX8_day_l99 N T_persons T_warm p3 yT0_93 n99) t1_127 = some rr → W p l e (rmO 5 119) s m ([.ref (aT 0), .int p1, .int p2, .int p3] : List Value).toArray below meth c H locs 0 0 (MQ below (qI G rr.1 [wMod cI cZ aT rr.2 T_undoes T_kept T_persons T_family T_gives T_warm T_rumour T_seen T_seenOf T_seenBehind T_seenHas T_text T_texted T_place T_number T_readPersons T_readKind T_readComes T_readFamily T_readGives T_readWarm T_readRumour T_toCome T_order T_bestOrder] A) ([.ref (aT 0), .int p1, .int p2, .int p3] : List Value).toArray s 0 0 A) (F0 m 127 ls [.int t1_127, .int x4_99]) := by
                  intro t1_127 H locs ls hW hl hM
                  unfold MX8_day_j127 at hM
                  refine lv_iadd hx hb dX8_day_127 ?_
                  refine lv_topi (fun z128 ez128 => ?_)
                  have hM := MLet_some hM z128 ez128
                  refine lv_istore (lv' := [(4, .int z128), (0, .ref (aT 0)), (3, .int p3), (5, .int x5_99)]) hx hb dX8_day_128 hl (by decide) rfl (fun ls hl => ?_)
                  refine lv_iinc (v := x5_99 + (1 : Int32)) (lv' := [(5, .int (x5_99 + (1 : Int32))), (4, .int z128), (0, .ref (aT 0)), (3, .int p3)]) hx hb dX8_day_130 hl (k := 3) rfl rfl (by decide) rfl (fun ls hl => ?_)
                  refine lv_goto (tgt := 99) hx hb dX8_day_133 (by decide) ?_
                  exact ih99 z128 (x5_99 + (1 : Int32)) _ _ _ hW (lv_sub hl [2, 3, 1, 0] rfl) hM
                refine lv_if_eq (tgt := 126) hx hb dX8_day_119 (by decide) (fun hc => ?_) (fun hc => ?_)
                · have hM := (if_pos hc).symm.trans hM
                  refine lv_iconst (v := (0 : Int32)) hx hb dX8_day_126 (by decide) ?_
                  exact j127 (0 : Int32) _ _ _ hW (lv_sub hl [0, 1, 3] rfl) hM
                · have hM := (if_neg hc).symm.trans hM
                  refine lv_iconst (v := (1 : Int32)) hx hb dX8_day_122 (by decide) ?_
                  refine lv_goto (tgt := 127) hx hb dX8_day_123 (by decide) ?_
                  exact j127 (1 : Int32) _ _ _ hW (lv_sub hl [0, 1, 3] rfl) hM
          exact lp99 N (0 : Int32) (0 : Int32) _ _ _ hW (lv_sub hl [2, 3, 1, 0] rfl) hM
        have lp43 : ∀ (n43 : Nat) (x4_43 : Int32) (yT0_43 : (Nat → Int32)) (H : Heap) (locs : List Loc) (ls : Array Slot), Wd G A s [wMod cI cZ aT yT0_43 T_undoes T_kept T_persons T_family T_gives T_warm T_rumour T_seen T_seenOf T_seenBehind T_seenHas T_text T_texted T_place T_number T_readPersons T_readKind T_readComes T_readFamily T_readGives T_readWarm T_readRumour T_toCome T_order T_bestOrder] H locs → lv_has ls 7 [(0, .ref (aT 0)), (1, .int p1), (2, .int p2), (3, .int p3), (4, .int x4_43)] → MX8_day_l43 N T_persons T_family T_gives T_warm T_rumour p1 p2 p3 n43 x4_43 yT0_43 = some rr → W p l e (rmO 5 119) s m ([.ref (aT 0), .int p1, .int p2, .int p3] : List Value).toArray below meth c H locs 0 0 (MQ below (qI G rr.1 [wMod cI cZ aT rr.2 T_undoes T_kept T_persons T_family T_gives T_warm T_rumour T_seen T_seenOf T_seenBehind T_seenHas T_text T_texted T_place T_number T_readPersons T_readKind T_readComes T_readFamily T_readGives T_readWarm T_readRumour T_toCome T_order T_bestOrder] A) ([.ref (aT 0), .int p1, .int p2, .int p3] : List Value).toArray s 0 0 A) (F0 m 43 ls []) := by
          intro n43
          induction n43 with
          | zero =>
            intro x4_43 yT0_43 H locs ls hW hl hM
            rw [MX8_day_l43] at hM
            cases hM
          | succ n43 ih43 =>
            intro x4_43 yT0_43 H locs ls hW hl hM
            rw [MX8_day_l43] at hM
            refine lv_iload hx hb dX8_day_43 (lv_at hl 4 rfl) ?_
            refine lv_iload_n hx hb dX8_day_45 rfl (lv_at hl 2 rfl) ?_
            refine lv_icmp_ge (tgt := 93) hx hb dX8_day_46 (by decide) (fun hc => ?_) (fun hc => ?_)
            · have hM := (if_pos hc).symm.trans hM
              exact j93 yT0_43 _ _ _ hW (lv_sub hl [0, 3] rfl) hM
            · have hM := (if_neg hc).symm.trans hM
              refine lv_ldc2 (v := (7919 : Int64)) hx hb hown (hts _ q_1134) dX8_day_49 ?_
              refine lv_iload_n hx hb dX8_day_52 rfl (lv_at hl 1 rfl) ?_
              refine lv_i2l hx hb dX8_day_53 rfl ?_
              refine lv_lmul hx hb dX8_day_54 ?_
              refine lv_ldc2 (v := (6151 : Int64)) hx hb hown (hts _ q_1135) dX8_day_55 ?_
              refine lv_iload hx hb dX8_day_58 (lv_at hl 4 rfl) ?_
              refine lv_i2l hx hb dX8_day_60 rfl ?_
              refine lv_lmul hx hb dX8_day_61 ?_
              refine lv_ladd hx hb dX8_day_62 ?_
              refine lv_lconst (v := (1 : Int64)) hx hb dX8_day_63 (by decide) ?_
              refine lv_ladd hx hb dX8_day_64 ?_
              refine lv_topl (fun z65 ez65 => ?_)
              have hM := MLet_some hM z65 ez65
              refine lv_lstore (lv' := [(5, .long z65), (0, .ref (aT 0)), (1, .int p1), (2, .int p2), (3, .int p3), (4, .int x4_43)]) hx hb dX8_day_65 hl (by decide) rfl (fun ls hl => ?_)
              refine lv_aload_n hx hb dX8_day_67 rfl (lv_at hl 1 rfl) ?_
              refine lv_lload hx hb dX8_day_68 (lv_at hl 0 rfl) ?_
              refine lv_lload hx hb dX8_day_70 (lv_at hl 0 rfl) ?_
              refine lv_lmul hx hb dX8_day_72 ?_
              refine lv_ldc2 (v := (65521 : Int64)) hx hb hown (hts _ q_1136) dX8_day_73 ?_
              refine lv_lrem hx hb dX8_day_76 (by decide) ?_
              refine lv_l2i hx hb dX8_day_77 rfl ?_
              obtain ⟨u78, hu78, hM⟩ := bind_some hM
              refine g_callVv (rest := []) (gr := []) X hl.1 hW (c_X8_doesBy l G cI cZ cL N aT yT0_43 T_undoes T_kept T_persons T_family T_gives T_warm T_rumour T_seen T_seenOf T_seenBehind T_seenHas T_text T_texted T_place T_number T_readPersons T_readKind T_readComes T_readFamily T_readGives T_readWarm T_readRumour T_toCome T_order T_bestOrder (((z65 * z65) - (z65 * z65) / (65521 : Int64) * (65521 : Int64)).toInt32) u78 hu78) q_1140 q_1137 q_1139 q_52 q_67 hd_X8_doesBy rfl ⟨Nat.le_of_ble_eq_true rfl, Nat.le_of_ble_eq_true rfl⟩ ⟨Nat.zero_le _, Nat.zero_le _⟩ [0] [] [wMod cI cZ aT u78 T_undoes T_kept T_persons T_family T_gives T_warm T_rumour T_seen T_seenOf T_seenBehind T_seenHas T_text T_texted T_place T_number T_readPersons T_readKind T_readComes T_readFamily T_readGives T_readWarm T_readRumour T_toCome T_order T_bestOrder] ⟨pm_1_0, rfl, rfl, rfl⟩ ⟨pm_1_0, rfl, rfl, rfl⟩ (q0 := 0) rfl rfl rfl (Nat.le_of_ble_eq_true rfl) dX8_day_78 (fun H locs hW => ?_)
              refine lv_aload_n hx hb dX8_day_81 rfl (lv_at hl 1 rfl) ?_
              refine lv_bipush (v := (66 : Int32)) hx hb dX8_day_82 (by decide) ?_
              obtain ⟨u84, hu84, hM⟩ := bind_some hM
              refine g_callVv (rest := []) (gr := []) X hl.1 hW (c_X8_passes l G cI cZ cL N aT u78 T_undoes T_kept T_persons T_family T_gives T_warm T_rumour T_seen T_seenOf T_seenBehind T_seenHas T_text T_texted T_place T_number T_readPersons T_readKind T_readComes T_readFamily T_readGives T_readWarm T_readRumour T_toCome T_order T_bestOrder (66 : Int32) u84 hu84) q_979 q_976 q_978 q_33 q_67 hd_X8_passes rfl ⟨Nat.le_of_ble_eq_true rfl, Nat.le_of_ble_eq_true rfl⟩ ⟨Nat.zero_le _, Nat.zero_le _⟩ [0] [] [wMod cI cZ aT u84 T_undoes T_kept T_persons T_family T_gives T_warm T_rumour T_seen T_seenOf T_seenBehind T_seenHas T_text T_texted T_place T_number T_readPersons T_readKind T_readComes T_readFamily T_readGives T_readWarm T_readRumour T_toCome T_order T_bestOrder] ⟨pm_1_0, rfl, rfl, rfl⟩ ⟨pm_1_0, rfl, rfl, rfl⟩ (q0 := 0) rfl rfl rfl (Nat.le_of_ble_eq_true rfl) dX8_day_84 (fun H locs hW => ?_)
              refine lv_iinc (v := x4_43 + (1 : Int32)) (lv' := [(4, .int (x4_43 + (1 : Int32))), (5, .long z65), (0, .ref (aT 0)), (1, .int p1), (2, .int p2), (3, .int p3)]) hx hb dX8_day_87 hl (k := 5) rfl rfl (by decide) rfl (fun ls hl => ?_)
              refine lv_goto (tgt := 43) hx hb dX8_day_90 (by decide) ?_
              exact ih43 (x4_43 + (1 : Int32)) u84 _ _ _ hW (lv_sub hl [2, 3, 4, 5, 0] rfl) hM
        exact lp43 N (0 : Int32) u37 _ _ _ hW (lv_sub hl [1, 2, 3, 4, 0] rfl) hM
      · have hM := (if_pos hc).symm.trans hM
        refine lv_iconst (v := (-1 : Int32)) hx hb dX8_day_34 (by decide) ?_
        obtain rfl := Option.some.inj hM
        exact g_reti X hW rfl rfl dX8_day_35

def MX8_keep (N : Nat) (T_w : (Nat → Int32)) (T_kept : Int32) : Option (Int32 × (Nat → Int32) × Int32) :=
  if T_kept = (2 : Int32) then some ((-3 : Int32), T_w, T_kept) else ((MX8_copy N T_w (0 : Int32) ((132 : Int32) + ((66 : Int32) * T_kept))).bind (fun u24 => some ((T_kept + (1 : Int32)), u24, (T_kept + (1 : Int32)))))
set_option maxHeartbeats 4000000 in
set_option maxRecDepth 100000 in
theorem c_X8_keep (l : Launch) (G : va_G) (cI cZ cL : ClassId) (N : Nat) (aT : Nat → Nat) (T_w : (Nat → Int32)) (T_undoes : Int32) (T_kept : Int32) (T_persons : Int32) (T_family : (Nat → Int32)) (T_gives : Int32) (T_warm : Int32) (T_rumour : Int32) (T_seen : Int32) (T_seenOf : (Nat → Int32)) (T_seenBehind : (Nat → Int32)) (T_seenHas : (Nat → Int32)) (T_text : (Nat → Int32)) (T_texted : Int32) (T_place : Int32) (T_number : Int32) (T_readPersons : Int32) (T_readKind : (Nat → Int32)) (T_readComes : (Nat → Int32)) (T_readFamily : (Nat → Int32)) (T_readGives : Int32) (T_readWarm : Int32) (T_readRumour : Int32) (T_toCome : (Nat → Int32)) (T_order : (Nat → Int32)) (T_bestOrder : (Nat → Int32)) (rr : Int32 × (Nat → Int32) × Int32) (hM : MX8_keep N T_w T_kept = some rr) : CtI l yX8_keep cX8_keep 1 .int 1 23 G cI cZ cL [.ref (aT 0)] [wMod cI cZ aT T_w T_undoes T_kept T_persons T_family T_gives T_warm T_rumour T_seen T_seenOf T_seenBehind T_seenHas T_text T_texted T_place T_number T_readPersons T_readKind T_readComes T_readFamily T_readGives T_readWarm T_readRumour T_toCome T_order T_bestOrder] rr.1 [wMod cI cZ aT rr.2.1 T_undoes rr.2.2 T_persons T_family T_gives T_warm T_rumour T_seen T_seenOf T_seenBehind T_seenHas T_text T_texted T_place T_number T_readPersons T_readKind T_readComes T_readFamily T_readGives T_readWarm T_readRumour T_toCome T_order T_bestOrder] := by
  refine ct_body (fun A => qI G rr.1 [wMod cI cZ aT rr.2.1 T_undoes rr.2.2 T_persons T_family T_gives T_warm T_rumour T_seen T_seenOf T_seenBehind T_seenHas T_text T_texted T_place T_number T_readPersons T_readKind T_readComes T_readFamily T_readGives T_readWarm T_readRumour T_toCome T_order T_bestOrder] A) (by decide) (Nat.le_of_ble_eq_true rfl) (fun p e s m below meth c A ls X hW hl => ?_)
  have hx := X.1
  have hb := X.2.1
  have hts := X.2.2.2.2.2.1
  have hown := X.2.2.2.2.2.2.1
  have hl : lv_has ls 1 [(0, .ref (aT 0))] := hl
  unfold MX8_keep at hM
  refine lv_aload_n hx hb dX8_keep_0 rfl (lv_at hl 0 rfl) ?_
  refine g_get X hW 0 rfl rfl inX8 2 (by decide) q_819 rfl dX8_keep_1 ?_
  refine lv_iconst (v := (2 : Int32)) hx hb dX8_keep_4 (by decide) ?_
  refine lv_icmp_ne (tgt := 11) hx hb dX8_keep_5 (by decide) (fun hc => ?_) (fun hc => ?_)
  · have hM := (if_neg hc).symm.trans hM
    refine lv_aload_n hx hb dX8_keep_11 rfl (lv_at hl 0 rfl) ?_
    refine lv_iconst (v := (0 : Int32)) hx hb dX8_keep_12 (by decide) ?_
    refine lv_sipush (v := (132 : Int32)) hx hb dX8_keep_13 (by decide) ?_
    refine lv_bipush (v := (66 : Int32)) hx hb dX8_keep_16 (by decide) ?_
    refine lv_aload_n hx hb dX8_keep_18 rfl (lv_at hl 0 rfl) ?_
    refine g_get X hW 0 rfl rfl inX8 2 (by decide) q_819 rfl dX8_keep_19 ?_
    refine lv_imul hx hb dX8_keep_22 ?_
    refine lv_iadd hx hb dX8_keep_23 ?_
    obtain ⟨u24, hu24, hM⟩ := bind_some hM
    refine g_callVv (rest := []) (gr := []) X hl.1 hW (c_X8_copy l G cI cZ cL N aT T_w T_undoes T_kept T_persons T_family T_gives T_warm T_rumour T_seen T_seenOf T_seenBehind T_seenHas T_text T_texted T_place T_number T_readPersons T_readKind T_readComes T_readFamily T_readGives T_readWarm T_readRumour T_toCome T_order T_bestOrder (0 : Int32) ((132 : Int32) + ((66 : Int32) * T_kept)) u24 hu24) q_975 q_972 q_974 q_32 q_67 hd_X8_copy rfl ⟨Nat.le_of_ble_eq_true rfl, Nat.le_of_ble_eq_true rfl⟩ ⟨Nat.zero_le _, Nat.zero_le _⟩ [0] [] [wMod cI cZ aT u24 T_undoes T_kept T_persons T_family T_gives T_warm T_rumour T_seen T_seenOf T_seenBehind T_seenHas T_text T_texted T_place T_number T_readPersons T_readKind T_readComes T_readFamily T_readGives T_readWarm T_readRumour T_toCome T_order T_bestOrder] ⟨pm_1_0, rfl, rfl, rfl⟩ ⟨pm_1_0, rfl, rfl, rfl⟩ (q0 := 0) rfl rfl rfl (Nat.le_of_ble_eq_true rfl) dX8_keep_24 (fun H locs hW => ?_)
    refine lv_aload_n hx hb dX8_keep_27 rfl (lv_at hl 0 rfl) ?_
    refine lv_dup hx hb dX8_keep_28 rfl ?_
    refine g_get X hW 0 rfl rfl inX8 2 (by decide) q_819 rfl dX8_keep_29 ?_
    refine lv_iconst (v := (1 : Int32)) hx hb dX8_keep_32 (by decide) ?_
    refine lv_iadd hx hb dX8_keep_33 ?_
    refine g_put X hW 0 rfl rfl inX8 tyX8 tyX8_ok nmX8 2 (by decide) q_819 rfl rfl (Nat.le_of_ble_eq_true rfl) [wMod cI cZ aT u24 T_undoes (T_kept + (1 : Int32)) T_persons T_family T_gives T_warm T_rumour T_seen T_seenOf T_seenBehind T_seenHas T_text T_texted T_place T_number T_readPersons T_readKind T_readComes T_readFamily T_readGives T_readWarm T_readRumour T_toCome T_order T_bestOrder] rfl dX8_keep_34 (fun H locs hW => ?_)
    refine lv_aload_n hx hb dX8_keep_37 rfl (lv_at hl 0 rfl) ?_
    refine g_get X hW 0 rfl rfl inX8 2 (by decide) q_819 rfl dX8_keep_38 ?_
    obtain rfl := Option.some.inj hM
    exact g_reti X hW rfl rfl dX8_keep_41
  · have hM := (if_pos hc).symm.trans hM
    refine lv_bipush (v := (-3 : Int32)) hx hb dX8_keep_8 (by decide) ?_
    obtain rfl := Option.some.inj hM
    exact g_reti X hW rfl rfl dX8_keep_10

def MX8_back (N : Nat) (T_w : (Nat → Int32)) (T_undoes : Int32) (T_kept : Int32) : Option (Int32 × (Nat → Int32) × Int32 × Int32) :=
  if T_kept = 0 then some ((-2 : Int32), T_w, T_undoes, T_kept) else ((MX8_copy N T_w ((132 : Int32) + ((66 : Int32) * (T_kept - (1 : Int32)))) (0 : Int32)).bind (fun u33 => some ((T_kept - (1 : Int32)), u33, (0 : Int32), (T_kept - (1 : Int32)))))
set_option maxHeartbeats 4000000 in
set_option maxRecDepth 100000 in
theorem c_X8_back (l : Launch) (G : va_G) (cI cZ cL : ClassId) (N : Nat) (aT : Nat → Nat) (T_w : (Nat → Int32)) (T_undoes : Int32) (T_kept : Int32) (T_persons : Int32) (T_family : (Nat → Int32)) (T_gives : Int32) (T_warm : Int32) (T_rumour : Int32) (T_seen : Int32) (T_seenOf : (Nat → Int32)) (T_seenBehind : (Nat → Int32)) (T_seenHas : (Nat → Int32)) (T_text : (Nat → Int32)) (T_texted : Int32) (T_place : Int32) (T_number : Int32) (T_readPersons : Int32) (T_readKind : (Nat → Int32)) (T_readComes : (Nat → Int32)) (T_readFamily : (Nat → Int32)) (T_readGives : Int32) (T_readWarm : Int32) (T_readRumour : Int32) (T_toCome : (Nat → Int32)) (T_order : (Nat → Int32)) (T_bestOrder : (Nat → Int32)) (rr : Int32 × (Nat → Int32) × Int32 × Int32) (hM : MX8_back N T_w T_undoes T_kept = some rr) : CtI l yX8_back cX8_back 1 .int 1 23 G cI cZ cL [.ref (aT 0)] [wMod cI cZ aT T_w T_undoes T_kept T_persons T_family T_gives T_warm T_rumour T_seen T_seenOf T_seenBehind T_seenHas T_text T_texted T_place T_number T_readPersons T_readKind T_readComes T_readFamily T_readGives T_readWarm T_readRumour T_toCome T_order T_bestOrder] rr.1 [wMod cI cZ aT rr.2.1 rr.2.2.1 rr.2.2.2 T_persons T_family T_gives T_warm T_rumour T_seen T_seenOf T_seenBehind T_seenHas T_text T_texted T_place T_number T_readPersons T_readKind T_readComes T_readFamily T_readGives T_readWarm T_readRumour T_toCome T_order T_bestOrder] := by
  refine ct_body (fun A => qI G rr.1 [wMod cI cZ aT rr.2.1 rr.2.2.1 rr.2.2.2 T_persons T_family T_gives T_warm T_rumour T_seen T_seenOf T_seenBehind T_seenHas T_text T_texted T_place T_number T_readPersons T_readKind T_readComes T_readFamily T_readGives T_readWarm T_readRumour T_toCome T_order T_bestOrder] A) (by decide) (Nat.le_of_ble_eq_true rfl) (fun p e s m below meth c A ls X hW hl => ?_)
  have hx := X.1
  have hb := X.2.1
  have hts := X.2.2.2.2.2.1
  have hown := X.2.2.2.2.2.2.1
  have hl : lv_has ls 1 [(0, .ref (aT 0))] := hl
  unfold MX8_back at hM
  refine lv_aload_n hx hb dX8_back_0 rfl (lv_at hl 0 rfl) ?_
  refine g_get X hW 0 rfl rfl inX8 2 (by decide) q_819 rfl dX8_back_1 ?_
  refine lv_if_ne (tgt := 10) hx hb dX8_back_4 (by decide) (fun hc => ?_) (fun hc => ?_)
  · have hM := (if_neg hc).symm.trans hM
    refine lv_aload_n hx hb dX8_back_10 rfl (lv_at hl 0 rfl) ?_
    refine lv_dup hx hb dX8_back_11 rfl ?_
    refine g_get X hW 0 rfl rfl inX8 2 (by decide) q_819 rfl dX8_back_12 ?_
    refine lv_iconst (v := (1 : Int32)) hx hb dX8_back_15 (by decide) ?_
    refine lv_isub hx hb dX8_back_16 ?_
    refine g_put X hW 0 rfl rfl inX8 tyX8 tyX8_ok nmX8 2 (by decide) q_819 rfl rfl (Nat.le_of_ble_eq_true rfl) [wMod cI cZ aT T_w T_undoes (T_kept - (1 : Int32)) T_persons T_family T_gives T_warm T_rumour T_seen T_seenOf T_seenBehind T_seenHas T_text T_texted T_place T_number T_readPersons T_readKind T_readComes T_readFamily T_readGives T_readWarm T_readRumour T_toCome T_order T_bestOrder] rfl dX8_back_17 (fun H locs hW => ?_)
    refine lv_aload_n hx hb dX8_back_20 rfl (lv_at hl 0 rfl) ?_
    refine lv_sipush (v := (132 : Int32)) hx hb dX8_back_21 (by decide) ?_
    refine lv_bipush (v := (66 : Int32)) hx hb dX8_back_24 (by decide) ?_
    refine lv_aload_n hx hb dX8_back_26 rfl (lv_at hl 0 rfl) ?_
    refine g_get X hW 0 rfl rfl inX8 2 (by decide) q_819 rfl dX8_back_27 ?_
    refine lv_imul hx hb dX8_back_30 ?_
    refine lv_iadd hx hb dX8_back_31 ?_
    refine lv_iconst (v := (0 : Int32)) hx hb dX8_back_32 (by decide) ?_
    obtain ⟨u33, hu33, hM⟩ := bind_some hM
    refine g_callVv (rest := []) (gr := []) X hl.1 hW (c_X8_copy l G cI cZ cL N aT T_w T_undoes (T_kept - (1 : Int32)) T_persons T_family T_gives T_warm T_rumour T_seen T_seenOf T_seenBehind T_seenHas T_text T_texted T_place T_number T_readPersons T_readKind T_readComes T_readFamily T_readGives T_readWarm T_readRumour T_toCome T_order T_bestOrder ((132 : Int32) + ((66 : Int32) * (T_kept - (1 : Int32)))) (0 : Int32) u33 hu33) q_975 q_972 q_974 q_32 q_67 hd_X8_copy rfl ⟨Nat.le_of_ble_eq_true rfl, Nat.le_of_ble_eq_true rfl⟩ ⟨Nat.zero_le _, Nat.zero_le _⟩ [0] [] [wMod cI cZ aT u33 T_undoes (T_kept - (1 : Int32)) T_persons T_family T_gives T_warm T_rumour T_seen T_seenOf T_seenBehind T_seenHas T_text T_texted T_place T_number T_readPersons T_readKind T_readComes T_readFamily T_readGives T_readWarm T_readRumour T_toCome T_order T_bestOrder] ⟨pm_1_0, rfl, rfl, rfl⟩ ⟨pm_1_0, rfl, rfl, rfl⟩ (q0 := 0) rfl rfl rfl (Nat.le_of_ble_eq_true rfl) dX8_back_33 (fun H locs hW => ?_)
    refine lv_aload_n hx hb dX8_back_36 rfl (lv_at hl 0 rfl) ?_
    refine lv_iconst (v := (0 : Int32)) hx hb dX8_back_37 (by decide) ?_
    refine g_put X hW 0 rfl rfl inX8 tyX8 tyX8_ok nmX8 1 (by decide) q_818 rfl rfl (Nat.le_of_ble_eq_true rfl) [wMod cI cZ aT u33 (0 : Int32) (T_kept - (1 : Int32)) T_persons T_family T_gives T_warm T_rumour T_seen T_seenOf T_seenBehind T_seenHas T_text T_texted T_place T_number T_readPersons T_readKind T_readComes T_readFamily T_readGives T_readWarm T_readRumour T_toCome T_order T_bestOrder] rfl dX8_back_38 (fun H locs hW => ?_)
    refine lv_aload_n hx hb dX8_back_41 rfl (lv_at hl 0 rfl) ?_
    refine g_get X hW 0 rfl rfl inX8 2 (by decide) q_819 rfl dX8_back_42 ?_
    obtain rfl := Option.some.inj hM
    exact g_reti X hW rfl rfl dX8_back_45
  · have hM := (if_pos hc).symm.trans hM
    refine lv_bipush (v := (-2 : Int32)) hx hb dX8_back_7 (by decide) ?_
    obtain rfl := Option.some.inj hM
    exact g_reti X hW rfl rfl dX8_back_9

def MX8_count (N : Nat) (T_w : (Nat → Int32)) (T_undoes : Int32) (T_kept : Int32) (T_persons : Int32) (T_seen : Int32) (T_texted : Int32) (p1 : Int32) : Option (Int32) :=
  if p1 = (0 : Int32) then some (T_persons) else if p1 = (1 : Int32) then (MG (0 : Int32) 792 (some (T_w (0 : Int32).toNatClampNeg))) else if p1 = (2 : Int32) then (MG (2 : Int32) 792 (some (T_w (2 : Int32).toNatClampNeg))) else if p1 = (3 : Int32) then ((MX8_manyWhere N T_w T_persons (2 : Int32)).bind (fun u77 => some (u77))) else if p1 = (4 : Int32) then ((MX8_manyWhere N T_w T_persons (3 : Int32)).bind (fun u83 => some (u83))) else if p1 = (5 : Int32) then (MG (1 : Int32) 792 (some (T_w (1 : Int32).toNatClampNeg))) else if p1 = (6 : Int32) then some (T_seen) else if p1 = (7 : Int32) then some (T_undoes) else if p1 = (8 : Int32) then some (T_kept) else if p1 = (9 : Int32) then some (T_texted) else some ((-1 : Int32))
set_option maxHeartbeats 4000000 in
set_option maxRecDepth 100000 in
theorem c_X8_count (l : Launch) (G : va_G) (cI cZ cL : ClassId) (N : Nat) (aT : Nat → Nat) (T_w : (Nat → Int32)) (T_undoes : Int32) (T_kept : Int32) (T_persons : Int32) (T_family : (Nat → Int32)) (T_gives : Int32) (T_warm : Int32) (T_rumour : Int32) (T_seen : Int32) (T_seenOf : (Nat → Int32)) (T_seenBehind : (Nat → Int32)) (T_seenHas : (Nat → Int32)) (T_text : (Nat → Int32)) (T_texted : Int32) (T_place : Int32) (T_number : Int32) (T_readPersons : Int32) (T_readKind : (Nat → Int32)) (T_readComes : (Nat → Int32)) (T_readFamily : (Nat → Int32)) (T_readGives : Int32) (T_readWarm : Int32) (T_readRumour : Int32) (T_toCome : (Nat → Int32)) (T_order : (Nat → Int32)) (T_bestOrder : (Nat → Int32)) (p1 : Int32) (rr : Int32) (hM : MX8_count N T_w T_undoes T_kept T_persons T_seen T_texted p1 = some rr) : CtI l yX8_count cX8_count 2 .int 2 46 G cI cZ cL [.ref (aT 0), .int p1] [wMod cI cZ aT T_w T_undoes T_kept T_persons T_family T_gives T_warm T_rumour T_seen T_seenOf T_seenBehind T_seenHas T_text T_texted T_place T_number T_readPersons T_readKind T_readComes T_readFamily T_readGives T_readWarm T_readRumour T_toCome T_order T_bestOrder] rr [wMod cI cZ aT T_w T_undoes T_kept T_persons T_family T_gives T_warm T_rumour T_seen T_seenOf T_seenBehind T_seenHas T_text T_texted T_place T_number T_readPersons T_readKind T_readComes T_readFamily T_readGives T_readWarm T_readRumour T_toCome T_order T_bestOrder] := by
  refine ct_body (fun A => qI G rr [wMod cI cZ aT T_w T_undoes T_kept T_persons T_family T_gives T_warm T_rumour T_seen T_seenOf T_seenBehind T_seenHas T_text T_texted T_place T_number T_readPersons T_readKind T_readComes T_readFamily T_readGives T_readWarm T_readRumour T_toCome T_order T_bestOrder] A) (by decide) (Nat.le_of_ble_eq_true rfl) (fun p e s m below meth c A ls X hW hl => ?_)
  have hx := X.1
  have hb := X.2.1
  have hts := X.2.2.2.2.2.1
  have hown := X.2.2.2.2.2.2.1
  have hl : lv_has ls 2 [(0, .ref (aT 0)), (1, .int p1)] := hl
  unfold MX8_count at hM
  refine lv_iload_n hx hb dX8_count_0 rfl (lv_at hl 1 rfl) ?_
  by_cases hs1_0 : p1 = (0 : Int32)
  · have hM := (if_pos hs1_0).symm.trans hM
    refine lv_tableIn (off := 55) (tgt := 56) hx hb dX8_count_1 (by rw [hs1_0]; decide) (by rw [hs1_0]; decide) (by rw [hs1_0]; rfl) (by decide) ?_
    refine lv_aload_n hx hb dX8_count_56 rfl (lv_at hl 0 rfl) ?_
    refine g_get X hW 0 rfl rfl inX8 3 (by decide) q_820 rfl dX8_count_57 ?_
    obtain rfl := Option.some.inj hM
    exact g_reti X hW rfl rfl dX8_count_60
  · have hM := (if_neg hs1_0).symm.trans hM
    by_cases hs1_1 : p1 = (1 : Int32)
    · have hM := (if_pos hs1_1).symm.trans hM
      refine lv_tableIn (off := 60) (tgt := 61) hx hb dX8_count_1 (by rw [hs1_1]; decide) (by rw [hs1_1]; decide) (by rw [hs1_1]; rfl) (by decide) ?_
      refine lv_aload_n hx hb dX8_count_61 rfl (lv_at hl 0 rfl) ?_
      refine g_get X hW 0 rfl rfl inX8 0 (by decide) q_817 rfl dX8_count_62 ?_
      refine lv_iconst (v := (0 : Int32)) hx hb dX8_count_65 (by decide) ?_
      obtain ⟨hi66, hM⟩ := MG_some hM
      refine g_ald X hW 1 rfl hi66 dX8_count_66 ?_
      obtain rfl := Option.some.inj hM
      exact g_reti X hW rfl rfl dX8_count_67
    · have hM := (if_neg hs1_1).symm.trans hM
      by_cases hs1_2 : p1 = (2 : Int32)
      · have hM := (if_pos hs1_2).symm.trans hM
        refine lv_tableIn (off := 67) (tgt := 68) hx hb dX8_count_1 (by rw [hs1_2]; decide) (by rw [hs1_2]; decide) (by rw [hs1_2]; rfl) (by decide) ?_
        refine lv_aload_n hx hb dX8_count_68 rfl (lv_at hl 0 rfl) ?_
        refine g_get X hW 0 rfl rfl inX8 0 (by decide) q_817 rfl dX8_count_69 ?_
        refine lv_iconst (v := (2 : Int32)) hx hb dX8_count_72 (by decide) ?_
        obtain ⟨hi73, hM⟩ := MG_some hM
        refine g_ald X hW 1 rfl hi73 dX8_count_73 ?_
        obtain rfl := Option.some.inj hM
        exact g_reti X hW rfl rfl dX8_count_74
      · have hM := (if_neg hs1_2).symm.trans hM
        by_cases hs1_3 : p1 = (3 : Int32)
        · have hM := (if_pos hs1_3).symm.trans hM
          refine lv_tableIn (off := 74) (tgt := 75) hx hb dX8_count_1 (by rw [hs1_3]; decide) (by rw [hs1_3]; decide) (by rw [hs1_3]; rfl) (by decide) ?_
          refine lv_aload_n hx hb dX8_count_75 rfl (lv_at hl 0 rfl) ?_
          refine lv_iconst (v := (2 : Int32)) hx hb dX8_count_76 (by decide) ?_
          obtain ⟨u77, hu77, hM⟩ := bind_some hM
          refine g_callVi (rest := []) (gr := []) X hl.1 hW (c_X8_manyWhere l G cI cZ cL N aT T_w T_undoes T_kept T_persons T_family T_gives T_warm T_rumour T_seen T_seenOf T_seenBehind T_seenHas T_text T_texted T_place T_number T_readPersons T_readKind T_readComes T_readFamily T_readGives T_readWarm T_readRumour T_toCome T_order T_bestOrder (2 : Int32) u77 hu77) q_1011 q_1008 q_1010 q_41 q_67 hd_X8_manyWhere rfl ⟨Nat.le_of_ble_eq_true rfl, Nat.le_of_ble_eq_true rfl⟩ ⟨Nat.zero_le _, Nat.zero_le _⟩ [0] [] [wMod cI cZ aT T_w T_undoes T_kept T_persons T_family T_gives T_warm T_rumour T_seen T_seenOf T_seenBehind T_seenHas T_text T_texted T_place T_number T_readPersons T_readKind T_readComes T_readFamily T_readGives T_readWarm T_readRumour T_toCome T_order T_bestOrder] ⟨pm_1_0, rfl, rfl, rfl⟩ ⟨pm_1_0, rfl, rfl, rfl⟩ (q0 := 0) rfl rfl rfl (Nat.le_of_ble_eq_true rfl) dX8_count_77 (fun H locs hW => ?_)
          obtain rfl := Option.some.inj hM
          exact g_reti X hW rfl rfl dX8_count_80
        · have hM := (if_neg hs1_3).symm.trans hM
          by_cases hs1_4 : p1 = (4 : Int32)
          · have hM := (if_pos hs1_4).symm.trans hM
            refine lv_tableIn (off := 80) (tgt := 81) hx hb dX8_count_1 (by rw [hs1_4]; decide) (by rw [hs1_4]; decide) (by rw [hs1_4]; rfl) (by decide) ?_
            refine lv_aload_n hx hb dX8_count_81 rfl (lv_at hl 0 rfl) ?_
            refine lv_iconst (v := (3 : Int32)) hx hb dX8_count_82 (by decide) ?_
            obtain ⟨u83, hu83, hM⟩ := bind_some hM
            refine g_callVi (rest := []) (gr := []) X hl.1 hW (c_X8_manyWhere l G cI cZ cL N aT T_w T_undoes T_kept T_persons T_family T_gives T_warm T_rumour T_seen T_seenOf T_seenBehind T_seenHas T_text T_texted T_place T_number T_readPersons T_readKind T_readComes T_readFamily T_readGives T_readWarm T_readRumour T_toCome T_order T_bestOrder (3 : Int32) u83 hu83) q_1011 q_1008 q_1010 q_41 q_67 hd_X8_manyWhere rfl ⟨Nat.le_of_ble_eq_true rfl, Nat.le_of_ble_eq_true rfl⟩ ⟨Nat.zero_le _, Nat.zero_le _⟩ [0] [] [wMod cI cZ aT T_w T_undoes T_kept T_persons T_family T_gives T_warm T_rumour T_seen T_seenOf T_seenBehind T_seenHas T_text T_texted T_place T_number T_readPersons T_readKind T_readComes T_readFamily T_readGives T_readWarm T_readRumour T_toCome T_order T_bestOrder] ⟨pm_1_0, rfl, rfl, rfl⟩ ⟨pm_1_0, rfl, rfl, rfl⟩ (q0 := 0) rfl rfl rfl (Nat.le_of_ble_eq_true rfl) dX8_count_83 (fun H locs hW => ?_)
            obtain rfl := Option.some.inj hM
            exact g_reti X hW rfl rfl dX8_count_86
          · have hM := (if_neg hs1_4).symm.trans hM
            by_cases hs1_5 : p1 = (5 : Int32)
            · have hM := (if_pos hs1_5).symm.trans hM
              refine lv_tableIn (off := 86) (tgt := 87) hx hb dX8_count_1 (by rw [hs1_5]; decide) (by rw [hs1_5]; decide) (by rw [hs1_5]; rfl) (by decide) ?_
              refine lv_aload_n hx hb dX8_count_87 rfl (lv_at hl 0 rfl) ?_
              refine g_get X hW 0 rfl rfl inX8 0 (by decide) q_817 rfl dX8_count_88 ?_
              refine lv_iconst (v := (1 : Int32)) hx hb dX8_count_91 (by decide) ?_
              obtain ⟨hi92, hM⟩ := MG_some hM
              refine g_ald X hW 1 rfl hi92 dX8_count_92 ?_
              obtain rfl := Option.some.inj hM
              exact g_reti X hW rfl rfl dX8_count_93
            · have hM := (if_neg hs1_5).symm.trans hM
              by_cases hs1_6 : p1 = (6 : Int32)
              · have hM := (if_pos hs1_6).symm.trans hM
                refine lv_tableIn (off := 93) (tgt := 94) hx hb dX8_count_1 (by rw [hs1_6]; decide) (by rw [hs1_6]; decide) (by rw [hs1_6]; rfl) (by decide) ?_
                refine lv_aload_n hx hb dX8_count_94 rfl (lv_at hl 0 rfl) ?_
                refine g_get X hW 0 rfl rfl inX8 8 (by decide) q_825 rfl dX8_count_95 ?_
                obtain rfl := Option.some.inj hM
                exact g_reti X hW rfl rfl dX8_count_98
              · have hM := (if_neg hs1_6).symm.trans hM
                by_cases hs1_7 : p1 = (7 : Int32)
                · have hM := (if_pos hs1_7).symm.trans hM
                  refine lv_tableIn (off := 98) (tgt := 99) hx hb dX8_count_1 (by rw [hs1_7]; decide) (by rw [hs1_7]; decide) (by rw [hs1_7]; rfl) (by decide) ?_
                  refine lv_aload_n hx hb dX8_count_99 rfl (lv_at hl 0 rfl) ?_
                  refine g_get X hW 0 rfl rfl inX8 1 (by decide) q_818 rfl dX8_count_100 ?_
                  obtain rfl := Option.some.inj hM
                  exact g_reti X hW rfl rfl dX8_count_103
                · have hM := (if_neg hs1_7).symm.trans hM
                  by_cases hs1_8 : p1 = (8 : Int32)
                  · have hM := (if_pos hs1_8).symm.trans hM
                    refine lv_tableIn (off := 103) (tgt := 104) hx hb dX8_count_1 (by rw [hs1_8]; decide) (by rw [hs1_8]; decide) (by rw [hs1_8]; rfl) (by decide) ?_
                    refine lv_aload_n hx hb dX8_count_104 rfl (lv_at hl 0 rfl) ?_
                    refine g_get X hW 0 rfl rfl inX8 2 (by decide) q_819 rfl dX8_count_105 ?_
                    obtain rfl := Option.some.inj hM
                    exact g_reti X hW rfl rfl dX8_count_108
                  · have hM := (if_neg hs1_8).symm.trans hM
                    by_cases hs1_9 : p1 = (9 : Int32)
                    · have hM := (if_pos hs1_9).symm.trans hM
                      refine lv_tableIn (off := 108) (tgt := 109) hx hb dX8_count_1 (by rw [hs1_9]; decide) (by rw [hs1_9]; decide) (by rw [hs1_9]; rfl) (by decide) ?_
                      refine lv_aload_n hx hb dX8_count_109 rfl (lv_at hl 0 rfl) ?_
                      refine g_get X hW 0 rfl rfl inX8 13 (by decide) q_830 rfl dX8_count_110 ?_
                      obtain rfl := Option.some.inj hM
                      exact g_reti X hW rfl rfl dX8_count_113
                    · have hM := (if_neg hs1_9).symm.trans hM
                      refine lv_tableOut (tgt := 114) hx hb dX8_count_1 (sw_out 9 (fun j hj => by rcases sw_le9 hj with rfl | rfl | rfl | rfl | rfl | rfl | rfl | rfl | rfl | rfl <;> assumption)) (by decide) ?_
                      refine lv_iconst (v := (-1 : Int32)) hx hb dX8_count_114 (by decide) ?_
                      obtain rfl := Option.some.inj hM
                      exact g_reti X hW rfl rfl dX8_count_115
