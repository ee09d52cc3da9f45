def MX8_in_j17 : Option (Int32) :=
  some ((0 : Int32))
def MX8_in (N : Nat) (p1 : Int64) (p2 : Int64) (p3 : Int64) : Option (Int32) :=
  if (lg_cmp p1 p2) < 0 then (MX8_in_j17) else (if 0 < (lg_cmp p1 p3) then (MX8_in_j17) else some ((1 : Int32)))
set_option maxHeartbeats 4000000 in
set_option maxRecDepth 100000 in
theorem c_X8_in (l : Launch) (G : va_G) (cI cZ cL : ClassId) (N : Nat) (p1 : Int64) (p2 : Int64) (p3 : Int64) (rr : Int32) (hM : MX8_in N p1 p2 p3 = some rr) : CtI l yX8_in cX8_in 6 .boolean 0 0 G cI cZ cL [.long p1, .long p2, .long p3] [] rr [] := by
  refine ct_body (fun A => qI G rr [] A) (by decide) (Nat.le_of_ble_eq_true rfl) (fun p e s m below meth c A ls X hW hl => ?_)
  have hx := X.1
  have hb := X.2.1
  have hts := X.2.2.2.2.2.1
  have hown := X.2.2.2.2.2.2.1
  have hl : lv_has ls 6 [(0, .long p1), (2, .long p2), (4, .long p3)] := hl
  unfold MX8_in at hM
  refine lv_lload_n hx hb dX8_in_0 rfl (lv_at hl 0 rfl) ?_
  refine lv_lload_n hx hb dX8_in_1 rfl (lv_at hl 1 rfl) ?_
  refine W.lcmp hx hb dX8_in_2 ?_
  have j17 : ∀ (H : Heap) (locs : List Loc) (ls : Array Slot), Wd G A s [] H locs → lv_has ls 6 [] → MX8_in_j17 = some rr → W p l e (rmO 0 0) s m ([.long p1, .long p2, .long p3] : List Value).toArray below meth c H locs 0 0 (MQ below (qI G rr [] A) ([.long p1, .long p2, .long p3] : List Value).toArray s 0 0 A) (F0 m 17 ls []) := by
    intro H locs ls hW hl hM
    unfold MX8_in_j17 at hM
    refine lv_iconst (v := (0 : Int32)) hx hb dX8_in_17 (by decide) ?_
    obtain rfl := Option.some.inj hM
    exact g_reti X hW rfl rfl dX8_in_18
  refine lv_if_lt (tgt := 17) hx hb dX8_in_3 (by decide) (fun hc => ?_) (fun hc => ?_)
  · have hM := (if_pos hc).symm.trans hM
    exact j17 _ _ _ hW (lv_sub hl [] rfl) hM
  · have hM := (if_neg hc).symm.trans hM
    refine lv_lload_n hx hb dX8_in_6 rfl (lv_at hl 0 rfl) ?_
    refine lv_lload hx hb dX8_in_7 (lv_at hl 2 rfl) ?_
    refine W.lcmp hx hb dX8_in_9 ?_
    refine lv_if_gt (tgt := 17) hx hb dX8_in_10 (by decide) (fun hc => ?_) (fun hc => ?_)
    · have hM := (if_pos hc).symm.trans hM
      exact j17 _ _ _ hW (lv_sub hl [] rfl) hM
    · have hM := (if_neg hc).symm.trans hM
      refine lv_iconst (v := (1 : Int32)) hx hb dX8_in_13 (by decide) ?_
      refine lv_goto (tgt := 18) hx hb dX8_in_14 (by decide) ?_
      obtain rfl := Option.some.inj hM
      exact g_reti X hW rfl rfl dX8_in_18

def MX8_isIn (N : Nat) (p1 : Int32) (p2 : Int32) : Option (Int32) :=
  if ((p1 >>> (p2 &&& 31)) &&& (1 : Int32)) = (1 : Int32) then some ((1 : Int32)) else some ((0 : Int32))
set_option maxHeartbeats 4000000 in
set_option maxRecDepth 100000 in
theorem c_X8_isIn (l : Launch) (G : va_G) (cI cZ cL : ClassId) (N : Nat) (p1 : Int32) (p2 : Int32) (rr : Int32) (hM : MX8_isIn N p1 p2 = some rr) : CtI l yX8_isIn cX8_isIn 2 .boolean 0 0 G cI cZ cL [.int p1, .int p2] [] rr [] := by
  refine ct_body (fun A => qI G rr [] A) (by decide) (Nat.le_of_ble_eq_true rfl) (fun p e s m below meth c A ls X hW hl => ?_)
  have hx := X.1
  have hb := X.2.1
  have hts := X.2.2.2.2.2.1
  have hown := X.2.2.2.2.2.2.1
  have hl : lv_has ls 2 [(0, .int p1), (1, .int p2)] := hl
  unfold MX8_isIn at hM
  refine lv_iload_n hx hb dX8_isIn_0 rfl (lv_at hl 0 rfl) ?_
  refine lv_iload_n hx hb dX8_isIn_1 rfl (lv_at hl 1 rfl) ?_
  refine lv_ishr hx hb dX8_isIn_2 ?_
  refine lv_iconst (v := (1 : Int32)) hx hb dX8_isIn_3 (by decide) ?_
  refine lv_iand hx hb dX8_isIn_4 ?_
  refine lv_iconst (v := (1 : Int32)) hx hb dX8_isIn_5 (by decide) ?_
  refine lv_icmp_ne (tgt := 13) hx hb dX8_isIn_6 (by decide) (fun hc => ?_) (fun hc => ?_)
  · have hM := (if_neg hc).symm.trans hM
    refine lv_iconst (v := (0 : Int32)) hx hb dX8_isIn_13 (by decide) ?_
    obtain rfl := Option.some.inj hM
    exact g_reti X hW rfl rfl dX8_isIn_14
  · have hM := (if_pos hc).symm.trans hM
    refine lv_iconst (v := (1 : Int32)) hx hb dX8_isIn_9 (by decide) ?_
    refine lv_goto (tgt := 14) hx hb dX8_isIn_10 (by decide) ?_
    obtain rfl := Option.some.inj hM
    exact g_reti X hW rfl rfl dX8_isIn_14

def MX8_copy_j30 (yT0_30 : (Nat → Int32)) : Option ((Nat → Int32)) :=
  some (yT0_30)
def MX8_copy_l2 (p1 : Int32) (p2 : Int32) : Nat → Int32 → (Nat → Int32) → Option ((Nat → Int32))
  | 0, _, _ => none
  | n2 + 1, x3_2, yT0_2 =>
    if (66 : Int32) ≤ x3_2 then (MX8_copy_j30 yT0_2) else (MG (p1 + x3_2) 792 (MG (p2 + x3_2) 792 ((MX8_copy_l2 p1 p2 n2) (x3_2 + (1 : Int32)) (upd yT0_2 (p2 + x3_2).toNatClampNeg (yT0_2 (p1 + x3_2).toNatClampNeg)))))
def MX8_copy (N : Nat) (T_w : (Nat → Int32)) (p1 : Int32) (p2 : Int32) : Option ((Nat → Int32)) :=
  MX8_copy_l2 p1 p2 N (0 : Int32) T_w
set_option maxHeartbeats 4000000 in
set_option maxRecDepth 100000 in
theorem c_X8_copy (l : Launch) (G : va_G) (cI cZ cL : ClassId) (N : Nat) (aT : Nat → Nat) (T_w : (Nat → Int32)) (T_undoes : Int32) (T_kept : Int32) (T_persons : Int32) (T_family : (Nat → Int32)) (T_gives : Int32) (T_warm : Int32) (T_rumour : Int32) (T_seen : Int32) (T_seenOf : (Nat → Int32)) (T_seenBehind : (Nat → Int32)) (T_seenHas : (Nat → Int32)) (T_text : (Nat → Int32)) (T_texted : Int32) (T_place : Int32) (T_number : Int32) (T_readPersons : Int32) (T_readKind : (Nat → Int32)) (T_readComes : (Nat → Int32)) (T_readFamily : (Nat → Int32)) (T_readGives : Int32) (T_readWarm : Int32) (T_readRumour : Int32) (T_toCome : (Nat → Int32)) (T_order : (Nat → Int32)) (T_bestOrder : (Nat → Int32)) (p1 : Int32) (p2 : Int32) (rr : (Nat → Int32)) (hM : MX8_copy N T_w p1 p2 = some rr) : CtV l yX8_copy cX8_copy 4 0 0 G cI cZ cL [.ref (aT 0), .int p1, .int p2] [wMod cI cZ aT T_w T_undoes T_kept T_persons T_family T_gives T_warm T_rumour T_seen T_seenOf T_seenBehind T_seenHas T_text T_texted T_place T_number T_readPersons T_readKind T_readComes T_readFamily T_readGives T_readWarm T_readRumour T_toCome T_order T_bestOrder] [wMod cI cZ aT rr T_undoes T_kept T_persons T_family T_gives T_warm T_rumour T_seen T_seenOf T_seenBehind T_seenHas T_text T_texted T_place T_number T_readPersons T_readKind T_readComes T_readFamily T_readGives T_readWarm T_readRumour T_toCome T_order T_bestOrder] := by
  refine ct_body (fun A => qV G [wMod cI cZ aT rr T_undoes T_kept T_persons T_family T_gives T_warm T_rumour T_seen T_seenOf T_seenBehind T_seenHas T_text T_texted T_place T_number T_readPersons T_readKind T_readComes T_readFamily T_readGives T_readWarm T_readRumour T_toCome T_order T_bestOrder] A) (by decide) (Nat.le_of_ble_eq_true rfl) (fun p e s m below meth c A ls X hW hl => ?_)
  have hx := X.1
  have hb := X.2.1
  have hts := X.2.2.2.2.2.1
  have hown := X.2.2.2.2.2.2.1
  have hl : lv_has ls 4 [(0, .ref (aT 0)), (1, .int p1), (2, .int p2)] := hl
  unfold MX8_copy at hM
  refine lv_iconst (v := (0 : Int32)) hx hb dX8_copy_0 (by decide) ?_
  refine lv_istore_n (lv' := [(3, .int (0 : Int32)), (0, .ref (aT 0)), (1, .int p1), (2, .int p2)]) hx hb dX8_copy_1 rfl hl (by decide) rfl (fun ls hl => ?_)
  have j30 : ∀ (yT0_30 : (Nat → Int32)) (H : Heap) (locs : List Loc) (ls : Array Slot), Wd G A s [wMod cI cZ aT yT0_30 T_undoes T_kept T_persons T_family T_gives T_warm T_rumour T_seen T_seenOf T_seenBehind T_seenHas T_text T_texted T_place T_number T_readPersons T_readKind T_readComes T_readFamily T_readGives T_readWarm T_readRumour T_toCome T_order T_bestOrder] H locs → lv_has ls 4 [] → MX8_copy_j30 yT0_30 = some rr → W p l e (rmO 0 0) s m ([.ref (aT 0), .int p1, .int p2] : List Value).toArray below meth c H locs 0 0 (MQ below (qV G [wMod cI cZ aT rr T_undoes T_kept T_persons T_family T_gives T_warm T_rumour T_seen T_seenOf T_seenBehind T_seenHas T_text T_texted T_place T_number T_readPersons T_readKind T_readComes T_readFamily T_readGives T_readWarm T_readRumour T_toCome T_order T_bestOrder] A) ([.ref (aT 0), .int p1, .int p2] : List Value).toArray s 0 0 A) (F0 m 30 ls []) := by
    intro yT0_30 H locs ls hW hl hM
    unfold MX8_copy_j30 at hM
    obtain rfl := Option.some.inj hM
    exact g_retv X hW dX8_copy_30
  have lp2 : ∀ (n2 : Nat) (x3_2 : Int32) (yT0_2 : (Nat → Int32)) (H : Heap) (locs : List Loc) (ls : Array Slot), Wd G A s [wMod cI cZ aT yT0_2 T_undoes T_kept T_persons T_family T_gives T_warm T_rumour T_seen T_seenOf T_seenBehind T_seenHas T_text T_texted T_place T_number T_readPersons T_readKind T_readComes T_readFamily T_readGives T_readWarm T_readRumour T_toCome T_order T_bestOrder] H locs → lv_has ls 4 [(0, .ref (aT 0)), (1, .int p1), (2, .int p2), (3, .int x3_2)] → MX8_copy_l2 p1 p2 n2 x3_2 yT0_2 = some rr → W p l e (rmO 0 0) s m ([.ref (aT 0), .int p1, .int p2] : List Value).toArray below meth c H locs 0 0 (MQ below (qV G [wMod cI cZ aT rr T_undoes T_kept T_persons T_family T_gives T_warm T_rumour T_seen T_seenOf T_seenBehind T_seenHas T_text T_texted T_place T_number T_readPersons T_readKind T_readComes T_readFamily T_readGives T_readWarm T_readRumour T_toCome T_order T_bestOrder] A) ([.ref (aT 0), .int p1, .int p2] : List Value).toArray s 0 0 A) (F0 m 2 ls []) := by
    intro n2
    induction n2 with
    | zero =>
      intro x3_2 yT0_2 H locs ls hW hl hM
      rw [MX8_copy_l2] at hM
      cases hM
    | succ n2 ih2 =>
      intro x3_2 yT0_2 H locs ls hW hl hM
      rw [MX8_copy_l2] at hM
      refine lv_iload_n hx hb dX8_copy_2 rfl (lv_at hl 3 rfl) ?_
      refine lv_bipush (v := (66 : Int32)) hx hb dX8_copy_3 (by decide) ?_
      refine lv_icmp_ge (tgt := 30) hx hb dX8_copy_5 (by decide) (fun hc => ?_) (fun hc => ?_)
      · have hM := (if_pos hc).symm.trans hM
        exact j30 yT0_2 _ _ _ hW (lv_sub hl [] rfl) hM
      · have hM := (if_neg hc).symm.trans hM
        refine lv_aload_n hx hb dX8_copy_8 rfl (lv_at hl 0 rfl) ?_
        refine g_get X hW 0 rfl rfl inX8 0 (by decide) q_817 rfl dX8_copy_9 ?_
        refine lv_iload_n hx hb dX8_copy_12 rfl (lv_at hl 2 rfl) ?_
        refine lv_iload_n hx hb dX8_copy_13 rfl (lv_at hl 3 rfl) ?_
        refine lv_iadd hx hb dX8_copy_14 ?_
        refine lv_aload_n hx hb dX8_copy_15 rfl (lv_at hl 0 rfl) ?_
        refine g_get X hW 0 rfl rfl inX8 0 (by decide) q_817 rfl dX8_copy_16 ?_
        refine lv_iload_n hx hb dX8_copy_19 rfl (lv_at hl 1 rfl) ?_
        refine lv_iload_n hx hb dX8_copy_20 rfl (lv_at hl 3 rfl) ?_
        refine lv_iadd hx hb dX8_copy_21 ?_
        obtain ⟨hi22, hM⟩ := MG_some hM
        refine g_ald X hW 1 rfl hi22 dX8_copy_22 ?_
        obtain ⟨hi23, hM⟩ := MG_some hM
        refine g_ast X hW 1 rfl hi23 [wMod cI cZ aT (upd yT0_2 (p2 + x3_2).toNatClampNeg (yT0_2 (p1 + x3_2).toNatClampNeg)) T_undoes T_kept T_persons T_family T_gives T_warm T_rumour T_seen T_seenOf T_seenBehind T_seenHas T_text T_texted T_place T_number T_readPersons T_readKind T_readComes T_readFamily T_readGives T_readWarm T_readRumour T_toCome T_order T_bestOrder] rfl dX8_copy_23 (fun H locs hW => ?_)
        refine lv_iinc (v := x3_2 + (1 : Int32)) (lv' := [(3, .int (x3_2 + (1 : Int32))), (0, .ref (aT 0)), (1, .int p1), (2, .int p2)]) hx hb dX8_copy_24 hl (k := 3) rfl rfl (by decide) rfl (fun ls hl => ?_)
        refine lv_goto (tgt := 2) hx hb dX8_copy_27 (by decide) ?_
        exact ih2 (x3_2 + (1 : Int32)) (upd yT0_2 (p2 + x3_2).toNatClampNeg (yT0_2 (p1 + x3_2).toNatClampNeg)) _ _ _ hW (lv_sub hl [1, 2, 3, 0] rfl) hM
  exact lp2 N (0 : Int32) T_w _ _ _ hW (lv_sub hl [1, 2, 3, 0] rfl) hM

def MX8_isPerson (N : Nat) (T_persons : Int32) (p1 : Int32) : Option (Int32) :=
  (MX8_in N p1.toInt64 (0 : Int64) ((T_persons - (1 : Int32)).toInt64)).bind (fun u10 => MB u10 (some (u10)))
set_option maxHeartbeats 4000000 in
set_option maxRecDepth 100000 in
theorem c_X8_isPerson (l : Launch) (G : va_G) (cI cZ cL : ClassId) (N : Nat) (aT : Nat → Nat) (T_w : (Nat → Int32)) (T_undoes : Int32) (T_kept : Int32) (T_persons : Int32) (T_family : (Nat → Int32)) (T_gives : Int32) (T_warm : Int32) (T_rumour : Int32) (T_seen : Int32) (T_seenOf : (Nat → Int32)) (T_seenBehind : (Nat → Int32)) (T_seenHas : (Nat → Int32)) (T_text : (Nat → Int32)) (T_texted : Int32) (T_place : Int32) (T_number : Int32) (T_readPersons : Int32) (T_readKind : (Nat → Int32)) (T_readComes : (Nat → Int32)) (T_readFamily : (Nat → Int32)) (T_readGives : Int32) (T_readWarm : Int32) (T_readRumour : Int32) (T_toCome : (Nat → Int32)) (T_order : (Nat → Int32)) (T_bestOrder : (Nat → Int32)) (p1 : Int32) (rr : Int32) (hM : MX8_isPerson N T_persons p1 = some rr) : CtI l yX8_isPerson cX8_isPerson 2 .boolean 1 25 G cI cZ cL [.ref (aT 0), .int p1] [wMod cI cZ aT T_w T_undoes T_kept T_persons T_family T_gives T_warm T_rumour T_seen T_seenOf T_seenBehind T_seenHas T_text T_texted T_place T_number T_readPersons T_readKind T_readComes T_readFamily T_readGives T_readWarm T_readRumour T_toCome T_order T_bestOrder] rr [wMod cI cZ aT T_w T_undoes T_kept T_persons T_family T_gives T_warm T_rumour T_seen T_seenOf T_seenBehind T_seenHas T_text T_texted T_place T_number T_readPersons T_readKind T_readComes T_readFamily T_readGives T_readWarm T_readRumour T_toCome T_order T_bestOrder] := by
  refine ct_body (fun A => qI G rr [wMod cI cZ aT T_w T_undoes T_kept T_persons T_family T_gives T_warm T_rumour T_seen T_seenOf T_seenBehind T_seenHas T_text T_texted T_place T_number T_readPersons T_readKind T_readComes T_readFamily T_readGives T_readWarm T_readRumour T_toCome T_order T_bestOrder] A) (by decide) (Nat.le_of_ble_eq_true rfl) (fun p e s m below meth c A ls X hW hl => ?_)
  have hx := X.1
  have hb := X.2.1
  have hts := X.2.2.2.2.2.1
  have hown := X.2.2.2.2.2.2.1
  have hl : lv_has ls 2 [(0, .ref (aT 0)), (1, .int p1)] := hl
  unfold MX8_isPerson at hM
  refine lv_iload_n hx hb dX8_isPerson_0 rfl (lv_at hl 1 rfl) ?_
  refine lv_i2l hx hb dX8_isPerson_1 rfl ?_
  refine lv_lconst (v := (0 : Int64)) hx hb dX8_isPerson_2 (by decide) ?_
  refine lv_aload_n hx hb dX8_isPerson_3 rfl (lv_at hl 0 rfl) ?_
  refine g_get X hW 0 rfl rfl inX8 3 (by decide) q_820 rfl dX8_isPerson_4 ?_
  refine lv_iconst (v := (1 : Int32)) hx hb dX8_isPerson_7 (by decide) ?_
  refine lv_isub hx hb dX8_isPerson_8 ?_
  refine lv_i2l hx hb dX8_isPerson_9 rfl ?_
  obtain ⟨u10, hu10, hM⟩ := bind_some hM
  refine g_callSi (rest := []) X hl.1 hW (c_X8_in l G cI cZ cL N p1.toInt64 (0 : Int64) ((T_persons - (1 : Int32)).toInt64) u10 hu10) q_904 q_902 q_903 q_67 hd_X8_in rfl ⟨Nat.le_of_ble_eq_true rfl, Nat.le_of_ble_eq_true rfl⟩ ⟨Nat.zero_le _, Nat.zero_le _⟩ rfl (Nat.le_of_ble_eq_true rfl) dX8_isPerson_10 (fun H locs hW => ?_)
  obtain ⟨hn, hM⟩ := MB_some hM
  obtain rfl := Option.some.inj hM
  exact g_reti X hW rfl hn dX8_isPerson_13

def MX8_adds (N : Nat) (T_readPersons : Int32) (T_readKind : (Nat → Int32)) (T_readComes : (Nat → Int32)) (T_readFamily : (Nat → Int32)) (p1 : Int32) (p2 : Int32) (p3 : Int32) : Option (Int32 × (Nat → Int32) × (Nat → Int32) × (Nat → Int32)) :=
  MG T_readPersons 9 (MG T_readPersons 9 (MG T_readPersons 9 (some ((T_readPersons + (1 : Int32)), (upd T_readKind T_readPersons.toNatClampNeg p1), (upd T_readComes T_readPersons.toNatClampNeg p2), (upd T_readFamily T_readPersons.toNatClampNeg p3)))))
set_option maxHeartbeats 4000000 in
set_option maxRecDepth 100000 in
theorem c_X8_adds (l : Launch) (G : va_G) (cI cZ cL : ClassId) (N : Nat) (aT : Nat → Nat) (T_w : (Nat → Int32)) (T_undoes : Int32) (T_kept : Int32) (T_persons : Int32) (T_family : (Nat → Int32)) (T_gives : Int32) (T_warm : Int32) (T_rumour : Int32) (T_seen : Int32) (T_seenOf : (Nat → Int32)) (T_seenBehind : (Nat → Int32)) (T_seenHas : (Nat → Int32)) (T_text : (Nat → Int32)) (T_texted : Int32) (T_place : Int32) (T_number : Int32) (T_readPersons : Int32) (T_readKind : (Nat → Int32)) (T_readComes : (Nat → Int32)) (T_readFamily : (Nat → Int32)) (T_readGives : Int32) (T_readWarm : Int32) (T_readRumour : Int32) (T_toCome : (Nat → Int32)) (T_order : (Nat → Int32)) (T_bestOrder : (Nat → Int32)) (p1 : Int32) (p2 : Int32) (p3 : Int32) (rr : Int32 × (Nat → Int32) × (Nat → Int32) × (Nat → Int32)) (hM : MX8_adds N T_readPersons T_readKind T_readComes T_readFamily p1 p2 p3 = some rr) : CtV l yX8_adds cX8_adds 4 0 0 G cI cZ cL [.ref (aT 0), .int p1, .int p2, .int p3] [wMod cI cZ aT T_w T_undoes T_kept T_persons T_family T_gives T_warm T_rumour T_seen T_seenOf T_seenBehind T_seenHas T_text T_texted T_place T_number T_readPersons T_readKind T_readComes T_readFamily T_readGives T_readWarm T_readRumour T_toCome T_order T_bestOrder] [wMod cI cZ aT T_w T_undoes T_kept T_persons T_family T_gives T_warm T_rumour T_seen T_seenOf T_seenBehind T_seenHas T_text T_texted T_place T_number rr.1 rr.2.1 rr.2.2.1 rr.2.2.2 T_readGives T_readWarm T_readRumour T_toCome T_order T_bestOrder] := by
  refine ct_body (fun A => qV G [wMod cI cZ aT T_w T_undoes T_kept T_persons T_family T_gives T_warm T_rumour T_seen T_seenOf T_seenBehind T_seenHas T_text T_texted T_place T_number rr.1 rr.2.1 rr.2.2.1 rr.2.2.2 T_readGives T_readWarm T_readRumour T_toCome T_order T_bestOrder] A) (by decide) (Nat.le_of_ble_eq_true rfl) (fun p e s m below meth c A ls X hW hl => ?_)
  have hx := X.1
  have hb := X.2.1
  have hts := X.2.2.2.2.2.1
  have hown := X.2.2.2.2.2.2.1
  have hl : lv_has ls 4 [(0, .ref (aT 0)), (1, .int p1), (2, .int p2), (3, .int p3)] := hl
  unfold MX8_adds at hM
  refine lv_aload_n hx hb dX8_adds_0 rfl (lv_at hl 0 rfl) ?_
  refine g_get X hW 0 rfl rfl inX8 17 (by decide) q_834 rfl dX8_adds_1 ?_
  refine lv_aload_n hx hb dX8_adds_4 rfl (lv_at hl 0 rfl) ?_
  refine g_get X hW 0 rfl rfl inX8 16 (by decide) q_833 rfl dX8_adds_5 ?_
  refine lv_iload_n hx hb dX8_adds_8 rfl (lv_at hl 1 rfl) ?_
  obtain ⟨hi9, hM⟩ := MG_some hM
  refine g_ast X hW 7 rfl hi9 [wMod cI cZ aT T_w T_undoes T_kept T_persons T_family T_gives T_warm T_rumour T_seen T_seenOf T_seenBehind T_seenHas T_text T_texted T_place T_number T_readPersons (upd T_readKind T_readPersons.toNatClampNeg p1) T_readComes T_readFamily T_readGives T_readWarm T_readRumour T_toCome T_order T_bestOrder] rfl dX8_adds_9 (fun H locs hW => ?_)
  refine lv_aload_n hx hb dX8_adds_10 rfl (lv_at hl 0 rfl) ?_
  refine g_get X hW 0 rfl rfl inX8 18 (by decide) q_835 rfl dX8_adds_11 ?_
  refine lv_aload_n hx hb dX8_adds_14 rfl (lv_at hl 0 rfl) ?_
  refine g_get X hW 0 rfl rfl inX8 16 (by decide) q_833 rfl dX8_adds_15 ?_
  refine lv_iload_n hx hb dX8_adds_18 rfl (lv_at hl 2 rfl) ?_
  obtain ⟨hi19, hM⟩ := MG_some hM
  refine g_ast X hW 8 rfl hi19 [wMod cI cZ aT T_w T_undoes T_kept T_persons T_family T_gives T_warm T_rumour T_seen T_seenOf T_seenBehind T_seenHas T_text T_texted T_place T_number T_readPersons (upd T_readKind T_readPersons.toNatClampNeg p1) (upd T_readComes T_readPersons.toNatClampNeg p2) T_readFamily T_readGives T_readWarm T_readRumour T_toCome T_order T_bestOrder] rfl dX8_adds_19 (fun H locs hW => ?_)
  refine lv_aload_n hx hb dX8_adds_20 rfl (lv_at hl 0 rfl) ?_
  refine g_get X hW 0 rfl rfl inX8 19 (by decide) q_836 rfl dX8_adds_21 ?_
  refine lv_aload_n hx hb dX8_adds_24 rfl (lv_at hl 0 rfl) ?_
  refine g_get X hW 0 rfl rfl inX8 16 (by decide) q_833 rfl dX8_adds_25 ?_
  refine lv_iload_n hx hb dX8_adds_28 rfl (lv_at hl 3 rfl) ?_
  obtain ⟨hi29, hM⟩ := MG_some hM
  refine g_ast X hW 9 rfl hi29 [wMod cI cZ aT T_w T_undoes T_kept T_persons T_family T_gives T_warm T_rumour T_seen T_seenOf T_seenBehind T_seenHas T_text T_texted T_place T_number T_readPersons (upd T_readKind T_readPersons.toNatClampNeg p1) (upd T_readComes T_readPersons.toNatClampNeg p2) (upd T_readFamily T_readPersons.toNatClampNeg p3) T_readGives T_readWarm T_readRumour T_toCome T_order T_bestOrder] rfl dX8_adds_29 (fun H locs hW => ?_)
  refine lv_aload_n hx hb dX8_adds_30 rfl (lv_at hl 0 rfl) ?_
  refine lv_dup hx hb dX8_adds_31 rfl ?_
  refine g_get X hW 0 rfl rfl inX8 16 (by decide) q_833 rfl dX8_adds_32 ?_
  refine lv_iconst (v := (1 : Int32)) hx hb dX8_adds_35 (by decide) ?_
  refine lv_iadd hx hb dX8_adds_36 ?_
  refine g_put X hW 0 rfl rfl inX8 tyX8 tyX8_ok nmX8 16 (by decide) q_833 rfl rfl (Nat.le_of_ble_eq_true rfl) [wMod cI cZ aT T_w T_undoes T_kept T_persons T_family T_gives T_warm T_rumour T_seen T_seenOf T_seenBehind T_seenHas T_text T_texted T_place T_number (T_readPersons + (1 : Int32)) (upd T_readKind T_readPersons.toNatClampNeg p1) (upd T_readComes T_readPersons.toNatClampNeg p2) (upd T_readFamily T_readPersons.toNatClampNeg p3) T_readGives T_readWarm T_readRumour T_toCome T_order T_bestOrder] rfl dX8_adds_37 (fun H locs hW => ?_)
  obtain rfl := Option.some.inj hM
  exact g_retv X hW dX8_adds_40

def MX8_begins_j133 (T_readPersons : Int32) (T_readGives : Int32) (T_readWarm : Int32) (T_readRumour : Int32) (yT0_133 : (Nat → Int32)) (yT4_133 : (Nat → Int32)) : Option ((Nat → Int32) × Int32 × Int32 × Int32 × (Nat → Int32) × Int32 × Int32 × Int32 × Int32) :=
  some (yT0_133, (0 : Int32), (0 : Int32), T_readPersons, yT4_133, T_readGives, T_readWarm, T_readRumour, (0 : Int32))
def MX8_begins_l55 (T_readPersons : Int32) (T_readKind : (Nat → Int32)) (T_readComes : (Nat → Int32)) (T_readFamily : (Nat → Int32)) (T_readGives : Int32) (T_readWarm : Int32) (T_readRumour : Int32) : Nat → Int32 → (Nat → Int32) → (Nat → Int32) → Option ((Nat → Int32) × Int32 × Int32 × Int32 × (Nat → Int32) × Int32 × Int32 × Int32 × Int32)
  | 0, _, _, _ => none
  | n55 + 1, x1_55, yT0_55, yT4_55 =>
    if T_readPersons ≤ x1_55 then (MX8_begins_j133 T_readPersons T_readGives T_readWarm T_readRumour yT0_55 yT4_55) else MG x1_55 9 (MG x1_55 9 (MG x1_55 9 (MG ((48 : Int32) + x1_55) 792 (MG x1_55 9 (MG ((57 : Int32) + x1_55) 792 (MG ((30 : Int32) + x1_55) 792 (MG ((39 : Int32) + x1_55) 792 ((MX8_begins_l55 T_readPersons T_readKind T_readComes T_readFamily T_readGives T_readWarm T_readRumour n55) (x1_55 + (1 : Int32)) (upd (upd (upd (upd yT0_55 ((48 : Int32) + x1_55).toNatClampNeg (T_readComes x1_55.toNatClampNeg)) ((57 : Int32) + x1_55).toNatClampNeg (T_readKind x1_55.toNatClampNeg)) ((30 : Int32) + x1_55).toNatClampNeg (-4 : Int32)) ((39 : Int32) + x1_55).toNatClampNeg (-4 : Int32)) (upd yT4_55 x1_55.toNatClampNeg (T_readFamily x1_55.toNatClampNeg))))))))))
def MX8_begins_j53 (N : Nat) (T_family : (Nat → Int32)) (T_readPersons : Int32) (T_readKind : (Nat → Int32)) (T_readComes : (Nat → Int32)) (T_readFamily : (Nat → Int32)) (T_readGives : Int32) (T_readWarm : Int32) (T_readRumour : Int32) (yT0_53 : (Nat → Int32)) : Option ((Nat → Int32) × Int32 × Int32 × Int32 × (Nat → Int32) × Int32 × Int32 × Int32 × Int32) :=
  MX8_begins_l55 T_readPersons T_readKind T_readComes T_readFamily T_readGives T_readWarm T_readRumour N (0 : Int32) yT0_53 T_family
def MX8_begins_l34 (N : Nat) (T_family : (Nat → Int32)) (T_readPersons : Int32) (T_readKind : (Nat → Int32)) (T_readComes : (Nat → Int32)) (T_readFamily : (Nat → Int32)) (T_readGives : Int32) (T_readWarm : Int32) (T_readRumour : Int32) : Nat → Int32 → (Nat → Int32) → Option ((Nat → Int32) × Int32 × Int32 × Int32 × (Nat → Int32) × Int32 × Int32 × Int32 × Int32)
  | 0, _, _ => none
  | n34 + 1, x1_34, yT0_34 =>
    if (66 : Int32) ≤ x1_34 then (MX8_begins_j53 N T_family T_readPersons T_readKind T_readComes T_readFamily T_readGives T_readWarm T_readRumour yT0_34) else MG x1_34 792 ((MX8_begins_l34 N T_family T_readPersons T_readKind T_readComes T_readFamily T_readGives T_readWarm T_readRumour n34) (x1_34 + (1 : Int32)) (upd yT0_34 x1_34.toNatClampNeg (0 : Int32)))
def MX8_begins (N : Nat) (T_w : (Nat → Int32)) (T_family : (Nat → Int32)) (T_readPersons : Int32) (T_readKind : (Nat → Int32)) (T_readComes : (Nat → Int32)) (T_readFamily : (Nat → Int32)) (T_readGives : Int32) (T_readWarm : Int32) (T_readRumour : Int32) : Option ((Nat → Int32) × Int32 × Int32 × Int32 × (Nat → Int32) × Int32 × Int32 × Int32 × Int32) :=
  MX8_begins_l34 N T_family T_readPersons T_readKind T_readComes T_readFamily T_readGives T_readWarm T_readRumour N (0 : Int32) T_w
set_option maxHeartbeats 4000000 in
set_option maxRecDepth 100000 in
theorem c_X8_begins (l : Launch) (G : va_G) (cI cZ cL : ClassId) (N : Nat) (aT : Nat → Nat) (T_w : (Nat → Int32)) (T_undoes : Int32) (T_kept : Int32) (T_persons : Int32) (T_family : (Nat → Int32)) (T_gives : Int32) (T_warm : Int32) (T_rumour : Int32) (T_seen : Int32) (T_seenOf : (Nat → Int32)) (T_seenBehind : (Nat → Int32)) (T_seenHas : (Nat → Int32)) (T_text : (Nat → Int32)) (T_texted : Int32) (T_place : Int32) (T_number : Int32) (T_readPersons : Int32) (T_readKind : (Nat → Int32)) (T_readComes : (Nat → Int32)) (T_readFamily : (Nat → Int32)) (T_readGives : Int32) (T_readWarm : Int32) (T_readRumour : Int32) (T_toCome : (Nat → Int32)) (T_order : (Nat → Int32)) (T_bestOrder : (Nat → Int32)) (rr : (Nat → Int32) × Int32 × Int32 × Int32 × (Nat → Int32) × Int32 × Int32 × Int32 × Int32) (hM : MX8_begins N T_w T_family T_readPersons T_readKind T_readComes T_readFamily T_readGives T_readWarm T_readRumour = some rr) : CtV l yX8_begins cX8_begins 2 0 0 G cI cZ cL [.ref (aT 0)] [wMod cI cZ aT T_w T_undoes T_kept T_persons T_family T_gives T_warm T_rumour T_seen T_seenOf T_seenBehind T_seenHas T_text T_texted T_place T_number T_readPersons T_readKind T_readComes T_readFamily T_readGives T_readWarm T_readRumour T_toCome T_order T_bestOrder] [wMod cI cZ aT rr.1 rr.2.1 rr.2.2.1 rr.2.2.2.1 rr.2.2.2.2.1 rr.2.2.2.2.2.1 rr.2.2.2.2.2.2.1 rr.2.2.2.2.2.2.2.1 rr.2.2.2.2.2.2.2.2 T_seenOf T_seenBehind T_seenHas T_text T_texted T_place T_number T_readPersons T_readKind T_readComes T_readFamily T_readGives T_readWarm T_readRumour T_toCome T_order T_bestOrder] := by
  refine ct_body (fun A => qV G [wMod cI cZ aT rr.1 rr.2.1 rr.2.2.1 rr.2.2.2.1 rr.2.2.2.2.1 rr.2.2.2.2.2.1 rr.2.2.2.2.2.2.1 rr.2.2.2.2.2.2.2.1 rr.2.2.2.2.2.2.2.2 T_seenOf T_seenBehind T_seenHas T_text T_texted T_place T_number T_readPersons T_readKind T_readComes T_readFamily T_readGives T_readWarm T_readRumour T_toCome T_order T_bestOrder] A) (by decide) (Nat.le_of_ble_eq_true rfl) (fun p e s m below meth c A ls X hW hl => ?_)
  have hx := X.1
  have hb := X.2.1
  have hts := X.2.2.2.2.2.1
  have hown := X.2.2.2.2.2.2.1
  have hl : lv_has ls 2 [(0, .ref (aT 0))] := hl
  unfold MX8_begins at hM
  refine lv_aload_n hx hb dX8_begins_0 rfl (lv_at hl 0 rfl) ?_
  refine lv_aload_n hx hb dX8_begins_1 rfl (lv_at hl 0 rfl) ?_
  refine g_get X hW 0 rfl rfl inX8 16 (by decide) q_833 rfl dX8_begins_2 ?_
  refine g_put X hW 0 rfl rfl inX8 tyX8 tyX8_ok nmX8 3 (by decide) q_820 rfl rfl (Nat.le_of_ble_eq_true rfl) [wMod cI cZ aT T_w T_undoes T_kept T_readPersons T_family T_gives T_warm T_rumour T_seen T_seenOf T_seenBehind T_seenHas T_text T_texted T_place T_number T_readPersons T_readKind T_readComes T_readFamily T_readGives T_readWarm T_readRumour T_toCome T_order T_bestOrder] rfl dX8_begins_5 (fun H locs hW => ?_)
  refine lv_aload_n hx hb dX8_begins_8 rfl (lv_at hl 0 rfl) ?_
  refine lv_aload_n hx hb dX8_begins_9 rfl (lv_at hl 0 rfl) ?_
  refine g_get X hW 0 rfl rfl inX8 20 (by decide) q_837 rfl dX8_begins_10 ?_
  refine g_put X hW 0 rfl rfl inX8 tyX8 tyX8_ok nmX8 5 (by decide) q_822 rfl rfl (Nat.le_of_ble_eq_true rfl) [wMod cI cZ aT T_w T_undoes T_kept T_readPersons T_family T_readGives T_warm T_rumour T_seen T_seenOf T_seenBehind T_seenHas T_text T_texted T_place T_number T_readPersons T_readKind T_readComes T_readFamily T_readGives T_readWarm T_readRumour T_toCome T_order T_bestOrder] rfl dX8_begins_13 (fun H locs hW => ?_)
  refine lv_aload_n hx hb dX8_begins_16 rfl (lv_at hl 0 rfl) ?_
  refine lv_aload_n hx hb dX8_begins_17 rfl (lv_at hl 0 rfl) ?_
  refine g_get X hW 0 rfl rfl inX8 21 (by decide) q_838 rfl dX8_begins_18 ?_
  refine g_put X hW 0 rfl rfl inX8 tyX8 tyX8_ok nmX8 6 (by decide) q_823 rfl rfl (Nat.le_of_ble_eq_true rfl) [wMod cI cZ aT T_w T_undoes T_kept T_readPersons T_family T_readGives T_readWarm T_rumour T_seen T_seenOf T_seenBehind T_seenHas T_text T_texted T_place T_number T_readPersons T_readKind T_readComes T_readFamily T_readGives T_readWarm T_readRumour T_toCome T_order T_bestOrder] rfl dX8_begins_21 (fun H locs hW => ?_)
  refine lv_aload_n hx hb dX8_begins_24 rfl (lv_at hl 0 rfl) ?_
  refine lv_aload_n hx hb dX8_begins_25 rfl (lv_at hl 0 rfl) ?_
  refine g_get X hW 0 rfl rfl inX8 22 (by decide) q_839 rfl dX8_begins_26 ?_
  refine g_put X hW 0 rfl rfl inX8 tyX8 tyX8_ok nmX8 7 (by decide) q_824 rfl rfl (Nat.le_of_ble_eq_true rfl) [wMod cI cZ aT T_w T_undoes T_kept T_readPersons T_family T_readGives T_readWarm T_readRumour T_seen T_seenOf T_seenBehind T_seenHas T_text T_texted T_place T_number T_readPersons T_readKind T_readComes T_readFamily T_readGives T_readWarm T_readRumour T_toCome T_order T_bestOrder] rfl dX8_begins_29 (fun H locs hW => ?_)
  refine lv_iconst (v := (0 : Int32)) hx hb dX8_begins_32 (by decide) ?_
  refine lv_istore_n (lv' := [(1, .int (0 : Int32)), (0, .ref (aT 0))]) hx hb dX8_begins_33 rfl hl (by decide) rfl (fun ls hl => ?_)
  have j53 : ∀ (yT0_53 : (Nat → Int32)) (H : Heap) (locs : List Loc) (ls : Array Slot), Wd G A s [wMod cI cZ aT yT0_53 T_undoes T_kept T_readPersons T_family T_readGives T_readWarm T_readRumour T_seen T_seenOf T_seenBehind T_seenHas T_text T_texted T_place T_number T_readPersons T_readKind T_readComes T_readFamily T_readGives T_readWarm T_readRumour T_toCome T_order T_bestOrder] H locs → lv_has ls 2 [(0, .ref (aT 0))] → MX8_begins_j53 N T_family T_readPersons T_readKind T_readComes T_readFamily T_readGives T_readWarm T_readRumour yT0_53 = some rr → W p l e (rmO 0 0) s m ([.ref (aT 0)] : List Value).toArray below meth c H locs 0 0 (MQ below (qV G [wMod cI cZ aT rr.1 rr.2.1 rr.2.2.1 rr.2.2.2.1 rr.2.2.2.2.1 rr.2.2.2.2.2.1 rr.2.2.2.2.2.2.1 rr.2.2.2.2.2.2.2.1 rr.2.2.2.2.2.2.2.2 T_seenOf T_seenBehind T_seenHas T_text T_texted T_place T_number T_readPersons T_readKind T_readComes T_readFamily T_readGives T_readWarm T_readRumour T_toCome T_order T_bestOrder] A) ([.ref (aT 0)] : List Value).toArray s 0 0 A) (F0 m 53 ls []) := by
    intro yT0_53 H locs ls hW hl hM
    unfold MX8_begins_j53 at hM
    refine lv_iconst (v := (0 : Int32)) hx hb dX8_begins_53 (by decide) ?_
    refine lv_istore_n (lv' := [(1, .int (0 : Int32)), (0, .ref (aT 0))]) hx hb dX8_begins_54 rfl hl (by decide) rfl (fun ls hl => ?_)
    have j133 : ∀ (yT0_133 : (Nat → Int32)) (yT4_133 : (Nat → Int32)) (H : Heap) (locs : List Loc) (ls : Array Slot), Wd G A s [wMod cI cZ aT yT0_133 T_undoes T_kept T_readPersons yT4_133 T_readGives T_readWarm T_readRumour T_seen T_seenOf T_seenBehind T_seenHas T_text T_texted T_place T_number T_readPersons T_readKind T_readComes T_readFamily T_readGives T_readWarm T_readRumour T_toCome T_order T_bestOrder] H locs → lv_has ls 2 [(0, .ref (aT 0))] → MX8_begins_j133 T_readPersons T_readGives T_readWarm T_readRumour yT0_133 yT4_133 = some rr → W p l e (rmO 0 0) s m ([.ref (aT 0)] : List Value).toArray below meth c H locs 0 0 (MQ below (qV G [wMod cI cZ aT rr.1 rr.2.1 rr.2.2.1 rr.2.2.2.1 rr.2.2.2.2.1 rr.2.2.2.2.2.1 rr.2.2.2.2.2.2.1 rr.2.2.2.2.2.2.2.1 rr.2.2.2.2.2.2.2.2 T_seenOf T_seenBehind T_seenHas T_text T_texted T_place T_number T_readPersons T_readKind T_readComes T_readFamily T_readGives T_readWarm T_readRumour T_toCome T_order T_bestOrder] A) ([.ref (aT 0)] : List Value).toArray s 0 0 A) (F0 m 133 ls []) := by
      intro yT0_133 yT4_133 H locs ls hW hl hM
      unfold MX8_begins_j133 at hM
      refine lv_aload_n hx hb dX8_begins_133 rfl (lv_at hl 0 rfl) ?_
      refine lv_iconst (v := (0 : Int32)) hx hb dX8_begins_134 (by decide) ?_
      refine g_put X hW 0 rfl rfl inX8 tyX8 tyX8_ok nmX8 1 (by decide) q_818 rfl rfl (Nat.le_of_ble_eq_true rfl) [wMod cI cZ aT yT0_133 (0 : Int32) T_kept T_readPersons yT4_133 T_readGives T_readWarm T_readRumour T_seen T_seenOf T_seenBehind T_seenHas T_text T_texted T_place T_number T_readPersons T_readKind T_readComes T_readFamily T_readGives T_readWarm T_readRumour T_toCome T_order T_bestOrder] rfl dX8_begins_135 (fun H locs hW => ?_)
      refine lv_aload_n hx hb dX8_begins_138 rfl (lv_at hl 0 rfl) ?_
      refine lv_iconst (v := (0 : Int32)) hx hb dX8_begins_139 (by decide) ?_
      refine g_put X hW 0 rfl rfl inX8 tyX8 tyX8_ok nmX8 2 (by decide) q_819 rfl rfl (Nat.le_of_ble_eq_true rfl) [wMod cI cZ aT yT0_133 (0 : Int32) (0 : Int32) T_readPersons yT4_133 T_readGives T_readWarm T_readRumour T_seen T_seenOf T_seenBehind T_seenHas T_text T_texted T_place T_number T_readPersons T_readKind T_readComes T_readFamily T_readGives T_readWarm T_readRumour T_toCome T_order T_bestOrder] rfl dX8_begins_140 (fun H locs hW => ?_)
      refine lv_aload_n hx hb dX8_begins_143 rfl (lv_at hl 0 rfl) ?_
      refine lv_iconst (v := (0 : Int32)) hx hb dX8_begins_144 (by decide) ?_
      refine g_put X hW 0 rfl rfl inX8 tyX8 tyX8_ok nmX8 8 (by decide) q_825 rfl rfl (Nat.le_of_ble_eq_true rfl) [wMod cI cZ aT yT0_133 (0 : Int32) (0 : Int32) T_readPersons yT4_133 T_readGives T_readWarm T_readRumour (0 : Int32) T_seenOf T_seenBehind T_seenHas T_text T_texted T_place T_number T_readPersons T_readKind T_readComes T_readFamily T_readGives T_readWarm T_readRumour T_toCome T_order T_bestOrder] rfl dX8_begins_145 (fun H locs hW => ?_)
      obtain rfl := Option.some.inj hM
      exact g_retv X hW dX8_begins_148
    have lp55 : ∀ (n55 : Nat) (x1_55 : Int32) (yT0_55 : (Nat → Int32)) (yT4_55 : (Nat → Int32)) (H : Heap) (locs : List Loc) (ls : Array Slot), Wd G A s [wMod cI cZ aT yT0_55 T_undoes T_kept T_readPersons yT4_55 T_readGives T_readWarm T_readRumour T_seen T_seenOf T_seenBehind T_seenHas T_text T_texted T_place T_number T_readPersons T_readKind T_readComes T_readFamily T_readGives T_readWarm T_readRumour T_toCome T_order T_bestOrder] H locs → lv_has ls 2 [(0, .ref (aT 0)), (1, .int x1_55)] → MX8_begins_l55 T_readPersons T_readKind T_readComes T_readFamily T_readGives T_readWarm T_readRumour n55 x1_55 yT0_55 yT4_55 = some rr → W p l e (rmO 0 0) s m ([.ref (aT 0)] : List Value).toArray below meth c H locs 0 0 (MQ below (qV G [wMod cI cZ aT rr.1 rr.2.1 rr.2.2.1 rr.2.2.2.1 rr.2.2.2.2.1 rr.2.2.2.2.2.1 rr.2.2.2.2.2.2.1 rr.2.2.2.2.2.2.2.1 rr.2.2.2.2.2.2.2.2 T_seenOf T_seenBehind T_seenHas T_text T_texted T_place T_number T_readPersons T_readKind T_readComes T_readFamily T_readGives T_readWarm T_readRumour T_toCome T_order T_bestOrder] A) ([.ref (aT 0)] : List Value).toArray s 0 0 A) (F0 m 55 ls []) := by
      intro n55
      induction n55 with
      | zero =>
        intro x1_55 yT0_55 yT4_55 H locs ls hW hl hM
        rw [MX8_begins_l55] at hM
        cases hM
      | succ n55 ih55 =>
        intro x1_55 yT0_55 yT4_55 H locs ls hW hl hM
        rw [MX8_begins_l55] at hM
        refine lv_iload_n hx hb dX8_begins_55 rfl (lv_at hl 1 rfl) ?_
        refine lv_aload_n hx hb dX8_begins_56 rfl (lv_at hl 0 rfl) ?_
        refine g_get X hW 0 rfl rfl inX8 3 (by decide) q_820 rfl dX8_begins_57 ?_
        refine lv_icmp_ge (tgt := 133) hx hb dX8_begins_60 (by decide) (fun hc => ?_) (fun hc => ?_)
        · have hM := (if_pos hc).symm.trans hM
          exact j133 yT0_55 yT4_55 _ _ _ hW (lv_sub hl [0] rfl) hM
        · have hM := (if_neg hc).symm.trans hM
          refine lv_aload_n hx hb dX8_begins_63 rfl (lv_at hl 0 rfl) ?_
          refine g_get X hW 0 rfl rfl inX8 4 (by decide) q_821 rfl dX8_begins_64 ?_
          refine lv_iload_n hx hb dX8_begins_67 rfl (lv_at hl 1 rfl) ?_
          refine lv_aload_n hx hb dX8_begins_68 rfl (lv_at hl 0 rfl) ?_
          refine g_get X hW 0 rfl rfl inX8 19 (by decide) q_836 rfl dX8_begins_69 ?_
          refine lv_iload_n hx hb dX8_begins_72 rfl (lv_at hl 1 rfl) ?_
          obtain ⟨hi73, hM⟩ := MG_some hM
          refine g_ald X hW 9 rfl hi73 dX8_begins_73 ?_
          obtain ⟨hi74, hM⟩ := MG_some hM
          refine g_ast X hW 2 rfl hi74 [wMod cI cZ aT yT0_55 T_undoes T_kept T_readPersons (upd yT4_55 x1_55.toNatClampNeg (T_readFamily x1_55.toNatClampNeg)) T_readGives T_readWarm T_readRumour T_seen T_seenOf T_seenBehind T_seenHas T_text T_texted T_place T_number T_readPersons T_readKind T_readComes T_readFamily T_readGives T_readWarm T_readRumour T_toCome T_order T_bestOrder] rfl dX8_begins_74 (fun H locs hW => ?_)
          refine lv_aload_n hx hb dX8_begins_75 rfl (lv_at hl 0 rfl) ?_
          refine g_get X hW 0 rfl rfl inX8 0 (by decide) q_817 rfl dX8_begins_76 ?_
          refine lv_bipush (v := (48 : Int32)) hx hb dX8_begins_79 (by decide) ?_
          refine lv_iload_n hx hb dX8_begins_81 rfl (lv_at hl 1 rfl) ?_
          refine lv_iadd hx hb dX8_begins_82 ?_
          refine lv_aload_n hx hb dX8_begins_83 rfl (lv_at hl 0 rfl) ?_
          refine g_get X hW 0 rfl rfl inX8 18 (by decide) q_835 rfl dX8_begins_84 ?_
          refine lv_iload_n hx hb dX8_begins_87 rfl (lv_at hl 1 rfl) ?_
          obtain ⟨hi88, hM⟩ := MG_some hM
          refine g_ald X hW 8 rfl hi88 dX8_begins_88 ?_
          obtain ⟨hi89, hM⟩ := MG_some hM
          refine g_ast X hW 1 rfl hi89 [wMod cI cZ aT (upd yT0_55 ((48 : Int32) + x1_55).toNatClampNeg (T_readComes x1_55.toNatClampNeg)) T_undoes T_kept T_readPersons (upd yT4_55 x1_55.toNatClampNeg (T_readFamily x1_55.toNatClampNeg)) T_readGives T_readWarm T_readRumour T_seen T_seenOf T_seenBehind T_seenHas T_text T_texted T_place T_number T_readPersons T_readKind T_readComes T_readFamily T_readGives T_readWarm T_readRumour T_toCome T_order T_bestOrder] rfl dX8_begins_89 (fun H locs hW => ?_)
          refine lv_aload_n hx hb dX8_begins_90 rfl (lv_at hl 0 rfl) ?_
          refine g_get X hW 0 rfl rfl inX8 0 (by decide) q_817 rfl dX8_begins_91 ?_
          refine lv_bipush (v := (57 : Int32)) hx hb dX8_begins_94 (by decide) ?_
          refine lv_iload_n hx hb dX8_begins_96 rfl (lv_at hl 1 rfl) ?_
          refine lv_iadd hx hb dX8_begins_97 ?_
          refine lv_aload_n hx hb dX8_begins_98 rfl (lv_at hl 0 rfl) ?_
          refine g_get X hW 0 rfl rfl inX8 17 (by decide) q_834 rfl dX8_begins_99 ?_
          refine lv_iload_n hx hb dX8_begins_102 rfl (lv_at hl 1 rfl) ?_
          obtain ⟨hi103, hM⟩ := MG_some hM
          refine g_ald X hW 7 rfl hi103 dX8_begins_103 ?_
          obtain ⟨hi104, hM⟩ := MG_some hM
          refine g_ast X hW 1 rfl hi104 [wMod cI cZ aT (upd (upd yT0_55 ((48 : Int32) + x1_55).toNatClampNeg (T_readComes x1_55.toNatClampNeg)) ((57 : Int32) + x1_55).toNatClampNeg (T_readKind x1_55.toNatClampNeg)) T_undoes T_kept T_readPersons (upd yT4_55 x1_55.toNatClampNeg (T_readFamily x1_55.toNatClampNeg)) T_readGives T_readWarm T_readRumour T_seen T_seenOf T_seenBehind T_seenHas T_text T_texted T_place T_number T_readPersons T_readKind T_readComes T_readFamily T_readGives T_readWarm T_readRumour T_toCome T_order T_bestOrder] rfl dX8_begins_104 (fun H locs hW => ?_)
          refine lv_aload_n hx hb dX8_begins_105 rfl (lv_at hl 0 rfl) ?_
          refine g_get X hW 0 rfl rfl inX8 0 (by decide) q_817 rfl dX8_begins_106 ?_
          refine lv_bipush (v := (30 : Int32)) hx hb dX8_begins_109 (by decide) ?_
          refine lv_iload_n hx hb dX8_begins_111 rfl (lv_at hl 1 rfl) ?_
          refine lv_iadd hx hb dX8_begins_112 ?_
          refine lv_bipush (v := (-4 : Int32)) hx hb dX8_begins_113 (by decide) ?_
          obtain ⟨hi115, hM⟩ := MG_some hM
          refine g_ast X hW 1 rfl hi115 [wMod cI cZ aT (upd (upd (upd yT0_55 ((48 : Int32) + x1_55).toNatClampNeg (T_readComes x1_55.toNatClampNeg)) ((57 : Int32) + x1_55).toNatClampNeg (T_readKind x1_55.toNatClampNeg)) ((30 : Int32) + x1_55).toNatClampNeg (-4 : Int32)) T_undoes T_kept T_readPersons (upd yT4_55 x1_55.toNatClampNeg (T_readFamily x1_55.toNatClampNeg)) T_readGives T_readWarm T_readRumour T_seen T_seenOf T_seenBehind T_seenHas T_text T_texted T_place T_number T_readPersons T_readKind T_readComes T_readFamily T_readGives T_readWarm T_readRumour T_toCome T_order T_bestOrder] rfl dX8_begins_115 (fun H locs hW => ?_)
          refine lv_aload_n hx hb dX8_begins_116 rfl (lv_at hl 0 rfl) ?_
          refine g_get X hW 0 rfl rfl inX8 0 (by decide) q_817 rfl dX8_begins_117 ?_
          refine lv_bipush (v := (39 : Int32)) hx hb dX8_begins_120 (by decide) ?_
          refine lv_iload_n hx hb dX8_begins_122 rfl (lv_at hl 1 rfl) ?_
          refine lv_iadd hx hb dX8_begins_123 ?_
          refine lv_bipush (v := (-4 : Int32)) hx hb dX8_begins_124 (by decide) ?_
          obtain ⟨hi126, hM⟩ := MG_some hM
          refine g_ast X hW 1 rfl hi126 [wMod cI cZ aT (upd (upd (upd (upd yT0_55 ((48 : Int32) + x1_55).toNatClampNeg (T_readComes x1_55.toNatClampNeg)) ((57 : Int32) + x1_55).toNatClampNeg (T_readKind x1_55.toNatClampNeg)) ((30 : Int32) + x1_55).toNatClampNeg (-4 : Int32)) ((39 : Int32) + x1_55).toNatClampNeg (-4 : Int32)) T_undoes T_kept T_readPersons (upd yT4_55 x1_55.toNatClampNeg (T_readFamily x1_55.toNatClampNeg)) T_readGives T_readWarm T_readRumour T_seen T_seenOf T_seenBehind T_seenHas T_text T_texted T_place T_number T_readPersons T_readKind T_readComes T_readFamily T_readGives T_readWarm T_readRumour T_toCome T_order T_bestOrder] rfl dX8_begins_126 (fun H locs hW => ?_)
          refine lv_iinc (v := x1_55 + (1 : Int32)) (lv' := [(1, .int (x1_55 + (1 : Int32))), (0, .ref (aT 0))]) hx hb dX8_begins_127 hl (k := 1) rfl rfl (by decide) rfl (fun ls hl => ?_)
          refine lv_goto (tgt := 55) hx hb dX8_begins_130 (by decide) ?_
          exact ih55 (x1_55 + (1 : Int32)) (upd (upd (upd (upd yT0_55 ((48 : Int32) + x1_55).toNatClampNeg (T_readComes x1_55.toNatClampNeg)) ((57 : Int32) + x1_55).toNatClampNeg (T_readKind x1_55.toNatClampNeg)) ((30 : Int32) + x1_55).toNatClampNeg (-4 : Int32)) ((39 : Int32) + x1_55).toNatClampNeg (-4 : Int32)) (upd yT4_55 x1_55.toNatClampNeg (T_readFamily x1_55.toNatClampNeg)) _ _ _ hW (lv_sub hl [1, 0] rfl) hM
    exact lp55 N (0 : Int32) yT0_53 T_family _ _ _ hW (lv_sub hl [1, 0] rfl) hM
  have lp34 : ∀ (n34 : Nat) (x1_34 : Int32) (yT0_34 : (Nat → Int32)) (H : Heap) (locs : List Loc) (ls : Array Slot), Wd G A s [wMod cI cZ aT yT0_34 T_undoes T_kept T_readPersons T_family T_readGives T_readWarm T_readRumour T_seen T_seenOf T_seenBehind T_seenHas T_text T_texted T_place T_number T_readPersons T_readKind T_readComes T_readFamily T_readGives T_readWarm T_readRumour T_toCome T_order T_bestOrder] H locs → lv_has ls 2 [(0, .ref (aT 0)), (1, .int x1_34)] → MX8_begins_l34 N T_family T_readPersons T_readKind T_readComes T_readFamily T_readGives T_readWarm T_readRumour n34 x1_34 yT0_34 = some rr → W p l e (rmO 0 0) s m ([.ref (aT 0)] : List Value).toArray below meth c H locs 0 0 (MQ below (qV G [wMod cI cZ aT rr.1 rr.2.1 rr.2.2.1 rr.2.2.2.1 rr.2.2.2.2.1 rr.2.2.2.2.2.1 rr.2.2.2.2.2.2.1 rr.2.2.2.2.2.2.2.1 rr.2.2.2.2.2.2.2.2 T_seenOf T_seenBehind T_seenHas T_text T_texted T_place T_number T_readPersons T_readKind T_readComes T_readFamily T_readGives T_readWarm T_readRumour T_toCome T_order T_bestOrder] A) ([.ref (aT 0)] : List Value).toArray s 0 0 A) (F0 m 34 ls []) := by
    intro n34
    induction n34 with
    | zero =>
      intro x1_34 yT0_34 H locs ls hW hl hM
      rw [MX8_begins_l34] at hM
      cases hM
    | succ n34 ih34 =>
      intro x1_34 yT0_34 H locs ls hW hl hM
      rw [MX8_begins_l34] at hM
      refine lv_iload_n hx hb dX8_begins_34 rfl (lv_at hl 1 rfl) ?_
      refine lv_bipush (v := (66 : Int32)) hx hb dX8_begins_35 (by decide) ?_
      refine lv_icmp_ge (tgt := 53) hx hb dX8_begins_37 (by decide) (fun hc => ?_) (fun hc => ?_)
      · have hM := (if_pos hc).symm.trans hM
        exact j53 yT0_34 _ _ _ hW (lv_sub hl [0] rfl) hM
      · have hM := (if_neg hc).symm.trans hM
        refine lv_aload_n hx hb dX8_begins_40 rfl (lv_at hl 0 rfl) ?_
        refine g_get X hW 0 rfl rfl inX8 0 (by decide) q_817 rfl dX8_begins_41 ?_
        refine lv_iload_n hx hb dX8_begins_44 rfl (lv_at hl 1 rfl) ?_
        refine lv_iconst (v := (0 : Int32)) hx hb dX8_begins_45 (by decide) ?_
        obtain ⟨hi46, hM⟩ := MG_some hM
        refine g_ast X hW 1 rfl hi46 [wMod cI cZ aT (upd yT0_34 x1_34.toNatClampNeg (0 : Int32)) T_undoes T_kept T_readPersons T_family T_readGives T_readWarm T_readRumour T_seen T_seenOf T_seenBehind T_seenHas T_text T_texted T_place T_number T_readPersons T_readKind T_readComes T_readFamily T_readGives T_readWarm T_readRumour T_toCome T_order T_bestOrder] rfl dX8_begins_46 (fun H locs hW => ?_)
        refine lv_iinc (v := x1_34 + (1 : Int32)) (lv' := [(1, .int (x1_34 + (1 : Int32))), (0, .ref (aT 0))]) hx hb dX8_begins_47 hl (k := 1) rfl rfl (by decide) rfl (fun ls hl => ?_)
        refine lv_goto (tgt := 34) hx hb dX8_begins_50 (by decide) ?_
        exact ih34 (x1_34 + (1 : Int32)) (upd yT0_34 x1_34.toNatClampNeg (0 : Int32)) _ _ _ hW (lv_sub hl [1, 0] rfl) hM
  exact lp34 N (0 : Int32) T_w _ _ _ hW (lv_sub hl [1, 0] rfl) hM

def MX8_write (N : Nat) (T_text : (Nat → Int32)) (T_texted : Int32) (p1 : Int32) : Option (Int32 × (Nat → Int32) × Int32) :=
  (MX8_in N p1.toInt64 (32 : Int64) (126 : Int64)).bind (fun u8 => if u8 = 0 then some ((-1 : Int32), T_text, T_texted) else (if T_texted = (200 : Int32) then some ((-3 : Int32), T_text, T_texted) else MG T_texted 200 (some ((T_texted + (1 : Int32)), (upd T_text T_texted.toNatClampNeg p1), (T_texted + (1 : Int32))))))
set_option maxHeartbeats 4000000 in
set_option maxRecDepth 100000 in
theorem c_X8_write (l : Launch) (G : va_G) (cI cZ cL : ClassId) (N : Nat) (aT : Nat → Nat) (T_w : (Nat → Int32)) (T_undoes : Int32) (T_kept : Int32) (T_persons : Int32) (T_family : (Nat → Int32)) (T_gives : Int32) (T_warm : Int32) (T_rumour : Int32) (T_seen : Int32) (T_seenOf : (Nat → Int32)) (T_seenBehind : (Nat → Int32)) (T_seenHas : (Nat → Int32)) (T_text : (Nat → Int32)) (T_texted : Int32) (T_place : Int32) (T_number : Int32) (T_readPersons : Int32) (T_readKind : (Nat → Int32)) (T_readComes : (Nat → Int32)) (T_readFamily : (Nat → Int32)) (T_readGives : Int32) (T_readWarm : Int32) (T_readRumour : Int32) (T_toCome : (Nat → Int32)) (T_order : (Nat → Int32)) (T_bestOrder : (Nat → Int32)) (p1 : Int32) (rr : Int32 × (Nat → Int32) × Int32) (hM : MX8_write N T_text T_texted p1 = some rr) : CtI l yX8_write cX8_write 2 .int 1 25 G cI cZ cL [.ref (aT 0), .int p1] [wMod cI cZ aT T_w T_undoes T_kept T_persons T_family T_gives T_warm T_rumour T_seen T_seenOf T_seenBehind T_seenHas T_text T_texted T_place T_number T_readPersons T_readKind T_readComes T_readFamily T_readGives T_readWarm T_readRumour T_toCome T_order T_bestOrder] rr.1 [wMod cI cZ aT T_w T_undoes T_kept T_persons T_family T_gives T_warm T_rumour T_seen T_seenOf T_seenBehind T_seenHas rr.2.1 rr.2.2 T_place T_number T_readPersons T_readKind T_readComes T_readFamily T_readGives T_readWarm T_readRumour T_toCome T_order T_bestOrder] := by
  refine ct_body (fun A => qI G rr.1 [wMod cI cZ aT T_w T_undoes T_kept T_persons T_family T_gives T_warm T_rumour T_seen T_seenOf T_seenBehind T_seenHas rr.2.1 rr.2.2 T_place T_number T_readPersons T_readKind T_readComes T_readFamily T_readGives T_readWarm T_readRumour T_toCome T_order T_bestOrder] A) (by decide) (Nat.le_of_ble_eq_true rfl) (fun p e s m below meth c A ls X hW hl => ?_)
  have hx := X.1
  have hb := X.2.1
  have hts := X.2.2.2.2.2.1
  have hown := X.2.2.2.2.2.2.1
  have hl : lv_has ls 2 [(0, .ref (aT 0)), (1, .int p1)] := hl
  unfold MX8_write at hM
  refine lv_iload_n hx hb dX8_write_0 rfl (lv_at hl 1 rfl) ?_
  refine lv_i2l hx hb dX8_write_1 rfl ?_
  refine lv_ldc2 (v := (32 : Int64)) hx hb hown (hts _ q_900) dX8_write_2 ?_
  refine lv_ldc2 (v := (126 : Int64)) hx hb hown (hts _ q_901) dX8_write_5 ?_
  obtain ⟨u8, hu8, hM⟩ := bind_some hM
  refine g_callSi (rest := []) X hl.1 hW (c_X8_in l G cI cZ cL N p1.toInt64 (32 : Int64) (126 : Int64) u8 hu8) q_904 q_902 q_903 q_67 hd_X8_in rfl ⟨Nat.le_of_ble_eq_true rfl, Nat.le_of_ble_eq_true rfl⟩ ⟨Nat.zero_le _, Nat.zero_le _⟩ rfl (Nat.le_of_ble_eq_true rfl) dX8_write_8 (fun H locs hW => ?_)
  refine lv_if_ne (tgt := 16) hx hb dX8_write_11 (by decide) (fun hc => ?_) (fun hc => ?_)
  · have hM := (if_neg hc).symm.trans hM
    refine lv_aload_n hx hb dX8_write_16 rfl (lv_at hl 0 rfl) ?_
    refine g_get X hW 0 rfl rfl inX8 13 (by decide) q_830 rfl dX8_write_17 ?_
    refine lv_sipush (v := (200 : Int32)) hx hb dX8_write_20 (by decide) ?_
    refine lv_icmp_ne (tgt := 29) hx hb dX8_write_23 (by decide) (fun hc => ?_) (fun hc => ?_)
    · have hM := (if_neg hc).symm.trans hM
      refine lv_aload_n hx hb dX8_write_29 rfl (lv_at hl 0 rfl) ?_
      refine g_get X hW 0 rfl rfl inX8 12 (by decide) q_829 rfl dX8_write_30 ?_
      refine lv_aload_n hx hb dX8_write_33 rfl (lv_at hl 0 rfl) ?_
      refine g_get X hW 0 rfl rfl inX8 13 (by decide) q_830 rfl dX8_write_34 ?_
      refine lv_iload_n hx hb dX8_write_37 rfl (lv_at hl 1 rfl) ?_
      obtain ⟨hi38, hM⟩ := MG_some hM
      refine g_ast X hW 6 rfl hi38 [wMod cI cZ aT T_w T_undoes T_kept T_persons T_family T_gives T_warm T_rumour T_seen T_seenOf T_seenBehind T_seenHas (upd T_text T_texted.toNatClampNeg p1) T_texted T_place T_number T_readPersons T_readKind T_readComes T_readFamily T_readGives T_readWarm T_readRumour T_toCome T_order T_bestOrder] rfl dX8_write_38 (fun H locs hW => ?_)
      refine lv_aload_n hx hb dX8_write_39 rfl (lv_at hl 0 rfl) ?_
      refine lv_dup hx hb dX8_write_40 rfl ?_
      refine g_get X hW 0 rfl rfl inX8 13 (by decide) q_830 rfl dX8_write_41 ?_
      refine lv_iconst (v := (1 : Int32)) hx hb dX8_write_44 (by decide) ?_
      refine lv_iadd hx hb dX8_write_45 ?_
      refine g_put X hW 0 rfl rfl inX8 tyX8 tyX8_ok nmX8 13 (by decide) q_830 rfl rfl (Nat.le_of_ble_eq_true rfl) [wMod cI cZ aT T_w T_undoes T_kept T_persons T_family T_gives T_warm T_rumour T_seen T_seenOf T_seenBehind T_seenHas (upd T_text T_texted.toNatClampNeg p1) (T_texted + (1 : Int32)) T_place T_number T_readPersons T_readKind T_readComes T_readFamily T_readGives T_readWarm T_readRumour T_toCome T_order T_bestOrder] rfl dX8_write_46 (fun H locs hW => ?_)
      refine lv_aload_n hx hb dX8_write_49 rfl (lv_at hl 0 rfl) ?_
      refine g_get X hW 0 rfl rfl inX8 13 (by decide) q_830 rfl dX8_write_50 ?_
      obtain rfl := Option.some.inj hM
      exact g_reti X hW rfl rfl dX8_write_53
    · have hM := (if_pos hc).symm.trans hM
      refine lv_bipush (v := (-3 : Int32)) hx hb dX8_write_26 (by decide) ?_
      obtain rfl := Option.some.inj hM
      exact g_reti X hW rfl rfl dX8_write_28
  · have hM := (if_pos hc).symm.trans hM
    refine lv_iconst (v := (-1 : Int32)) hx hb dX8_write_14 (by decide) ?_
    obtain rfl := Option.some.inj hM
    exact g_reti X hW rfl rfl dX8_write_15

def MX8_wipe (N : Nat) (T_texted : Int32) : Option (Int32 × Int32) :=
  some (T_texted, (0 : Int32))
set_option maxHeartbeats 4000000 in
set_option maxRecDepth 100000 in
theorem c_X8_wipe (l : Launch) (G : va_G) (cI cZ cL : ClassId) (N : Nat) (aT : Nat → Nat) (T_w : (Nat → Int32)) (T_undoes : Int32) (T_kept : Int32) (T_persons : Int32) (T_family : (Nat → Int32)) (T_gives : Int32) (T_warm : Int32) (T_rumour : Int32) (T_seen : Int32) (T_seenOf : (Nat → Int32)) (T_seenBehind : (Nat → Int32)) (T_seenHas : (Nat → Int32)) (T_text : (Nat → Int32)) (T_texted : Int32) (T_place : Int32) (T_number : Int32) (T_readPersons : Int32) (T_readKind : (Nat → Int32)) (T_readComes : (Nat → Int32)) (T_readFamily : (Nat → Int32)) (T_readGives : Int32) (T_readWarm : Int32) (T_readRumour : Int32) (T_toCome : (Nat → Int32)) (T_order : (Nat → Int32)) (T_bestOrder : (Nat → Int32)) (rr : Int32 × Int32) (hM : MX8_wipe N T_texted = some rr) : CtI l yX8_wipe cX8_wipe 2 .int 0 0 G cI cZ cL [.ref (aT 0)] [wMod cI cZ aT T_w T_undoes T_kept T_persons T_family T_gives T_warm T_rumour T_seen T_seenOf T_seenBehind T_seenHas T_text T_texted T_place T_number T_readPersons T_readKind T_readComes T_readFamily T_readGives T_readWarm T_readRumour T_toCome T_order T_bestOrder] rr.1 [wMod cI cZ aT T_w T_undoes T_kept T_persons T_family T_gives T_warm T_rumour T_seen T_seenOf T_seenBehind T_seenHas T_text rr.2 T_place T_number T_readPersons T_readKind T_readComes T_readFamily T_readGives T_readWarm T_readRumour T_toCome T_order T_bestOrder] := by
  refine ct_body (fun A => qI G rr.1 [wMod cI cZ aT T_w T_undoes T_kept T_persons T_family T_gives T_warm T_rumour T_seen T_seenOf T_seenBehind T_seenHas T_text rr.2 T_place T_number T_readPersons T_readKind T_readComes T_readFamily T_readGives T_readWarm T_readRumour T_toCome T_order T_bestOrder] A) (by decide) (Nat.le_of_ble_eq_true rfl) (fun p e s m below meth c A ls X hW hl => ?_)
  have hx := X.1
  have hb := X.2.1
  have hts := X.2.2.2.2.2.1
  have hown := X.2.2.2.2.2.2.1
  have hl : lv_has ls 2 [(0, .ref (aT 0))] := hl
  unfold MX8_wipe at hM
  refine lv_aload_n hx hb dX8_wipe_0 rfl (lv_at hl 0 rfl) ?_
  refine g_get X hW 0 rfl rfl inX8 13 (by decide) q_830 rfl dX8_wipe_1 ?_
  refine lv_istore_n (lv' := [(1, .int T_texted), (0, .ref (aT 0))]) hx hb dX8_wipe_4 rfl hl (by decide) rfl (fun ls hl => ?_)
  refine lv_aload_n hx hb dX8_wipe_5 rfl (lv_at hl 1 rfl) ?_
  refine lv_iconst (v := (0 : Int32)) hx hb dX8_wipe_6 (by decide) ?_
  refine g_put X hW 0 rfl rfl inX8 tyX8 tyX8_ok nmX8 13 (by decide) q_830 rfl rfl (Nat.le_of_ble_eq_true rfl) [wMod cI cZ aT T_w T_undoes T_kept T_persons T_family T_gives T_warm T_rumour T_seen T_seenOf T_seenBehind T_seenHas T_text (0 : Int32) T_place T_number T_readPersons T_readKind T_readComes T_readFamily T_readGives T_readWarm T_readRumour T_toCome T_order T_bestOrder] rfl dX8_wipe_7 (fun H locs hW => ?_)
  refine lv_iload_n hx hb dX8_wipe_10 rfl (lv_at hl 0 rfl) ?_
  obtain rfl := Option.some.inj hM
  exact g_reti X hW rfl rfl dX8_wipe_11

def MX8_letterAt (N : Nat) (T_text : (Nat → Int32)) (T_texted : Int32) (p1 : Int32) : Option (Int32) :=
  if T_texted ≤ p1 then some ((-1 : Int32)) else MG p1 200 (some (T_text p1.toNatClampNeg))
set_option maxHeartbeats 4000000 in
set_option maxRecDepth 100000 in
theorem c_X8_letterAt (l : Launch) (G : va_G) (cI cZ cL : ClassId) (N : Nat) (aT : Nat → Nat) (T_w : (Nat → Int32)) (T_undoes : Int32) (T_kept : Int32) (T_persons : Int32) (T_family : (Nat → Int32)) (T_gives : Int32) (T_warm : Int32) (T_rumour : Int32) (T_seen : Int32) (T_seenOf : (Nat → Int32)) (T_seenBehind : (Nat → Int32)) (T_seenHas : (Nat → Int32)) (T_text : (Nat → Int32)) (T_texted : Int32) (T_place : Int32) (T_number : Int32) (T_readPersons : Int32) (T_readKind : (Nat → Int32)) (T_readComes : (Nat → Int32)) (T_readFamily : (Nat → Int32)) (T_readGives : Int32) (T_readWarm : Int32) (T_readRumour : Int32) (T_toCome : (Nat → Int32)) (T_order : (Nat → Int32)) (T_bestOrder : (Nat → Int32)) (p1 : Int32) (rr : Int32) (hM : MX8_letterAt N T_text T_texted p1 = some rr) : CtI l yX8_letterAt cX8_letterAt 2 .int 0 0 G cI cZ cL [.ref (aT 0), .int p1] [wMod cI cZ aT T_w T_undoes T_kept T_persons T_family T_gives T_warm T_rumour T_seen T_seenOf T_seenBehind T_seenHas T_text T_texted T_place T_number T_readPersons T_readKind T_readComes T_readFamily T_readGives T_readWarm T_readRumour T_toCome T_order T_bestOrder] rr [wMod cI cZ aT T_w T_undoes T_kept T_persons T_family T_gives T_warm T_rumour T_seen T_seenOf T_seenBehind T_seenHas T_text T_texted T_place T_number T_readPersons T_readKind T_readComes T_readFamily T_readGives T_readWarm T_readRumour T_toCome T_order T_bestOrder] := by
  refine ct_body (fun A => qI G rr [wMod cI cZ aT T_w T_undoes T_kept T_persons T_family T_gives T_warm T_rumour T_seen T_seenOf T_seenBehind T_seenHas T_text T_texted T_place T_number T_readPersons T_readKind T_readComes T_readFamily T_readGives T_readWarm T_readRumour T_toCome T_order T_bestOrder] A) (by decide) (Nat.le_of_ble_eq_true rfl) (fun p e s m below meth c A ls X hW hl => ?_)
  have hx := X.1
  have hb := X.2.1
  have hts := X.2.2.2.2.2.1
  have hown := X.2.2.2.2.2.2.1
  have hl : lv_has ls 2 [(0, .ref (aT 0)), (1, .int p1)] := hl
  unfold MX8_letterAt at hM
  refine lv_iload_n hx hb dX8_letterAt_0 rfl (lv_at hl 1 rfl) ?_
  refine lv_aload_n hx hb dX8_letterAt_1 rfl (lv_at hl 0 rfl) ?_
  refine g_get X hW 0 rfl rfl inX8 13 (by decide) q_830 rfl dX8_letterAt_2 ?_
  refine lv_icmp_ge (tgt := 17) hx hb dX8_letterAt_5 (by decide) (fun hc => ?_) (fun hc => ?_)
  · have hM := (if_pos hc).symm.trans hM
    refine lv_iconst (v := (-1 : Int32)) hx hb dX8_letterAt_17 (by decide) ?_
    obtain rfl := Option.some.inj hM
    exact g_reti X hW rfl rfl dX8_letterAt_18
  · have hM := (if_neg hc).symm.trans hM
    refine lv_aload_n hx hb dX8_letterAt_8 rfl (lv_at hl 0 rfl) ?_
    refine g_get X hW 0 rfl rfl inX8 12 (by decide) q_829 rfl dX8_letterAt_9 ?_
    refine lv_iload_n hx hb dX8_letterAt_12 rfl (lv_at hl 1 rfl) ?_
    obtain ⟨hi13, hM⟩ := MG_some hM
    refine g_ald X hW 6 rfl hi13 dX8_letterAt_13 ?_
    refine lv_goto (tgt := 18) hx hb dX8_letterAt_14 (by decide) ?_
    obtain rfl := Option.some.inj hM
    exact g_reti X hW rfl rfl dX8_letterAt_18

def MX8_takesNumber_j79 (N : Nat) (T_text : (Nat → Int32)) (T_texted : Int32) (T_place : Int32) (p1 : Int32) (p2 : Int32) (p3 : Int32) (yT14_79 : Int32) (yT15_79 : Int32) : Option (Int32 × Int32 × Int32) :=
  if yT14_79 = T_place then some ((0 : Int32), yT14_79, yT15_79) else ((MX8_in N yT15_79.toInt64 p1.toInt64 p2.toInt64).bind (fun u97 => if u97 = 0 then some ((0 : Int32), yT14_79, yT15_79) else ((MX8_letterAt N T_text T_texted yT14_79).bind (fun u108 => if u108 = p3 then some ((1 : Int32), (yT14_79 + (1 : Int32)), yT15_79) else some ((0 : Int32), yT14_79, yT15_79)))))
def MX8_takesNumber_l11 (N : Nat) (T_text : (Nat → Int32)) (T_texted : Int32) (T_place : Int32) (p1 : Int32) (p2 : Int32) (p3 : Int32) : Nat → Int32 → Int32 → Option (Int32 × Int32 × Int32)
  | 0, _, _ => none
  | n11 + 1, yT14_11, yT15_11 =>
    if (2 : Int32) ≤ (yT14_11 - T_place) then (MX8_takesNumber_j79 N T_text T_texted T_place p1 p2 p3 yT14_11 yT15_11) else ((MX8_letterAt N T_text T_texted yT14_11).bind (fun u27 => (MX8_in N u27.toInt64 (48 : Int64) (57 : Int64)).bind (fun u37 => if u37 = 0 then (MX8_takesNumber_j79 N T_text T_texted T_place p1 p2 p3 yT14_11 yT15_11) else ((MX8_letterAt N T_text T_texted yT14_11).bind (fun u56 => (MX8_takesNumber_l11 N T_text T_texted T_place p1 p2 p3 n11) (yT14_11 + (1 : Int32)) ((((10 : Int32) * yT15_11) + u56) - (48 : Int32)))))))
def MX8_takesNumber (N : Nat) (T_text : (Nat → Int32)) (T_texted : Int32) (T_place : Int32) (p1 : Int32) (p2 : Int32) (p3 : Int32) : Option (Int32 × Int32 × Int32) :=
  MX8_takesNumber_l11 N T_text T_texted T_place p1 p2 p3 N T_place (0 : Int32)
set_option maxHeartbeats 4000000 in
set_option maxRecDepth 100000 in
theorem c_X8_takesNumber (l : Launch) (G : va_G) (cI cZ cL : ClassId) (N : Nat) (aT : Nat → Nat) (T_w : (Nat → Int32)) (T_undoes : Int32) (T_kept : Int32) (T_persons : Int32) (T_family : (Nat → Int32)) (T_gives : Int32) (T_warm : Int32) (T_rumour : Int32) (T_seen : Int32) (T_seenOf : (Nat → Int32)) (T_seenBehind : (Nat → Int32)) (T_seenHas : (Nat → Int32)) (T_text : (Nat → Int32)) (T_texted : Int32) (T_place : Int32) (T_number : Int32) (T_readPersons : Int32) (T_readKind : (Nat → Int32)) (T_readComes : (Nat → Int32)) (T_readFamily : (Nat → Int32)) (T_readGives : Int32) (T_readWarm : Int32) (T_readRumour : Int32) (T_toCome : (Nat → Int32)) (T_order : (Nat → Int32)) (T_bestOrder : (Nat → Int32)) (p1 : Int32) (p2 : Int32) (p3 : Int32) (rr : Int32 × Int32 × Int32) (hM : MX8_takesNumber N T_text T_texted T_place p1 p2 p3 = some rr) : CtI l yX8_takesNumber cX8_takesNumber 5 .boolean 1 25 G cI cZ cL [.ref (aT 0), .int p1, .int p2, .int p3] [wMod cI cZ aT T_w T_undoes T_kept T_persons T_family T_gives T_warm T_rumour T_seen T_seenOf T_seenBehind T_seenHas T_text T_texted T_place T_number T_readPersons T_readKind T_readComes T_readFamily T_readGives T_readWarm T_readRumour T_toCome T_order T_bestOrder] rr.1 [wMod cI cZ aT T_w T_undoes T_kept T_persons T_family T_gives T_warm T_rumour T_seen T_seenOf T_seenBehind T_seenHas T_text T_texted rr.2.1 rr.2.2 T_readPersons T_readKind T_readComes T_readFamily T_readGives T_readWarm T_readRumour T_toCome T_order T_bestOrder] := by
  refine ct_body (fun A => qI G rr.1 [wMod cI cZ aT T_w T_undoes T_kept T_persons T_family T_gives T_warm T_rumour T_seen T_seenOf T_seenBehind T_seenHas T_text T_texted rr.2.1 rr.2.2 T_readPersons T_readKind T_readComes T_readFamily T_readGives T_readWarm T_readRumour T_toCome T_order T_bestOrder] A) (by decide) (Nat.le_of_ble_eq_true rfl) (fun p e s m below meth c A ls X hW hl => ?_)
  have hx := X.1
  have hb := X.2.1
  have hts := X.2.2.2.2.2.1
  have hown := X.2.2.2.2.2.2.1
  have hl : lv_has ls 5 [(0, .ref (aT 0)), (1, .int p1), (2, .int p2), (3, .int p3)] := hl
  unfold MX8_takesNumber at hM
  refine lv_aload_n hx hb dX8_takesNumber_0 rfl (lv_at hl 0 rfl) ?_
  refine g_get X hW 0 rfl rfl inX8 14 (by decide) q_831 rfl dX8_takesNumber_1 ?_
  refine lv_istore (lv' := [(4, .int T_place), (0, .ref (aT 0)), (1, .int p1), (2, .int p2), (3, .int p3)]) hx hb dX8_takesNumber_4 hl (by decide) rfl (fun ls hl => ?_)
  refine lv_aload_n hx hb dX8_takesNumber_6 rfl (lv_at hl 1 rfl) ?_
  refine lv_iconst (v := (0 : Int32)) hx hb dX8_takesNumber_7 (by decide) ?_
  refine g_put X hW 0 rfl rfl inX8 tyX8 tyX8_ok nmX8 15 (by decide) q_832 rfl rfl (Nat.le_of_ble_eq_true rfl) [wMod cI cZ aT T_w T_undoes T_kept T_persons T_family T_gives T_warm T_rumour T_seen T_seenOf T_seenBehind T_seenHas T_text T_texted T_place (0 : Int32) T_readPersons T_readKind T_readComes T_readFamily T_readGives T_readWarm T_readRumour T_toCome T_order T_bestOrder] rfl dX8_takesNumber_8 (fun H locs hW => ?_)
  have j79 : ∀ (yT14_79 : Int32) (yT15_79 : Int32) (H : Heap) (locs : List Loc) (ls : Array Slot), Wd G A s [wMod cI cZ aT T_w T_undoes T_kept T_persons T_family T_gives T_warm T_rumour T_seen T_seenOf T_seenBehind T_seenHas T_text T_texted yT14_79 yT15_79 T_readPersons T_readKind T_readComes T_readFamily T_readGives T_readWarm T_readRumour T_toCome T_order T_bestOrder] H locs → lv_has ls 5 [(0, .ref (aT 0)), (1, .int p1), (2, .int p2), (3, .int p3), (4, .int T_place)] → MX8_takesNumber_j79 N T_text T_texted T_place p1 p2 p3 yT14_79 yT15_79 = some rr → W p l e (rmO 1 25) s m ([.ref (aT 0), .int p1, .int p2, .int p3] : List Value).toArray below meth c H locs 0 0 (MQ below (qI G rr.1 [wMod cI cZ aT T_w T_undoes T_kept T_persons T_family T_gives T_warm T_rumour T_seen T_seenOf T_seenBehind T_seenHas T_text T_texted rr.2.1 rr.2.2 T_readPersons T_readKind T_readComes T_readFamily T_readGives T_readWarm T_readRumour T_toCome T_order T_bestOrder] A) ([.ref (aT 0), .int p1, .int p2, .int p3] : List Value).toArray s 0 0 A) (F0 m 79 ls []) := by
    intro yT14_79 yT15_79 H locs ls hW hl hM
    unfold MX8_takesNumber_j79 at hM
    refine lv_aload_n hx hb dX8_takesNumber_79 rfl (lv_at hl 0 rfl) ?_
    refine g_get X hW 0 rfl rfl inX8 14 (by decide) q_831 rfl dX8_takesNumber_80 ?_
    refine lv_iload hx hb dX8_takesNumber_83 (lv_at hl 4 rfl) ?_
    refine lv_icmp_eq (tgt := 115) hx hb dX8_takesNumber_85 (by decide) (fun hc => ?_) (fun hc => ?_)
    · have hM := (if_pos hc).symm.trans hM
      refine lv_iconst (v := (0 : Int32)) hx hb dX8_takesNumber_115 (by decide) ?_
      obtain rfl := Option.some.inj hM
      exact g_reti X hW rfl rfl dX8_takesNumber_116
    · have hM := (if_neg hc).symm.trans hM
      refine lv_aload_n hx hb dX8_takesNumber_88 rfl (lv_at hl 0 rfl) ?_
      refine g_get X hW 0 rfl rfl inX8 15 (by decide) q_832 rfl dX8_takesNumber_89 ?_
      refine lv_i2l hx hb dX8_takesNumber_92 rfl ?_
      refine lv_iload_n hx hb dX8_takesNumber_93 rfl (lv_at hl 1 rfl) ?_
      refine lv_i2l hx hb dX8_takesNumber_94 rfl ?_
      refine lv_iload_n hx hb dX8_takesNumber_95 rfl (lv_at hl 2 rfl) ?_
      refine lv_i2l hx hb dX8_takesNumber_96 rfl ?_
      obtain ⟨u97, hu97, hM⟩ := bind_some hM
      refine g_callSi (rest := []) X hl.1 hW (c_X8_in l G cI cZ cL N yT15_79.toInt64 p1.toInt64 p2.toInt64 u97 hu97) q_904 q_902 q_903 q_67 hd_X8_in rfl ⟨Nat.le_of_ble_eq_true rfl, Nat.le_of_ble_eq_true rfl⟩ ⟨Nat.zero_le _, Nat.zero_le _⟩ rfl (Nat.le_of_ble_eq_true rfl) dX8_takesNumber_97 (fun H locs hW => ?_)
      refine lv_if_eq (tgt := 115) hx hb dX8_takesNumber_100 (by decide) (fun hc => ?_) (fun hc => ?_)
      · have hM := (if_pos hc).symm.trans hM
        refine lv_iconst (v := (0 : Int32)) hx hb dX8_takesNumber_115 (by decide) ?_
        obtain rfl := Option.some.inj hM
        exact g_reti X hW rfl rfl dX8_takesNumber_116
      · have hM := (if_neg hc).symm.trans hM
        refine lv_aload_n hx hb dX8_takesNumber_103 rfl (lv_at hl 0 rfl) ?_
        refine lv_aload_n hx hb dX8_takesNumber_104 rfl (lv_at hl 0 rfl) ?_
        refine g_get X hW 0 rfl rfl inX8 14 (by decide) q_831 rfl dX8_takesNumber_105 ?_
        obtain ⟨u108, hu108, hM⟩ := bind_some hM
        refine g_callVi (rest := []) (gr := []) X hl.1 hW (c_X8_letterAt l G cI cZ cL N aT T_w T_undoes T_kept T_persons T_family T_gives T_warm T_rumour T_seen T_seenOf T_seenBehind T_seenHas T_text T_texted yT14_79 yT15_79 T_readPersons T_readKind T_readComes T_readFamily T_readGives T_readWarm T_readRumour T_toCome T_order T_bestOrder yT14_79 u108 hu108) q_924 q_921 q_923 q_24 q_67 hd_X8_letterAt rfl ⟨Nat.le_of_ble_eq_true rfl, Nat.le_of_ble_eq_true rfl⟩ ⟨Nat.zero_le _, Nat.zero_le _⟩ [0] [] [wMod cI cZ aT T_w T_undoes T_kept T_persons T_family T_gives T_warm T_rumour T_seen T_seenOf T_seenBehind T_seenHas T_text T_texted yT14_79 yT15_79 T_readPersons T_readKind T_readComes T_readFamily T_readGives T_readWarm T_readRumour T_toCome T_order T_bestOrder] ⟨pm_1_0, rfl, rfl, rfl⟩ ⟨pm_1_0, rfl, rfl, rfl⟩ (q0 := 0) rfl rfl rfl (Nat.le_of_ble_eq_true rfl) dX8_takesNumber_108 (fun H locs hW => ?_)
        refine lv_iload_n hx hb dX8_takesNumber_111 rfl (lv_at hl 3 rfl) ?_
        refine lv_icmp_eq (tgt := 117) hx hb dX8_takesNumber_112 (by decide) (fun hc => ?_) (fun hc => ?_)
        · have hM := (if_pos hc).symm.trans hM
          refine lv_aload_n hx hb dX8_takesNumber_117 rfl (lv_at hl 0 rfl) ?_
          refine lv_dup hx hb dX8_takesNumber_118 rfl ?_
          refine g_get X hW 0 rfl rfl inX8 14 (by decide) q_831 rfl dX8_takesNumber_119 ?_
          refine lv_iconst (v := (1 : Int32)) hx hb dX8_takesNumber_122 (by decide) ?_
          refine lv_iadd hx hb dX8_takesNumber_123 ?_
          refine g_put X hW 0 rfl rfl inX8 tyX8 tyX8_ok nmX8 14 (by decide) q_831 rfl rfl (Nat.le_of_ble_eq_true rfl) [wMod cI cZ aT T_w T_undoes T_kept T_persons T_family T_gives T_warm T_rumour T_seen T_seenOf T_seenBehind T_seenHas T_text T_texted (yT14_79 + (1 : Int32)) yT15_79 T_readPersons T_readKind T_readComes T_readFamily T_readGives T_readWarm T_readRumour T_toCome T_order T_bestOrder] rfl dX8_takesNumber_124 (fun H locs hW => ?_)
          refine lv_iconst (v := (1 : Int32)) hx hb dX8_takesNumber_127 (by decide) ?_
          obtain rfl := Option.some.inj hM
          exact g_reti X hW rfl rfl dX8_takesNumber_128
        · have hM := (if_neg hc).symm.trans hM
          refine lv_iconst (v := (0 : Int32)) hx hb dX8_takesNumber_115 (by decide) ?_
          obtain rfl := Option.some.inj hM
          exact g_reti X hW rfl rfl dX8_takesNumber_116
  have lp11 : ∀ (n11 : Nat) (yT14_11 : Int32) (yT15_11 : Int32) (H : Heap) (locs : List Loc) (ls : Array Slot), Wd G A s [wMod cI cZ aT T_w T_undoes T_kept T_persons T_family T_gives T_warm T_rumour T_seen T_seenOf T_seenBehind T_seenHas T_text T_texted yT14_11 yT15_11 T_readPersons T_readKind T_readComes T_readFamily T_readGives T_readWarm T_readRumour T_toCome T_order T_bestOrder] H locs → lv_has ls 5 [(0, .ref (aT 0)), (1, .int p1), (2, .int p2), (3, .int p3), (4, .int T_place)] → MX8_takesNumber_l11 N T_text T_texted T_place p1 p2 p3 n11 yT14_11 yT15_11 = some rr → W p l e (rmO 1 25) s m ([.ref (aT 0), .int p1, .int p2, .int p3] : List Value).toArray below meth c H locs 0 0 (MQ below (qI G rr.1 [wMod cI cZ aT T_w T_undoes T_kept T_persons T_family T_gives T_warm T_rumour T_seen T_seenOf T_seenBehind T_seenHas T_text T_texted rr.2.1 rr.2.2 T_readPersons T_readKind T_readComes T_readFamily T_readGives T_readWarm T_readRumour T_toCome T_order T_bestOrder] A) ([.ref (aT 0), .int p1, .int p2, .int p3] : List Value).toArray s 0 0 A) (F0 m 11 ls []) := by
    intro n11
    induction n11 with
    | zero =>
      intro yT14_11 yT15_11 H locs ls hW hl hM
      rw [MX8_takesNumber_l11] at hM
      cases hM
    | succ n11 ih11 =>
      intro yT14_11 yT15_11 H locs ls hW hl hM
      rw [MX8_takesNumber_l11] at hM
      refine lv_aload_n hx hb dX8_takesNumber_11 rfl (lv_at hl 0 rfl) ?_
      refine g_get X hW 0 rfl rfl inX8 14 (by decide) q_831 rfl dX8_takesNumber_12 ?_
      refine lv_iload hx hb dX8_takesNumber_15 (lv_at hl 4 rfl) ?_
      refine lv_isub hx hb dX8_takesNumber_17 ?_
      refine lv_iconst (v := (2 : Int32)) hx hb dX8_takesNumber_18 (by decide) ?_
      refine lv_icmp_ge (tgt := 79) hx hb dX8_takesNumber_19 (by decide) (fun hc => ?_) (fun hc => ?_)
      · have hM := (if_pos hc).symm.trans hM
        exact j79 yT14_11 yT15_11 _ _ _ hW (lv_sub hl [0, 1, 2, 3, 4] rfl) hM
      · have hM := (if_neg hc).symm.trans hM
        refine lv_aload_n hx hb dX8_takesNumber_22 rfl (lv_at hl 0 rfl) ?_
        refine lv_aload_n hx hb dX8_takesNumber_23 rfl (lv_at hl 0 rfl) ?_
        refine g_get X hW 0 rfl rfl inX8 14 (by decide) q_831 rfl dX8_takesNumber_24 ?_
        obtain ⟨u27, hu27, hM⟩ := bind_some hM
        refine g_callVi (rest := []) (gr := []) X hl.1 hW (c_X8_letterAt l G cI cZ cL N aT T_w T_undoes T_kept T_persons T_family T_gives T_warm T_rumour T_seen T_seenOf T_seenBehind T_seenHas T_text T_texted yT14_11 yT15_11 T_readPersons T_readKind T_readComes T_readFamily T_readGives T_readWarm T_readRumour T_toCome T_order T_bestOrder yT14_11 u27 hu27) q_924 q_921 q_923 q_24 q_67 hd_X8_letterAt rfl ⟨Nat.le_of_ble_eq_true rfl, Nat.le_of_ble_eq_true rfl⟩ ⟨Nat.zero_le _, Nat.zero_le _⟩ [0] [] [wMod cI cZ aT T_w T_undoes T_kept T_persons T_family T_gives T_warm T_rumour T_seen T_seenOf T_seenBehind T_seenHas T_text T_texted yT14_11 yT15_11 T_readPersons T_readKind T_readComes T_readFamily T_readGives T_readWarm T_readRumour T_toCome T_order T_bestOrder] ⟨pm_1_0, rfl, rfl, rfl⟩ ⟨pm_1_0, rfl, rfl, rfl⟩ (q0 := 0) rfl rfl rfl (Nat.le_of_ble_eq_true rfl) dX8_takesNumber_27 (fun H locs hW => ?_)
        refine lv_i2l hx hb dX8_takesNumber_30 rfl ?_
        refine lv_ldc2 (v := (48 : Int64)) hx hb hown (hts _ q_933) dX8_takesNumber_31 ?_
        refine lv_ldc2 (v := (57 : Int64)) hx hb hown (hts _ q_934) dX8_takesNumber_34 ?_
        obtain ⟨u37, hu37, hM⟩ := bind_some hM
        refine g_callSi (rest := []) X hl.1 hW (c_X8_in l G cI cZ cL N u27.toInt64 (48 : Int64) (57 : Int64) u37 hu37) q_904 q_902 q_903 q_67 hd_X8_in rfl ⟨Nat.le_of_ble_eq_true rfl, Nat.le_of_ble_eq_true rfl⟩ ⟨Nat.zero_le _, Nat.zero_le _⟩ rfl (Nat.le_of_ble_eq_true rfl) dX8_takesNumber_37 (fun H locs hW => ?_)
        refine lv_if_eq (tgt := 79) hx hb dX8_takesNumber_40 (by decide) (fun hc => ?_) (fun hc => ?_)
        · have hM := (if_pos hc).symm.trans hM
          exact j79 yT14_11 yT15_11 _ _ _ hW (lv_sub hl [0, 1, 2, 3, 4] rfl) hM
        · have hM := (if_neg hc).symm.trans hM
          refine lv_aload_n hx hb dX8_takesNumber_43 rfl (lv_at hl 0 rfl) ?_
          refine lv_bipush (v := (10 : Int32)) hx hb dX8_takesNumber_44 (by decide) ?_
          refine lv_aload_n hx hb dX8_takesNumber_46 rfl (lv_at hl 0 rfl) ?_
          refine g_get X hW 0 rfl rfl inX8 15 (by decide) q_832 rfl dX8_takesNumber_47 ?_
          refine lv_imul hx hb dX8_takesNumber_50 ?_
          refine lv_aload_n hx hb dX8_takesNumber_51 rfl (lv_at hl 0 rfl) ?_
          refine lv_aload_n hx hb dX8_takesNumber_52 rfl (lv_at hl 0 rfl) ?_
          refine g_get X hW 0 rfl rfl inX8 14 (by decide) q_831 rfl dX8_takesNumber_53 ?_
          obtain ⟨u56, hu56, hM⟩ := bind_some hM
          refine g_callVi (rest := [.int ((10 : Int32) * yT15_11), .ref (aT 0)]) (gr := []) X hl.1 hW (c_X8_letterAt l G cI cZ cL N aT T_w T_undoes T_kept T_persons T_family T_gives T_warm T_rumour T_seen T_seenOf T_seenBehind T_seenHas T_text T_texted yT14_11 yT15_11 T_readPersons T_readKind T_readComes T_readFamily T_readGives T_readWarm T_readRumour T_toCome T_order T_bestOrder yT14_11 u56 hu56) q_924 q_921 q_923 q_24 q_67 hd_X8_letterAt rfl ⟨Nat.le_of_ble_eq_true rfl, Nat.le_of_ble_eq_true rfl⟩ ⟨Nat.zero_le _, Nat.zero_le _⟩ [0] [] [wMod cI cZ aT T_w T_undoes T_kept T_persons T_family T_gives T_warm T_rumour T_seen T_seenOf T_seenBehind T_seenHas T_text T_texted yT14_11 yT15_11 T_readPersons T_readKind T_readComes T_readFamily T_readGives T_readWarm T_readRumour T_toCome T_order T_bestOrder] ⟨pm_1_0, rfl, rfl, rfl⟩ ⟨pm_1_0, rfl, rfl, rfl⟩ (q0 := 0) rfl rfl rfl (Nat.le_of_ble_eq_true rfl) dX8_takesNumber_56 (fun H locs hW => ?_)
          refine lv_iadd hx hb dX8_takesNumber_59 ?_
          refine lv_bipush (v := (48 : Int32)) hx hb dX8_takesNumber_60 (by decide) ?_
          refine lv_isub hx hb dX8_takesNumber_62 ?_
          refine g_put X hW 0 rfl rfl inX8 tyX8 tyX8_ok nmX8 15 (by decide) q_832 rfl rfl (Nat.le_of_ble_eq_true rfl) [wMod cI cZ aT T_w T_undoes T_kept T_persons T_family T_gives T_warm T_rumour T_seen T_seenOf T_seenBehind T_seenHas T_text T_texted yT14_11 ((((10 : Int32) * yT15_11) + u56) - (48 : Int32)) T_readPersons T_readKind T_readComes T_readFamily T_readGives T_readWarm T_readRumour T_toCome T_order T_bestOrder] rfl dX8_takesNumber_63 (fun H locs hW => ?_)
          refine lv_aload_n hx hb dX8_takesNumber_66 rfl (lv_at hl 0 rfl) ?_
          refine lv_dup hx hb dX8_takesNumber_67 rfl ?_
          refine g_get X hW 0 rfl rfl inX8 14 (by decide) q_831 rfl dX8_takesNumber_68 ?_
          refine lv_iconst (v := (1 : Int32)) hx hb dX8_takesNumber_71 (by decide) ?_
          refine lv_iadd hx hb dX8_takesNumber_72 ?_
          refine g_put X hW 0 rfl rfl inX8 tyX8 tyX8_ok nmX8 14 (by decide) q_831 rfl rfl (Nat.le_of_ble_eq_true rfl) [wMod cI cZ aT T_w T_undoes T_kept T_persons T_family T_gives T_warm T_rumour T_seen T_seenOf T_seenBehind T_seenHas T_text T_texted (yT14_11 + (1 : Int32)) ((((10 : Int32) * yT15_11) + u56) - (48 : Int32)) T_readPersons T_readKind T_readComes T_readFamily T_readGives T_readWarm T_readRumour T_toCome T_order T_bestOrder] rfl dX8_takesNumber_73 (fun H locs hW => ?_)
          refine lv_goto (tgt := 11) hx hb dX8_takesNumber_76 (by decide) ?_
          exact ih11 (yT14_11 + (1 : Int32)) ((((10 : Int32) * yT15_11) + u56) - (48 : Int32)) _ _ _ hW (lv_sub hl [0, 1, 2, 3, 4] rfl) hM
  exact lp11 N T_place (0 : Int32) _ _ _ hW (lv_sub hl [1, 2, 3, 4, 0] rfl) hM

def MX8_takesPerson_j108 (N : Nat) (T_readPersons : Int32) (T_readKind : (Nat → Int32)) (T_readComes : (Nat → Int32)) (T_readFamily : (Nat → Int32)) (u14 : Int32 × Int32 × Int32) (u33 : Int32 × Int32 × Int32) (u51 : Int32 × Int32 × Int32) (x3_108 : Int32) : Option (Int32 × Int32 × Int32 × Int32 × (Nat → Int32) × (Nat → Int32) × (Nat → Int32)) :=
  if x3_108 = (5 : Int32) then some ((0 : Int32), u51.2.1, u51.2.2, T_readPersons, T_readKind, T_readComes, T_readFamily) else ((MX8_adds N T_readPersons T_readKind T_readComes T_readFamily u14.2.2 u33.2.2 u51.2.2).bind (fun u122 => some ((1 : Int32), u51.2.1, u51.2.2, u122.1, u122.2.1, u122.2.2.1, u122.2.2.2)))
def MX8_takesPerson_j100 (x3_64 : Int32) (x4_64 : Int32) (rc64 : (Int32 → Int32 → Option (Int32 × Int32 × Int32 × Int32 × (Nat → Int32) × (Nat → Int32) × (Nat → Int32)))) (t1_100 : Int32) : Option (Int32 × Int32 × Int32 × Int32 × (Nat → Int32) × (Nat → Int32) × (Nat → Int32)) :=
  MLet (x3_64 + t1_100) (fun z101 => rc64 z101 (x4_64 + (1 : Int32)))
def MX8_takesPerson_j99 (x3_64 : Int32) (x4_64 : Int32) (rc64 : (Int32 → Int32 → Option (Int32 × Int32 × Int32 × Int32 × (Nat → Int32) × (Nat → Int32) × (Nat → Int32)))) : Option (Int32 × Int32 × Int32 × Int32 × (Nat → Int32) × (Nat → Int32) × (Nat → Int32)) :=
  MX8_takesPerson_j100 x3_64 x4_64 rc64 (0 : Int32)
def MX8_takesPerson_l64 (N : Nat) (T_readPersons : Int32) (T_readKind : (Nat → Int32)) (T_readComes : (Nat → Int32)) (T_readFamily : (Nat → Int32)) (u14 : Int32 × Int32 × Int32) (u33 : Int32 × Int32 × Int32) (u51 : Int32 × Int32 × Int32) : Nat → Int32 → Int32 → Option (Int32 × Int32 × Int32 × Int32 × (Nat → Int32) × (Nat → Int32) × (Nat → Int32))
  | 0, _, _ => none
  | n64 + 1, x3_64, x4_64 =>
    if T_readPersons ≤ x4_64 then (MX8_takesPerson_j108 N T_readPersons T_readKind T_readComes T_readFamily u14 u33 u51 x3_64) else (if u51.2.2 ≤ 0 then MX8_takesPerson_j99 x3_64 x4_64 (MX8_takesPerson_l64 N T_readPersons T_readKind T_readComes T_readFamily u14 u33 u51 n64) else MG x4_64 9 (if (T_readFamily x4_64.toNatClampNeg) = u51.2.2 then (MX8_takesPerson_j100 x3_64 x4_64 (MX8_takesPerson_l64 N T_readPersons T_readKind T_readComes T_readFamily u14 u33 u51 n64) (1 : Int32)) else MX8_takesPerson_j99 x3_64 x4_64 (MX8_takesPerson_l64 N T_readPersons T_readKind T_readComes T_readFamily u14 u33 u51 n64)))
def MX8_takesPerson (N : Nat) (T_text : (Nat → Int32)) (T_texted : Int32) (T_place : Int32) (T_number : Int32) (T_readPersons : Int32) (T_readKind : (Nat → Int32)) (T_readComes : (Nat → Int32)) (T_readFamily : (Nat → Int32)) : Option (Int32 × Int32 × Int32 × Int32 × (Nat → Int32) × (Nat → Int32) × (Nat → Int32)) :=
  if T_readPersons = (9 : Int32) then some ((0 : Int32), T_place, T_number, T_readPersons, T_readKind, T_readComes, T_readFamily) else ((MX8_takesNumber N T_text T_texted T_place (0 : Int32) (3 : Int32) (44 : Int32)).bind (fun u14 => if u14.1 = 0 then some ((0 : Int32), u14.2.1, u14.2.2, T_readPersons, T_readKind, T_readComes, T_readFamily) else ((MX8_takesNumber N T_text T_texted u14.2.1 (0 : Int32) (99 : Int32) (44 : Int32)).bind (fun u33 => if u33.1 = 0 then some ((0 : Int32), u33.2.1, u33.2.2, T_readPersons, T_readKind, T_readComes, T_readFamily) else ((MX8_takesNumber N T_text T_texted u33.2.1 (0 : Int32) (4 : Int32) (59 : Int32)).bind (fun u51 => if u51.1 = 0 then some ((0 : Int32), u51.2.1, u51.2.2, T_readPersons, T_readKind, T_readComes, T_readFamily) else (MX8_takesPerson_l64 N T_readPersons T_readKind T_readComes T_readFamily u14 u33 u51 N (0 : Int32) (0 : Int32))))))))
set_option maxHeartbeats 4000000 in
set_option maxRecDepth 100000 in
theorem c_X8_takesPerson (l : Launch) (G : va_G) (cI cZ cL : ClassId) (N : Nat) (aT : Nat → Nat) (T_w : (Nat → Int32)) (T_undoes : Int32) (T_kept : Int32) (T_persons : Int32) (T_family : (Nat → Int32)) (T_gives : Int32) (T_warm : Int32) (T_rumour : Int32) (T_seen : Int32) (T_seenOf : (Nat → Int32)) (T_seenBehind : (Nat → Int32)) (T_seenHas : (Nat → Int32)) (T_text : (Nat → Int32)) (T_texted : Int32) (T_place : Int32) (T_number : Int32) (T_readPersons : Int32) (T_readKind : (Nat → Int32)) (T_readComes : (Nat → Int32)) (T_readFamily : (Nat → Int32)) (T_readGives : Int32) (T_readWarm : Int32) (T_readRumour : Int32) (T_toCome : (Nat → Int32)) (T_order : (Nat → Int32)) (T_bestOrder : (Nat → Int32)) (rr : Int32 × Int32 × Int32 × Int32 × (Nat → Int32) × (Nat → Int32) × (Nat → Int32)) (hM : MX8_takesPerson N T_text T_texted T_place T_number T_readPersons T_readKind T_readComes T_readFamily = some rr) : CtI l yX8_takesPerson cX8_takesPerson 5 .boolean 2 49 G cI cZ cL [.ref (aT 0)] [wMod cI cZ aT T_w T_undoes T_kept T_persons T_family T_gives T_warm T_rumour T_seen T_seenOf T_seenBehind T_seenHas T_text T_texted T_place T_number T_readPersons T_readKind T_readComes T_readFamily T_readGives T_readWarm T_readRumour T_toCome T_order T_bestOrder] rr.1 [wMod cI cZ aT T_w T_undoes T_kept T_persons T_family T_gives T_warm T_rumour T_seen T_seenOf T_seenBehind T_seenHas T_text T_texted rr.2.1 rr.2.2.1 rr.2.2.2.1 rr.2.2.2.2.1 rr.2.2.2.2.2.1 rr.2.2.2.2.2.2 T_readGives T_readWarm T_readRumour T_toCome T_order T_bestOrder] := by
  refine ct_body (fun A => qI G rr.1 [wMod cI cZ aT T_w T_undoes T_kept T_persons T_family T_gives T_warm T_rumour T_seen T_seenOf T_seenBehind T_seenHas T_text T_texted rr.2.1 rr.2.2.1 rr.2.2.2.1 rr.2.2.2.2.1 rr.2.2.2.2.2.1 rr.2.2.2.2.2.2 T_readGives T_readWarm T_readRumour T_toCome T_order T_bestOrder] A) (by decide) (Nat.le_of_ble_eq_true rfl) (fun p e s m below meth c A ls X hW hl => ?_)
  have hx := X.1
  have hb := X.2.1
  have hts := X.2.2.2.2.2.1
  have hown := X.2.2.2.2.2.2.1
  have hl : lv_has ls 5 [(0, .ref (aT 0))] := hl
  unfold MX8_takesPerson at hM
  refine lv_aload_n hx hb dX8_takesPerson_0 rfl (lv_at hl 0 rfl) ?_
  refine g_get X hW 0 rfl rfl inX8 16 (by decide) q_833 rfl dX8_takesPerson_1 ?_
  refine lv_bipush (v := (9 : Int32)) hx hb dX8_takesPerson_4 (by decide) ?_
  refine lv_icmp_eq (tgt := 20) hx hb dX8_takesPerson_6 (by decide) (fun hc => ?_) (fun hc => ?_)
  · have hM := (if_pos hc).symm.trans hM
    refine lv_iconst (v := (0 : Int32)) hx hb dX8_takesPerson_20 (by decide) ?_
    obtain rfl := Option.some.inj hM
    exact g_reti X hW rfl rfl dX8_takesPerson_21
  · have hM := (if_neg hc).symm.trans hM
    refine lv_aload_n hx hb dX8_takesPerson_9 rfl (lv_at hl 0 rfl) ?_
    refine lv_iconst (v := (0 : Int32)) hx hb dX8_takesPerson_10 (by decide) ?_
    refine lv_iconst (v := (3 : Int32)) hx hb dX8_takesPerson_11 (by decide) ?_
    refine lv_bipush (v := (44 : Int32)) hx hb dX8_takesPerson_12 (by decide) ?_
    obtain ⟨u14, hu14, hM⟩ := bind_some hM
    refine g_callVi (rest := []) (gr := []) X hl.1 hW (c_X8_takesNumber l G cI cZ cL N aT T_w T_undoes T_kept T_persons T_family T_gives T_warm T_rumour T_seen T_seenOf T_seenBehind T_seenHas T_text T_texted T_place T_number T_readPersons T_readKind T_readComes T_readFamily T_readGives T_readWarm T_readRumour T_toCome T_order T_bestOrder (0 : Int32) (3 : Int32) (44 : Int32) u14 hu14) q_932 q_929 q_931 q_26 q_67 hd_X8_takesNumber rfl ⟨Nat.le_of_ble_eq_true rfl, Nat.le_of_ble_eq_true rfl⟩ ⟨Nat.zero_le _, Nat.zero_le _⟩ [0] [] [wMod cI cZ aT T_w T_undoes T_kept T_persons T_family T_gives T_warm T_rumour T_seen T_seenOf T_seenBehind T_seenHas T_text T_texted u14.2.1 u14.2.2 T_readPersons T_readKind T_readComes T_readFamily T_readGives T_readWarm T_readRumour T_toCome T_order T_bestOrder] ⟨pm_1_0, rfl, rfl, rfl⟩ ⟨pm_1_0, rfl, rfl, rfl⟩ (q0 := 0) rfl rfl rfl (Nat.le_of_ble_eq_true rfl) dX8_takesPerson_14 (fun H locs hW => ?_)
    refine lv_if_ne (tgt := 22) hx hb dX8_takesPerson_17 (by decide) (fun hc => ?_) (fun hc => ?_)
    · have hM := (if_neg hc).symm.trans hM
      refine lv_aload_n hx hb dX8_takesPerson_22 rfl (lv_at hl 0 rfl) ?_
      refine g_get X hW 0 rfl rfl inX8 15 (by decide) q_832 rfl dX8_takesPerson_23 ?_
      refine lv_istore_n (lv' := [(1, .int u14.2.2), (0, .ref (aT 0))]) hx hb dX8_takesPerson_26 rfl hl (by decide) rfl (fun ls hl => ?_)
      refine lv_aload_n hx hb dX8_takesPerson_27 rfl (lv_at hl 1 rfl) ?_
      refine lv_iconst (v := (0 : Int32)) hx hb dX8_takesPerson_28 (by decide) ?_
      refine lv_bipush (v := (99 : Int32)) hx hb dX8_takesPerson_29 (by decide) ?_
      refine lv_bipush (v := (44 : Int32)) hx hb dX8_takesPerson_31 (by decide) ?_
      obtain ⟨u33, hu33, hM⟩ := bind_some hM
      refine g_callVi (rest := []) (gr := []) X hl.1 hW (c_X8_takesNumber l G cI cZ cL N aT T_w T_undoes T_kept T_persons T_family T_gives T_warm T_rumour T_seen T_seenOf T_seenBehind T_seenHas T_text T_texted u14.2.1 u14.2.2 T_readPersons T_readKind T_readComes T_readFamily T_readGives T_readWarm T_readRumour T_toCome T_order T_bestOrder (0 : Int32) (99 : Int32) (44 : Int32) u33 hu33) q_932 q_929 q_931 q_26 q_67 hd_X8_takesNumber rfl ⟨Nat.le_of_ble_eq_true rfl, Nat.le_of_ble_eq_true rfl⟩ ⟨Nat.zero_le _, Nat.zero_le _⟩ [0] [] [wMod cI cZ aT T_w T_undoes T_kept T_persons T_family T_gives T_warm T_rumour T_seen T_seenOf T_seenBehind T_seenHas T_text T_texted u33.2.1 u33.2.2 T_readPersons T_readKind T_readComes T_readFamily T_readGives T_readWarm T_readRumour T_toCome T_order T_bestOrder] ⟨pm_1_0, rfl, rfl, rfl⟩ ⟨pm_1_0, rfl, rfl, rfl⟩ (q0 := 0) rfl rfl rfl (Nat.le_of_ble_eq_true rfl) dX8_takesPerson_33 (fun H locs hW => ?_)
      refine lv_if_ne (tgt := 41) hx hb dX8_takesPerson_36 (by decide) (fun hc => ?_) (fun hc => ?_)
      · have hM := (if_neg hc).symm.trans hM
        refine lv_aload_n hx hb dX8_takesPerson_41 rfl (lv_at hl 1 rfl) ?_
        refine g_get X hW 0 rfl rfl inX8 15 (by decide) q_832 rfl dX8_takesPerson_42 ?_
        refine lv_istore_n (lv' := [(2, .int u33.2.2), (1, .int u14.2.2), (0, .ref (aT 0))]) hx hb dX8_takesPerson_45 rfl hl (by decide) rfl (fun ls hl => ?_)
        refine lv_aload_n hx hb dX8_takesPerson_46 rfl (lv_at hl 2 rfl) ?_
        refine lv_iconst (v := (0 : Int32)) hx hb dX8_takesPerson_47 (by decide) ?_
        refine lv_iconst (v := (4 : Int32)) hx hb dX8_takesPerson_48 (by decide) ?_
        refine lv_bipush (v := (59 : Int32)) hx hb dX8_takesPerson_49 (by decide) ?_
        obtain ⟨u51, hu51, hM⟩ := bind_some hM
        refine g_callVi (rest := []) (gr := []) X hl.1 hW (c_X8_takesNumber l G cI cZ cL N aT T_w T_undoes T_kept T_persons T_family T_gives T_warm T_rumour T_seen T_seenOf T_seenBehind T_seenHas T_text T_texted u33.2.1 u33.2.2 T_readPersons T_readKind T_readComes T_readFamily T_readGives T_readWarm T_readRumour T_toCome T_order T_bestOrder (0 : Int32) (4 : Int32) (59 : Int32) u51 hu51) q_932 q_929 q_931 q_26 q_67 hd_X8_takesNumber rfl ⟨Nat.le_of_ble_eq_true rfl, Nat.le_of_ble_eq_true rfl⟩ ⟨Nat.zero_le _, Nat.zero_le _⟩ [0] [] [wMod cI cZ aT T_w T_undoes T_kept T_persons T_family T_gives T_warm T_rumour T_seen T_seenOf T_seenBehind T_seenHas T_text T_texted u51.2.1 u51.2.2 T_readPersons T_readKind T_readComes T_readFamily T_readGives T_readWarm T_readRumour T_toCome T_order T_bestOrder] ⟨pm_1_0, rfl, rfl, rfl⟩ ⟨pm_1_0, rfl, rfl, rfl⟩ (q0 := 0) rfl rfl rfl (Nat.le_of_ble_eq_true rfl) dX8_takesPerson_51 (fun H locs hW => ?_)
        refine lv_if_ne (tgt := 59) hx hb dX8_takesPerson_54 (by decide) (fun hc => ?_) (fun hc => ?_)
        · have hM := (if_neg hc).symm.trans hM
          refine lv_iconst (v := (0 : Int32)) hx hb dX8_takesPerson_59 (by decide) ?_
          refine lv_istore_n (lv' := [(3, .int (0 : Int32)), (2, .int u33.2.2), (1, .int u14.2.2), (0, .ref (aT 0))]) hx hb dX8_takesPerson_60 rfl hl (by decide) rfl (fun ls hl => ?_)
          refine lv_iconst (v := (0 : Int32)) hx hb dX8_takesPerson_61 (by decide) ?_
          refine lv_istore (lv' := [(4, .int (0 : Int32)), (3, .int (0 : Int32)), (2, .int u33.2.2), (1, .int u14.2.2), (0, .ref (aT 0))]) hx hb dX8_takesPerson_62 hl (by decide) rfl (fun ls hl => ?_)
          have j108 : ∀ (x3_108 : Int32) (H : Heap) (locs : List Loc) (ls : Array Slot), Wd G A s [wMod cI cZ aT T_w T_undoes T_kept T_persons T_family T_gives T_warm T_rumour T_seen T_seenOf T_seenBehind T_seenHas T_text T_texted u51.2.1 u51.2.2 T_readPersons T_readKind T_readComes T_readFamily T_readGives T_readWarm T_readRumour T_toCome T_order T_bestOrder] H locs → lv_has ls 5 [(0, .ref (aT 0)), (1, .int u14.2.2), (2, .int u33.2.2), (3, .int x3_108)] → MX8_takesPerson_j108 N T_readPersons T_readKind T_readComes T_readFamily u14 u33 u51 x3_108 = some rr → W p l e (rmO 2 49) s m ([.ref (aT 0)] : List Value).toArray below meth c H locs 0 0 (MQ below (qI G rr.1 [wMod cI cZ aT T_w T_undoes T_kept T_persons T_family T_gives T_warm T_rumour T_seen T_seenOf T_seenBehind T_seenHas T_text T_texted rr.2.1 rr.2.2.1 rr.2.2.2.1 rr.2.2.2.2.1 rr.2.2.2.2.2.1 rr.2.2.2.2.2.2 T_readGives T_readWarm T_readRumour T_toCome T_order T_bestOrder] A) ([.ref (aT 0)] : List Value).toArray s 0 0 A) (F0 m 108 ls []) := by
            intro x3_108 H locs ls hW hl hM
            unfold MX8_takesPerson_j108 at hM
            refine lv_iload_n hx hb dX8_takesPerson_108 rfl (lv_at hl 3 rfl) ?_
            refine lv_iconst (v := (5 : Int32)) hx hb dX8_takesPerson_109 (by decide) ?_
            refine lv_icmp_ne (tgt := 115) hx hb dX8_takesPerson_110 (by decide) (fun hc => ?_) (fun hc => ?_)
            · have hM := (if_neg hc).symm.trans hM
              refine lv_aload_n hx hb dX8_takesPerson_115 rfl (lv_at hl 0 rfl) ?_
              refine lv_iload_n hx hb dX8_takesPerson_116 rfl (lv_at hl 1 rfl) ?_
              refine lv_iload_n hx hb dX8_takesPerson_117 rfl (lv_at hl 2 rfl) ?_
              refine lv_aload_n hx hb dX8_takesPerson_118 rfl (lv_at hl 0 rfl) ?_
              refine g_get X hW 0 rfl rfl inX8 15 (by decide) q_832 rfl dX8_takesPerson_119 ?_
              obtain ⟨u122, hu122, hM⟩ := bind_some hM
              refine g_callVv (rest := []) (gr := []) X hl.1 hW (c_X8_adds l G cI cZ cL N aT T_w T_undoes T_kept T_persons T_family T_gives T_warm T_rumour T_seen T_seenOf T_seenBehind T_seenHas T_text T_texted u51.2.1 u51.2.2 T_readPersons T_readKind T_readComes T_readFamily T_readGives T_readWarm T_readRumour T_toCome T_order T_bestOrder u14.2.2 u33.2.2 u51.2.2 u122 hu122) q_812 q_809 q_811 q_20 q_67 hd_X8_adds rfl ⟨Nat.le_of_ble_eq_true rfl, Nat.le_of_ble_eq_true rfl⟩ ⟨Nat.zero_le _, Nat.zero_le _⟩ [0] [] [wMod cI cZ aT T_w T_undoes T_kept T_persons T_family T_gives T_warm T_rumour T_seen T_seenOf T_seenBehind T_seenHas T_text T_texted u51.2.1 u51.2.2 u122.1 u122.2.1 u122.2.2.1 u122.2.2.2 T_readGives T_readWarm T_readRumour T_toCome T_order T_bestOrder] ⟨pm_1_0, rfl, rfl, rfl⟩ ⟨pm_1_0, rfl, rfl, rfl⟩ (q0 := 0) rfl rfl rfl (Nat.le_of_ble_eq_true rfl) dX8_takesPerson_122 (fun H locs hW => ?_)
              refine lv_iconst (v := (1 : Int32)) hx hb dX8_takesPerson_125 (by decide) ?_
              obtain rfl := Option.some.inj hM
              exact g_reti X hW rfl rfl dX8_takesPerson_126
            · have hM := (if_pos hc).symm.trans hM
              refine lv_iconst (v := (0 : Int32)) hx hb dX8_takesPerson_113 (by decide) ?_
              obtain rfl := Option.some.inj hM
              exact g_reti X hW rfl rfl dX8_takesPerson_114
          have lp64 : ∀ (n64 : Nat) (x3_64 : Int32) (x4_64 : Int32) (H : Heap) (locs : List Loc) (ls : Array Slot), Wd G A s [wMod cI cZ aT T_w T_undoes T_kept T_persons T_family T_gives T_warm T_rumour T_seen T_seenOf T_seenBehind T_seenHas T_text T_texted u51.2.1 u51.2.2 T_readPersons T_readKind T_readComes T_readFamily T_readGives T_readWarm T_readRumour T_toCome T_order T_bestOrder] H locs → lv_has ls 5 [(0, .ref (aT 0)), (1, .int u14.2.2), (2, .int u33.2.2), (3, .int x3_64), (4, .int x4_64)] → MX8_takesPerson_l64 N T_readPersons T_readKind T_readComes T_readFamily u14 u33 u51 n64 x3_64 x4_64 = some rr → W p l e (rmO 2 49) s m ([.ref (aT 0)] : List Value).toArray below meth c H locs 0 0 (MQ below (qI G rr.1 [wMod cI cZ aT T_w T_undoes T_kept T_persons T_family T_gives T_warm T_rumour T_seen T_seenOf T_seenBehind T_seenHas T_text T_texted rr.2.1 rr.2.2.1 rr.2.2.2.1 rr.2.2.2.2.1 rr.2.2.2.2.2.1 rr.2.2.2.2.2.2 T_readGives T_readWarm T_readRumour T_toCome T_order T_bestOrder] A) ([.ref (aT 0)] : List Value).toArray s 0 0 A) (F0 m 64 ls []) := by
            intro n64
            induction n64 with
            | zero =>
              intro x3_64 x4_64 H locs ls hW hl hM
              rw [MX8_takesPerson_l64] at hM
              cases hM
            | succ n64 ih64 =>
              intro x3_64 x4_64 H locs ls hW hl hM
              rw [MX8_takesPerson_l64] at hM
              refine lv_iload hx hb dX8_takesPerson_64 (lv_at hl 4 rfl) ?_
              refine lv_aload_n hx hb dX8_takesPerson_66 rfl (lv_at hl 0 rfl) ?_
              refine g_get X hW 0 rfl rfl inX8 16 (by decide) q_833 rfl dX8_takesPerson_67 ?_
              refine lv_icmp_ge (tgt := 108) hx hb dX8_takesPerson_70 (by decide) (fun hc => ?_) (fun hc => ?_)
              · have hM := (if_pos hc).symm.trans hM
                exact j108 x3_64 _ _ _ hW (lv_sub hl [0, 1, 2, 3] rfl) hM
              · have hM := (if_neg hc).symm.trans hM
                refine lv_iload_n hx hb dX8_takesPerson_73 rfl (lv_at hl 3 rfl) ?_
                refine lv_aload_n hx hb dX8_takesPerson_74 rfl (lv_at hl 0 rfl) ?_
                refine g_get X hW 0 rfl rfl inX8 15 (by decide) q_832 rfl dX8_takesPerson_75 ?_
                have j100 : ∀ (t1_100 : Int32) (H : Heap) (locs : List Loc) (ls : Array Slot), Wd G A s [wMod cI cZ aT T_w T_undoes T_kept T_persons T_family T_gives T_warm T_rumour T_seen T_seenOf T_seenBehind T_seenHas T_text T_texted u51.2.1 u51.2.2 T_readPersons T_readKind T_readComes T_readFamily T_readGives T_readWarm T_readRumour T_toCome T_order T_bestOrder] H locs → lv_has ls 5 [(0, .ref (aT 0)), (1, .int u14.2.2), (2, .int u33.2.2), (4, .int x4_64)] → MX8_takesPerson_j100 x3_64 x4_64 (MX8_takesPerson_l64 N T_readPersons T_readKind T_readComes T_readFamily u14 u33 u51 n64) t1_100 = some rr → W p l e (rmO 2 49) s m ([.ref (aT 0)] : List Value).toArray below meth c H locs 0 0 (MQ below (qI G rr.1 [wMod cI cZ aT T_w T_undoes T_kept T_persons T_family T_gives T_warm T_rumour T_seen T_seenOf T_seenBehind T_seenHas T_text T_texted rr.2.1 rr.2.2.1 rr.2.2.2.1 rr.2.2.2.2.1 rr.2.2.2.2.2.1 rr.2.2.2.2.2.2 T_readGives T_readWarm T_readRumour T_toCome T_order T_bestOrder] A) ([.ref (aT 0)] : List Value).toArray s 0 0 A) (F0 m 100 ls [.int t1_100, .int x3_64]) := by
                  intro t1_100 H locs ls hW hl hM
                  unfold MX8_takesPerson_j100 at hM
                  refine lv_iadd hx hb dX8_takesPerson_100 ?_
                  refine lv_topi (fun z101 ez101 => ?_)
                  have hM := MLet_some hM z101 ez101
                  refine lv_istore_n (lv' := [(3, .int z101), (0, .ref (aT 0)), (1, .int u14.2.2), (2, .int u33.2.2), (4, .int x4_64)]) hx hb dX8_takesPerson_101 rfl hl (by decide) rfl (fun ls hl => ?_)
                  refine lv_iinc (v := x4_64 + (1 : Int32)) (lv' := [(4, .int (x4_64 + (1 : Int32))), (3, .int z101), (0, .ref (aT 0)), (1, .int u14.2.2), (2, .int u33.2.2)]) hx hb dX8_takesPerson_102 hl (k := 4) rfl rfl (by decide) rfl (fun ls hl => ?_)
                  refine lv_goto (tgt := 64) hx hb dX8_takesPerson_105 (by decide) ?_
                  exact ih64 z101 (x4_64 + (1 : Int32)) _ _ _ hW (lv_sub hl [2, 3, 4, 1, 0] rfl) hM
                have j99 : ∀ (H : Heap) (locs : List Loc) (ls : Array Slot), Wd G A s [wMod cI cZ aT T_w T_undoes T_kept T_persons T_family T_gives T_warm T_rumour T_seen T_seenOf T_seenBehind T_seenHas T_text T_texted u51.2.1 u51.2.2 T_readPersons T_readKind T_readComes T_readFamily T_readGives T_readWarm T_readRumour T_toCome T_order T_bestOrder] H locs → lv_has ls 5 [(0, .ref (aT 0)), (1, .int u14.2.2), (2, .int u33.2.2), (4, .int x4_64)] → MX8_takesPerson_j99 x3_64 x4_64 (MX8_takesPerson_l64 N T_readPersons T_readKind T_readComes T_readFamily u14 u33 u51 n64) = some rr → W p l e (rmO 2 49) s m ([.ref (aT 0)] : List Value).toArray below meth c H locs 0 0 (MQ below (qI G rr.1 [wMod cI cZ aT T_w T_undoes T_kept T_persons T_family T_gives T_warm T_rumour T_seen T_seenOf T_seenBehind T_seenHas T_text T_texted rr.2.1 rr.2.2.1 rr.2.2.2.1 rr.2.2.2.2.1 rr.2.2.2.2.2.1 rr.2.2.2.2.2.2 T_readGives T_readWarm T_readRumour T_toCome T_order T_bestOrder] A) ([.ref (aT 0)] : List Value).toArray s 0 0 A) (F0 m 99 ls [.int x3_64]) := by
                  intro H locs ls hW hl hM
                  unfold MX8_takesPerson_j99 at hM
                  refine lv_iconst (v := (0 : Int32)) hx hb dX8_takesPerson_99 (by decide) ?_
                  exact j100 (0 : Int32) _ _ _ hW (lv_sub hl [0, 1, 2, 3] rfl) hM
                refine lv_if_le (tgt := 99) hx hb dX8_takesPerson_78 (by decide) (fun hc => ?_) (fun hc => ?_)
                · have hM := (if_pos hc).symm.trans hM
                  exact j99 _ _ _ hW (lv_sub hl [0, 1, 2, 4] rfl) hM
                · have hM := (if_neg hc).symm.trans hM
                  refine lv_aload_n hx hb dX8_takesPerson_81 rfl (lv_at hl 0 rfl) ?_
                  refine g_get X hW 0 rfl rfl inX8 19 (by decide) q_836 rfl dX8_takesPerson_82 ?_
                  refine lv_iload hx hb dX8_takesPerson_85 (lv_at hl 4 rfl) ?_
                  obtain ⟨hi87, hM⟩ := MG_some hM
                  refine g_ald X hW 9 rfl hi87 dX8_takesPerson_87 ?_
                  refine lv_aload_n hx hb dX8_takesPerson_88 rfl (lv_at hl 0 rfl) ?_
                  refine g_get X hW 0 rfl rfl inX8 15 (by decide) q_832 rfl dX8_takesPerson_89 ?_
                  refine lv_icmp_ne (tgt := 99) hx hb dX8_takesPerson_92 (by decide) (fun hc => ?_) (fun hc => ?_)
                  · have hM := (if_neg hc).symm.trans hM
                    exact j99 _ _ _ hW (lv_sub hl [0, 1, 2, 4] rfl) hM
                  · have hM := (if_pos hc).symm.trans hM
                    refine lv_iconst (v := (1 : Int32)) hx hb dX8_takesPerson_95 (by decide) ?_
                    refine lv_goto (tgt := 100) hx hb dX8_takesPerson_96 (by decide) ?_
                    exact j100 (1 : Int32) _ _ _ hW (lv_sub hl [0, 1, 2, 4] rfl) hM
          exact lp64 N (0 : Int32) (0 : Int32) _ _ _ hW (lv_sub hl [4, 3, 2, 1, 0] rfl) hM
        · have hM := (if_pos hc).symm.trans hM
          refine lv_iconst (v := (0 : Int32)) hx hb dX8_takesPerson_57 (by decide) ?_
          obtain rfl := Option.some.inj hM
          exact g_reti X hW rfl rfl dX8_takesPerson_58
      · have hM := (if_pos hc).symm.trans hM
        refine lv_iconst (v := (0 : Int32)) hx hb dX8_takesPerson_39 (by decide) ?_
        obtain rfl := Option.some.inj hM
        exact g_reti X hW rfl rfl dX8_takesPerson_40
    · have hM := (if_pos hc).symm.trans hM
      refine lv_iconst (v := (0 : Int32)) hx hb dX8_takesPerson_20 (by decide) ?_
      obtain rfl := Option.some.inj hM
      exact g_reti X hW rfl rfl dX8_takesPerson_21

def MX8_takesBaker (N : Nat) (T_text : (Nat → Int32)) (T_texted : Int32) (T_place : Int32) (T_readGives : Int32) (T_readWarm : Int32) : Option (Int32 × Int32 × Int32 × Int32 × Int32) :=
  (MX8_takesNumber N T_text T_texted T_place (1 : Int32) (9 : Int32) (44 : Int32)).bind (fun u6 => if u6.1 = 0 then some ((0 : Int32), u6.2.1, u6.2.2, T_readGives, T_readWarm) else ((MX8_takesNumber N T_text T_texted u6.2.1 (0 : Int32) (40 : Int32) (59 : Int32)).bind (fun u25 => if u25.1 = 0 then some ((0 : Int32), u25.2.1, u25.2.2, T_readGives, T_readWarm) else some ((1 : Int32), u25.2.1, u25.2.2, u6.2.2, u25.2.2))))
set_option maxHeartbeats 4000000 in
set_option maxRecDepth 100000 in
theorem c_X8_takesBaker (l : Launch) (G : va_G) (cI cZ cL : ClassId) (N : Nat) (aT : Nat → Nat) (T_w : (Nat → Int32)) (T_undoes : Int32) (T_kept : Int32) (T_persons : Int32) (T_family : (Nat → Int32)) (T_gives : Int32) (T_warm : Int32) (T_rumour : Int32) (T_seen : Int32) (T_seenOf : (Nat → Int32)) (T_seenBehind : (Nat → Int32)) (T_seenHas : (Nat → Int32)) (T_text : (Nat → Int32)) (T_texted : Int32) (T_place : Int32) (T_number : Int32) (T_readPersons : Int32) (T_readKind : (Nat → Int32)) (T_readComes : (Nat → Int32)) (T_readFamily : (Nat → Int32)) (T_readGives : Int32) (T_readWarm : Int32) (T_readRumour : Int32) (T_toCome : (Nat → Int32)) (T_order : (Nat → Int32)) (T_bestOrder : (Nat → Int32)) (rr : Int32 × Int32 × Int32 × Int32 × Int32) (hM : MX8_takesBaker N T_text T_texted T_place T_readGives T_readWarm = some rr) : CtI l yX8_takesBaker cX8_takesBaker 2 .boolean 2 49 G cI cZ cL [.ref (aT 0)] [wMod cI cZ aT T_w T_undoes T_kept T_persons T_family T_gives T_warm T_rumour T_seen T_seenOf T_seenBehind T_seenHas T_text T_texted T_place T_number T_readPersons T_readKind T_readComes T_readFamily T_readGives T_readWarm T_readRumour T_toCome T_order T_bestOrder] rr.1 [wMod cI cZ aT T_w T_undoes T_kept T_persons T_family T_gives T_warm T_rumour T_seen T_seenOf T_seenBehind T_seenHas T_text T_texted rr.2.1 rr.2.2.1 T_readPersons T_readKind T_readComes T_readFamily rr.2.2.2.1 rr.2.2.2.2 T_readRumour T_toCome T_order T_bestOrder] := by
  refine ct_body (fun A => qI G rr.1 [wMod cI cZ aT T_w T_undoes T_kept T_persons T_family T_gives T_warm T_rumour T_seen T_seenOf T_seenBehind T_seenHas T_text T_texted rr.2.1 rr.2.2.1 T_readPersons T_readKind T_readComes T_readFamily rr.2.2.2.1 rr.2.2.2.2 T_readRumour T_toCome T_order T_bestOrder] A) (by decide) (Nat.le_of_ble_eq_true rfl) (fun p e s m below meth c A ls X hW hl => ?_)
  have hx := X.1
  have hb := X.2.1
  have hts := X.2.2.2.2.2.1
  have hown := X.2.2.2.2.2.2.1
  have hl : lv_has ls 2 [(0, .ref (aT 0))] := hl
  unfold MX8_takesBaker at hM
  refine lv_aload_n hx hb dX8_takesBaker_0 rfl (lv_at hl 0 rfl) ?_
  refine lv_iconst (v := (1 : Int32)) hx hb dX8_takesBaker_1 (by decide) ?_
  refine lv_bipush (v := (9 : Int32)) hx hb dX8_takesBaker_2 (by decide) ?_
  refine lv_bipush (v := (44 : Int32)) hx hb dX8_takesBaker_4 (by decide) ?_
  obtain ⟨u6, hu6, hM⟩ := bind_some hM
  refine g_callVi (rest := []) (gr := []) X hl.1 hW (c_X8_takesNumber l G cI cZ cL N aT T_w T_undoes T_kept T_persons T_family T_gives T_warm T_rumour T_seen T_seenOf T_seenBehind T_seenHas T_text T_texted T_place T_number T_readPersons T_readKind T_readComes T_readFamily T_readGives T_readWarm T_readRumour T_toCome T_order T_bestOrder (1 : Int32) (9 : Int32) (44 : Int32) u6 hu6) q_932 q_929 q_931 q_26 q_67 hd_X8_takesNumber rfl ⟨Nat.le_of_ble_eq_true rfl, Nat.le_of_ble_eq_true rfl⟩ ⟨Nat.zero_le _, Nat.zero_le _⟩ [0] [] [wMod cI cZ aT T_w T_undoes T_kept T_persons T_family T_gives T_warm T_rumour T_seen T_seenOf T_seenBehind T_seenHas T_text T_texted u6.2.1 u6.2.2 T_readPersons T_readKind T_readComes T_readFamily T_readGives T_readWarm T_readRumour T_toCome T_order T_bestOrder] ⟨pm_1_0, rfl, rfl, rfl⟩ ⟨pm_1_0, rfl, rfl, rfl⟩ (q0 := 0) rfl rfl rfl (Nat.le_of_ble_eq_true rfl) dX8_takesBaker_6 (fun H locs hW => ?_)
  refine lv_if_ne (tgt := 14) hx hb dX8_takesBaker_9 (by decide) (fun hc => ?_) (fun hc => ?_)
  · have hM := (if_neg hc).symm.trans hM
    refine lv_aload_n hx hb dX8_takesBaker_14 rfl (lv_at hl 0 rfl) ?_
    refine g_get X hW 0 rfl rfl inX8 15 (by decide) q_832 rfl dX8_takesBaker_15 ?_
    refine lv_istore_n (lv' := [(1, .int u6.2.2), (0, .ref (aT 0))]) hx hb dX8_takesBaker_18 rfl hl (by decide) rfl (fun ls hl => ?_)
    refine lv_aload_n hx hb dX8_takesBaker_19 rfl (lv_at hl 1 rfl) ?_
    refine lv_iconst (v := (0 : Int32)) hx hb dX8_takesBaker_20 (by decide) ?_
    refine lv_bipush (v := (40 : Int32)) hx hb dX8_takesBaker_21 (by decide) ?_
    refine lv_bipush (v := (59 : Int32)) hx hb dX8_takesBaker_23 (by decide) ?_
    obtain ⟨u25, hu25, hM⟩ := bind_some hM
    refine g_callVi (rest := []) (gr := []) X hl.1 hW (c_X8_takesNumber l G cI cZ cL N aT T_w T_undoes T_kept T_persons T_family T_gives T_warm T_rumour T_seen T_seenOf T_seenBehind T_seenHas T_text T_texted u6.2.1 u6.2.2 T_readPersons T_readKind T_readComes T_readFamily T_readGives T_readWarm T_readRumour T_toCome T_order T_bestOrder (0 : Int32) (40 : Int32) (59 : Int32) u25 hu25) q_932 q_929 q_931 q_26 q_67 hd_X8_takesNumber rfl ⟨Nat.le_of_ble_eq_true rfl, Nat.le_of_ble_eq_true rfl⟩ ⟨Nat.zero_le _, Nat.zero_le _⟩ [0] [] [wMod cI cZ aT T_w T_undoes T_kept T_persons T_family T_gives T_warm T_rumour T_seen T_seenOf T_seenBehind T_seenHas T_text T_texted u25.2.1 u25.2.2 T_readPersons T_readKind T_readComes T_readFamily T_readGives T_readWarm T_readRumour T_toCome T_order T_bestOrder] ⟨pm_1_0, rfl, rfl, rfl⟩ ⟨pm_1_0, rfl, rfl, rfl⟩ (q0 := 0) rfl rfl rfl (Nat.le_of_ble_eq_true rfl) dX8_takesBaker_25 (fun H locs hW => ?_)
    refine lv_if_ne (tgt := 33) hx hb dX8_takesBaker_28 (by decide) (fun hc => ?_) (fun hc => ?_)
    · have hM := (if_neg hc).symm.trans hM
      refine lv_aload_n hx hb dX8_takesBaker_33 rfl (lv_at hl 1 rfl) ?_
      refine lv_iload_n hx hb dX8_takesBaker_34 rfl (lv_at hl 0 rfl) ?_
      refine g_put X hW 0 rfl rfl inX8 tyX8 tyX8_ok nmX8 20 (by decide) q_837 rfl rfl (Nat.le_of_ble_eq_true rfl) [wMod cI cZ aT T_w T_undoes T_kept T_persons T_family T_gives T_warm T_rumour T_seen T_seenOf T_seenBehind T_seenHas T_text T_texted u25.2.1 u25.2.2 T_readPersons T_readKind T_readComes T_readFamily u6.2.2 T_readWarm T_readRumour T_toCome T_order T_bestOrder] rfl dX8_takesBaker_35 (fun H locs hW => ?_)
      refine lv_aload_n hx hb dX8_takesBaker_38 rfl (lv_at hl 1 rfl) ?_
      refine lv_aload_n hx hb dX8_takesBaker_39 rfl (lv_at hl 1 rfl) ?_
      refine g_get X hW 0 rfl rfl inX8 15 (by decide) q_832 rfl dX8_takesBaker_40 ?_
      refine g_put X hW 0 rfl rfl inX8 tyX8 tyX8_ok nmX8 21 (by decide) q_838 rfl rfl (Nat.le_of_ble_eq_true rfl) [wMod cI cZ aT T_w T_undoes T_kept T_persons T_family T_gives T_warm T_rumour T_seen T_seenOf T_seenBehind T_seenHas T_text T_texted u25.2.1 u25.2.2 T_readPersons T_readKind T_readComes T_readFamily u6.2.2 u25.2.2 T_readRumour T_toCome T_order T_bestOrder] rfl dX8_takesBaker_43 (fun H locs hW => ?_)
      refine lv_iconst (v := (1 : Int32)) hx hb dX8_takesBaker_46 (by decide) ?_
      obtain rfl := Option.some.inj hM
      exact g_reti X hW rfl rfl dX8_takesBaker_47
    · have hM := (if_pos hc).symm.trans hM
      refine lv_iconst (v := (0 : Int32)) hx hb dX8_takesBaker_31 (by decide) ?_
      obtain rfl := Option.some.inj hM
      exact g_reti X hW rfl rfl dX8_takesBaker_32
  · have hM := (if_pos hc).symm.trans hM
    refine lv_iconst (v := (0 : Int32)) hx hb dX8_takesBaker_12 (by decide) ?_
    obtain rfl := Option.some.inj hM
    exact g_reti X hW rfl rfl dX8_takesBaker_13

def MX8_takesRumour (N : Nat) (T_text : (Nat → Int32)) (T_texted : Int32) (T_place : Int32) (T_readRumour : Int32) : Option (Int32 × Int32 × Int32 × Int32) :=
  (MX8_takesNumber N T_text T_texted T_place (2 : Int32) (30 : Int32) (59 : Int32)).bind (fun u6 => if u6.1 = 0 then some ((0 : Int32), u6.2.1, u6.2.2, T_readRumour) else some ((1 : Int32), u6.2.1, u6.2.2, u6.2.2))
set_option maxHeartbeats 4000000 in
set_option maxRecDepth 100000 in
theorem c_X8_takesRumour (l : Launch) (G : va_G) (cI cZ cL : ClassId) (N : Nat) (aT : Nat → Nat) (T_w : (Nat → Int32)) (T_undoes : Int32) (T_kept : Int32) (T_persons : Int32) (T_family : (Nat → Int32)) (T_gives : Int32) (T_warm : Int32) (T_rumour : Int32) (T_seen : Int32) (T_seenOf : (Nat → Int32)) (T_seenBehind : (Nat → Int32)) (T_seenHas : (Nat → Int32)) (T_text : (Nat → Int32)) (T_texted : Int32) (T_place : Int32) (T_number : Int32) (T_readPersons : Int32) (T_readKind : (Nat → Int32)) (T_readComes : (Nat → Int32)) (T_readFamily : (Nat → Int32)) (T_readGives : Int32) (T_readWarm : Int32) (T_readRumour : Int32) (T_toCome : (Nat → Int32)) (T_order : (Nat → Int32)) (T_bestOrder : (Nat → Int32)) (rr : Int32 × Int32 × Int32 × Int32) (hM : MX8_takesRumour N T_text T_texted T_place T_readRumour = some rr) : CtI l yX8_takesRumour cX8_takesRumour 1 .boolean 2 49 G cI cZ cL [.ref (aT 0)] [wMod cI cZ aT T_w T_undoes T_kept T_persons T_family T_gives T_warm T_rumour T_seen T_seenOf T_seenBehind T_seenHas T_text T_texted T_place T_number T_readPersons T_readKind T_readComes T_readFamily T_readGives T_readWarm T_readRumour T_toCome T_order T_bestOrder] rr.1 [wMod cI cZ aT T_w T_undoes T_kept T_persons T_family T_gives T_warm T_rumour T_seen T_seenOf T_seenBehind T_seenHas T_text T_texted rr.2.1 rr.2.2.1 T_readPersons T_readKind T_readComes T_readFamily T_readGives T_readWarm rr.2.2.2 T_toCome T_order T_bestOrder] := by
  refine ct_body (fun A => qI G rr.1 [wMod cI cZ aT T_w T_undoes T_kept T_persons T_family T_gives T_warm T_rumour T_seen T_seenOf T_seenBehind T_seenHas T_text T_texted rr.2.1 rr.2.2.1 T_readPersons T_readKind T_readComes T_readFamily T_readGives T_readWarm rr.2.2.2 T_toCome T_order T_bestOrder] A) (by decide) (Nat.le_of_ble_eq_true rfl) (fun p e s m below meth c A ls X hW hl => ?_)
  have hx := X.1
  have hb := X.2.1
  have hts := X.2.2.2.2.2.1
  have hown := X.2.2.2.2.2.2.1
  have hl : lv_has ls 1 [(0, .ref (aT 0))] := hl
  unfold MX8_takesRumour at hM
  refine lv_aload_n hx hb dX8_takesRumour_0 rfl (lv_at hl 0 rfl) ?_
  refine lv_iconst (v := (2 : Int32)) hx hb dX8_takesRumour_1 (by decide) ?_
  refine lv_bipush (v := (30 : Int32)) hx hb dX8_takesRumour_2 (by decide) ?_
  refine lv_bipush (v := (59 : Int32)) hx hb dX8_takesRumour_4 (by decide) ?_
  obtain ⟨u6, hu6, hM⟩ := bind_some hM
  refine g_callVi (rest := []) (gr := []) X hl.1 hW (c_X8_takesNumber l G cI cZ cL N aT T_w T_undoes T_kept T_persons T_family T_gives T_warm T_rumour T_seen T_seenOf T_seenBehind T_seenHas T_text T_texted T_place T_number T_readPersons T_readKind T_readComes T_readFamily T_readGives T_readWarm T_readRumour T_toCome T_order T_bestOrder (2 : Int32) (30 : Int32) (59 : Int32) u6 hu6) q_932 q_929 q_931 q_26 q_67 hd_X8_takesNumber rfl ⟨Nat.le_of_ble_eq_true rfl, Nat.le_of_ble_eq_true rfl⟩ ⟨Nat.zero_le _, Nat.zero_le _⟩ [0] [] [wMod cI cZ aT T_w T_undoes T_kept T_persons T_family T_gives T_warm T_rumour T_seen T_seenOf T_seenBehind T_seenHas T_text T_texted u6.2.1 u6.2.2 T_readPersons T_readKind T_readComes T_readFamily T_readGives T_readWarm T_readRumour T_toCome T_order T_bestOrder] ⟨pm_1_0, rfl, rfl, rfl⟩ ⟨pm_1_0, rfl, rfl, rfl⟩ (q0 := 0) rfl rfl rfl (Nat.le_of_ble_eq_true rfl) dX8_takesRumour_6 (fun H locs hW => ?_)
  refine lv_if_ne (tgt := 14) hx hb dX8_takesRumour_9 (by decide) (fun hc => ?_) (fun hc => ?_)
  · have hM := (if_neg hc).symm.trans hM
    refine lv_aload_n hx hb dX8_takesRumour_14 rfl (lv_at hl 0 rfl) ?_
    refine lv_aload_n hx hb dX8_takesRumour_15 rfl (lv_at hl 0 rfl) ?_
    refine g_get X hW 0 rfl rfl inX8 15 (by decide) q_832 rfl dX8_takesRumour_16 ?_
    refine g_put X hW 0 rfl rfl inX8 tyX8 tyX8_ok nmX8 22 (by decide) q_839 rfl rfl (Nat.le_of_ble_eq_true rfl) [wMod cI cZ aT T_w T_undoes T_kept T_persons T_family T_gives T_warm T_rumour T_seen T_seenOf T_seenBehind T_seenHas T_text T_texted u6.2.1 u6.2.2 T_readPersons T_readKind T_readComes T_readFamily T_readGives T_readWarm u6.2.2 T_toCome T_order T_bestOrder] rfl dX8_takesRumour_19 (fun H locs hW => ?_)
    refine lv_iconst (v := (1 : Int32)) hx hb dX8_takesRumour_22 (by decide) ?_
    obtain rfl := Option.some.inj hM
    exact g_reti X hW rfl rfl dX8_takesRumour_23
  · have hM := (if_pos hc).symm.trans hM
    refine lv_iconst (v := (0 : Int32)) hx hb dX8_takesRumour_12 (by decide) ?_
    obtain rfl := Option.some.inj hM
    exact g_reti X hW rfl rfl dX8_takesRumour_13

def MX8_takesItem_j62 (T_readPersons : Int32) (T_readKind : (Nat → Int32)) (T_readComes : (Nat → Int32)) (T_readFamily : (Nat → Int32)) (T_readGives : Int32) (T_readWarm : Int32) (yT14_62 : Int32) (yT15_62 : Int32) (yT22_62 : Int32) : Option (Int32 × Int32 × Int32 × Int32 × (Nat → Int32) × (Nat → Int32) × (Nat → Int32) × Int32 × Int32 × Int32) :=
  some ((0 : Int32), yT14_62, yT15_62, T_readPersons, T_readKind, T_readComes, T_readFamily, T_readGives, T_readWarm, yT22_62)
def MX8_takesItem (N : Nat) (T_text : (Nat → Int32)) (T_texted : Int32) (T_place : Int32) (T_number : Int32) (T_readPersons : Int32) (T_readKind : (Nat → Int32)) (T_readComes : (Nat → Int32)) (T_readFamily : (Nat → Int32)) (T_readGives : Int32) (T_readWarm : Int32) (T_readRumour : Int32) : Option (Int32 × Int32 × Int32 × Int32 × (Nat → Int32) × (Nat → Int32) × (Nat → Int32) × Int32 × Int32 × Int32) :=
  (MX8_letterAt N T_text T_texted T_place).bind (fun u5 => if u5 = (112 : Int32) then ((MX8_takesPerson N T_text T_texted (T_place + (1 : Int32)) T_number T_readPersons T_readKind T_readComes T_readFamily).bind (fun u26 => MB u26.1 (some (u26.1, u26.2.1, u26.2.2.1, u26.2.2.2.1, u26.2.2.2.2.1, u26.2.2.2.2.2.1, u26.2.2.2.2.2.2, T_readGives, T_readWarm, T_readRumour)))) else (if u5 = (98 : Int32) then ((MX8_takesBaker N T_text T_texted (T_place + (1 : Int32)) T_readGives T_readWarm).bind (fun u39 => MB u39.1 (some (u39.1, u39.2.1, u39.2.2.1, T_readPersons, T_readKind, T_readComes, T_readFamily, u39.2.2.2.1, u39.2.2.2.2, T_readRumour)))) else (if u5 = (114 : Int32) then ((MX8_takesRumour N T_text T_texted (T_place + (1 : Int32)) T_readRumour).bind (fun u52 => if u52.1 = 0 then (MX8_takesItem_j62 T_readPersons T_readKind T_readComes T_readFamily T_readGives T_readWarm u52.2.1 u52.2.2.1 u52.2.2.2) else some ((1 : Int32), u52.2.1, u52.2.2.1, T_readPersons, T_readKind, T_readComes, T_readFamily, T_readGives, T_readWarm, u52.2.2.2))) else (MX8_takesItem_j62 T_readPersons T_readKind T_readComes T_readFamily T_readGives T_readWarm (T_place + (1 : Int32)) T_number T_readRumour))))
set_option maxHeartbeats 4000000 in
set_option maxRecDepth 100000 in
theorem c_X8_takesItem (l : Launch) (G : va_G) (cI cZ cL : ClassId) (N : Nat) (aT : Nat → Nat) (T_w : (Nat → Int32)) (T_undoes : Int32) (T_kept : Int32) (T_persons : Int32) (T_family : (Nat → Int32)) (T_gives : Int32) (T_warm : Int32) (T_rumour : Int32) (T_seen : Int32) (T_seenOf : (Nat → Int32)) (T_seenBehind : (Nat → Int32)) (T_seenHas : (Nat → Int32)) (T_text : (Nat → Int32)) (T_texted : Int32) (T_place : Int32) (T_number : Int32) (T_readPersons : Int32) (T_readKind : (Nat → Int32)) (T_readComes : (Nat → Int32)) (T_readFamily : (Nat → Int32)) (T_readGives : Int32) (T_readWarm : Int32) (T_readRumour : Int32) (T_toCome : (Nat → Int32)) (T_order : (Nat → Int32)) (T_bestOrder : (Nat → Int32)) (rr : Int32 × Int32 × Int32 × Int32 × (Nat → Int32) × (Nat → Int32) × (Nat → Int32) × Int32 × Int32 × Int32) (hM : MX8_takesItem N T_text T_texted T_place T_number T_readPersons T_readKind T_readComes T_readFamily T_readGives T_readWarm T_readRumour = some rr) : CtI l yX8_takesItem cX8_takesItem 2 .boolean 3 73 G cI cZ cL [.ref (aT 0)] [wMod cI cZ aT T_w T_undoes T_kept T_persons T_family T_gives T_warm T_rumour T_seen T_seenOf T_seenBehind T_seenHas T_text T_texted T_place T_number T_readPersons T_readKind T_readComes T_readFamily T_readGives T_readWarm T_readRumour T_toCome T_order T_bestOrder] rr.1 [wMod cI cZ aT T_w T_undoes T_kept T_persons T_family T_gives T_warm T_rumour T_seen T_seenOf T_seenBehind T_seenHas T_text T_texted rr.2.1 rr.2.2.1 rr.2.2.2.1 rr.2.2.2.2.1 rr.2.2.2.2.2.1 rr.2.2.2.2.2.2.1 rr.2.2.2.2.2.2.2.1 rr.2.2.2.2.2.2.2.2.1 rr.2.2.2.2.2.2.2.2.2 T_toCome T_order T_bestOrder] := by
  refine ct_body (fun A => qI G rr.1 [wMod cI cZ aT T_w T_undoes T_kept T_persons T_family T_gives T_warm T_rumour T_seen T_seenOf T_seenBehind T_seenHas T_text T_texted rr.2.1 rr.2.2.1 rr.2.2.2.1 rr.2.2.2.2.1 rr.2.2.2.2.2.1 rr.2.2.2.2.2.2.1 rr.2.2.2.2.2.2.2.1 rr.2.2.2.2.2.2.2.2.1 rr.2.2.2.2.2.2.2.2.2 T_toCome T_order T_bestOrder] A) (by decide) (Nat.le_of_ble_eq_true rfl) (fun p e s m below meth c A ls X hW hl => ?_)
  have hx := X.1
  have hb := X.2.1
  have hts := X.2.2.2.2.2.1
  have hown := X.2.2.2.2.2.2.1
  have hl : lv_has ls 2 [(0, .ref (aT 0))] := hl
  unfold MX8_takesItem at hM
  refine lv_aload_n hx hb dX8_takesItem_0 rfl (lv_at hl 0 rfl) ?_
  refine lv_aload_n hx hb dX8_takesItem_1 rfl (lv_at hl 0 rfl) ?_
  refine g_get X hW 0 rfl rfl inX8 14 (by decide) q_831 rfl dX8_takesItem_2 ?_
  obtain ⟨u5, hu5, hM⟩ := bind_some hM
  refine g_callVi (rest := []) (gr := []) X hl.1 hW (c_X8_letterAt l G cI cZ cL N aT T_w T_undoes T_kept T_persons T_family T_gives T_warm T_rumour T_seen T_seenOf T_seenBehind T_seenHas T_text T_texted T_place T_number T_readPersons T_readKind T_readComes T_readFamily T_readGives T_readWarm T_readRumour T_toCome T_order T_bestOrder T_place u5 hu5) q_924 q_921 q_923 q_24 q_67 hd_X8_letterAt rfl ⟨Nat.le_of_ble_eq_true rfl, Nat.le_of_ble_eq_true rfl⟩ ⟨Nat.zero_le _, Nat.zero_le _⟩ [0] [] [wMod cI cZ aT T_w T_undoes T_kept T_persons T_family T_gives T_warm T_rumour T_seen T_seenOf T_seenBehind T_seenHas T_text T_texted T_place T_number T_readPersons T_readKind T_readComes T_readFamily T_readGives T_readWarm T_readRumour T_toCome T_order T_bestOrder] ⟨pm_1_0, rfl, rfl, rfl⟩ ⟨pm_1_0, rfl, rfl, rfl⟩ (q0 := 0) rfl rfl rfl (Nat.le_of_ble_eq_true rfl) dX8_takesItem_5 (fun H locs hW => ?_)
  refine lv_istore_n (lv' := [(1, .int u5), (0, .ref (aT 0))]) hx hb dX8_takesItem_8 rfl hl (by decide) rfl (fun ls hl => ?_)
  refine lv_aload_n hx hb dX8_takesItem_9 rfl (lv_at hl 1 rfl) ?_
  refine lv_dup hx hb dX8_takesItem_10 rfl ?_
  refine g_get X hW 0 rfl rfl inX8 14 (by decide) q_831 rfl dX8_takesItem_11 ?_
  refine lv_iconst (v := (1 : Int32)) hx hb dX8_takesItem_14 (by decide) ?_
  refine lv_iadd hx hb dX8_takesItem_15 ?_
  refine g_put X hW 0 rfl rfl inX8 tyX8 tyX8_ok nmX8 14 (by decide) q_831 rfl rfl (Nat.le_of_ble_eq_true rfl) [wMod cI cZ aT T_w T_undoes T_kept T_persons T_family T_gives T_warm T_rumour T_seen T_seenOf T_seenBehind T_seenHas T_text T_texted (T_place + (1 : Int32)) T_number T_readPersons T_readKind T_readComes T_readFamily T_readGives T_readWarm T_readRumour T_toCome T_order T_bestOrder] rfl dX8_takesItem_16 (fun H locs hW => ?_)
  refine lv_iload_n hx hb dX8_takesItem_19 rfl (lv_at hl 0 rfl) ?_
  refine lv_bipush (v := (112 : Int32)) hx hb dX8_takesItem_20 (by decide) ?_
  refine lv_icmp_ne (tgt := 32) hx hb dX8_takesItem_22 (by decide) (fun hc => ?_) (fun hc => ?_)
  · have hM := (if_neg hc).symm.trans hM
    refine lv_iload_n hx hb dX8_takesItem_32 rfl (lv_at hl 0 rfl) ?_
    refine lv_bipush (v := (98 : Int32)) hx hb dX8_takesItem_33 (by decide) ?_
    refine lv_icmp_ne (tgt := 45) hx hb dX8_takesItem_35 (by decide) (fun hc => ?_) (fun hc => ?_)
    · have hM := (if_neg hc).symm.trans hM
      refine lv_iload_n hx hb dX8_takesItem_45 rfl (lv_at hl 0 rfl) ?_
      refine lv_bipush (v := (114 : Int32)) hx hb dX8_takesItem_46 (by decide) ?_
      have j62 : ∀ (yT14_62 : Int32) (yT15_62 : Int32) (yT22_62 : Int32) (H : Heap) (locs : List Loc) (ls : Array Slot), Wd G A s [wMod cI cZ aT T_w T_undoes T_kept T_persons T_family T_gives T_warm T_rumour T_seen T_seenOf T_seenBehind T_seenHas T_text T_texted yT14_62 yT15_62 T_readPersons T_readKind T_readComes T_readFamily T_readGives T_readWarm yT22_62 T_toCome T_order T_bestOrder] H locs → lv_has ls 2 [] → MX8_takesItem_j62 T_readPersons T_readKind T_readComes T_readFamily T_readGives T_readWarm yT14_62 yT15_62 yT22_62 = some rr → W p l e (rmO 3 73) s m ([.ref (aT 0)] : List Value).toArray below meth c H locs 0 0 (MQ below (qI G rr.1 [wMod cI cZ aT T_w T_undoes T_kept T_persons T_family T_gives T_warm T_rumour T_seen T_seenOf T_seenBehind T_seenHas T_text T_texted rr.2.1 rr.2.2.1 rr.2.2.2.1 rr.2.2.2.2.1 rr.2.2.2.2.2.1 rr.2.2.2.2.2.2.1 rr.2.2.2.2.2.2.2.1 rr.2.2.2.2.2.2.2.2.1 rr.2.2.2.2.2.2.2.2.2 T_toCome T_order T_bestOrder] A) ([.ref (aT 0)] : List Value).toArray s 0 0 A) (F0 m 62 ls []) := by
        intro yT14_62 yT15_62 yT22_62 H locs ls hW hl hM
        unfold MX8_takesItem_j62 at hM
        refine lv_iconst (v := (0 : Int32)) hx hb dX8_takesItem_62 (by decide) ?_
        obtain rfl := Option.some.inj hM
        exact g_reti X hW rfl rfl dX8_takesItem_63
      refine lv_icmp_ne (tgt := 62) hx hb dX8_takesItem_48 (by decide) (fun hc => ?_) (fun hc => ?_)
      · have hM := (if_neg hc).symm.trans hM
        exact j62 (T_place + (1 : Int32)) T_number T_readRumour _ _ _ hW (lv_sub hl [] rfl) hM
      · have hM := (if_pos hc).symm.trans hM
        refine lv_aload_n hx hb dX8_takesItem_51 rfl (lv_at hl 1 rfl) ?_
        obtain ⟨u52, hu52, hM⟩ := bind_some hM
        refine g_callVi (rest := []) (gr := []) X hl.1 hW (c_X8_takesRumour l G cI cZ cL N aT T_w T_undoes T_kept T_persons T_family T_gives T_warm T_rumour T_seen T_seenOf T_seenBehind T_seenHas T_text T_texted (T_place + (1 : Int32)) T_number T_readPersons T_readKind T_readComes T_readFamily T_readGives T_readWarm T_readRumour T_toCome T_order T_bestOrder u52 hu52) q_942 q_939 q_941 q_28 q_67 hd_X8_takesRumour rfl ⟨Nat.le_of_ble_eq_true rfl, Nat.le_of_ble_eq_true rfl⟩ ⟨Nat.zero_le _, Nat.zero_le _⟩ [0] [] [wMod cI cZ aT T_w T_undoes T_kept T_persons T_family T_gives T_warm T_rumour T_seen T_seenOf T_seenBehind T_seenHas T_text T_texted u52.2.1 u52.2.2.1 T_readPersons T_readKind T_readComes T_readFamily T_readGives T_readWarm u52.2.2.2 T_toCome T_order T_bestOrder] ⟨pm_1_0, rfl, rfl, rfl⟩ ⟨pm_1_0, rfl, rfl, rfl⟩ (q0 := 0) rfl rfl rfl (Nat.le_of_ble_eq_true rfl) dX8_takesItem_52 (fun H locs hW => ?_)
        refine lv_if_eq (tgt := 62) hx hb dX8_takesItem_55 (by decide) (fun hc => ?_) (fun hc => ?_)
        · have hM := (if_pos hc).symm.trans hM
          exact j62 u52.2.1 u52.2.2.1 u52.2.2.2 _ _ _ hW (lv_sub hl [] rfl) hM
        · have hM := (if_neg hc).symm.trans hM
          refine lv_iconst (v := (1 : Int32)) hx hb dX8_takesItem_58 (by decide) ?_
          refine lv_goto (tgt := 63) hx hb dX8_takesItem_59 (by decide) ?_
          obtain rfl := Option.some.inj hM
          exact g_reti X hW rfl rfl dX8_takesItem_63
    · have hM := (if_pos hc).symm.trans hM
      refine lv_aload_n hx hb dX8_takesItem_38 rfl (lv_at hl 1 rfl) ?_
      obtain ⟨u39, hu39, hM⟩ := bind_some hM
      refine g_callVi (rest := []) (gr := []) X hl.1 hW (c_X8_takesBaker l G cI cZ cL N aT T_w T_undoes T_kept T_persons T_family T_gives T_warm T_rumour T_seen T_seenOf T_seenBehind T_seenHas T_text T_texted (T_place + (1 : Int32)) T_number T_readPersons T_readKind T_readComes T_readFamily T_readGives T_readWarm T_readRumour T_toCome T_order T_bestOrder u39 hu39) q_938 q_935 q_937 q_27 q_67 hd_X8_takesBaker rfl ⟨Nat.le_of_ble_eq_true rfl, Nat.le_of_ble_eq_true rfl⟩ ⟨Nat.zero_le _, Nat.zero_le _⟩ [0] [] [wMod cI cZ aT T_w T_undoes T_kept T_persons T_family T_gives T_warm T_rumour T_seen T_seenOf T_seenBehind T_seenHas T_text T_texted u39.2.1 u39.2.2.1 T_readPersons T_readKind T_readComes T_readFamily u39.2.2.2.1 u39.2.2.2.2 T_readRumour T_toCome T_order T_bestOrder] ⟨pm_1_0, rfl, rfl, rfl⟩ ⟨pm_1_0, rfl, rfl, rfl⟩ (q0 := 0) rfl rfl rfl (Nat.le_of_ble_eq_true rfl) dX8_takesItem_39 (fun H locs hW => ?_)
      refine lv_goto (tgt := 63) hx hb dX8_takesItem_42 (by decide) ?_
      obtain ⟨hn, hM⟩ := MB_some hM
      obtain rfl := Option.some.inj hM
      exact g_reti X hW rfl hn dX8_takesItem_63
  · have hM := (if_pos hc).symm.trans hM
    refine lv_aload_n hx hb dX8_takesItem_25 rfl (lv_at hl 1 rfl) ?_
    obtain ⟨u26, hu26, hM⟩ := bind_some hM
    refine g_callVi (rest := []) (gr := []) X hl.1 hW (c_X8_takesPerson l G cI cZ cL N aT T_w T_undoes T_kept T_persons T_family T_gives T_warm T_rumour T_seen T_seenOf T_seenBehind T_seenHas T_text T_texted (T_place + (1 : Int32)) T_number T_readPersons T_readKind T_readComes T_readFamily T_readGives T_readWarm T_readRumour T_toCome T_order T_bestOrder u26 hu26) q_928 q_925 q_927 q_25 q_67 hd_X8_takesPerson rfl ⟨Nat.le_of_ble_eq_true rfl, Nat.le_of_ble_eq_true rfl⟩ ⟨Nat.zero_le _, Nat.zero_le _⟩ [0] [] [wMod cI cZ aT T_w T_undoes T_kept T_persons T_family T_gives T_warm T_rumour T_seen T_seenOf T_seenBehind T_seenHas T_text T_texted u26.2.1 u26.2.2.1 u26.2.2.2.1 u26.2.2.2.2.1 u26.2.2.2.2.2.1 u26.2.2.2.2.2.2 T_readGives T_readWarm T_readRumour T_toCome T_order T_bestOrder] ⟨pm_1_0, rfl, rfl, rfl⟩ ⟨pm_1_0, rfl, rfl, rfl⟩ (q0 := 0) rfl rfl rfl (Nat.le_of_ble_eq_true rfl) dX8_takesItem_26 (fun H locs hW => ?_)
    refine lv_goto (tgt := 63) hx hb dX8_takesItem_29 (by decide) ?_
    obtain ⟨hn, hM⟩ := MB_some hM
    obtain rfl := Option.some.inj hM
    exact g_reti X hW rfl hn dX8_takesItem_63

def MX8_faultOf_l26 (N : Nat) (T_text : (Nat → Int32)) (T_texted : Int32) : Nat → Int32 → Int32 → Int32 → (Nat → Int32) → (Nat → Int32) → (Nat → Int32) → Int32 → Int32 → Int32 → Option (Int32 × Int32 × Int32 × Int32 × (Nat → Int32) × (Nat → Int32) × (Nat → Int32) × Int32 × Int32 × Int32)
  | 0, _, _, _, _, _, _, _, _, _ => none
  | n26 + 1, yT14_26, yT15_26, yT16_26, yT17_26, yT18_26, yT19_26, yT20_26, yT21_26, yT22_26 =>
    if T_texted ≤ yT14_26 then some ((-4 : Int32), yT14_26, yT15_26, yT16_26, yT17_26, yT18_26, yT19_26, yT20_26, yT21_26, yT22_26) else ((MX8_takesItem N T_text T_texted yT14_26 yT15_26 yT16_26 yT17_26 yT18_26 yT19_26 yT20_26 yT21_26 yT22_26).bind (fun u43 => if u43.1 = 0 then some (yT14_26, u43.2.1, u43.2.2.1, u43.2.2.2.1, u43.2.2.2.2.1, u43.2.2.2.2.2.1, u43.2.2.2.2.2.2.1, u43.2.2.2.2.2.2.2.1, u43.2.2.2.2.2.2.2.2.1, u43.2.2.2.2.2.2.2.2.2) else ((MX8_faultOf_l26 N T_text T_texted n26) u43.2.1 u43.2.2.1 u43.2.2.2.1 u43.2.2.2.2.1 u43.2.2.2.2.2.1 u43.2.2.2.2.2.2.1 u43.2.2.2.2.2.2.2.1 u43.2.2.2.2.2.2.2.2.1 u43.2.2.2.2.2.2.2.2.2)))
def MX8_faultOf (N : Nat) (T_text : (Nat → Int32)) (T_texted : Int32) (T_number : Int32) (T_readKind : (Nat → Int32)) (T_readComes : (Nat → Int32)) (T_readFamily : (Nat → Int32)) : Option (Int32 × Int32 × Int32 × Int32 × (Nat → Int32) × (Nat → Int32) × (Nat → Int32) × Int32 × Int32 × Int32) :=
  MX8_faultOf_l26 N T_text T_texted N (0 : Int32) T_number (0 : Int32) T_readKind T_readComes T_readFamily (2 : Int32) (20 : Int32) (0 : Int32)
set_option maxHeartbeats 4000000 in
set_option maxRecDepth 100000 in
theorem c_X8_faultOf (l : Launch) (G : va_G) (cI cZ cL : ClassId) (N : Nat) (aT : Nat → Nat) (T_w : (Nat → Int32)) (T_undoes : Int32) (T_kept : Int32) (T_persons : Int32) (T_family : (Nat → Int32)) (T_gives : Int32) (T_warm : Int32) (T_rumour : Int32) (T_seen : Int32) (T_seenOf : (Nat → Int32)) (T_seenBehind : (Nat → Int32)) (T_seenHas : (Nat → Int32)) (T_text : (Nat → Int32)) (T_texted : Int32) (T_place : Int32) (T_number : Int32) (T_readPersons : Int32) (T_readKind : (Nat → Int32)) (T_readComes : (Nat → Int32)) (T_readFamily : (Nat → Int32)) (T_readGives : Int32) (T_readWarm : Int32) (T_readRumour : Int32) (T_toCome : (Nat → Int32)) (T_order : (Nat → Int32)) (T_bestOrder : (Nat → Int32)) (rr : Int32 × Int32 × Int32 × Int32 × (Nat → Int32) × (Nat → Int32) × (Nat → Int32) × Int32 × Int32 × Int32) (hM : MX8_faultOf N T_text T_texted T_number T_readKind T_readComes T_readFamily = some rr) : CtI l yX8_faultOf cX8_faultOf 2 .int 4 94 G cI cZ cL [.ref (aT 0)] [wMod cI cZ aT T_w T_undoes T_kept T_persons T_family T_gives T_warm T_rumour T_seen T_seenOf T_seenBehind T_seenHas T_text T_texted T_place T_number T_readPersons T_readKind T_readComes T_readFamily T_readGives T_readWarm T_readRumour T_toCome T_order T_bestOrder] rr.1 [wMod cI cZ aT T_w T_undoes T_kept T_persons T_family T_gives T_warm T_rumour T_seen T_seenOf T_seenBehind T_seenHas T_text T_texted rr.2.1 rr.2.2.1 rr.2.2.2.1 rr.2.2.2.2.1 rr.2.2.2.2.2.1 rr.2.2.2.2.2.2.1 rr.2.2.2.2.2.2.2.1 rr.2.2.2.2.2.2.2.2.1 rr.2.2.2.2.2.2.2.2.2 T_toCome T_order T_bestOrder] := by
  refine ct_body (fun A => qI G rr.1 [wMod cI cZ aT T_w T_undoes T_kept T_persons T_family T_gives T_warm T_rumour T_seen T_seenOf T_seenBehind T_seenHas T_text T_texted rr.2.1 rr.2.2.1 rr.2.2.2.1 rr.2.2.2.2.1 rr.2.2.2.2.2.1 rr.2.2.2.2.2.2.1 rr.2.2.2.2.2.2.2.1 rr.2.2.2.2.2.2.2.2.1 rr.2.2.2.2.2.2.2.2.2 T_toCome T_order T_bestOrder] A) (by decide) (Nat.le_of_ble_eq_true rfl) (fun p e s m below meth c A ls X hW hl => ?_)
  have hx := X.1
  have hb := X.2.1
  have hts := X.2.2.2.2.2.1
  have hown := X.2.2.2.2.2.2.1
  have hl : lv_has ls 2 [(0, .ref (aT 0))] := hl
  unfold MX8_faultOf at hM
  refine lv_aload_n hx hb dX8_faultOf_0 rfl (lv_at hl 0 rfl) ?_
  refine lv_iconst (v := (0 : Int32)) hx hb dX8_faultOf_1 (by decide) ?_
  refine g_put X hW 0 rfl rfl inX8 tyX8 tyX8_ok nmX8 16 (by decide) q_833 rfl rfl (Nat.le_of_ble_eq_true rfl) [wMod cI cZ aT T_w T_undoes T_kept T_persons T_family T_gives T_warm T_rumour T_seen T_seenOf T_seenBehind T_seenHas T_text T_texted T_place T_number (0 : Int32) T_readKind T_readComes T_readFamily T_readGives T_readWarm T_readRumour T_toCome T_order T_bestOrder] rfl dX8_faultOf_2 (fun H locs hW => ?_)
  refine lv_aload_n hx hb dX8_faultOf_5 rfl (lv_at hl 0 rfl) ?_
  refine lv_iconst (v := (2 : Int32)) hx hb dX8_faultOf_6 (by decide) ?_
  refine g_put X hW 0 rfl rfl inX8 tyX8 tyX8_ok nmX8 20 (by decide) q_837 rfl rfl (Nat.le_of_ble_eq_true rfl) [wMod cI cZ aT T_w T_undoes T_kept T_persons T_family T_gives T_warm T_rumour T_seen T_seenOf T_seenBehind T_seenHas T_text T_texted T_place T_number (0 : Int32) T_readKind T_readComes T_readFamily (2 : Int32) T_readWarm T_readRumour T_toCome T_order T_bestOrder] rfl dX8_faultOf_7 (fun H locs hW => ?_)
  refine lv_aload_n hx hb dX8_faultOf_10 rfl (lv_at hl 0 rfl) ?_
  refine lv_bipush (v := (20 : Int32)) hx hb dX8_faultOf_11 (by decide) ?_
  refine g_put X hW 0 rfl rfl inX8 tyX8 tyX8_ok nmX8 21 (by decide) q_838 rfl rfl (Nat.le_of_ble_eq_true rfl) [wMod cI cZ aT T_w T_undoes T_kept T_persons T_family T_gives T_warm T_rumour T_seen T_seenOf T_seenBehind T_seenHas T_text T_texted T_place T_number (0 : Int32) T_readKind T_readComes T_readFamily (2 : Int32) (20 : Int32) T_readRumour T_toCome T_order T_bestOrder] rfl dX8_faultOf_13 (fun H locs hW => ?_)
  refine lv_aload_n hx hb dX8_faultOf_16 rfl (lv_at hl 0 rfl) ?_
  refine lv_iconst (v := (0 : Int32)) hx hb dX8_faultOf_17 (by decide) ?_
  refine g_put X hW 0 rfl rfl inX8 tyX8 tyX8_ok nmX8 22 (by decide) q_839 rfl rfl (Nat.le_of_ble_eq_true rfl) [wMod cI cZ aT T_w T_undoes T_kept T_persons T_family T_gives T_warm T_rumour T_seen T_seenOf T_seenBehind T_seenHas T_text T_texted T_place T_number (0 : Int32) T_readKind T_readComes T_readFamily (2 : Int32) (20 : Int32) (0 : Int32) T_toCome T_order T_bestOrder] rfl dX8_faultOf_18 (fun H locs hW => ?_)
  refine lv_aload_n hx hb dX8_faultOf_21 rfl (lv_at hl 0 rfl) ?_
  refine lv_iconst (v := (0 : Int32)) hx hb dX8_faultOf_22 (by decide) ?_
  refine g_put X hW 0 rfl rfl inX8 tyX8 tyX8_ok nmX8 14 (by decide) q_831 rfl rfl (Nat.le_of_ble_eq_true rfl) [wMod cI cZ aT T_w T_undoes T_kept T_persons T_family T_gives T_warm T_rumour T_seen T_seenOf T_seenBehind T_seenHas T_text T_texted (0 : Int32) T_number (0 : Int32) T_readKind T_readComes T_readFamily (2 : Int32) (20 : Int32) (0 : Int32) T_toCome T_order T_bestOrder] rfl dX8_faultOf_23 (fun H locs hW => ?_)
  have lp26 : ∀ (n26 : Nat) (yT14_26 : Int32) (yT15_26 : Int32) (yT16_26 : Int32) (yT17_26 : (Nat → Int32)) (yT18_26 : (Nat → Int32)) (yT19_26 : (Nat → Int32)) (yT20_26 : Int32) (yT21_26 : Int32) (yT22_26 : Int32) (H : Heap) (locs : List Loc) (ls : Array Slot), Wd G A s [wMod cI cZ aT T_w T_undoes T_kept T_persons T_family T_gives T_warm T_rumour T_seen T_seenOf T_seenBehind T_seenHas T_text T_texted yT14_26 yT15_26 yT16_26 yT17_26 yT18_26 yT19_26 yT20_26 yT21_26 yT22_26 T_toCome T_order T_bestOrder] H locs → lv_has ls 2 [(0, .ref (aT 0))] → MX8_faultOf_l26 N T_text T_texted n26 yT14_26 yT15_26 yT16_26 yT17_26 yT18_26 yT19_26 yT20_26 yT21_26 yT22_26 = some rr → W p l e (rmO 4 94) s m ([.ref (aT 0)] : List Value).toArray below meth c H locs 0 0 (MQ below (qI G rr.1 [wMod cI cZ aT T_w T_undoes T_kept T_persons T_family T_gives T_warm T_rumour T_seen T_seenOf T_seenBehind T_seenHas T_text T_texted rr.2.1 rr.2.2.1 rr.2.2.2.1 rr.2.2.2.2.1 rr.2.2.2.2.2.1 rr.2.2.2.2.2.2.1 rr.2.2.2.2.2.2.2.1 rr.2.2.2.2.2.2.2.2.1 rr.2.2.2.2.2.2.2.2.2 T_toCome T_order T_bestOrder] A) ([.ref (aT 0)] : List Value).toArray s 0 0 A) (F0 m 26 ls []) := by
    intro n26
    induction n26 with
    | zero =>
      intro yT14_26 yT15_26 yT16_26 yT17_26 yT18_26 yT19_26 yT20_26 yT21_26 yT22_26 H locs ls hW hl hM
      rw [MX8_faultOf_l26] at hM
      cases hM
    | succ n26 ih26 =>
      intro yT14_26 yT15_26 yT16_26 yT17_26 yT18_26 yT19_26 yT20_26 yT21_26 yT22_26 H locs ls hW hl hM
      rw [MX8_faultOf_l26] at hM
      refine lv_aload_n hx hb dX8_faultOf_26 rfl (lv_at hl 0 rfl) ?_
      refine g_get X hW 0 rfl rfl inX8 14 (by decide) q_831 rfl dX8_faultOf_27 ?_
      refine lv_aload_n hx hb dX8_faultOf_30 rfl (lv_at hl 0 rfl) ?_
      refine g_get X hW 0 rfl rfl inX8 13 (by decide) q_830 rfl dX8_faultOf_31 ?_
      refine lv_icmp_ge (tgt := 54) hx hb dX8_faultOf_34 (by decide) (fun hc => ?_) (fun hc => ?_)
      · have hM := (if_pos hc).symm.trans hM
        refine lv_bipush (v := (-4 : Int32)) hx hb dX8_faultOf_54 (by decide) ?_
        obtain rfl := Option.some.inj hM
        exact g_reti X hW rfl rfl dX8_faultOf_56
      · have hM := (if_neg hc).symm.trans hM
        refine lv_aload_n hx hb dX8_faultOf_37 rfl (lv_at hl 0 rfl) ?_
        refine g_get X hW 0 rfl rfl inX8 14 (by decide) q_831 rfl dX8_faultOf_38 ?_
        refine lv_istore_n (lv' := [(1, .int yT14_26), (0, .ref (aT 0))]) hx hb dX8_faultOf_41 rfl hl (by decide) rfl (fun ls hl => ?_)
        refine lv_aload_n hx hb dX8_faultOf_42 rfl (lv_at hl 1 rfl) ?_
        obtain ⟨u43, hu43, hM⟩ := bind_some hM
        refine g_callVi (rest := []) (gr := []) X hl.1 hW (c_X8_takesItem l G cI cZ cL N aT T_w T_undoes T_kept T_persons T_family T_gives T_warm T_rumour T_seen T_seenOf T_seenBehind T_seenHas T_text T_texted yT14_26 yT15_26 yT16_26 yT17_26 yT18_26 yT19_26 yT20_26 yT21_26 yT22_26 T_toCome T_order T_bestOrder u43 hu43) q_920 q_917 q_919 q_23 q_67 hd_X8_takesItem rfl ⟨Nat.le_of_ble_eq_true rfl, Nat.le_of_ble_eq_true rfl⟩ ⟨Nat.zero_le _, Nat.zero_le _⟩ [0] [] [wMod cI cZ aT T_w T_undoes T_kept T_persons T_family T_gives T_warm T_rumour T_seen T_seenOf T_seenBehind T_seenHas T_text T_texted u43.2.1 u43.2.2.1 u43.2.2.2.1 u43.2.2.2.2.1 u43.2.2.2.2.2.1 u43.2.2.2.2.2.2.1 u43.2.2.2.2.2.2.2.1 u43.2.2.2.2.2.2.2.2.1 u43.2.2.2.2.2.2.2.2.2 T_toCome T_order T_bestOrder] ⟨pm_1_0, rfl, rfl, rfl⟩ ⟨pm_1_0, rfl, rfl, rfl⟩ (q0 := 0) rfl rfl rfl (Nat.le_of_ble_eq_true rfl) dX8_faultOf_43 (fun H locs hW => ?_)
        refine lv_if_ne (tgt := 51) hx hb dX8_faultOf_46 (by decide) (fun hc => ?_) (fun hc => ?_)
        · have hM := (if_neg hc).symm.trans hM
          refine lv_goto (tgt := 26) hx hb dX8_faultOf_51 (by decide) ?_
          exact ih26 u43.2.1 u43.2.2.1 u43.2.2.2.1 u43.2.2.2.2.1 u43.2.2.2.2.2.1 u43.2.2.2.2.2.2.1 u43.2.2.2.2.2.2.2.1 u43.2.2.2.2.2.2.2.2.1 u43.2.2.2.2.2.2.2.2.2 _ _ _ hW (lv_sub hl [1] rfl) hM
        · have hM := (if_pos hc).symm.trans hM
          refine lv_iload_n hx hb dX8_faultOf_49 rfl (lv_at hl 0 rfl) ?_
          obtain rfl := Option.some.inj hM
          exact g_reti X hW rfl rfl dX8_faultOf_50
  exact lp26 N (0 : Int32) T_number (0 : Int32) T_readKind T_readComes T_readFamily (2 : Int32) (20 : Int32) (0 : Int32) _ _ _ hW (lv_sub hl [0] rfl) hM

def MX8_fault (N : Nat) (T_text : (Nat → Int32)) (T_texted : Int32) (T_number : Int32) (T_readKind : (Nat → Int32)) (T_readComes : (Nat → Int32)) (T_readFamily : (Nat → Int32)) : Option (Int32 × Int32 × Int32 × Int32 × (Nat → Int32) × (Nat → Int32) × (Nat → Int32) × Int32 × Int32 × Int32) :=
  (MX8_faultOf N T_text T_texted T_number T_readKind T_readComes T_readFamily).bind (fun u1 => some (u1.1, u1.2.1, u1.2.2.1, u1.2.2.2.1, u1.2.2.2.2.1, u1.2.2.2.2.2.1, u1.2.2.2.2.2.2.1, u1.2.2.2.2.2.2.2.1, u1.2.2.2.2.2.2.2.2.1, u1.2.2.2.2.2.2.2.2.2))
set_option maxHeartbeats 4000000 in
set_option maxRecDepth 100000 in
theorem c_X8_fault (l : Launch) (G : va_G) (cI cZ cL : ClassId) (N : Nat) (aT : Nat → Nat) (T_w : (Nat → Int32)) (T_undoes : Int32) (T_kept : Int32) (T_persons : Int32) (T_family : (Nat → Int32)) (T_gives : Int32) (T_warm : Int32) (T_rumour : Int32) (T_seen : Int32) (T_seenOf : (Nat → Int32)) (T_seenBehind : (Nat → Int32)) (T_seenHas : (Nat → Int32)) (T_text : (Nat → Int32)) (T_texted : Int32) (T_place : Int32) (T_number : Int32) (T_readPersons : Int32) (T_readKind : (Nat → Int32)) (T_readComes : (Nat → Int32)) (T_readFamily : (Nat → Int32)) (T_readGives : Int32) (T_readWarm : Int32) (T_readRumour : Int32) (T_toCome : (Nat → Int32)) (T_order : (Nat → Int32)) (T_bestOrder : (Nat → Int32)) (rr : Int32 × Int32 × Int32 × Int32 × (Nat → Int32) × (Nat → Int32) × (Nat → Int32) × Int32 × Int32 × Int32) (hM : MX8_fault N T_text T_texted T_number T_readKind T_readComes T_readFamily = some rr) : CtI l yX8_fault cX8_fault 1 .int 5 115 G cI cZ cL [.ref (aT 0)] [wMod cI cZ aT T_w T_undoes T_kept T_persons T_family T_gives T_warm T_rumour T_seen T_seenOf T_seenBehind T_seenHas T_text T_texted T_place T_number T_readPersons T_readKind T_readComes T_readFamily T_readGives T_readWarm T_readRumour T_toCome T_order T_bestOrder] rr.1 [wMod cI cZ aT T_w T_undoes T_kept T_persons T_family T_gives T_warm T_rumour T_seen T_seenOf T_seenBehind T_seenHas T_text T_texted rr.2.1 rr.2.2.1 rr.2.2.2.1 rr.2.2.2.2.1 rr.2.2.2.2.2.1 rr.2.2.2.2.2.2.1 rr.2.2.2.2.2.2.2.1 rr.2.2.2.2.2.2.2.2.1 rr.2.2.2.2.2.2.2.2.2 T_toCome T_order T_bestOrder] := by
  refine ct_body (fun A => qI G rr.1 [wMod cI cZ aT T_w T_undoes T_kept T_persons T_family T_gives T_warm T_rumour T_seen T_seenOf T_seenBehind T_seenHas T_text T_texted rr.2.1 rr.2.2.1 rr.2.2.2.1 rr.2.2.2.2.1 rr.2.2.2.2.2.1 rr.2.2.2.2.2.2.1 rr.2.2.2.2.2.2.2.1 rr.2.2.2.2.2.2.2.2.1 rr.2.2.2.2.2.2.2.2.2 T_toCome T_order T_bestOrder] A) (by decide) (Nat.le_of_ble_eq_true rfl) (fun p e s m below meth c A ls X hW hl => ?_)
  have hx := X.1
  have hb := X.2.1
  have hts := X.2.2.2.2.2.1
  have hown := X.2.2.2.2.2.2.1
  have hl : lv_has ls 1 [(0, .ref (aT 0))] := hl
  unfold MX8_fault at hM
  refine lv_aload_n hx hb dX8_fault_0 rfl (lv_at hl 0 rfl) ?_
  obtain ⟨u1, hu1, hM⟩ := bind_some hM
  refine g_callVi (rest := []) (gr := []) X hl.1 hW (c_X8_faultOf l G cI cZ cL N aT T_w T_undoes T_kept T_persons T_family T_gives T_warm T_rumour T_seen T_seenOf T_seenBehind T_seenHas T_text T_texted T_place T_number T_readPersons T_readKind T_readComes T_readFamily T_readGives T_readWarm T_readRumour T_toCome T_order T_bestOrder u1 hu1) q_916 q_913 q_915 q_22 q_67 hd_X8_faultOf rfl ⟨Nat.le_of_ble_eq_true rfl, Nat.le_of_ble_eq_true rfl⟩ ⟨Nat.zero_le _, Nat.zero_le _⟩ [0] [] [wMod cI cZ aT T_w T_undoes T_kept T_persons T_family T_gives T_warm T_rumour T_seen T_seenOf T_seenBehind T_seenHas T_text T_texted u1.2.1 u1.2.2.1 u1.2.2.2.1 u1.2.2.2.2.1 u1.2.2.2.2.2.1 u1.2.2.2.2.2.2.1 u1.2.2.2.2.2.2.2.1 u1.2.2.2.2.2.2.2.2.1 u1.2.2.2.2.2.2.2.2.2 T_toCome T_order T_bestOrder] ⟨pm_1_0, rfl, rfl, rfl⟩ ⟨pm_1_0, rfl, rfl, rfl⟩ (q0 := 0) rfl rfl rfl (Nat.le_of_ble_eq_true rfl) dX8_fault_1 (fun H locs hW => ?_)
  obtain rfl := Option.some.inj hM
  exact g_reti X hW rfl rfl dX8_fault_4

def MX8_lay (N : Nat) (T_w : (Nat → Int32)) (T_undoes : Int32) (T_kept : Int32) (T_persons : Int32) (T_family : (Nat → Int32)) (T_gives : Int32) (T_warm : Int32) (T_rumour : Int32) (T_seen : Int32) (T_text : (Nat → Int32)) (T_texted : Int32) (T_number : Int32) (T_readKind : (Nat → Int32)) (T_readComes : (Nat → Int32)) (T_readFamily : (Nat → Int32)) : Option (Int32 × (Nat → Int32) × Int32 × Int32 × Int32 × (Nat → Int32) × Int32 × Int32 × Int32 × Int32 × Int32 × Int32 × Int32 × (Nat → Int32) × (Nat → Int32) × (Nat → Int32) × Int32 × Int32 × Int32) :=
  (MX8_faultOf N T_text T_texted T_number T_readKind T_readComes T_readFamily).bind (fun u1 => if u1.1 = (-4 : Int32) then (if u1.2.2.2.1 = 0 then some ((-2 : Int32), T_w, T_undoes, T_kept, T_persons, T_family, T_gives, T_warm, T_rumour, T_seen, u1.2.1, u1.2.2.1, u1.2.2.2.1, u1.2.2.2.2.1, u1.2.2.2.2.2.1, u1.2.2.2.2.2.2.1, u1.2.2.2.2.2.2.2.1, u1.2.2.2.2.2.2.2.2.1, u1.2.2.2.2.2.2.2.2.2) else ((MX8_begins N T_w T_family u1.2.2.2.1 u1.2.2.2.2.1 u1.2.2.2.2.2.1 u1.2.2.2.2.2.2.1 u1.2.2.2.2.2.2.2.1 u1.2.2.2.2.2.2.2.2.1 u1.2.2.2.2.2.2.2.2.2).bind (fun u20 => some (u20.2.2.2.1, u20.1, u20.2.1, u20.2.2.1, u20.2.2.2.1, u20.2.2.2.2.1, u20.2.2.2.2.2.1, u20.2.2.2.2.2.2.1, u20.2.2.2.2.2.2.2.1, u20.2.2.2.2.2.2.2.2, u1.2.1, u1.2.2.1, u1.2.2.2.1, u1.2.2.2.2.1, u1.2.2.2.2.2.1, u1.2.2.2.2.2.2.1, u1.2.2.2.2.2.2.2.1, u1.2.2.2.2.2.2.2.2.1, u1.2.2.2.2.2.2.2.2.2)))) else some ((-2 : Int32), T_w, T_undoes, T_kept, T_persons, T_family, T_gives, T_warm, T_rumour, T_seen, u1.2.1, u1.2.2.1, u1.2.2.2.1, u1.2.2.2.2.1, u1.2.2.2.2.2.1, u1.2.2.2.2.2.2.1, u1.2.2.2.2.2.2.2.1, u1.2.2.2.2.2.2.2.2.1, u1.2.2.2.2.2.2.2.2.2))
set_option maxHeartbeats 4000000 in
set_option maxRecDepth 100000 in
theorem c_X8_lay (l : Launch) (G : va_G) (cI cZ cL : ClassId) (N : Nat) (aT : Nat → Nat) (T_w : (Nat → Int32)) (T_undoes : Int32) (T_kept : Int32) (T_persons : Int32) (T_family : (Nat → Int32)) (T_gives : Int32) (T_warm : Int32) (T_rumour : Int32) (T_seen : Int32) (T_seenOf : (Nat → Int32)) (T_seenBehind : (Nat → Int32)) (T_seenHas : (Nat → Int32)) (T_text : (Nat → Int32)) (T_texted : Int32) (T_place : Int32) (T_number : Int32) (T_readPersons : Int32) (T_readKind : (Nat → Int32)) (T_readComes : (Nat → Int32)) (T_readFamily : (Nat → Int32)) (T_readGives : Int32) (T_readWarm : Int32) (T_readRumour : Int32) (T_toCome : (Nat → Int32)) (T_order : (Nat → Int32)) (T_bestOrder : (Nat → Int32)) (rr : Int32 × (Nat → Int32) × Int32 × Int32 × Int32 × (Nat → Int32) × Int32 × Int32 × Int32 × Int32 × Int32 × Int32 × Int32 × (Nat → Int32) × (Nat → Int32) × (Nat → Int32) × Int32 × Int32 × Int32) (hM : MX8_lay N T_w T_undoes T_kept T_persons T_family T_gives T_warm T_rumour T_seen T_text T_texted T_number T_readKind T_readComes T_readFamily = some rr) : CtI l yX8_lay cX8_lay 1 .int 5 115 G cI cZ cL [.ref (aT 0)] [wMod cI cZ aT T_w T_undoes T_kept T_persons T_family T_gives T_warm T_rumour T_seen T_seenOf T_seenBehind T_seenHas T_text T_texted T_place T_number T_readPersons T_readKind T_readComes T_readFamily T_readGives T_readWarm T_readRumour T_toCome T_order T_bestOrder] rr.1 [wMod cI cZ aT rr.2.1 rr.2.2.1 rr.2.2.2.1 rr.2.2.2.2.1 rr.2.2.2.2.2.1 rr.2.2.2.2.2.2.1 rr.2.2.2.2.2.2.2.1 rr.2.2.2.2.2.2.2.2.1 rr.2.2.2.2.2.2.2.2.2.1 T_seenOf T_seenBehind T_seenHas T_text T_texted rr.2.2.2.2.2.2.2.2.2.2.1 rr.2.2.2.2.2.2.2.2.2.2.2.1 rr.2.2.2.2.2.2.2.2.2.2.2.2.1 rr.2.2.2.2.2.2.2.2.2.2.2.2.2.1 rr.2.2.2.2.2.2.2.2.2.2.2.2.2.2.1 rr.2.2.2.2.2.2.2.2.2.2.2.2.2.2.2.1 rr.2.2.2.2.2.2.2.2.2.2.2.2.2.2.2.2.1 rr.2.2.2.2.2.2.2.2.2.2.2.2.2.2.2.2.2.1 rr.2.2.2.2.2.2.2.2.2.2.2.2.2.2.2.2.2.2 T_toCome T_order T_bestOrder] := by
  refine ct_body (fun A => qI G rr.1 [wMod cI cZ aT rr.2.1 rr.2.2.1 rr.2.2.2.1 rr.2.2.2.2.1 rr.2.2.2.2.2.1 rr.2.2.2.2.2.2.1 rr.2.2.2.2.2.2.2.1 rr.2.2.2.2.2.2.2.2.1 rr.2.2.2.2.2.2.2.2.2.1 T_seenOf T_seenBehind T_seenHas T_text T_texted rr.2.2.2.2.2.2.2.2.2.2.1 rr.2.2.2.2.2.2.2.2.2.2.2.1 rr.2.2.2.2.2.2.2.2.2.2.2.2.1 rr.2.2.2.2.2.2.2.2.2.2.2.2.2.1 rr.2.2.2.2.2.2.2.2.2.2.2.2.2.2.1 rr.2.2.2.2.2.2.2.2.2.2.2.2.2.2.2.1 rr.2.2.2.2.2.2.2.2.2.2.2.2.2.2.2.2.1 rr.2.2.2.2.2.2.2.2.2.2.2.2.2.2.2.2.2.1 rr.2.2.2.2.2.2.2.2.2.2.2.2.2.2.2.2.2.2 T_toCome T_order T_bestOrder] A) (by decide) (Nat.le_of_ble_eq_true rfl) (fun p e s m below meth c A ls X hW hl => ?_)
  have hx := X.1
  have hb := X.2.1
  have hts := X.2.2.2.2.2.1
  have hown := X.2.2.2.2.2.2.1
  have hl : lv_has ls 1 [(0, .ref (aT 0))] := hl
  unfold MX8_lay at hM
  refine lv_aload_n hx hb dX8_lay_0 rfl (lv_at hl 0 rfl) ?_
  obtain ⟨u1, hu1, hM⟩ := bind_some hM
  refine g_callVi (rest := []) (gr := []) X hl.1 hW (c_X8_faultOf l G cI cZ cL N aT T_w T_undoes T_kept T_persons T_family T_gives T_warm T_rumour T_seen T_seenOf T_seenBehind T_seenHas T_text T_texted T_place T_number T_readPersons T_readKind T_readComes T_readFamily T_readGives T_readWarm T_readRumour T_toCome T_order T_bestOrder u1 hu1) q_916 q_913 q_915 q_22 q_67 hd_X8_faultOf rfl ⟨Nat.le_of_ble_eq_true rfl, Nat.le_of_ble_eq_true rfl⟩ ⟨Nat.zero_le _, Nat.zero_le _⟩ [0] [] [wMod cI cZ aT T_w T_undoes T_kept T_persons T_family T_gives T_warm T_rumour T_seen T_seenOf T_seenBehind T_seenHas T_text T_texted u1.2.1 u1.2.2.1 u1.2.2.2.1 u1.2.2.2.2.1 u1.2.2.2.2.2.1 u1.2.2.2.2.2.2.1 u1.2.2.2.2.2.2.2.1 u1.2.2.2.2.2.2.2.2.1 u1.2.2.2.2.2.2.2.2.2 T_toCome T_order T_bestOrder] ⟨pm_1_0, rfl, rfl, rfl⟩ ⟨pm_1_0, rfl, rfl, rfl⟩ (q0 := 0) rfl rfl rfl (Nat.le_of_ble_eq_true rfl) dX8_lay_1 (fun H locs hW => ?_)
  refine lv_bipush (v := (-4 : Int32)) hx hb dX8_lay_4 (by decide) ?_
  refine lv_icmp_ne (tgt := 16) hx hb dX8_lay_6 (by decide) (fun hc => ?_) (fun hc => ?_)
  · have hM := (if_neg hc).symm.trans hM
    refine lv_bipush (v := (-2 : Int32)) hx hb dX8_lay_16 (by decide) ?_
    obtain rfl := Option.some.inj hM
    exact g_reti X hW rfl rfl dX8_lay_18
  · have hM := (if_pos hc).symm.trans hM
    refine lv_aload_n hx hb dX8_lay_9 rfl (lv_at hl 0 rfl) ?_
    refine g_get X hW 0 rfl rfl inX8 16 (by decide) q_833 rfl dX8_lay_10 ?_
    refine lv_if_ne (tgt := 19) hx hb dX8_lay_13 (by decide) (fun hc => ?_) (fun hc => ?_)
    · have hM := (if_neg hc).symm.trans hM
      refine lv_aload_n hx hb dX8_lay_19 rfl (lv_at hl 0 rfl) ?_
      obtain ⟨u20, hu20, hM⟩ := bind_some hM
      refine g_callVv (rest := []) (gr := []) X hl.1 hW (c_X8_begins l G cI cZ cL N aT T_w T_undoes T_kept T_persons T_family T_gives T_warm T_rumour T_seen T_seenOf T_seenBehind T_seenHas T_text T_texted u1.2.1 u1.2.2.1 u1.2.2.2.1 u1.2.2.2.2.1 u1.2.2.2.2.2.1 u1.2.2.2.2.2.2.1 u1.2.2.2.2.2.2.2.1 u1.2.2.2.2.2.2.2.2.1 u1.2.2.2.2.2.2.2.2.2 T_toCome T_order T_bestOrder u20 hu20) q_816 q_813 q_815 q_21 q_67 hd_X8_begins rfl ⟨Nat.le_of_ble_eq_true rfl, Nat.le_of_ble_eq_true rfl⟩ ⟨Nat.zero_le _, Nat.zero_le _⟩ [0] [] [wMod cI cZ aT u20.1 u20.2.1 u20.2.2.1 u20.2.2.2.1 u20.2.2.2.2.1 u20.2.2.2.2.2.1 u20.2.2.2.2.2.2.1 u20.2.2.2.2.2.2.2.1 u20.2.2.2.2.2.2.2.2 T_seenOf T_seenBehind T_seenHas T_text T_texted u1.2.1 u1.2.2.1 u1.2.2.2.1 u1.2.2.2.2.1 u1.2.2.2.2.2.1 u1.2.2.2.2.2.2.1 u1.2.2.2.2.2.2.2.1 u1.2.2.2.2.2.2.2.2.1 u1.2.2.2.2.2.2.2.2.2 T_toCome T_order T_bestOrder] ⟨pm_1_0, rfl, rfl, rfl⟩ ⟨pm_1_0, rfl, rfl, rfl⟩ (q0 := 0) rfl rfl rfl (Nat.le_of_ble_eq_true rfl) dX8_lay_20 (fun H locs hW => ?_)
      refine lv_aload_n hx hb dX8_lay_23 rfl (lv_at hl 0 rfl) ?_
      refine g_get X hW 0 rfl rfl inX8 3 (by decide) q_820 rfl dX8_lay_24 ?_
      obtain rfl := Option.some.inj hM
      exact g_reti X hW rfl rfl dX8_lay_27
    · have hM := (if_pos hc).symm.trans hM
      refine lv_bipush (v := (-2 : Int32)) hx hb dX8_lay_16 (by decide) ?_
      obtain rfl := Option.some.inj hM
      exact g_reti X hW rfl rfl dX8_lay_18

def MX8_placeOf_l2 (T_w : (Nat → Int32)) (p1 : Int32) (p2 : Int32) : Nat → Int32 → Option (Int32)
  | 0, _ => none
  | n2 + 1, x3_2 =>
    MG (p1 + (2 : Int32)) 792 (if (T_w (p1 + (2 : Int32)).toNatClampNeg) ≤ x3_2 then some ((-4 : Int32)) else (MG ((p1 + (3 : Int32)) + x3_2) 792 (if (T_w ((p1 + (3 : Int32)) + x3_2).toNatClampNeg) = p2 then some (x3_2) else ((MX8_placeOf_l2 T_w p1 p2 n2) (x3_2 + (1 : Int32))))))
def MX8_placeOf (N : Nat) (T_w : (Nat → Int32)) (p1 : Int32) (p2 : Int32) : Option (Int32) :=
  MX8_placeOf_l2 T_w p1 p2 N (0 : Int32)
set_option maxHeartbeats 4000000 in
set_option maxRecDepth 100000 in
theorem c_X8_placeOf (l : Launch) (G : va_G) (cI cZ cL : ClassId) (N : Nat) (aT : Nat → Nat) (T_w : (Nat → Int32)) (T_undoes : Int32) (T_kept : Int32) (T_persons : Int32) (T_family : (Nat → Int32)) (T_gives : Int32) (T_warm : Int32) (T_rumour : Int32) (T_seen : Int32) (T_seenOf : (Nat → Int32)) (T_seenBehind : (Nat → Int32)) (T_seenHas : (Nat → Int32)) (T_text : (Nat → Int32)) (T_texted : Int32) (T_place : Int32) (T_number : Int32) (T_readPersons : Int32) (T_readKind : (Nat → Int32)) (T_readComes : (Nat → Int32)) (T_readFamily : (Nat → Int32)) (T_readGives : Int32) (T_readWarm : Int32) (T_readRumour : Int32) (T_toCome : (Nat → Int32)) (T_order : (Nat → Int32)) (T_bestOrder : (Nat → Int32)) (p1 : Int32) (p2 : Int32) (rr : Int32) (hM : MX8_placeOf N T_w p1 p2 = some rr) : CtI l yX8_placeOf cX8_placeOf 4 .int 0 0 G cI cZ cL [.ref (aT 0), .int p1, .int p2] [wMod cI cZ aT T_w T_undoes T_kept T_persons T_family T_gives T_warm T_rumour T_seen T_seenOf T_seenBehind T_seenHas T_text T_texted T_place T_number T_readPersons T_readKind T_readComes T_readFamily T_readGives T_readWarm T_readRumour T_toCome T_order T_bestOrder] rr [wMod cI cZ aT T_w T_undoes T_kept T_persons T_family T_gives T_warm T_rumour T_seen T_seenOf T_seenBehind T_seenHas T_text T_texted T_place T_number T_readPersons T_readKind T_readComes T_readFamily T_readGives T_readWarm T_readRumour T_toCome T_order T_bestOrder] := by
  refine ct_body (fun A => qI G rr [wMod cI cZ aT T_w T_undoes T_kept T_persons T_family T_gives T_warm T_rumour T_seen T_seenOf T_seenBehind T_seenHas T_text T_texted T_place T_number T_readPersons T_readKind T_readComes T_readFamily T_readGives T_readWarm T_readRumour T_toCome T_order T_bestOrder] A) (by decide) (Nat.le_of_ble_eq_true rfl) (fun p e s m below meth c A ls X hW hl => ?_)
  have hx := X.1
  have hb := X.2.1
  have hts := X.2.2.2.2.2.1
  have hown := X.2.2.2.2.2.2.1
  have hl : lv_has ls 4 [(0, .ref (aT 0)), (1, .int p1), (2, .int p2)] := hl
  unfold MX8_placeOf at hM
  refine lv_iconst (v := (0 : Int32)) hx hb dX8_placeOf_0 (by decide) ?_
  refine lv_istore_n (lv' := [(3, .int (0 : Int32)), (0, .ref (aT 0)), (1, .int p1), (2, .int p2)]) hx hb dX8_placeOf_1 rfl hl (by decide) rfl (fun ls hl => ?_)
  have lp2 : ∀ (n2 : Nat) (x3_2 : Int32) (H : Heap) (locs : List Loc) (ls : Array Slot), Wd G A s [wMod cI cZ aT T_w T_undoes T_kept T_persons T_family T_gives T_warm T_rumour T_seen T_seenOf T_seenBehind T_seenHas T_text T_texted T_place T_number T_readPersons T_readKind T_readComes T_readFamily T_readGives T_readWarm T_readRumour T_toCome T_order T_bestOrder] H locs → lv_has ls 4 [(0, .ref (aT 0)), (1, .int p1), (2, .int p2), (3, .int x3_2)] → MX8_placeOf_l2 T_w p1 p2 n2 x3_2 = some rr → W p l e (rmO 0 0) s m ([.ref (aT 0), .int p1, .int p2] : List Value).toArray below meth c H locs 0 0 (MQ below (qI G rr [wMod cI cZ aT T_w T_undoes T_kept T_persons T_family T_gives T_warm T_rumour T_seen T_seenOf T_seenBehind T_seenHas T_text T_texted T_place T_number T_readPersons T_readKind T_readComes T_readFamily T_readGives T_readWarm T_readRumour T_toCome T_order T_bestOrder] A) ([.ref (aT 0), .int p1, .int p2] : List Value).toArray s 0 0 A) (F0 m 2 ls []) := by
    intro n2
    induction n2 with
    | zero =>
      intro x3_2 H locs ls hW hl hM
      rw [MX8_placeOf_l2] at hM
      cases hM
    | succ n2 ih2 =>
      intro x3_2 H locs ls hW hl hM
      rw [MX8_placeOf_l2] at hM
      refine lv_iload_n hx hb dX8_placeOf_2 rfl (lv_at hl 3 rfl) ?_
      refine lv_aload_n hx hb dX8_placeOf_3 rfl (lv_at hl 0 rfl) ?_
      refine g_get X hW 0 rfl rfl inX8 0 (by decide) q_817 rfl dX8_placeOf_4 ?_
      refine lv_iload_n hx hb dX8_placeOf_7 rfl (lv_at hl 1 rfl) ?_
      refine lv_iconst (v := (2 : Int32)) hx hb dX8_placeOf_8 (by decide) ?_
      refine lv_iadd hx hb dX8_placeOf_9 ?_
      obtain ⟨hi10, hM⟩ := MG_some hM
      refine g_ald X hW 1 rfl hi10 dX8_placeOf_10 ?_
      refine lv_icmp_ge (tgt := 36) hx hb dX8_placeOf_11 (by decide) (fun hc => ?_) (fun hc => ?_)
      · have hM := (if_pos hc).symm.trans hM
        refine lv_bipush (v := (-4 : Int32)) hx hb dX8_placeOf_36 (by decide) ?_
        obtain rfl := Option.some.inj hM
        exact g_reti X hW rfl rfl dX8_placeOf_38
      · have hM := (if_neg hc).symm.trans hM
        refine lv_aload_n hx hb dX8_placeOf_14 rfl (lv_at hl 0 rfl) ?_
        refine g_get X hW 0 rfl rfl inX8 0 (by decide) q_817 rfl dX8_placeOf_15 ?_
        refine lv_iload_n hx hb dX8_placeOf_18 rfl (lv_at hl 1 rfl) ?_
        refine lv_iconst (v := (3 : Int32)) hx hb dX8_placeOf_19 (by decide) ?_
        refine lv_iadd hx hb dX8_placeOf_20 ?_
        refine lv_iload_n hx hb dX8_placeOf_21 rfl (lv_at hl 3 rfl) ?_
        refine lv_iadd hx hb dX8_placeOf_22 ?_
        obtain ⟨hi23, hM⟩ := MG_some hM
        refine g_ald X hW 1 rfl hi23 dX8_placeOf_23 ?_
        refine lv_iload_n hx hb dX8_placeOf_24 rfl (lv_at hl 2 rfl) ?_
        refine lv_icmp_ne (tgt := 30) hx hb dX8_placeOf_25 (by decide) (fun hc => ?_) (fun hc => ?_)
        · have hM := (if_neg hc).symm.trans hM
          refine lv_iinc (v := x3_2 + (1 : Int32)) (lv' := [(3, .int (x3_2 + (1 : Int32))), (0, .ref (aT 0)), (1, .int p1), (2, .int p2)]) hx hb dX8_placeOf_30 hl (k := 3) rfl rfl (by decide) rfl (fun ls hl => ?_)
          refine lv_goto (tgt := 2) hx hb dX8_placeOf_33 (by decide) ?_
          exact ih2 (x3_2 + (1 : Int32)) _ _ _ hW (lv_sub hl [1, 2, 3, 0] rfl) hM
        · have hM := (if_pos hc).symm.trans hM
          refine lv_iload_n hx hb dX8_placeOf_28 rfl (lv_at hl 3 rfl) ?_
          obtain rfl := Option.some.inj hM
          exact g_reti X hW rfl rfl dX8_placeOf_29
  exact lp2 N (0 : Int32) _ _ _ hW (lv_sub hl [1, 2, 3, 0] rfl) hM

def MX8_stands_j46 (p1 : Int32) (p2 : Int32) (p3 : Int32) (yT0_46 : (Nat → Int32)) : Option ((Nat → Int32)) :=
  MG ((p1 + (3 : Int32)) + p3) 792 (MG (p1 + (2 : Int32)) 792 (MG (p1 + (2 : Int32)) 792 (MG ((p1 + (12 : Int32)) + p2) 792 (MG ((p1 + (21 : Int32)) + p2) 792 (some ((upd (upd (upd (upd yT0_46 ((p1 + (3 : Int32)) + p3).toNatClampNeg p2) (p1 + (2 : Int32)).toNatClampNeg (((upd yT0_46 ((p1 + (3 : Int32)) + p3).toNatClampNeg p2) (p1 + (2 : Int32)).toNatClampNeg) + (1 : Int32))) ((p1 + (12 : Int32)) + p2).toNatClampNeg (1 : Int32)) ((p1 + (21 : Int32)) + p2).toNatClampNeg (0 : Int32))))))))
def MX8_stands_l10 (p1 : Int32) (p2 : Int32) (p3 : Int32) : Nat → Int32 → (Nat → Int32) → Option ((Nat → Int32))
  | 0, _, _ => none
  | n10 + 1, x4_10, yT0_10 =>
    if x4_10 ≤ p3 then (MX8_stands_j46 p1 p2 p3 yT0_10) else (MG (((p1 + (3 : Int32)) + x4_10) - (1 : Int32)) 792 (MG ((p1 + (3 : Int32)) + x4_10) 792 ((MX8_stands_l10 p1 p2 p3 n10) (x4_10 + (-1 : Int32)) (upd yT0_10 ((p1 + (3 : Int32)) + x4_10).toNatClampNeg (yT0_10 (((p1 + (3 : Int32)) + x4_10) - (1 : Int32)).toNatClampNeg)))))
def MX8_stands (N : Nat) (T_w : (Nat → Int32)) (p1 : Int32) (p2 : Int32) (p3 : Int32) : Option ((Nat → Int32)) :=
  MG (p1 + (2 : Int32)) 792 (MLet (T_w (p1 + (2 : Int32)).toNatClampNeg) (fun z8 => MX8_stands_l10 p1 p2 p3 N z8 T_w))
set_option maxHeartbeats 4000000 in
set_option maxRecDepth 100000 in
theorem c_X8_stands (l : Launch) (G : va_G) (cI cZ cL : ClassId) (N : Nat) (aT : Nat → Nat) (T_w : (Nat → Int32)) (T_undoes : Int32) (T_kept : Int32) (T_persons : Int32) (T_family : (Nat → Int32)) (T_gives : Int32) (T_warm : Int32) (T_rumour : Int32) (T_seen : Int32) (T_seenOf : (Nat → Int32)) (T_seenBehind : (Nat → Int32)) (T_seenHas : (Nat → Int32)) (T_text : (Nat → Int32)) (T_texted : Int32) (T_place : Int32) (T_number : Int32) (T_readPersons : Int32) (T_readKind : (Nat → Int32)) (T_readComes : (Nat → Int32)) (T_readFamily : (Nat → Int32)) (T_readGives : Int32) (T_readWarm : Int32) (T_readRumour : Int32) (T_toCome : (Nat → Int32)) (T_order : (Nat → Int32)) (T_bestOrder : (Nat → Int32)) (p1 : Int32) (p2 : Int32) (p3 : Int32) (rr : (Nat → Int32)) (hM : MX8_stands N T_w p1 p2 p3 = some rr) : CtV l yX8_stands cX8_stands 5 0 0 G cI cZ cL [.ref (aT 0), .int p1, .int p2, .int p3] [wMod cI cZ aT T_w T_undoes T_kept T_persons T_family T_gives T_warm T_rumour T_seen T_seenOf T_seenBehind T_seenHas T_text T_texted T_place T_number T_readPersons T_readKind T_readComes T_readFamily T_readGives T_readWarm T_readRumour T_toCome T_order T_bestOrder] [wMod cI cZ aT rr T_undoes T_kept T_persons T_family T_gives T_warm T_rumour T_seen T_seenOf T_seenBehind T_seenHas T_text T_texted T_place T_number T_readPersons T_readKind T_readComes T_readFamily T_readGives T_readWarm T_readRumour T_toCome T_order T_bestOrder] := by
  refine ct_body (fun A => qV G [wMod cI cZ aT rr T_undoes T_kept T_persons T_family T_gives T_warm T_rumour T_seen T_seenOf T_seenBehind T_seenHas T_text T_texted T_place T_number T_readPersons T_readKind T_readComes T_readFamily T_readGives T_readWarm T_readRumour T_toCome T_order T_bestOrder] A) (by decide) (Nat.le_of_ble_eq_true rfl) (fun p e s m below meth c A ls X hW hl => ?_)
  have hx := X.1
  have hb := X.2.1
  have hts := X.2.2.2.2.2.1
  have hown := X.2.2.2.2.2.2.1
  have hl : lv_has ls 5 [(0, .ref (aT 0)), (1, .int p1), (2, .int p2), (3, .int p3)] := hl
  unfold MX8_stands at hM
  refine lv_aload_n hx hb dX8_stands_0 rfl (lv_at hl 0 rfl) ?_
  refine g_get X hW 0 rfl rfl inX8 0 (by decide) q_817 rfl dX8_stands_1 ?_
  refine lv_iload_n hx hb dX8_stands_4 rfl (lv_at hl 1 rfl) ?_
  refine lv_iconst (v := (2 : Int32)) hx hb dX8_stands_5 (by decide) ?_
  refine lv_iadd hx hb dX8_stands_6 ?_
  obtain ⟨hi7, hM⟩ := MG_some hM
  refine g_ald X hW 1 rfl hi7 dX8_stands_7 ?_
  refine lv_topi (fun z8 ez8 => ?_)
  have hM := MLet_some hM z8 ez8
  refine lv_istore (lv' := [(4, .int z8), (0, .ref (aT 0)), (1, .int p1), (2, .int p2), (3, .int p3)]) hx hb dX8_stands_8 hl (by decide) rfl (fun ls hl => ?_)
  have j46 : ∀ (yT0_46 : (Nat → Int32)) (H : Heap) (locs : List Loc) (ls : Array Slot), Wd G A s [wMod cI cZ aT yT0_46 T_undoes T_kept T_persons T_family T_gives T_warm T_rumour T_seen T_seenOf T_seenBehind T_seenHas T_text T_texted T_place T_number T_readPersons T_readKind T_readComes T_readFamily T_readGives T_readWarm T_readRumour T_toCome T_order T_bestOrder] H locs → lv_has ls 5 [(0, .ref (aT 0)), (1, .int p1), (2, .int p2), (3, .int p3)] → MX8_stands_j46 p1 p2 p3 yT0_46 = some rr → W p l e (rmO 0 0) s m ([.ref (aT 0), .int p1, .int p2, .int p3] : List Value).toArray below meth c H locs 0 0 (MQ below (qV G [wMod cI cZ aT rr T_undoes T_kept T_persons T_family T_gives T_warm T_rumour T_seen T_seenOf T_seenBehind T_seenHas T_text T_texted T_place T_number T_readPersons T_readKind T_readComes T_readFamily T_readGives T_readWarm T_readRumour T_toCome T_order T_bestOrder] A) ([.ref (aT 0), .int p1, .int p2, .int p3] : List Value).toArray s 0 0 A) (F0 m 46 ls []) := by
    intro yT0_46 H locs ls hW hl hM
    unfold MX8_stands_j46 at hM
    refine lv_aload_n hx hb dX8_stands_46 rfl (lv_at hl 0 rfl) ?_
    refine g_get X hW 0 rfl rfl inX8 0 (by decide) q_817 rfl dX8_stands_47 ?_
    refine lv_iload_n hx hb dX8_stands_50 rfl (lv_at hl 1 rfl) ?_
    refine lv_iconst (v := (3 : Int32)) hx hb dX8_stands_51 (by decide) ?_
    refine lv_iadd hx hb dX8_stands_52 ?_
    refine lv_iload_n hx hb dX8_stands_53 rfl (lv_at hl 3 rfl) ?_
    refine lv_iadd hx hb dX8_stands_54 ?_
    refine lv_iload_n hx hb dX8_stands_55 rfl (lv_at hl 2 rfl) ?_
    obtain ⟨hi56, hM⟩ := MG_some hM
    refine g_ast X hW 1 rfl hi56 [wMod cI cZ aT (upd yT0_46 ((p1 + (3 : Int32)) + p3).toNatClampNeg p2) T_undoes T_kept T_persons T_family T_gives T_warm T_rumour T_seen T_seenOf T_seenBehind T_seenHas T_text T_texted T_place T_number T_readPersons T_readKind T_readComes T_readFamily T_readGives T_readWarm T_readRumour T_toCome T_order T_bestOrder] rfl dX8_stands_56 (fun H locs hW => ?_)
    refine lv_aload_n hx hb dX8_stands_57 rfl (lv_at hl 0 rfl) ?_
    refine g_get X hW 0 rfl rfl inX8 0 (by decide) q_817 rfl dX8_stands_58 ?_
    refine lv_iload_n hx hb dX8_stands_61 rfl (lv_at hl 1 rfl) ?_
    refine lv_iconst (v := (2 : Int32)) hx hb dX8_stands_62 (by decide) ?_
    refine lv_iadd hx hb dX8_stands_63 ?_
    refine lv_dup2_11 hx hb dX8_stands_64 rfl rfl ?_
    obtain ⟨hi65, hM⟩ := MG_some hM
    refine g_ald X hW 1 rfl hi65 dX8_stands_65 ?_
    refine lv_iconst (v := (1 : Int32)) hx hb dX8_stands_66 (by decide) ?_
    refine lv_iadd hx hb dX8_stands_67 ?_
    obtain ⟨hi68, hM⟩ := MG_some hM
    refine g_ast X hW 1 rfl hi68 [wMod cI cZ aT (upd (upd yT0_46 ((p1 + (3 : Int32)) + p3).toNatClampNeg p2) (p1 + (2 : Int32)).toNatClampNeg (((upd yT0_46 ((p1 + (3 : Int32)) + p3).toNatClampNeg p2) (p1 + (2 : Int32)).toNatClampNeg) + (1 : Int32))) T_undoes T_kept T_persons T_family T_gives T_warm T_rumour T_seen T_seenOf T_seenBehind T_seenHas T_text T_texted T_place T_number T_readPersons T_readKind T_readComes T_readFamily T_readGives T_readWarm T_readRumour T_toCome T_order T_bestOrder] rfl dX8_stands_68 (fun H locs hW => ?_)
    refine lv_aload_n hx hb dX8_stands_69 rfl (lv_at hl 0 rfl) ?_
    refine g_get X hW 0 rfl rfl inX8 0 (by decide) q_817 rfl dX8_stands_70 ?_
    refine lv_iload_n hx hb dX8_stands_73 rfl (lv_at hl 1 rfl) ?_
    refine lv_bipush (v := (12 : Int32)) hx hb dX8_stands_74 (by decide) ?_
    refine lv_iadd hx hb dX8_stands_76 ?_
    refine lv_iload_n hx hb dX8_stands_77 rfl (lv_at hl 2 rfl) ?_
    refine lv_iadd hx hb dX8_stands_78 ?_
    refine lv_iconst (v := (1 : Int32)) hx hb dX8_stands_79 (by decide) ?_
    obtain ⟨hi80, hM⟩ := MG_some hM
    refine g_ast X hW 1 rfl hi80 [wMod cI cZ aT (upd (upd (upd yT0_46 ((p1 + (3 : Int32)) + p3).toNatClampNeg p2) (p1 + (2 : Int32)).toNatClampNeg (((upd yT0_46 ((p1 + (3 : Int32)) + p3).toNatClampNeg p2) (p1 + (2 : Int32)).toNatClampNeg) + (1 : Int32))) ((p1 + (12 : Int32)) + p2).toNatClampNeg (1 : Int32)) T_undoes T_kept T_persons T_family T_gives T_warm T_rumour T_seen T_seenOf T_seenBehind T_seenHas T_text T_texted T_place T_number T_readPersons T_readKind T_readComes T_readFamily T_readGives T_readWarm T_readRumour T_toCome T_order T_bestOrder] rfl dX8_stands_80 (fun H locs hW => ?_)
    refine lv_aload_n hx hb dX8_stands_81 rfl (lv_at hl 0 rfl) ?_
    refine g_get X hW 0 rfl rfl inX8 0 (by decide) q_817 rfl dX8_stands_82 ?_
    refine lv_iload_n hx hb dX8_stands_85 rfl (lv_at hl 1 rfl) ?_
    refine lv_bipush (v := (21 : Int32)) hx hb dX8_stands_86 (by decide) ?_
    refine lv_iadd hx hb dX8_stands_88 ?_
    refine lv_iload_n hx hb dX8_stands_89 rfl (lv_at hl 2 rfl) ?_
    refine lv_iadd hx hb dX8_stands_90 ?_
    refine lv_iconst (v := (0 : Int32)) hx hb dX8_stands_91 (by decide) ?_
    obtain ⟨hi92, hM⟩ := MG_some hM
    refine g_ast X hW 1 rfl hi92 [wMod cI cZ aT (upd (upd (upd (upd yT0_46 ((p1 + (3 : Int32)) + p3).toNatClampNeg p2) (p1 + (2 : Int32)).toNatClampNeg (((upd yT0_46 ((p1 + (3 : Int32)) + p3).toNatClampNeg p2) (p1 + (2 : Int32)).toNatClampNeg) + (1 : Int32))) ((p1 + (12 : Int32)) + p2).toNatClampNeg (1 : Int32)) ((p1 + (21 : Int32)) + p2).toNatClampNeg (0 : Int32)) T_undoes T_kept T_persons T_family T_gives T_warm T_rumour T_seen T_seenOf T_seenBehind T_seenHas T_text T_texted T_place T_number T_readPersons T_readKind T_readComes T_readFamily T_readGives T_readWarm T_readRumour T_toCome T_order T_bestOrder] rfl dX8_stands_92 (fun H locs hW => ?_)
    obtain rfl := Option.some.inj hM
    exact g_retv X hW dX8_stands_93
  have lp10 : ∀ (n10 : Nat) (x4_10 : Int32) (yT0_10 : (Nat → Int32)) (H : Heap) (locs : List Loc) (ls : Array Slot), Wd G A s [wMod cI cZ aT yT0_10 T_undoes T_kept T_persons T_family T_gives T_warm T_rumour T_seen T_seenOf T_seenBehind T_seenHas T_text T_texted T_place T_number T_readPersons T_readKind T_readComes T_readFamily T_readGives T_readWarm T_readRumour T_toCome T_order T_bestOrder] H locs → lv_has ls 5 [(0, .ref (aT 0)), (1, .int p1), (2, .int p2), (3, .int p3), (4, .int x4_10)] → MX8_stands_l10 p1 p2 p3 n10 x4_10 yT0_10 = some rr → W p l e (rmO 0 0) s m ([.ref (aT 0), .int p1, .int p2, .int p3] : List Value).toArray below meth c H locs 0 0 (MQ below (qV G [wMod cI cZ aT rr T_undoes T_kept T_persons T_family T_gives T_warm T_rumour T_seen T_seenOf T_seenBehind T_seenHas T_text T_texted T_place T_number T_readPersons T_readKind T_readComes T_readFamily T_readGives T_readWarm T_readRumour T_toCome T_order T_bestOrder] A) ([.ref (aT 0), .int p1, .int p2, .int p3] : List Value).toArray s 0 0 A) (F0 m 10 ls []) := by
    intro n10
    induction n10 with
    | zero =>
      intro x4_10 yT0_10 H locs ls hW hl hM
      rw [MX8_stands_l10] at hM
      cases hM
    | succ n10 ih10 =>
      intro x4_10 yT0_10 H locs ls hW hl hM
      rw [MX8_stands_l10] at hM
      refine lv_iload hx hb dX8_stands_10 (lv_at hl 4 rfl) ?_
      refine lv_iload_n hx hb dX8_stands_12 rfl (lv_at hl 3 rfl) ?_
      refine lv_icmp_le (tgt := 46) hx hb dX8_stands_13 (by decide) (fun hc => ?_) (fun hc => ?_)
      · have hM := (if_pos hc).symm.trans hM
        exact j46 yT0_10 _ _ _ hW (lv_sub hl [0, 1, 2, 3] rfl) hM
      · have hM := (if_neg hc).symm.trans hM
        refine lv_aload_n hx hb dX8_stands_16 rfl (lv_at hl 0 rfl) ?_
        refine g_get X hW 0 rfl rfl inX8 0 (by decide) q_817 rfl dX8_stands_17 ?_
        refine lv_iload_n hx hb dX8_stands_20 rfl (lv_at hl 1 rfl) ?_
        refine lv_iconst (v := (3 : Int32)) hx hb dX8_stands_21 (by decide) ?_
        refine lv_iadd hx hb dX8_stands_22 ?_
        refine lv_iload hx hb dX8_stands_23 (lv_at hl 4 rfl) ?_
        refine lv_iadd hx hb dX8_stands_25 ?_
        refine lv_aload_n hx hb dX8_stands_26 rfl (lv_at hl 0 rfl) ?_
        refine g_get X hW 0 rfl rfl inX8 0 (by decide) q_817 rfl dX8_stands_27 ?_
        refine lv_iload_n hx hb dX8_stands_30 rfl (lv_at hl 1 rfl) ?_
        refine lv_iconst (v := (3 : Int32)) hx hb dX8_stands_31 (by decide) ?_
        refine lv_iadd hx hb dX8_stands_32 ?_
        refine lv_iload hx hb dX8_stands_33 (lv_at hl 4 rfl) ?_
        refine lv_iadd hx hb dX8_stands_35 ?_
        refine lv_iconst (v := (1 : Int32)) hx hb dX8_stands_36 (by decide) ?_
        refine lv_isub hx hb dX8_stands_37 ?_
        obtain ⟨hi38, hM⟩ := MG_some hM
        refine g_ald X hW 1 rfl hi38 dX8_stands_38 ?_
        obtain ⟨hi39, hM⟩ := MG_some hM
        refine g_ast X hW 1 rfl hi39 [wMod cI cZ aT (upd yT0_10 ((p1 + (3 : Int32)) + x4_10).toNatClampNeg (yT0_10 (((p1 + (3 : Int32)) + x4_10) - (1 : Int32)).toNatClampNeg)) T_undoes T_kept T_persons T_family T_gives T_warm T_rumour T_seen T_seenOf T_seenBehind T_seenHas T_text T_texted T_place T_number T_readPersons T_readKind T_readComes T_readFamily T_readGives T_readWarm T_readRumour T_toCome T_order T_bestOrder] rfl dX8_stands_39 (fun H locs hW => ?_)
        refine lv_iinc (v := x4_10 + (-1 : Int32)) (lv' := [(4, .int (x4_10 + (-1 : Int32))), (0, .ref (aT 0)), (1, .int p1), (2, .int p2), (3, .int p3)]) hx hb dX8_stands_40 hl (k := 4) rfl rfl (by decide) rfl (fun ls hl => ?_)
        refine lv_goto (tgt := 10) hx hb dX8_stands_43 (by decide) ?_
        exact ih10 (x4_10 + (-1 : Int32)) (upd yT0_10 ((p1 + (3 : Int32)) + x4_10).toNatClampNeg (yT0_10 (((p1 + (3 : Int32)) + x4_10) - (1 : Int32)).toNatClampNeg)) _ _ _ hW (lv_sub hl [1, 2, 3, 4, 0] rfl) hM
  exact lp10 N z8 T_w _ _ _ hW (lv_sub hl [1, 2, 3, 4, 0] rfl) hM

def MX8_goes_j53 (p1 : Int32) (p2 : Int32) (p3 : Int32) (yT0_53 : (Nat → Int32)) : Option ((Nat → Int32)) :=
  MG (p1 + (2 : Int32)) 792 (MG (p1 + (2 : Int32)) 792 (MG ((p1 + (12 : Int32)) + p2) 792 (MG ((p1 + (21 : Int32)) + p2) 792 (some ((upd (upd (upd yT0_53 (p1 + (2 : Int32)).toNatClampNeg ((yT0_53 (p1 + (2 : Int32)).toNatClampNeg) - (1 : Int32))) ((p1 + (12 : Int32)) + p2).toNatClampNeg p3) ((p1 + (21 : Int32)) + p2).toNatClampNeg (0 : Int32)))))))
def MX8_goes_l8 (p1 : Int32) (p2 : Int32) (p3 : Int32) : Nat → Int32 → (Nat → Int32) → Option ((Nat → Int32))
  | 0, _, _ => none
  | n8 + 1, x4_8, yT0_8 =>
    MG (p1 + (2 : Int32)) 792 (if ((yT0_8 (p1 + (2 : Int32)).toNatClampNeg) - (1 : Int32)) ≤ x4_8 then (MX8_goes_j53 p1 p2 p3 yT0_8) else (MG (((p1 + (3 : Int32)) + x4_8) + (1 : Int32)) 792 (MG ((p1 + (3 : Int32)) + x4_8) 792 ((MX8_goes_l8 p1 p2 p3 n8) (x4_8 + (1 : Int32)) (upd yT0_8 ((p1 + (3 : Int32)) + x4_8).toNatClampNeg (yT0_8 (((p1 + (3 : Int32)) + x4_8) + (1 : Int32)).toNatClampNeg))))))
def MX8_goes (N : Nat) (T_w : (Nat → Int32)) (p1 : Int32) (p2 : Int32) (p3 : Int32) : Option ((Nat → Int32)) :=
  (MX8_placeOf N T_w p1 p2).bind (fun u3 => MX8_goes_l8 p1 p2 p3 N u3 T_w)
set_option maxHeartbeats 4000000 in
set_option maxRecDepth 100000 in
theorem c_X8_goes (l : Launch) (G : va_G) (cI cZ cL : ClassId) (N : Nat) (aT : Nat → Nat) (T_w : (Nat → Int32)) (T_undoes : Int32) (T_kept : Int32) (T_persons : Int32) (T_family : (Nat → Int32)) (T_gives : Int32) (T_warm : Int32) (T_rumour : Int32) (T_seen : Int32) (T_seenOf : (Nat → Int32)) (T_seenBehind : (Nat → Int32)) (T_seenHas : (Nat → Int32)) (T_text : (Nat → Int32)) (T_texted : Int32) (T_place : Int32) (T_number : Int32) (T_readPersons : Int32) (T_readKind : (Nat → Int32)) (T_readComes : (Nat → Int32)) (T_readFamily : (Nat → Int32)) (T_readGives : Int32) (T_readWarm : Int32) (T_readRumour : Int32) (T_toCome : (Nat → Int32)) (T_order : (Nat → Int32)) (T_bestOrder : (Nat → Int32)) (p1 : Int32) (p2 : Int32) (p3 : Int32) (rr : (Nat → Int32)) (hM : MX8_goes N T_w p1 p2 p3 = some rr) : CtV l yX8_goes cX8_goes 5 1 23 G cI cZ cL [.ref (aT 0), .int p1, .int p2, .int p3] [wMod cI cZ aT T_w T_undoes T_kept T_persons T_family T_gives T_warm T_rumour T_seen T_seenOf T_seenBehind T_seenHas T_text T_texted T_place T_number T_readPersons T_readKind T_readComes T_readFamily T_readGives T_readWarm T_readRumour T_toCome T_order T_bestOrder] [wMod cI cZ aT rr T_undoes T_kept T_persons T_family T_gives T_warm T_rumour T_seen T_seenOf T_seenBehind T_seenHas T_text T_texted T_place T_number T_readPersons T_readKind T_readComes T_readFamily T_readGives T_readWarm T_readRumour T_toCome T_order T_bestOrder] := by
  refine ct_body (fun A => qV G [wMod cI cZ aT rr T_undoes T_kept T_persons T_family T_gives T_warm T_rumour T_seen T_seenOf T_seenBehind T_seenHas T_text T_texted T_place T_number T_readPersons T_readKind T_readComes T_readFamily T_readGives T_readWarm T_readRumour T_toCome T_order T_bestOrder] A) (by decide) (Nat.le_of_ble_eq_true rfl) (fun p e s m below meth c A ls X hW hl => ?_)
  have hx := X.1
  have hb := X.2.1
  have hts := X.2.2.2.2.2.1
  have hown := X.2.2.2.2.2.2.1
  have hl : lv_has ls 5 [(0, .ref (aT 0)), (1, .int p1), (2, .int p2), (3, .int p3)] := hl
  unfold MX8_goes at hM
  refine lv_aload_n hx hb dX8_goes_0 rfl (lv_at hl 0 rfl) ?_
  refine lv_iload_n hx hb dX8_goes_1 rfl (lv_at hl 1 rfl) ?_
  refine lv_iload_n hx hb dX8_goes_2 rfl (lv_at hl 2 rfl) ?_
  obtain ⟨u3, hu3, hM⟩ := bind_some hM
  refine g_callVi (rest := []) (gr := []) X hl.1 hW (c_X8_placeOf l G cI cZ cL N aT T_w T_undoes T_kept T_persons T_family T_gives T_warm T_rumour T_seen T_seenOf T_seenBehind T_seenHas T_text T_texted T_place T_number T_readPersons T_readKind T_readComes T_readFamily T_readGives T_readWarm T_readRumour T_toCome T_order T_bestOrder p1 p2 u3 hu3) q_958 q_955 q_957 q_30 q_67 hd_X8_placeOf rfl ⟨Nat.le_of_ble_eq_true rfl, Nat.le_of_ble_eq_true rfl⟩ ⟨Nat.zero_le _, Nat.zero_le _⟩ [0] [] [wMod cI cZ aT T_w T_undoes T_kept T_persons T_family T_gives T_warm T_rumour T_seen T_seenOf T_seenBehind T_seenHas T_text T_texted T_place T_number T_readPersons T_readKind T_readComes T_readFamily T_readGives T_readWarm T_readRumour T_toCome T_order T_bestOrder] ⟨pm_1_0, rfl, rfl, rfl⟩ ⟨pm_1_0, rfl, rfl, rfl⟩ (q0 := 0) rfl rfl rfl (Nat.le_of_ble_eq_true rfl) dX8_goes_3 (fun H locs hW => ?_)
  refine lv_istore (lv' := [(4, .int u3), (0, .ref (aT 0)), (1, .int p1), (2, .int p2), (3, .int p3)]) hx hb dX8_goes_6 hl (by decide) rfl (fun ls hl => ?_)
  have j53 : ∀ (yT0_53 : (Nat → Int32)) (H : Heap) (locs : List Loc) (ls : Array Slot), Wd G A s [wMod cI cZ aT yT0_53 T_undoes T_kept T_persons T_family T_gives T_warm T_rumour T_seen T_seenOf T_seenBehind T_seenHas T_text T_texted T_place T_number T_readPersons T_readKind T_readComes T_readFamily T_readGives T_readWarm T_readRumour T_toCome T_order T_bestOrder] H locs → lv_has ls 5 [(0, .ref (aT 0)), (1, .int p1), (2, .int p2), (3, .int p3)] → MX8_goes_j53 p1 p2 p3 yT0_53 = some rr → W p l e (rmO 1 23) s m ([.ref (aT 0), .int p1, .int p2, .int p3] : List Value).toArray below meth c H locs 0 0 (MQ below (qV G [wMod cI cZ aT rr T_undoes T_kept T_persons T_family T_gives T_warm T_rumour T_seen T_seenOf T_seenBehind T_seenHas T_text T_texted T_place T_number T_readPersons T_readKind T_readComes T_readFamily T_readGives T_readWarm T_readRumour T_toCome T_order T_bestOrder] A) ([.ref (aT 0), .int p1, .int p2, .int p3] : List Value).toArray s 0 0 A) (F0 m 53 ls []) := by
    intro yT0_53 H locs ls hW hl hM
    unfold MX8_goes_j53 at hM
    refine lv_aload_n hx hb dX8_goes_53 rfl (lv_at hl 0 rfl) ?_
    refine g_get X hW 0 rfl rfl inX8 0 (by decide) q_817 rfl dX8_goes_54 ?_
    refine lv_iload_n hx hb dX8_goes_57 rfl (lv_at hl 1 rfl) ?_
    refine lv_iconst (v := (2 : Int32)) hx hb dX8_goes_58 (by decide) ?_
    refine lv_iadd hx hb dX8_goes_59 ?_
    refine lv_dup2_11 hx hb dX8_goes_60 rfl rfl ?_
    obtain ⟨hi61, hM⟩ := MG_some hM
    refine g_ald X hW 1 rfl hi61 dX8_goes_61 ?_
    refine lv_iconst (v := (1 : Int32)) hx hb dX8_goes_62 (by decide) ?_
    refine lv_isub hx hb dX8_goes_63 ?_
    obtain ⟨hi64, hM⟩ := MG_some hM
    refine g_ast X hW 1 rfl hi64 [wMod cI cZ aT (upd yT0_53 (p1 + (2 : Int32)).toNatClampNeg ((yT0_53 (p1 + (2 : Int32)).toNatClampNeg) - (1 : Int32))) T_undoes T_kept T_persons T_family T_gives T_warm T_rumour T_seen T_seenOf T_seenBehind T_seenHas T_text T_texted T_place T_number T_readPersons T_readKind T_readComes T_readFamily T_readGives T_readWarm T_readRumour T_toCome T_order T_bestOrder] rfl dX8_goes_64 (fun H locs hW => ?_)
    refine lv_aload_n hx hb dX8_goes_65 rfl (lv_at hl 0 rfl) ?_
    refine g_get X hW 0 rfl rfl inX8 0 (by decide) q_817 rfl dX8_goes_66 ?_
    refine lv_iload_n hx hb dX8_goes_69 rfl (lv_at hl 1 rfl) ?_
    refine lv_bipush (v := (12 : Int32)) hx hb dX8_goes_70 (by decide) ?_
    refine lv_iadd hx hb dX8_goes_72 ?_
    refine lv_iload_n hx hb dX8_goes_73 rfl (lv_at hl 2 rfl) ?_
    refine lv_iadd hx hb dX8_goes_74 ?_
    refine lv_iload_n hx hb dX8_goes_75 rfl (lv_at hl 3 rfl) ?_
    obtain ⟨hi76, hM⟩ := MG_some hM
    refine g_ast X hW 1 rfl hi76 [wMod cI cZ aT (upd (upd yT0_53 (p1 + (2 : Int32)).toNatClampNeg ((yT0_53 (p1 + (2 : Int32)).toNatClampNeg) - (1 : Int32))) ((p1 + (12 : Int32)) + p2).toNatClampNeg p3) T_undoes T_kept T_persons T_family T_gives T_warm T_rumour T_seen T_seenOf T_seenBehind T_seenHas T_text T_texted T_place T_number T_readPersons T_readKind T_readComes T_readFamily T_readGives T_readWarm T_readRumour T_toCome T_order T_bestOrder] rfl dX8_goes_76 (fun H locs hW => ?_)
    refine lv_aload_n hx hb dX8_goes_77 rfl (lv_at hl 0 rfl) ?_
    refine g_get X hW 0 rfl rfl inX8 0 (by decide) q_817 rfl dX8_goes_78 ?_
    refine lv_iload_n hx hb dX8_goes_81 rfl (lv_at hl 1 rfl) ?_
    refine lv_bipush (v := (21 : Int32)) hx hb dX8_goes_82 (by decide) ?_
    refine lv_iadd hx hb dX8_goes_84 ?_
    refine lv_iload_n hx hb dX8_goes_85 rfl (lv_at hl 2 rfl) ?_
    refine lv_iadd hx hb dX8_goes_86 ?_
    refine lv_iconst (v := (0 : Int32)) hx hb dX8_goes_87 (by decide) ?_
    obtain ⟨hi88, hM⟩ := MG_some hM
    refine g_ast X hW 1 rfl hi88 [wMod cI cZ aT (upd (upd (upd yT0_53 (p1 + (2 : Int32)).toNatClampNeg ((yT0_53 (p1 + (2 : Int32)).toNatClampNeg) - (1 : Int32))) ((p1 + (12 : Int32)) + p2).toNatClampNeg p3) ((p1 + (21 : Int32)) + p2).toNatClampNeg (0 : Int32)) T_undoes T_kept T_persons T_family T_gives T_warm T_rumour T_seen T_seenOf T_seenBehind T_seenHas T_text T_texted T_place T_number T_readPersons T_readKind T_readComes T_readFamily T_readGives T_readWarm T_readRumour T_toCome T_order T_bestOrder] rfl dX8_goes_88 (fun H locs hW => ?_)
    obtain rfl := Option.some.inj hM
    exact g_retv X hW dX8_goes_89
  have lp8 : ∀ (n8 : Nat) (x4_8 : Int32) (yT0_8 : (Nat → Int32)) (H : Heap) (locs : List Loc) (ls : Array Slot), Wd G A s [wMod cI cZ aT yT0_8 T_undoes T_kept T_persons T_family T_gives T_warm T_rumour T_seen T_seenOf T_seenBehind T_seenHas T_text T_texted T_place T_number T_readPersons T_readKind T_readComes T_readFamily T_readGives T_readWarm T_readRumour T_toCome T_order T_bestOrder] H locs → lv_has ls 5 [(0, .ref (aT 0)), (1, .int p1), (2, .int p2), (3, .int p3), (4, .int x4_8)] → MX8_goes_l8 p1 p2 p3 n8 x4_8 yT0_8 = some rr → W p l e (rmO 1 23) s m ([.ref (aT 0), .int p1, .int p2, .int p3] : List Value).toArray below meth c H locs 0 0 (MQ below (qV G [wMod cI cZ aT rr T_undoes T_kept T_persons T_family T_gives T_warm T_rumour T_seen T_seenOf T_seenBehind T_seenHas T_text T_texted T_place T_number T_readPersons T_readKind T_readComes T_readFamily T_readGives T_readWarm T_readRumour T_toCome T_order T_bestOrder] A) ([.ref (aT 0), .int p1, .int p2, .int p3] : List Value).toArray s 0 0 A) (F0 m 8 ls []) := by
    intro n8
    induction n8 with
    | zero =>
      intro x4_8 yT0_8 H locs ls hW hl hM
      rw [MX8_goes_l8] at hM
      cases hM
    | succ n8 ih8 =>
      intro x4_8 yT0_8 H locs ls hW hl hM
      rw [MX8_goes_l8] at hM
      refine lv_iload hx hb dX8_goes_8 (lv_at hl 4 rfl) ?_
      refine lv_aload_n hx hb dX8_goes_10 rfl (lv_at hl 0 rfl) ?_
      refine g_get X hW 0 rfl rfl inX8 0 (by decide) q_817 rfl dX8_goes_11 ?_
      refine lv_iload_n hx hb dX8_goes_14 rfl (lv_at hl 1 rfl) ?_
      refine lv_iconst (v := (2 : Int32)) hx hb dX8_goes_15 (by decide) ?_
      refine lv_iadd hx hb dX8_goes_16 ?_
      obtain ⟨hi17, hM⟩ := MG_some hM
      refine g_ald X hW 1 rfl hi17 dX8_goes_17 ?_
      refine lv_iconst (v := (1 : Int32)) hx hb dX8_goes_18 (by decide) ?_
      refine lv_isub hx hb dX8_goes_19 ?_
      refine lv_icmp_ge (tgt := 53) hx hb dX8_goes_20 (by decide) (fun hc => ?_) (fun hc => ?_)
      · have hM := (if_pos hc).symm.trans hM
        exact j53 yT0_8 _ _ _ hW (lv_sub hl [0, 1, 2, 3] rfl) hM
      · have hM := (if_neg hc).symm.trans hM
        refine lv_aload_n hx hb dX8_goes_23 rfl (lv_at hl 0 rfl) ?_
        refine g_get X hW 0 rfl rfl inX8 0 (by decide) q_817 rfl dX8_goes_24 ?_
        refine lv_iload_n hx hb dX8_goes_27 rfl (lv_at hl 1 rfl) ?_
        refine lv_iconst (v := (3 : Int32)) hx hb dX8_goes_28 (by decide) ?_
        refine lv_iadd hx hb dX8_goes_29 ?_
        refine lv_iload hx hb dX8_goes_30 (lv_at hl 4 rfl) ?_
        refine lv_iadd hx hb dX8_goes_32 ?_
        refine lv_aload_n hx hb dX8_goes_33 rfl (lv_at hl 0 rfl) ?_
        refine g_get X hW 0 rfl rfl inX8 0 (by decide) q_817 rfl dX8_goes_34 ?_
        refine lv_iload_n hx hb dX8_goes_37 rfl (lv_at hl 1 rfl) ?_
        refine lv_iconst (v := (3 : Int32)) hx hb dX8_goes_38 (by decide) ?_
        refine lv_iadd hx hb dX8_goes_39 ?_
        refine lv_iload hx hb dX8_goes_40 (lv_at hl 4 rfl) ?_
        refine lv_iadd hx hb dX8_goes_42 ?_
        refine lv_iconst (v := (1 : Int32)) hx hb dX8_goes_43 (by decide) ?_
        refine lv_iadd hx hb dX8_goes_44 ?_
        obtain ⟨hi45, hM⟩ := MG_some hM
        refine g_ald X hW 1 rfl hi45 dX8_goes_45 ?_
        obtain ⟨hi46, hM⟩ := MG_some hM
        refine g_ast X hW 1 rfl hi46 [wMod cI cZ aT (upd yT0_8 ((p1 + (3 : Int32)) + x4_8).toNatClampNeg (yT0_8 (((p1 + (3 : Int32)) + x4_8) + (1 : Int32)).toNatClampNeg)) T_undoes T_kept T_persons T_family T_gives T_warm T_rumour T_seen T_seenOf T_seenBehind T_seenHas T_text T_texted T_place T_number T_readPersons T_readKind T_readComes T_readFamily T_readGives T_readWarm T_readRumour T_toCome T_order T_bestOrder] rfl dX8_goes_46 (fun H locs hW => ?_)
        refine lv_iinc (v := x4_8 + (1 : Int32)) (lv' := [(4, .int (x4_8 + (1 : Int32))), (0, .ref (aT 0)), (1, .int p1), (2, .int p2), (3, .int p3)]) hx hb dX8_goes_47 hl (k := 4) rfl rfl (by decide) rfl (fun ls hl => ?_)
        refine lv_goto (tgt := 8) hx hb dX8_goes_50 (by decide) ?_
        exact ih8 (x4_8 + (1 : Int32)) (upd yT0_8 ((p1 + (3 : Int32)) + x4_8).toNatClampNeg (yT0_8 (((p1 + (3 : Int32)) + x4_8) + (1 : Int32)).toNatClampNeg)) _ _ _ hW (lv_sub hl [1, 2, 3, 4, 0] rfl) hM
  exact lp8 N u3 T_w _ _ _ hW (lv_sub hl [1, 2, 3, 4, 0] rfl) hM

def MX8_joins_j90 (N : Nat) (T_w : (Nat → Int32)) (p1 : Int32) (p2 : Int32) (t3_90 : Int32) : Option ((Nat → Int32)) :=
  (MX8_stands N T_w p1 p2 t3_90).bind (fun u90 => some (u90))
def MX8_joins_j75 (N : Nat) (T_w : (Nat → Int32)) (p1 : Int32) (p2 : Int32) (t0_75 : Int32) : Option ((Nat → Int32)) :=
  if t0_75 = 0 then MX8_joins_j90 N T_w p1 p2 (0 : Int32) else MX8_joins_j90 N T_w p1 p2 (1 : Int32)
def MX8_joins_j74 (N : Nat) (T_w : (Nat → Int32)) (p1 : Int32) (p2 : Int32) : Option ((Nat → Int32)) :=
  MX8_joins_j75 N T_w p1 p2 (0 : Int32)
def MX8_joins_j70 (N : Nat) (T_w : (Nat → Int32)) (p1 : Int32) (p2 : Int32) : Option ((Nat → Int32)) :=
  MX8_joins_j75 N T_w p1 p2 (1 : Int32)
def MX8_joins_j24 (N : Nat) (T_w : (Nat → Int32)) (T_family : (Nat → Int32)) (p1 : Int32) (p2 : Int32) (t0_24 : Int32) : Option ((Nat → Int32)) :=
  if t0_24 = (-4 : Int32) then (MX8_joins_j74 N T_w p1 p2) else (MG ((p1 + (57 : Int32)) + t0_24) 792 (if (T_w ((p1 + (57 : Int32)) + t0_24).toNatClampNeg) = (1 : Int32) then MG p2 9 (if (T_family p2.toNatClampNeg) = 0 then (MX8_joins_j70 N T_w p1 p2) else MG p2 9 (MG t0_24 9 (if (T_family p2.toNatClampNeg) = (T_family t0_24.toNatClampNeg) then (MX8_joins_j74 N T_w p1 p2) else (MX8_joins_j70 N T_w p1 p2)))) else (MX8_joins_j74 N T_w p1 p2)))
def MX8_joins (N : Nat) (T_w : (Nat → Int32)) (T_family : (Nat → Int32)) (p1 : Int32) (p2 : Int32) : Option ((Nat → Int32)) :=
  MG (p1 + (2 : Int32)) 792 (if (T_w (p1 + (2 : Int32)).toNatClampNeg) = 0 then MX8_joins_j24 N T_w T_family p1 p2 (-4 : Int32) else (MG (p1 + (3 : Int32)) 792 (MX8_joins_j24 N T_w T_family p1 p2 (T_w (p1 + (3 : Int32)).toNatClampNeg))))
set_option maxHeartbeats 4000000 in
set_option maxRecDepth 100000 in
theorem c_X8_joins (l : Launch) (G : va_G) (cI cZ cL : ClassId) (N : Nat) (aT : Nat → Nat) (T_w : (Nat → Int32)) (T_undoes : Int32) (T_kept : Int32) (T_persons : Int32) (T_family : (Nat → Int32)) (T_gives : Int32) (T_warm : Int32) (T_rumour : Int32) (T_seen : Int32) (T_seenOf : (Nat → Int32)) (T_seenBehind : (Nat → Int32)) (T_seenHas : (Nat → Int32)) (T_text : (Nat → Int32)) (T_texted : Int32) (T_place : Int32) (T_number : Int32) (T_readPersons : Int32) (T_readKind : (Nat → Int32)) (T_readComes : (Nat → Int32)) (T_readFamily : (Nat → Int32)) (T_readGives : Int32) (T_readWarm : Int32) (T_readRumour : Int32) (T_toCome : (Nat → Int32)) (T_order : (Nat → Int32)) (T_bestOrder : (Nat → Int32)) (p1 : Int32) (p2 : Int32) (rr : (Nat → Int32)) (hM : MX8_joins N T_w T_family p1 p2 = some rr) : CtV l yX8_joins cX8_joins 5 1 24 G cI cZ cL [.ref (aT 0), .int p1, .int p2] [wMod cI cZ aT T_w T_undoes T_kept T_persons T_family T_gives T_warm T_rumour T_seen T_seenOf T_seenBehind T_seenHas T_text T_texted T_place T_number T_readPersons T_readKind T_readComes T_readFamily T_readGives T_readWarm T_readRumour T_toCome T_order T_bestOrder] [wMod cI cZ aT rr T_undoes T_kept T_persons T_family T_gives T_warm T_rumour T_seen T_seenOf T_seenBehind T_seenHas T_text T_texted T_place T_number T_readPersons T_readKind T_readComes T_readFamily T_readGives T_readWarm T_readRumour T_toCome T_order T_bestOrder] := by
  refine ct_body (fun A => qV G [wMod cI cZ aT rr T_undoes T_kept T_persons T_family T_gives T_warm T_rumour T_seen T_seenOf T_seenBehind T_seenHas T_text T_texted T_place T_number T_readPersons T_readKind T_readComes T_readFamily T_readGives T_readWarm T_readRumour T_toCome T_order T_bestOrder] A) (by decide) (Nat.le_of_ble_eq_true rfl) (fun p e s m below meth c A ls X hW hl => ?_)
  have hx := X.1
  have hb := X.2.1
  have hts := X.2.2.2.2.2.1
  have hown := X.2.2.2.2.2.2.1
  have hl : lv_has ls 5 [(0, .ref (aT 0)), (1, .int p1), (2, .int p2)] := hl
  unfold MX8_joins at hM
  refine lv_aload_n hx hb dX8_joins_0 rfl (lv_at hl 0 rfl) ?_
  refine g_get X hW 0 rfl rfl inX8 0 (by decide) q_817 rfl dX8_joins_1 ?_
  refine lv_iload_n hx hb dX8_joins_4 rfl (lv_at hl 1 rfl) ?_
  refine lv_iconst (v := (2 : Int32)) hx hb dX8_joins_5 (by decide) ?_
  refine lv_iadd hx hb dX8_joins_6 ?_
  obtain ⟨hi7, hM⟩ := MG_some hM
  refine g_ald X hW 1 rfl hi7 dX8_joins_7 ?_
  have j24 : ∀ (t0_24 : Int32) (H : Heap) (locs : List Loc) (ls : Array Slot), Wd G A s [wMod cI cZ aT T_w T_undoes T_kept T_persons T_family T_gives T_warm T_rumour T_seen T_seenOf T_seenBehind T_seenHas T_text T_texted T_place T_number T_readPersons T_readKind T_readComes T_readFamily T_readGives T_readWarm T_readRumour T_toCome T_order T_bestOrder] H locs → lv_has ls 5 [(0, .ref (aT 0)), (1, .int p1), (2, .int p2)] → MX8_joins_j24 N T_w T_family p1 p2 t0_24 = some rr → W p l e (rmO 1 24) s m ([.ref (aT 0), .int p1, .int p2] : List Value).toArray below meth c H locs 0 0 (MQ below (qV G [wMod cI cZ aT rr T_undoes T_kept T_persons T_family T_gives T_warm T_rumour T_seen T_seenOf T_seenBehind T_seenHas T_text T_texted T_place T_number T_readPersons T_readKind T_readComes T_readFamily T_readGives T_readWarm T_readRumour T_toCome T_order T_bestOrder] A) ([.ref (aT 0), .int p1, .int p2] : List Value).toArray s 0 0 A) (F0 m 24 ls [.int t0_24]) := by
    intro t0_24 H locs ls hW hl hM
    unfold MX8_joins_j24 at hM
    refine lv_istore_n (lv' := [(3, .int t0_24), (0, .ref (aT 0)), (1, .int p1), (2, .int p2)]) hx hb dX8_joins_24 rfl hl (by decide) rfl (fun ls hl => ?_)
    refine lv_iload_n hx hb dX8_joins_25 rfl (lv_at hl 0 rfl) ?_
    refine lv_bipush (v := (-4 : Int32)) hx hb dX8_joins_26 (by decide) ?_
    have j75 : ∀ (t0_75 : Int32) (H : Heap) (locs : List Loc) (ls : Array Slot), Wd G A s [wMod cI cZ aT T_w T_undoes T_kept T_persons T_family T_gives T_warm T_rumour T_seen T_seenOf T_seenBehind T_seenHas T_text T_texted T_place T_number T_readPersons T_readKind T_readComes T_readFamily T_readGives T_readWarm T_readRumour T_toCome T_order T_bestOrder] H locs → lv_has ls 5 [(0, .ref (aT 0)), (1, .int p1), (2, .int p2)] → MX8_joins_j75 N T_w p1 p2 t0_75 = some rr → W p l e (rmO 1 24) s m ([.ref (aT 0), .int p1, .int p2] : List Value).toArray below meth c H locs 0 0 (MQ below (qV G [wMod cI cZ aT rr T_undoes T_kept T_persons T_family T_gives T_warm T_rumour T_seen T_seenOf T_seenBehind T_seenHas T_text T_texted T_place T_number T_readPersons T_readKind T_readComes T_readFamily T_readGives T_readWarm T_readRumour T_toCome T_order T_bestOrder] A) ([.ref (aT 0), .int p1, .int p2] : List Value).toArray s 0 0 A) (F0 m 75 ls [.int t0_75]) := by
      intro t0_75 H locs ls hW hl hM
      unfold MX8_joins_j75 at hM
      refine lv_istore (lv' := [(4, .int t0_75), (0, .ref (aT 0)), (1, .int p1), (2, .int p2)]) hx hb dX8_joins_75 hl (by decide) rfl (fun ls hl => ?_)
      refine lv_aload_n hx hb dX8_joins_77 rfl (lv_at hl 1 rfl) ?_
      refine lv_iload_n hx hb dX8_joins_78 rfl (lv_at hl 2 rfl) ?_
      refine lv_iload_n hx hb dX8_joins_79 rfl (lv_at hl 3 rfl) ?_
      refine lv_iload hx hb dX8_joins_80 (lv_at hl 0 rfl) ?_
      have j90 : ∀ (t3_90 : Int32) (H : Heap) (locs : List Loc) (ls : Array Slot), Wd G A s [wMod cI cZ aT T_w T_undoes T_kept T_persons T_family T_gives T_warm T_rumour T_seen T_seenOf T_seenBehind T_seenHas T_text T_texted T_place T_number T_readPersons T_readKind T_readComes T_readFamily T_readGives T_readWarm T_readRumour T_toCome T_order T_bestOrder] H locs → lv_has ls 5 [] → MX8_joins_j90 N T_w p1 p2 t3_90 = some rr → W p l e (rmO 1 24) s m ([.ref (aT 0), .int p1, .int p2] : List Value).toArray below meth c H locs 0 0 (MQ below (qV G [wMod cI cZ aT rr T_undoes T_kept T_persons T_family T_gives T_warm T_rumour T_seen T_seenOf T_seenBehind T_seenHas T_text T_texted T_place T_number T_readPersons T_readKind T_readComes T_readFamily T_readGives T_readWarm T_readRumour T_toCome T_order T_bestOrder] A) ([.ref (aT 0), .int p1, .int p2] : List Value).toArray s 0 0 A) (F0 m 90 ls [.int t3_90, .int p2, .int p1, .ref (aT 0)]) := by
        intro t3_90 H locs ls hW hl hM
        unfold MX8_joins_j90 at hM
        obtain ⟨u90, hu90, hM⟩ := bind_some hM
        refine g_callVv (rest := []) (gr := []) X hl.1 hW (c_X8_stands l G cI cZ cL N aT T_w T_undoes T_kept T_persons T_family T_gives T_warm T_rumour T_seen T_seenOf T_seenBehind T_seenHas T_text T_texted T_place T_number T_readPersons T_readKind T_readComes T_readFamily T_readGives T_readWarm T_readRumour T_toCome T_order T_bestOrder p1 p2 t3_90 u90 hu90) q_995 q_992 q_994 q_37 q_67 hd_X8_stands rfl ⟨Nat.le_of_ble_eq_true rfl, Nat.le_of_ble_eq_true rfl⟩ ⟨Nat.zero_le _, Nat.zero_le _⟩ [0] [] [wMod cI cZ aT u90 T_undoes T_kept T_persons T_family T_gives T_warm T_rumour T_seen T_seenOf T_seenBehind T_seenHas T_text T_texted T_place T_number T_readPersons T_readKind T_readComes T_readFamily T_readGives T_readWarm T_readRumour T_toCome T_order T_bestOrder] ⟨pm_1_0, rfl, rfl, rfl⟩ ⟨pm_1_0, rfl, rfl, rfl⟩ (q0 := 0) rfl rfl rfl (Nat.le_of_ble_eq_true rfl) dX8_joins_90 (fun H locs hW => ?_)
        obtain rfl := Option.some.inj hM
        exact g_retv X hW dX8_joins_93
      refine lv_if_eq (tgt := 89) hx hb dX8_joins_82 (by decide) (fun hc => ?_) (fun hc => ?_)
      · have hM := (if_pos hc).symm.trans hM
        refine lv_iconst (v := (0 : Int32)) hx hb dX8_joins_89 (by decide) ?_
        exact j90 (0 : Int32) _ _ _ hW (lv_sub hl [] rfl) hM
      · have hM := (if_neg hc).symm.trans hM
        refine lv_iconst (v := (1 : Int32)) hx hb dX8_joins_85 (by decide) ?_
        refine lv_goto (tgt := 90) hx hb dX8_joins_86 (by decide) ?_
        exact j90 (1 : Int32) _ _ _ hW (lv_sub hl [] rfl) hM
    have j74 : ∀ (H : Heap) (locs : List Loc) (ls : Array Slot), Wd G A s [wMod cI cZ aT T_w T_undoes T_kept T_persons T_family T_gives T_warm T_rumour T_seen T_seenOf T_seenBehind T_seenHas T_text T_texted T_place T_number T_readPersons T_readKind T_readComes T_readFamily T_readGives T_readWarm T_readRumour T_toCome T_order T_bestOrder] H locs → lv_has ls 5 [(0, .ref (aT 0)), (1, .int p1), (2, .int p2)] → MX8_joins_j74 N T_w p1 p2 = some rr → W p l e (rmO 1 24) s m ([.ref (aT 0), .int p1, .int p2] : List Value).toArray below meth c H locs 0 0 (MQ below (qV G [wMod cI cZ aT rr T_undoes T_kept T_persons T_family T_gives T_warm T_rumour T_seen T_seenOf T_seenBehind T_seenHas T_text T_texted T_place T_number T_readPersons T_readKind T_readComes T_readFamily T_readGives T_readWarm T_readRumour T_toCome T_order T_bestOrder] A) ([.ref (aT 0), .int p1, .int p2] : List Value).toArray s 0 0 A) (F0 m 74 ls []) := by
      intro H locs ls hW hl hM
      unfold MX8_joins_j74 at hM
      refine lv_iconst (v := (0 : Int32)) hx hb dX8_joins_74 (by decide) ?_
      exact j75 (0 : Int32) _ _ _ hW (lv_sub hl [0, 1, 2] rfl) hM
    refine lv_icmp_eq (tgt := 74) hx hb dX8_joins_28 (by decide) (fun hc => ?_) (fun hc => ?_)
    · have hM := (if_pos hc).symm.trans hM
      exact j74 _ _ _ hW (lv_sub hl [1, 2, 3] rfl) hM
    · have hM := (if_neg hc).symm.trans hM
      refine lv_aload_n hx hb dX8_joins_31 rfl (lv_at hl 1 rfl) ?_
      refine g_get X hW 0 rfl rfl inX8 0 (by decide) q_817 rfl dX8_joins_32 ?_
      refine lv_iload_n hx hb dX8_joins_35 rfl (lv_at hl 2 rfl) ?_
      refine lv_bipush (v := (57 : Int32)) hx hb dX8_joins_36 (by decide) ?_
      refine lv_iadd hx hb dX8_joins_38 ?_
      refine lv_iload_n hx hb dX8_joins_39 rfl (lv_at hl 0 rfl) ?_
      refine lv_iadd hx hb dX8_joins_40 ?_
      obtain ⟨hi41, hM⟩ := MG_some hM
      refine g_ald X hW 1 rfl hi41 dX8_joins_41 ?_
      refine lv_iconst (v := (1 : Int32)) hx hb dX8_joins_42 (by decide) ?_
      refine lv_icmp_ne (tgt := 74) hx hb dX8_joins_43 (by decide) (fun hc => ?_) (fun hc => ?_)
      · have hM := (if_neg hc).symm.trans hM
        exact j74 _ _ _ hW (lv_sub hl [1, 2, 3] rfl) hM
      · have hM := (if_pos hc).symm.trans hM
        refine lv_aload_n hx hb dX8_joins_46 rfl (lv_at hl 1 rfl) ?_
        refine g_get X hW 0 rfl rfl inX8 4 (by decide) q_821 rfl dX8_joins_47 ?_
        refine lv_iload_n hx hb dX8_joins_50 rfl (lv_at hl 3 rfl) ?_
        obtain ⟨hi51, hM⟩ := MG_some hM
        refine g_ald X hW 2 rfl hi51 dX8_joins_51 ?_
        have j70 : ∀ (H : Heap) (locs : List Loc) (ls : Array Slot), Wd G A s [wMod cI cZ aT T_w T_undoes T_kept T_persons T_family T_gives T_warm T_rumour T_seen T_seenOf T_seenBehind T_seenHas T_text T_texted T_place T_number T_readPersons T_readKind T_readComes T_readFamily T_readGives T_readWarm T_readRumour T_toCome T_order T_bestOrder] H locs → lv_has ls 5 [(0, .ref (aT 0)), (1, .int p1), (2, .int p2)] → MX8_joins_j70 N T_w p1 p2 = some rr → W p l e (rmO 1 24) s m ([.ref (aT 0), .int p1, .int p2] : List Value).toArray below meth c H locs 0 0 (MQ below (qV G [wMod cI cZ aT rr T_undoes T_kept T_persons T_family T_gives T_warm T_rumour T_seen T_seenOf T_seenBehind T_seenHas T_text T_texted T_place T_number T_readPersons T_readKind T_readComes T_readFamily T_readGives T_readWarm T_readRumour T_toCome T_order T_bestOrder] A) ([.ref (aT 0), .int p1, .int p2] : List Value).toArray s 0 0 A) (F0 m 70 ls []) := by
          intro H locs ls hW hl hM
          unfold MX8_joins_j70 at hM
          refine lv_iconst (v := (1 : Int32)) hx hb dX8_joins_70 (by decide) ?_
          refine lv_goto (tgt := 75) hx hb dX8_joins_71 (by decide) ?_
          exact j75 (1 : Int32) _ _ _ hW (lv_sub hl [0, 1, 2] rfl) hM
        refine lv_if_eq (tgt := 70) hx hb dX8_joins_52 (by decide) (fun hc => ?_) (fun hc => ?_)
        · have hM := (if_pos hc).symm.trans hM
          exact j70 _ _ _ hW (lv_sub hl [1, 2, 3] rfl) hM
        · have hM := (if_neg hc).symm.trans hM
          refine lv_aload_n hx hb dX8_joins_55 rfl (lv_at hl 1 rfl) ?_
          refine g_get X hW 0 rfl rfl inX8 4 (by decide) q_821 rfl dX8_joins_56 ?_
          refine lv_iload_n hx hb dX8_joins_59 rfl (lv_at hl 3 rfl) ?_
          obtain ⟨hi60, hM⟩ := MG_some hM
          refine g_ald X hW 2 rfl hi60 dX8_joins_60 ?_
          refine lv_aload_n hx hb dX8_joins_61 rfl (lv_at hl 1 rfl) ?_
          refine g_get X hW 0 rfl rfl inX8 4 (by decide) q_821 rfl dX8_joins_62 ?_
          refine lv_iload_n hx hb dX8_joins_65 rfl (lv_at hl 0 rfl) ?_
          obtain ⟨hi66, hM⟩ := MG_some hM
          refine g_ald X hW 2 rfl hi66 dX8_joins_66 ?_
          refine lv_icmp_eq (tgt := 74) hx hb dX8_joins_67 (by decide) (fun hc => ?_) (fun hc => ?_)
          · have hM := (if_pos hc).symm.trans hM
            exact j74 _ _ _ hW (lv_sub hl [1, 2, 3] rfl) hM
          · have hM := (if_neg hc).symm.trans hM
            exact j70 _ _ _ hW (lv_sub hl [1, 2, 3] rfl) hM
  refine lv_if_ne (tgt := 16) hx hb dX8_joins_8 (by decide) (fun hc => ?_) (fun hc => ?_)
  · have hM := (if_neg hc).symm.trans hM
    refine lv_aload_n hx hb dX8_joins_16 rfl (lv_at hl 0 rfl) ?_
    refine g_get X hW 0 rfl rfl inX8 0 (by decide) q_817 rfl dX8_joins_17 ?_
    refine lv_iload_n hx hb dX8_joins_20 rfl (lv_at hl 1 rfl) ?_
    refine lv_iconst (v := (3 : Int32)) hx hb dX8_joins_21 (by decide) ?_
    refine lv_iadd hx hb dX8_joins_22 ?_
    obtain ⟨hi23, hM⟩ := MG_some hM
    refine g_ald X hW 1 rfl hi23 dX8_joins_23 ?_
    exact j24 (T_w (p1 + (3 : Int32)).toNatClampNeg) _ _ _ hW (lv_sub hl [0, 1, 2] rfl) hM
  · have hM := (if_pos hc).symm.trans hM
    refine lv_bipush (v := (-4 : Int32)) hx hb dX8_joins_11 (by decide) ?_
    refine lv_goto (tgt := 24) hx hb dX8_joins_13 (by decide) ?_
    exact j24 (-4 : Int32) _ _ _ hW (lv_sub hl [0, 1, 2] rfl) hM

def MX8_sneezes (N : Nat) (T_w : (Nat → Int32)) (p1 : Int32) (p2 : Int32) : Option ((Nat → Int32)) :=
  (MX8_goes N T_w p1 p2 (1 : Int32)).bind (fun u4 => MG (p1 + (2 : Int32)) 792 ((MX8_stands N u4 p1 p2 (u4 (p1 + (2 : Int32)).toNatClampNeg)).bind (fun u18 => some (u18))))
set_option maxHeartbeats 4000000 in
set_option maxRecDepth 100000 in
theorem c_X8_sneezes (l : Launch) (G : va_G) (cI cZ cL : ClassId) (N : Nat) (aT : Nat → Nat) (T_w : (Nat → Int32)) (T_undoes : Int32) (T_kept : Int32) (T_persons : Int32) (T_family : (Nat → Int32)) (T_gives : Int32) (T_warm : Int32) (T_rumour : Int32) (T_seen : Int32) (T_seenOf : (Nat → Int32)) (T_seenBehind : (Nat → Int32)) (T_seenHas : (Nat → Int32)) (T_text : (Nat → Int32)) (T_texted : Int32) (T_place : Int32) (T_number : Int32) (T_readPersons : Int32) (T_readKind : (Nat → Int32)) (T_readComes : (Nat → Int32)) (T_readFamily : (Nat → Int32)) (T_readGives : Int32) (T_readWarm : Int32) (T_readRumour : Int32) (T_toCome : (Nat → Int32)) (T_order : (Nat → Int32)) (T_bestOrder : (Nat → Int32)) (p1 : Int32) (p2 : Int32) (rr : (Nat → Int32)) (hM : MX8_sneezes N T_w p1 p2 = some rr) : CtV l yX8_sneezes cX8_sneezes 3 2 47 G cI cZ cL [.ref (aT 0), .int p1, .int p2] [wMod cI cZ aT T_w T_undoes T_kept T_persons T_family T_gives T_warm T_rumour T_seen T_seenOf T_seenBehind T_seenHas T_text T_texted T_place T_number T_readPersons T_readKind T_readComes T_readFamily T_readGives T_readWarm T_readRumour T_toCome T_order T_bestOrder] [wMod cI cZ aT rr T_undoes T_kept T_persons T_family T_gives T_warm T_rumour T_seen T_seenOf T_seenBehind T_seenHas T_text T_texted T_place T_number T_readPersons T_readKind T_readComes T_readFamily T_readGives T_readWarm T_readRumour T_toCome T_order T_bestOrder] := by
  refine ct_body (fun A => qV G [wMod cI cZ aT rr T_undoes T_kept T_persons T_family T_gives T_warm T_rumour T_seen T_seenOf T_seenBehind T_seenHas T_text T_texted T_place T_number T_readPersons T_readKind T_readComes T_readFamily T_readGives T_readWarm T_readRumour T_toCome T_order T_bestOrder] A) (by decide) (Nat.le_of_ble_eq_true rfl) (fun p e s m below meth c A ls X hW hl => ?_)
  have hx := X.1
  have hb := X.2.1
  have hts := X.2.2.2.2.2.1
  have hown := X.2.2.2.2.2.2.1
  have hl : lv_has ls 3 [(0, .ref (aT 0)), (1, .int p1), (2, .int p2)] := hl
  unfold MX8_sneezes at hM
  refine lv_aload_n hx hb dX8_sneezes_0 rfl (lv_at hl 0 rfl) ?_
  refine lv_iload_n hx hb dX8_sneezes_1 rfl (lv_at hl 1 rfl) ?_
  refine lv_iload_n hx hb dX8_sneezes_2 rfl (lv_at hl 2 rfl) ?_
  refine lv_iconst (v := (1 : Int32)) hx hb dX8_sneezes_3 (by decide) ?_
  obtain ⟨u4, hu4, hM⟩ := bind_some hM
  refine g_callVv (rest := []) (gr := []) X hl.1 hW (c_X8_goes l G cI cZ cL N aT T_w T_undoes T_kept T_persons T_family T_gives T_warm T_rumour T_seen T_seenOf T_seenBehind T_seenHas T_text T_texted T_place T_number T_readPersons T_readKind T_readComes T_readFamily T_readGives T_readWarm T_readRumour T_toCome T_order T_bestOrder p1 p2 (1 : Int32) u4 hu4) q_1003 q_1000 q_1002 q_39 q_67 hd_X8_goes rfl ⟨Nat.le_of_ble_eq_true rfl, Nat.le_of_ble_eq_true rfl⟩ ⟨Nat.zero_le _, Nat.zero_le _⟩ [0] [] [wMod cI cZ aT u4 T_undoes T_kept T_persons T_family T_gives T_warm T_rumour T_seen T_seenOf T_seenBehind T_seenHas T_text T_texted T_place T_number T_readPersons T_readKind T_readComes T_readFamily T_readGives T_readWarm T_readRumour T_toCome T_order T_bestOrder] ⟨pm_1_0, rfl, rfl, rfl⟩ ⟨pm_1_0, rfl, rfl, rfl⟩ (q0 := 0) rfl rfl rfl (Nat.le_of_ble_eq_true rfl) dX8_sneezes_4 (fun H locs hW => ?_)
  refine lv_aload_n hx hb dX8_sneezes_7 rfl (lv_at hl 0 rfl) ?_
  refine lv_iload_n hx hb dX8_sneezes_8 rfl (lv_at hl 1 rfl) ?_
  refine lv_iload_n hx hb dX8_sneezes_9 rfl (lv_at hl 2 rfl) ?_
  refine lv_aload_n hx hb dX8_sneezes_10 rfl (lv_at hl 0 rfl) ?_
  refine g_get X hW 0 rfl rfl inX8 0 (by decide) q_817 rfl dX8_sneezes_11 ?_
  refine lv_iload_n hx hb dX8_sneezes_14 rfl (lv_at hl 1 rfl) ?_
  refine lv_iconst (v := (2 : Int32)) hx hb dX8_sneezes_15 (by decide) ?_
  refine lv_iadd hx hb dX8_sneezes_16 ?_
  obtain ⟨hi17, hM⟩ := MG_some hM
  refine g_ald X hW 1 rfl hi17 dX8_sneezes_17 ?_
  obtain ⟨u18, hu18, hM⟩ := bind_some hM
  refine g_callVv (rest := []) (gr := []) X hl.1 hW (c_X8_stands l G cI cZ cL N aT u4 T_undoes T_kept T_persons T_family T_gives T_warm T_rumour T_seen T_seenOf T_seenBehind T_seenHas T_text T_texted T_place T_number T_readPersons T_readKind T_readComes T_readFamily T_readGives T_readWarm T_readRumour T_toCome T_order T_bestOrder p1 p2 (u4 (p1 + (2 : Int32)).toNatClampNeg) u18 hu18) q_995 q_992 q_994 q_37 q_67 hd_X8_stands rfl ⟨Nat.le_of_ble_eq_true rfl, Nat.le_of_ble_eq_true rfl⟩ ⟨Nat.zero_le _, Nat.zero_le _⟩ [0] [] [wMod cI cZ aT u18 T_undoes T_kept T_persons T_family T_gives T_warm T_rumour T_seen T_seenOf T_seenBehind T_seenHas T_text T_texted T_place T_number T_readPersons T_readKind T_readComes T_readFamily T_readGives T_readWarm T_readRumour T_toCome T_order T_bestOrder] ⟨pm_1_0, rfl, rfl, rfl⟩ ⟨pm_1_0, rfl, rfl, rfl⟩ (q0 := 0) rfl rfl rfl (Nat.le_of_ble_eq_true rfl) dX8_sneezes_18 (fun H locs hW => ?_)
  obtain rfl := Option.some.inj hM
  exact g_retv X hW dX8_sneezes_21

def MX8_givesOne_j193 (p1 : Int32) (x4_128 : Int32) (u133 : (Nat → Int32)) (t2_193 : Int32) : Option ((Nat → Int32)) :=
  MG ((p1 + (39 : Int32)) + x4_128) 792 (MG (p1 + (1 : Int32)) 792 (MG (p1 + (1 : Int32)) 792 (some ((upd (upd (upd u133 ((p1 + (30 : Int32)) + x4_128).toNatClampNeg (u133 (p1 + (0 : Int32)).toNatClampNeg)) ((p1 + (39 : Int32)) + x4_128).toNatClampNeg t2_193) (p1 + (1 : Int32)).toNatClampNeg (((upd (upd u133 ((p1 + (30 : Int32)) + x4_128).toNatClampNeg (u133 (p1 + (0 : Int32)).toNatClampNeg)) ((p1 + (39 : Int32)) + x4_128).toNatClampNeg t2_193) (p1 + (1 : Int32)).toNatClampNeg) + (1 : Int32)))))))
def MX8_givesOne_j128 (N : Nat) (T_w : (Nat → Int32)) (T_warm : Int32) (p1 : Int32) (x4_128 : Int32) : Option ((Nat → Int32)) :=
  (MX8_goes N T_w p1 x4_128 (3 : Int32)).bind (fun u133 => MG (p1 + (1 : Int32)) 792 (MLet (T_warm - (u133 (p1 + (1 : Int32)).toNatClampNeg)) (fun z149 => MG (p1 + (0 : Int32)) 792 (MG ((p1 + (30 : Int32)) + x4_128) 792 (if 0 ≤ z149 then (MX8_givesOne_j193 p1 x4_128 u133 z149) else MX8_givesOne_j193 p1 x4_128 u133 (0 : Int32))))))
def MX8_givesOne_j122 (x6_62 : Int32) (rc62 : (Int32 → Int32 → Int32 → Option ((Nat → Int32)))) (x4_122 : Int32) (x5_122 : Int32) : Option ((Nat → Int32)) :=
  rc62 x4_122 x5_122 (x6_62 + (1 : Int32))
def MX8_givesOne_j95 (T_w : (Nat → Int32)) (p1 : Int32) (x4_62 : Int32) (x5_62 : Int32) (x6_62 : Int32) (rc62 : (Int32 → Int32 → Int32 → Option ((Nat → Int32)))) (t2_95 : Int32) : Option ((Nat → Int32)) :=
  MG ((p1 + (3 : Int32)) + t2_95) 792 (MLet (T_w ((p1 + (3 : Int32)) + t2_95).toNatClampNeg) (fun z97 => MG ((p1 + (57 : Int32)) + z97) 792 (if (T_w ((p1 + (57 : Int32)) + z97).toNatClampNeg) = (3 : Int32) then (MX8_givesOne_j122 x6_62 rc62 x4_62 x5_62) else MX8_givesOne_j122 x6_62 rc62 z97 (0 : Int32))))
def MX8_givesOne_l62 (N : Nat) (T_w : (Nat → Int32)) (T_warm : Int32) (p1 : Int32) (p2 : Int32) (z8 : Int32) : Nat → Int32 → Int32 → Int32 → Option ((Nat → Int32))
  | 0, _, _, _ => none
  | n62 + 1, x4_62, x5_62, x6_62 =>
    if z8 ≤ x6_62 then (MX8_givesOne_j128 N T_w T_warm p1 x4_62) else (if x5_62 = 0 then (MX8_givesOne_j128 N T_w T_warm p1 x4_62) else (if p2 = 0 then (MX8_givesOne_j95 T_w p1 x4_62 x5_62 x6_62 (MX8_givesOne_l62 N T_w T_warm p1 p2 z8 n62) x6_62) else (MX8_givesOne_j95 T_w p1 x4_62 x5_62 x6_62 (MX8_givesOne_l62 N T_w T_warm p1 p2 z8 n62) ((z8 - (1 : Int32)) - x6_62))))
def MX8_givesOne_j57 (N : Nat) (T_w : (Nat → Int32)) (T_warm : Int32) (p1 : Int32) (p2 : Int32) (z8 : Int32) (z34 : Int32) (t0_57 : Int32) : Option ((Nat → Int32)) :=
  MX8_givesOne_l62 N T_w T_warm p1 p2 z8 N z34 t0_57 (0 : Int32)
def MX8_givesOne_j32 (N : Nat) (T_w : (Nat → Int32)) (T_warm : Int32) (p1 : Int32) (p2 : Int32) (z8 : Int32) (t2_32 : Int32) : Option ((Nat → Int32)) :=
  MG ((p1 + (3 : Int32)) + t2_32) 792 (MLet (T_w ((p1 + (3 : Int32)) + t2_32).toNatClampNeg) (fun z34 => MG ((p1 + (57 : Int32)) + z34) 792 (if (T_w ((p1 + (57 : Int32)) + z34).toNatClampNeg) = (3 : Int32) then MX8_givesOne_j57 N T_w T_warm p1 p2 z8 z34 (1 : Int32) else MX8_givesOne_j57 N T_w T_warm p1 p2 z8 z34 (0 : Int32))))
def MX8_givesOne (N : Nat) (T_w : (Nat → Int32)) (T_warm : Int32) (p1 : Int32) (p2 : Int32) : Option ((Nat → Int32)) :=
  MG (p1 + (2 : Int32)) 792 (MLet (T_w (p1 + (2 : Int32)).toNatClampNeg) (fun z8 => if z8 = 0 then some (T_w) else (if p2 = 0 then MX8_givesOne_j32 N T_w T_warm p1 p2 z8 (0 : Int32) else MX8_givesOne_j32 N T_w T_warm p1 p2 z8 (z8 - (1 : Int32)))))
set_option maxHeartbeats 4000000 in
set_option maxRecDepth 100000 in
theorem c_X8_givesOne (l : Launch) (G : va_G) (cI cZ cL : ClassId) (N : Nat) (aT : Nat → Nat) (T_w : (Nat → Int32)) (T_undoes : Int32) (T_kept : Int32) (T_persons : Int32) (T_family : (Nat → Int32)) (T_gives : Int32) (T_warm : Int32) (T_rumour : Int32) (T_seen : Int32) (T_seenOf : (Nat → Int32)) (T_seenBehind : (Nat → Int32)) (T_seenHas : (Nat → Int32)) (T_text : (Nat → Int32)) (T_texted : Int32) (T_place : Int32) (T_number : Int32) (T_readPersons : Int32) (T_readKind : (Nat → Int32)) (T_readComes : (Nat → Int32)) (T_readFamily : (Nat → Int32)) (T_readGives : Int32) (T_readWarm : Int32) (T_readRumour : Int32) (T_toCome : (Nat → Int32)) (T_order : (Nat → Int32)) (T_bestOrder : (Nat → Int32)) (p1 : Int32) (p2 : Int32) (rr : (Nat → Int32)) (hM : MX8_givesOne N T_w T_warm p1 p2 = some rr) : CtV l yX8_givesOne cX8_givesOne 8 2 47 G cI cZ cL [.ref (aT 0), .int p1, .int p2] [wMod cI cZ aT T_w T_undoes T_kept T_persons T_family T_gives T_warm T_rumour T_seen T_seenOf T_seenBehind T_seenHas T_text T_texted T_place T_number T_readPersons T_readKind T_readComes T_readFamily T_readGives T_readWarm T_readRumour T_toCome T_order T_bestOrder] [wMod cI cZ aT rr T_undoes T_kept T_persons T_family T_gives T_warm T_rumour T_seen T_seenOf T_seenBehind T_seenHas T_text T_texted T_place T_number T_readPersons T_readKind T_readComes T_readFamily T_readGives T_readWarm T_readRumour T_toCome T_order T_bestOrder] := by
  refine ct_body (fun A => qV G [wMod cI cZ aT rr T_undoes T_kept T_persons T_family T_gives T_warm T_rumour T_seen T_seenOf T_seenBehind T_seenHas T_text T_texted T_place T_number T_readPersons T_readKind T_readComes T_readFamily T_readGives T_readWarm T_readRumour T_toCome T_order T_bestOrder] A) (by decide) (Nat.le_of_ble_eq_true rfl) (fun p e s m below meth c A ls X hW hl => ?_)
  have hx := X.1
  have hb := X.2.1
  have hts := X.2.2.2.2.2.1
  have hown := X.2.2.2.2.2.2.1
  have hl : lv_has ls 8 [(0, .ref (aT 0)), (1, .int p1), (2, .int p2)] := hl
  unfold MX8_givesOne at hM
  refine lv_aload_n hx hb dX8_givesOne_0 rfl (lv_at hl 0 rfl) ?_
  refine g_get X hW 0 rfl rfl inX8 0 (by decide) q_817 rfl dX8_givesOne_1 ?_
  refine lv_iload_n hx hb dX8_givesOne_4 rfl (lv_at hl 1 rfl) ?_
  refine lv_iconst (v := (2 : Int32)) hx hb dX8_givesOne_5 (by decide) ?_
  refine lv_iadd hx hb dX8_givesOne_6 ?_
  obtain ⟨hi7, hM⟩ := MG_some hM
  refine g_ald X hW 1 rfl hi7 dX8_givesOne_7 ?_
  refine lv_topi (fun z8 ez8 => ?_)
  have hM := MLet_some hM z8 ez8
  refine lv_istore_n (lv' := [(3, .int z8), (0, .ref (aT 0)), (1, .int p1), (2, .int p2)]) hx hb dX8_givesOne_8 rfl hl (by decide) rfl (fun ls hl => ?_)
  refine lv_iload_n hx hb dX8_givesOne_9 rfl (lv_at hl 0 rfl) ?_
  refine lv_if_ne (tgt := 14) hx hb dX8_givesOne_10 (by decide) (fun hc => ?_) (fun hc => ?_)
  · have hM := (if_neg hc).symm.trans hM
    refine lv_aload_n hx hb dX8_givesOne_14 rfl (lv_at hl 1 rfl) ?_
    refine g_get X hW 0 rfl rfl inX8 0 (by decide) q_817 rfl dX8_givesOne_15 ?_
    refine lv_iload_n hx hb dX8_givesOne_18 rfl (lv_at hl 2 rfl) ?_
    refine lv_iconst (v := (3 : Int32)) hx hb dX8_givesOne_19 (by decide) ?_
    refine lv_iadd hx hb dX8_givesOne_20 ?_
    refine lv_iload_n hx hb dX8_givesOne_21 rfl (lv_at hl 3 rfl) ?_
    have j32 : ∀ (t2_32 : Int32) (H : Heap) (locs : List Loc) (ls : Array Slot), Wd G A s [wMod cI cZ aT T_w T_undoes T_kept T_persons T_family T_gives T_warm T_rumour T_seen T_seenOf T_seenBehind T_seenHas T_text T_texted T_place T_number T_readPersons T_readKind T_readComes T_readFamily T_readGives T_readWarm T_readRumour T_toCome T_order T_bestOrder] H locs → lv_has ls 8 [(0, .ref (aT 0)), (1, .int p1), (2, .int p2), (3, .int z8)] → MX8_givesOne_j32 N T_w T_warm p1 p2 z8 t2_32 = some rr → W p l e (rmO 2 47) s m ([.ref (aT 0), .int p1, .int p2] : List Value).toArray below meth c H locs 0 0 (MQ below (qV G [wMod cI cZ aT rr T_undoes T_kept T_persons T_family T_gives T_warm T_rumour T_seen T_seenOf T_seenBehind T_seenHas T_text T_texted T_place T_number T_readPersons T_readKind T_readComes T_readFamily T_readGives T_readWarm T_readRumour T_toCome T_order T_bestOrder] A) ([.ref (aT 0), .int p1, .int p2] : List Value).toArray s 0 0 A) (F0 m 32 ls [.int t2_32, .int (p1 + (3 : Int32)), .ref (aT 1)]) := by
      intro t2_32 H locs ls hW hl hM
      unfold MX8_givesOne_j32 at hM
      refine lv_iadd hx hb dX8_givesOne_32 ?_
      obtain ⟨hi33, hM⟩ := MG_some hM
      refine g_ald X hW 1 rfl hi33 dX8_givesOne_33 ?_
      refine lv_topi (fun z34 ez34 => ?_)
      have hM := MLet_some hM z34 ez34
      refine lv_istore (lv' := [(4, .int z34), (0, .ref (aT 0)), (1, .int p1), (2, .int p2), (3, .int z8)]) hx hb dX8_givesOne_34 hl (by decide) rfl (fun ls hl => ?_)
      refine lv_aload_n hx hb dX8_givesOne_36 rfl (lv_at hl 1 rfl) ?_
      refine g_get X hW 0 rfl rfl inX8 0 (by decide) q_817 rfl dX8_givesOne_37 ?_
      refine lv_iload_n hx hb dX8_givesOne_40 rfl (lv_at hl 2 rfl) ?_
      refine lv_bipush (v := (57 : Int32)) hx hb dX8_givesOne_41 (by decide) ?_
      refine lv_iadd hx hb dX8_givesOne_43 ?_
      refine lv_iload hx hb dX8_givesOne_44 (lv_at hl 0 rfl) ?_
      refine lv_iadd hx hb dX8_givesOne_46 ?_
      obtain ⟨hi47, hM⟩ := MG_some hM
      refine g_ald X hW 1 rfl hi47 dX8_givesOne_47 ?_
      refine lv_iconst (v := (3 : Int32)) hx hb dX8_givesOne_48 (by decide) ?_
      have j57 : ∀ (t0_57 : Int32) (H : Heap) (locs : List Loc) (ls : Array Slot), Wd G A s [wMod cI cZ aT T_w T_undoes T_kept T_persons T_family T_gives T_warm T_rumour T_seen T_seenOf T_seenBehind T_seenHas T_text T_texted T_place T_number T_readPersons T_readKind T_readComes T_readFamily T_readGives T_readWarm T_readRumour T_toCome T_order T_bestOrder] H locs → lv_has ls 8 [(0, .ref (aT 0)), (1, .int p1), (2, .int p2), (3, .int z8), (4, .int z34)] → MX8_givesOne_j57 N T_w T_warm p1 p2 z8 z34 t0_57 = some rr → W p l e (rmO 2 47) s m ([.ref (aT 0), .int p1, .int p2] : List Value).toArray below meth c H locs 0 0 (MQ below (qV G [wMod cI cZ aT rr T_undoes T_kept T_persons T_family T_gives T_warm T_rumour T_seen T_seenOf T_seenBehind T_seenHas T_text T_texted T_place T_number T_readPersons T_readKind T_readComes T_readFamily T_readGives T_readWarm T_readRumour T_toCome T_order T_bestOrder] A) ([.ref (aT 0), .int p1, .int p2] : List Value).toArray s 0 0 A) (F0 m 57 ls [.int t0_57]) := by
        intro t0_57 H locs ls hW hl hM
        unfold MX8_givesOne_j57 at hM
        refine lv_istore (lv' := [(5, .int t0_57), (0, .ref (aT 0)), (1, .int p1), (2, .int p2), (3, .int z8), (4, .int z34)]) hx hb dX8_givesOne_57 hl (by decide) rfl (fun ls hl => ?_)
        refine lv_iconst (v := (0 : Int32)) hx hb dX8_givesOne_59 (by decide) ?_
        refine lv_istore (lv' := [(6, .int (0 : Int32)), (5, .int t0_57), (0, .ref (aT 0)), (1, .int p1), (2, .int p2), (3, .int z8), (4, .int z34)]) hx hb dX8_givesOne_60 hl (by decide) rfl (fun ls hl => ?_)
        have j128 : ∀ (x4_128 : Int32) (H : Heap) (locs : List Loc) (ls : Array Slot), Wd G A s [wMod cI cZ aT T_w T_undoes T_kept T_persons T_family T_gives T_warm T_rumour T_seen T_seenOf T_seenBehind T_seenHas T_text T_texted T_place T_number T_readPersons T_readKind T_readComes T_readFamily T_readGives T_readWarm T_readRumour T_toCome T_order T_bestOrder] H locs → lv_has ls 8 [(0, .ref (aT 0)), (1, .int p1), (4, .int x4_128)] → MX8_givesOne_j128 N T_w T_warm p1 x4_128 = some rr → W p l e (rmO 2 47) s m ([.ref (aT 0), .int p1, .int p2] : List Value).toArray below meth c H locs 0 0 (MQ below (qV G [wMod cI cZ aT rr T_undoes T_kept T_persons T_family T_gives T_warm T_rumour T_seen T_seenOf T_seenBehind T_seenHas T_text T_texted T_place T_number T_readPersons T_readKind T_readComes T_readFamily T_readGives T_readWarm T_readRumour T_toCome T_order T_bestOrder] A) ([.ref (aT 0), .int p1, .int p2] : List Value).toArray s 0 0 A) (F0 m 128 ls []) := by
          intro x4_128 H locs ls hW hl hM
          unfold MX8_givesOne_j128 at hM
          refine lv_aload_n hx hb dX8_givesOne_128 rfl (lv_at hl 0 rfl) ?_
          refine lv_iload_n hx hb dX8_givesOne_129 rfl (lv_at hl 1 rfl) ?_
          refine lv_iload hx hb dX8_givesOne_130 (lv_at hl 2 rfl) ?_
          refine lv_iconst (v := (3 : Int32)) hx hb dX8_givesOne_132 (by decide) ?_
          obtain ⟨u133, hu133, hM⟩ := bind_some hM
          refine g_callVv (rest := []) (gr := []) X hl.1 hW (c_X8_goes l G cI cZ cL N aT T_w T_undoes T_kept T_persons T_family T_gives T_warm T_rumour T_seen T_seenOf T_seenBehind T_seenHas T_text T_texted T_place T_number T_readPersons T_readKind T_readComes T_readFamily T_readGives T_readWarm T_readRumour T_toCome T_order T_bestOrder p1 x4_128 (3 : Int32) u133 hu133) q_1003 q_1000 q_1002 q_39 q_67 hd_X8_goes rfl ⟨Nat.le_of_ble_eq_true rfl, Nat.le_of_ble_eq_true rfl⟩ ⟨Nat.zero_le _, Nat.zero_le _⟩ [0] [] [wMod cI cZ aT u133 T_undoes T_kept T_persons T_family T_gives T_warm T_rumour T_seen T_seenOf T_seenBehind T_seenHas T_text T_texted T_place T_number T_readPersons T_readKind T_readComes T_readFamily T_readGives T_readWarm T_readRumour T_toCome T_order T_bestOrder] ⟨pm_1_0, rfl, rfl, rfl⟩ ⟨pm_1_0, rfl, rfl, rfl⟩ (q0 := 0) rfl rfl rfl (Nat.le_of_ble_eq_true rfl) dX8_givesOne_133 (fun H locs hW => ?_)
          refine lv_aload_n hx hb dX8_givesOne_136 rfl (lv_at hl 0 rfl) ?_
          refine g_get X hW 0 rfl rfl inX8 6 (by decide) q_823 rfl dX8_givesOne_137 ?_
          refine lv_aload_n hx hb dX8_givesOne_140 rfl (lv_at hl 0 rfl) ?_
          refine g_get X hW 0 rfl rfl inX8 0 (by decide) q_817 rfl dX8_givesOne_141 ?_
          refine lv_iload_n hx hb dX8_givesOne_144 rfl (lv_at hl 1 rfl) ?_
          refine lv_iconst (v := (1 : Int32)) hx hb dX8_givesOne_145 (by decide) ?_
          refine lv_iadd hx hb dX8_givesOne_146 ?_
          obtain ⟨hi147, hM⟩ := MG_some hM
          refine g_ald X hW 1 rfl hi147 dX8_givesOne_147 ?_
          refine lv_isub hx hb dX8_givesOne_148 ?_
          refine lv_topi (fun z149 ez149 => ?_)
          have hM := MLet_some hM z149 ez149
          refine lv_istore (lv' := [(6, .int z149), (0, .ref (aT 0)), (1, .int p1), (4, .int x4_128)]) hx hb dX8_givesOne_149 hl (by decide) rfl (fun ls hl => ?_)
          refine lv_aload_n hx hb dX8_givesOne_151 rfl (lv_at hl 1 rfl) ?_
          refine g_get X hW 0 rfl rfl inX8 0 (by decide) q_817 rfl dX8_givesOne_152 ?_
          refine lv_iload_n hx hb dX8_givesOne_155 rfl (lv_at hl 2 rfl) ?_
          refine lv_bipush (v := (30 : Int32)) hx hb dX8_givesOne_156 (by decide) ?_
          refine lv_iadd hx hb dX8_givesOne_158 ?_
          refine lv_iload hx hb dX8_givesOne_159 (lv_at hl 3 rfl) ?_
          refine lv_iadd hx hb dX8_givesOne_161 ?_
          refine lv_aload_n hx hb dX8_givesOne_162 rfl (lv_at hl 1 rfl) ?_
          refine g_get X hW 0 rfl rfl inX8 0 (by decide) q_817 rfl dX8_givesOne_163 ?_
          refine lv_iload_n hx hb dX8_givesOne_166 rfl (lv_at hl 2 rfl) ?_
          refine lv_iconst (v := (0 : Int32)) hx hb dX8_givesOne_167 (by decide) ?_
          refine lv_iadd hx hb dX8_givesOne_168 ?_
          obtain ⟨hi169, hM⟩ := MG_some hM
          refine g_ald X hW 1 rfl hi169 dX8_givesOne_169 ?_
          obtain ⟨hi170, hM⟩ := MG_some hM
          refine g_ast X hW 1 rfl hi170 [wMod cI cZ aT (upd u133 ((p1 + (30 : Int32)) + x4_128).toNatClampNeg (u133 (p1 + (0 : Int32)).toNatClampNeg)) T_undoes T_kept T_persons T_family T_gives T_warm T_rumour T_seen T_seenOf T_seenBehind T_seenHas T_text T_texted T_place T_number T_readPersons T_readKind T_readComes T_readFamily T_readGives T_readWarm T_readRumour T_toCome T_order T_bestOrder] rfl dX8_givesOne_170 (fun H locs hW => ?_)
          refine lv_aload_n hx hb dX8_givesOne_171 rfl (lv_at hl 1 rfl) ?_
          refine g_get X hW 0 rfl rfl inX8 0 (by decide) q_817 rfl dX8_givesOne_172 ?_
          refine lv_iload_n hx hb dX8_givesOne_175 rfl (lv_at hl 2 rfl) ?_
          refine lv_bipush (v := (39 : Int32)) hx hb dX8_givesOne_176 (by decide) ?_
          refine lv_iadd hx hb dX8_givesOne_178 ?_
          refine lv_iload hx hb dX8_givesOne_179 (lv_at hl 3 rfl) ?_
          refine lv_iadd hx hb dX8_givesOne_181 ?_
          refine lv_iload hx hb dX8_givesOne_182 (lv_at hl 0 rfl) ?_
          have j193 : ∀ (t2_193 : Int32) (H : Heap) (locs : List Loc) (ls : Array Slot), Wd G A s [wMod cI cZ aT (upd u133 ((p1 + (30 : Int32)) + x4_128).toNatClampNeg (u133 (p1 + (0 : Int32)).toNatClampNeg)) T_undoes T_kept T_persons T_family T_gives T_warm T_rumour T_seen T_seenOf T_seenBehind T_seenHas T_text T_texted T_place T_number T_readPersons T_readKind T_readComes T_readFamily T_readGives T_readWarm T_readRumour T_toCome T_order T_bestOrder] H locs → lv_has ls 8 [(0, .ref (aT 0)), (1, .int p1)] → MX8_givesOne_j193 p1 x4_128 u133 t2_193 = some rr → W p l e (rmO 2 47) s m ([.ref (aT 0), .int p1, .int p2] : List Value).toArray below meth c H locs 0 0 (MQ below (qV G [wMod cI cZ aT rr T_undoes T_kept T_persons T_family T_gives T_warm T_rumour T_seen T_seenOf T_seenBehind T_seenHas T_text T_texted T_place T_number T_readPersons T_readKind T_readComes T_readFamily T_readGives T_readWarm T_readRumour T_toCome T_order T_bestOrder] A) ([.ref (aT 0), .int p1, .int p2] : List Value).toArray s 0 0 A) (F0 m 193 ls [.int t2_193, .int ((p1 + (39 : Int32)) + x4_128), .ref (aT 1)]) := by
            intro t2_193 H locs ls hW hl hM
            unfold MX8_givesOne_j193 at hM
            obtain ⟨hi193, hM⟩ := MG_some hM
            refine g_ast X hW 1 rfl hi193 [wMod cI cZ aT (upd (upd u133 ((p1 + (30 : Int32)) + x4_128).toNatClampNeg (u133 (p1 + (0 : Int32)).toNatClampNeg)) ((p1 + (39 : Int32)) + x4_128).toNatClampNeg t2_193) T_undoes T_kept T_persons T_family T_gives T_warm T_rumour T_seen T_seenOf T_seenBehind T_seenHas T_text T_texted T_place T_number T_readPersons T_readKind T_readComes T_readFamily T_readGives T_readWarm T_readRumour T_toCome T_order T_bestOrder] rfl dX8_givesOne_193 (fun H locs hW => ?_)
            refine lv_aload_n hx hb dX8_givesOne_194 rfl (lv_at hl 0 rfl) ?_
            refine g_get X hW 0 rfl rfl inX8 0 (by decide) q_817 rfl dX8_givesOne_195 ?_
            refine lv_iload_n hx hb dX8_givesOne_198 rfl (lv_at hl 1 rfl) ?_
            refine lv_iconst (v := (1 : Int32)) hx hb dX8_givesOne_199 (by decide) ?_
            refine lv_iadd hx hb dX8_givesOne_200 ?_
            refine lv_dup2_11 hx hb dX8_givesOne_201 rfl rfl ?_
            obtain ⟨hi202, hM⟩ := MG_some hM
            refine g_ald X hW 1 rfl hi202 dX8_givesOne_202 ?_
            refine lv_iconst (v := (1 : Int32)) hx hb dX8_givesOne_203 (by decide) ?_
            refine lv_iadd hx hb dX8_givesOne_204 ?_
            obtain ⟨hi205, hM⟩ := MG_some hM
            refine g_ast X hW 1 rfl hi205 [wMod cI cZ aT (upd (upd (upd u133 ((p1 + (30 : Int32)) + x4_128).toNatClampNeg (u133 (p1 + (0 : Int32)).toNatClampNeg)) ((p1 + (39 : Int32)) + x4_128).toNatClampNeg t2_193) (p1 + (1 : Int32)).toNatClampNeg (((upd (upd u133 ((p1 + (30 : Int32)) + x4_128).toNatClampNeg (u133 (p1 + (0 : Int32)).toNatClampNeg)) ((p1 + (39 : Int32)) + x4_128).toNatClampNeg t2_193) (p1 + (1 : Int32)).toNatClampNeg) + (1 : Int32))) T_undoes T_kept T_persons T_family T_gives T_warm T_rumour T_seen T_seenOf T_seenBehind T_seenHas T_text T_texted T_place T_number T_readPersons T_readKind T_readComes T_readFamily T_readGives T_readWarm T_readRumour T_toCome T_order T_bestOrder] rfl dX8_givesOne_205 (fun H locs hW => ?_)
            obtain rfl := Option.some.inj hM
            exact g_retv X hW dX8_givesOne_206
          refine lv_if_ge (tgt := 191) hx hb dX8_givesOne_184 (by decide) (fun hc => ?_) (fun hc => ?_)
          · have hM := (if_pos hc).symm.trans hM
            refine lv_iload hx hb dX8_givesOne_191 (lv_at hl 0 rfl) ?_
            exact j193 z149 _ _ _ hW (lv_sub hl [1, 2] rfl) hM
          · have hM := (if_neg hc).symm.trans hM
            refine lv_iconst (v := (0 : Int32)) hx hb dX8_givesOne_187 (by decide) ?_
            refine lv_goto (tgt := 193) hx hb dX8_givesOne_188 (by decide) ?_
            exact j193 (0 : Int32) _ _ _ hW (lv_sub hl [1, 2] rfl) hM
        have lp62 : ∀ (n62 : Nat) (x4_62 : Int32) (x5_62 : Int32) (x6_62 : Int32) (H : Heap) (locs : List Loc) (ls : Array Slot), Wd G A s [wMod cI cZ aT T_w T_undoes T_kept T_persons T_family T_gives T_warm T_rumour T_seen T_seenOf T_seenBehind T_seenHas T_text T_texted T_place T_number T_readPersons T_readKind T_readComes T_readFamily T_readGives T_readWarm T_readRumour T_toCome T_order T_bestOrder] H locs → lv_has ls 8 [(0, .ref (aT 0)), (1, .int p1), (2, .int p2), (3, .int z8), (4, .int x4_62), (5, .int x5_62), (6, .int x6_62)] → MX8_givesOne_l62 N T_w T_warm p1 p2 z8 n62 x4_62 x5_62 x6_62 = some rr → W p l e (rmO 2 47) s m ([.ref (aT 0), .int p1, .int p2] : List Value).toArray below meth c H locs 0 0 (MQ below (qV G [wMod cI cZ aT rr T_undoes T_kept T_persons T_family T_gives T_warm T_rumour T_seen T_seenOf T_seenBehind T_seenHas T_text T_texted T_place T_number T_readPersons T_readKind T_readComes T_readFamily T_readGives T_readWarm T_readRumour T_toCome T_order T_bestOrder] A) ([.ref (aT 0), .int p1, .int p2] : List Value).toArray s 0 0 A) (F0 m 62 ls []) := by
          intro n62
          induction n62 with
          | zero =>
            intro x4_62 x5_62 x6_62 H locs ls hW hl hM
            rw [MX8_givesOne_l62] at hM
            cases hM
          | succ n62 ih62 =>
            intro x4_62 x5_62 x6_62 H locs ls hW hl hM
            rw [MX8_givesOne_l62] at hM
            refine lv_iload hx hb dX8_givesOne_62 (lv_at hl 6 rfl) ?_
            refine lv_iload_n hx hb dX8_givesOne_64 rfl (lv_at hl 3 rfl) ?_
            refine lv_icmp_ge (tgt := 128) hx hb dX8_givesOne_65 (by decide) (fun hc => ?_) (fun hc => ?_)
            · have hM := (if_pos hc).symm.trans hM
              exact j128 x4_62 _ _ _ hW (lv_sub hl [0, 1, 4] rfl) hM
            · have hM := (if_neg hc).symm.trans hM
              refine lv_iload hx hb dX8_givesOne_68 (lv_at hl 5 rfl) ?_
              refine lv_if_eq (tgt := 128) hx hb dX8_givesOne_70 (by decide) (fun hc => ?_) (fun hc => ?_)
              · have hM := (if_pos hc).symm.trans hM
                exact j128 x4_62 _ _ _ hW (lv_sub hl [0, 1, 4] rfl) hM
              · have hM := (if_neg hc).symm.trans hM
                refine lv_aload_n hx hb dX8_givesOne_73 rfl (lv_at hl 0 rfl) ?_
                refine g_get X hW 0 rfl rfl inX8 0 (by decide) q_817 rfl dX8_givesOne_74 ?_
                refine lv_iload_n hx hb dX8_givesOne_77 rfl (lv_at hl 1 rfl) ?_
                refine lv_iconst (v := (3 : Int32)) hx hb dX8_givesOne_78 (by decide) ?_
                refine lv_iadd hx hb dX8_givesOne_79 ?_
                refine lv_iload_n hx hb dX8_givesOne_80 rfl (lv_at hl 2 rfl) ?_
                have j95 : ∀ (t2_95 : Int32) (H : Heap) (locs : List Loc) (ls : Array Slot), Wd G A s [wMod cI cZ aT T_w T_undoes T_kept T_persons T_family T_gives T_warm T_rumour T_seen T_seenOf T_seenBehind T_seenHas T_text T_texted T_place T_number T_readPersons T_readKind T_readComes T_readFamily T_readGives T_readWarm T_readRumour T_toCome T_order T_bestOrder] H locs → lv_has ls 8 [(0, .ref (aT 0)), (1, .int p1), (2, .int p2), (3, .int z8), (4, .int x4_62), (5, .int x5_62), (6, .int x6_62)] → MX8_givesOne_j95 T_w p1 x4_62 x5_62 x6_62 (MX8_givesOne_l62 N T_w T_warm p1 p2 z8 n62) t2_95 = some rr → W p l e (rmO 2 47) s m ([.ref (aT 0), .int p1, .int p2] : List Value).toArray below meth c H locs 0 0 (MQ below (qV G [wMod cI cZ aT rr T_undoes T_kept T_persons T_family T_gives T_warm T_rumour T_seen T_seenOf T_seenBehind T_seenHas T_text T_texted T_place T_number T_readPersons T_readKind T_readComes T_readFamily T_readGives T_readWarm T_readRumour T_toCome T_order T_bestOrder] A) ([.ref (aT 0), .int p1, .int p2] : List Value).toArray s 0 0 A) (F0 m 95 ls [.int t2_95, .int (p1 + (3 : Int32)), .ref (aT 1)]) := by
                  intro t2_95 H locs ls hW hl hM
                  unfold MX8_givesOne_j95 at hM
                  refine lv_iadd hx hb dX8_givesOne_95 ?_
                  obtain ⟨hi96, hM⟩ := MG_some hM
                  refine g_ald X hW 1 rfl hi96 dX8_givesOne_96 ?_
                  refine lv_topi (fun z97 ez97 => ?_)
                  have hM := MLet_some hM z97 ez97
                  refine lv_istore (lv' := [(7, .int z97), (0, .ref (aT 0)), (1, .int p1), (2, .int p2), (3, .int z8), (4, .int x4_62), (5, .int x5_62), (6, .int x6_62)]) hx hb dX8_givesOne_97 hl (by decide) rfl (fun ls hl => ?_)
                  refine lv_aload_n hx hb dX8_givesOne_99 rfl (lv_at hl 1 rfl) ?_
                  refine g_get X hW 0 rfl rfl inX8 0 (by decide) q_817 rfl dX8_givesOne_100 ?_
                  refine lv_iload_n hx hb dX8_givesOne_103 rfl (lv_at hl 2 rfl) ?_
                  refine lv_bipush (v := (57 : Int32)) hx hb dX8_givesOne_104 (by decide) ?_
                  refine lv_iadd hx hb dX8_givesOne_106 ?_
                  refine lv_iload hx hb dX8_givesOne_107 (lv_at hl 0 rfl) ?_
                  refine lv_iadd hx hb dX8_givesOne_109 ?_
                  obtain ⟨hi110, hM⟩ := MG_some hM
                  refine g_ald X hW 1 rfl hi110 dX8_givesOne_110 ?_
                  refine lv_iconst (v := (3 : Int32)) hx hb dX8_givesOne_111 (by decide) ?_
                  have j122 : ∀ (x4_122 : Int32) (x5_122 : Int32) (H : Heap) (locs : List Loc) (ls : Array Slot), Wd G A s [wMod cI cZ aT T_w T_undoes T_kept T_persons T_family T_gives T_warm T_rumour T_seen T_seenOf T_seenBehind T_seenHas T_text T_texted T_place T_number T_readPersons T_readKind T_readComes T_readFamily T_readGives T_readWarm T_readRumour T_toCome T_order T_bestOrder] H locs → lv_has ls 8 [(0, .ref (aT 0)), (1, .int p1), (2, .int p2), (3, .int z8), (4, .int x4_122), (5, .int x5_122), (6, .int x6_62)] → MX8_givesOne_j122 x6_62 (MX8_givesOne_l62 N T_w T_warm p1 p2 z8 n62) x4_122 x5_122 = some rr → W p l e (rmO 2 47) s m ([.ref (aT 0), .int p1, .int p2] : List Value).toArray below meth c H locs 0 0 (MQ below (qV G [wMod cI cZ aT rr T_undoes T_kept T_persons T_family T_gives T_warm T_rumour T_seen T_seenOf T_seenBehind T_seenHas T_text T_texted T_place T_number T_readPersons T_readKind T_readComes T_readFamily T_readGives T_readWarm T_readRumour T_toCome T_order T_bestOrder] A) ([.ref (aT 0), .int p1, .int p2] : List Value).toArray s 0 0 A) (F0 m 122 ls []) := by
                    intro x4_122 x5_122 H locs ls hW hl hM
                    unfold MX8_givesOne_j122 at hM
                    refine lv_iinc (v := x6_62 + (1 : Int32)) (lv' := [(6, .int (x6_62 + (1 : Int32))), (0, .ref (aT 0)), (1, .int p1), (2, .int p2), (3, .int z8), (4, .int x4_122), (5, .int x5_122)]) hx hb dX8_givesOne_122 hl (k := 6) rfl rfl (by decide) rfl (fun ls hl => ?_)
                    refine lv_goto (tgt := 62) hx hb dX8_givesOne_125 (by decide) ?_
                    exact ih62 x4_122 x5_122 (x6_62 + (1 : Int32)) _ _ _ hW (lv_sub hl [1, 2, 3, 4, 5, 6, 0] rfl) hM
                  refine lv_icmp_eq (tgt := 122) hx hb dX8_givesOne_112 (by decide) (fun hc => ?_) (fun hc => ?_)
                  · have hM := (if_pos hc).symm.trans hM
                    exact j122 x4_62 x5_62 _ _ _ hW (lv_sub hl [1, 2, 3, 4, 5, 6, 7] rfl) hM
                  · have hM := (if_neg hc).symm.trans hM
                    refine lv_iload hx hb dX8_givesOne_115 (lv_at hl 0 rfl) ?_
                    refine lv_istore (lv' := [(4, .int z97), (7, .int z97), (0, .ref (aT 0)), (1, .int p1), (2, .int p2), (3, .int z8), (5, .int x5_62), (6, .int x6_62)]) hx hb dX8_givesOne_117 hl (by decide) rfl (fun ls hl => ?_)
                    refine lv_iconst (v := (0 : Int32)) hx hb dX8_givesOne_119 (by decide) ?_
                    refine lv_istore (lv' := [(5, .int (0 : Int32)), (4, .int z97), (7, .int z97), (0, .ref (aT 0)), (1, .int p1), (2, .int p2), (3, .int z8), (6, .int x6_62)]) hx hb dX8_givesOne_120 hl (by decide) rfl (fun ls hl => ?_)
                    exact j122 z97 (0 : Int32) _ _ _ hW (lv_sub hl [3, 4, 5, 6, 1, 0, 7] rfl) hM
                refine lv_if_eq (tgt := 93) hx hb dX8_givesOne_81 (by decide) (fun hc => ?_) (fun hc => ?_)
                · have hM := (if_pos hc).symm.trans hM
                  refine lv_iload hx hb dX8_givesOne_93 (lv_at hl 6 rfl) ?_
                  exact j95 x6_62 _ _ _ hW (lv_sub hl [0, 1, 2, 3, 4, 5, 6] rfl) hM
                · have hM := (if_neg hc).symm.trans hM
                  refine lv_iload_n hx hb dX8_givesOne_84 rfl (lv_at hl 3 rfl) ?_
                  refine lv_iconst (v := (1 : Int32)) hx hb dX8_givesOne_85 (by decide) ?_
                  refine lv_isub hx hb dX8_givesOne_86 ?_
                  refine lv_iload hx hb dX8_givesOne_87 (lv_at hl 6 rfl) ?_
                  refine lv_isub hx hb dX8_givesOne_89 ?_
                  refine lv_goto (tgt := 95) hx hb dX8_givesOne_90 (by decide) ?_
                  exact j95 ((z8 - (1 : Int32)) - x6_62) _ _ _ hW (lv_sub hl [0, 1, 2, 3, 4, 5, 6] rfl) hM
        exact lp62 N z34 t0_57 (0 : Int32) _ _ _ hW (lv_sub hl [2, 3, 4, 5, 6, 1, 0] rfl) hM
      refine lv_icmp_ne (tgt := 56) hx hb dX8_givesOne_49 (by decide) (fun hc => ?_) (fun hc => ?_)
      · have hM := (if_neg hc).symm.trans hM
        refine lv_iconst (v := (0 : Int32)) hx hb dX8_givesOne_56 (by decide) ?_
        exact j57 (0 : Int32) _ _ _ hW (lv_sub hl [1, 2, 3, 4, 0] rfl) hM
      · have hM := (if_pos hc).symm.trans hM
        refine lv_iconst (v := (1 : Int32)) hx hb dX8_givesOne_52 (by decide) ?_
        refine lv_goto (tgt := 57) hx hb dX8_givesOne_53 (by decide) ?_
        exact j57 (1 : Int32) _ _ _ hW (lv_sub hl [1, 2, 3, 4, 0] rfl) hM
    refine lv_if_eq (tgt := 31) hx hb dX8_givesOne_22 (by decide) (fun hc => ?_) (fun hc => ?_)
    · have hM := (if_pos hc).symm.trans hM
      refine lv_iconst (v := (0 : Int32)) hx hb dX8_givesOne_31 (by decide) ?_
      exact j32 (0 : Int32) _ _ _ hW (lv_sub hl [1, 2, 3, 0] rfl) hM
    · have hM := (if_neg hc).symm.trans hM
      refine lv_iload_n hx hb dX8_givesOne_25 rfl (lv_at hl 0 rfl) ?_
      refine lv_iconst (v := (1 : Int32)) hx hb dX8_givesOne_26 (by decide) ?_
      refine lv_isub hx hb dX8_givesOne_27 ?_
      refine lv_goto (tgt := 32) hx hb dX8_givesOne_28 (by decide) ?_
      exact j32 (z8 - (1 : Int32)) _ _ _ hW (lv_sub hl [1, 2, 3, 0] rfl) hM
  · have hM := (if_pos hc).symm.trans hM
    obtain rfl := Option.some.inj hM
    exact g_retv X hW dX8_givesOne_13
