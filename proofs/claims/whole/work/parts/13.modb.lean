def MX8_passesBy_j223 (p1 : Int32) (yT0_223 : (Nat → Int32)) : Option ((Nat → Int32)) :=
  MG (p1 + (0 : Int32)) 792 (MG (p1 + (0 : Int32)) 792 (some ((upd yT0_223 (p1 + (0 : Int32)).toNatClampNeg ((yT0_223 (p1 + (0 : Int32)).toNatClampNeg) + (1 : Int32))))))
def MX8_passesBy_l179 (p1 : Int32) : Nat → Int32 → (Nat → Int32) → Option ((Nat → Int32))
  | 0, _, _ => none
  | n179 + 1, x4_179, yT0_179 =>
    MG (p1 + (2 : Int32)) 792 (if (yT0_179 (p1 + (2 : Int32)).toNatClampNeg) ≤ x4_179 then (MX8_passesBy_j223 p1 yT0_179) else (MG ((p1 + (3 : Int32)) + x4_179) 792 (MG ((p1 + (21 : Int32)) + (yT0_179 ((p1 + (3 : Int32)) + x4_179).toNatClampNeg)) 792 (MG ((p1 + (21 : Int32)) + (yT0_179 ((p1 + (3 : Int32)) + x4_179).toNatClampNeg)) 792 ((MX8_passesBy_l179 p1 n179) (x4_179 + (1 : Int32)) (upd yT0_179 ((p1 + (21 : Int32)) + (yT0_179 ((p1 + (3 : Int32)) + x4_179).toNatClampNeg)).toNatClampNeg ((yT0_179 ((p1 + (21 : Int32)) + (yT0_179 ((p1 + (3 : Int32)) + x4_179).toNatClampNeg)).toNatClampNeg) + (1 : Int32))))))))
def MX8_passesBy_j176 (N : Nat) (p1 : Int32) (yT0_176 : (Nat → Int32)) : Option ((Nat → Int32)) :=
  MX8_passesBy_l179 p1 N (0 : Int32) yT0_176
def MX8_passesBy_j173 (N : Nat) (T_warm : Int32) (p1 : Int32) (u155 : (Nat → Int32)) (t2_173 : Int32) : Option ((Nat → Int32)) :=
  (MX8_givesOne N u155 T_warm p1 t2_173).bind (fun u173 => MX8_passesBy_j176 N p1 u173)
def MX8_passesBy_j136 (N : Nat) (T_gives : Int32) (T_warm : Int32) (p1 : Int32) (p2 : Int32) (p3 : Int32) (yT0_136 : (Nat → Int32)) : Option ((Nat → Int32)) :=
  MG (p1 + (0 : Int32)) 792 (MD T_gives (if ((yT0_136 (p1 + (0 : Int32)).toNatClampNeg) - (yT0_136 (p1 + (0 : Int32)).toNatClampNeg) / T_gives * T_gives) = 0 then ((MX8_givesOne N yT0_136 T_warm p1 p3).bind (fun u155 => if p2 = 0 then (MX8_passesBy_j176 N p1 u155) else (if p3 = 0 then MX8_passesBy_j173 N T_warm p1 u155 (1 : Int32) else MX8_passesBy_j173 N T_warm p1 u155 (0 : Int32)))) else (MX8_passesBy_j176 N p1 yT0_136)))
def MX8_passesBy_j130 (x4_66 : Int32) (rc66 : (Int32 → (Nat → Int32) → Option ((Nat → Int32)))) (yT0_130 : (Nat → Int32)) : Option ((Nat → Int32)) :=
  rc66 (x4_66 + (1 : Int32)) yT0_130
def MX8_passesBy_l66 (N : Nat) (T_persons : Int32) (T_gives : Int32) (T_warm : Int32) (p1 : Int32) (p2 : Int32) (p3 : Int32) : Nat → Int32 → (Nat → Int32) → Option ((Nat → Int32))
  | 0, _, _ => none
  | n66 + 1, x4_66, yT0_66 =>
    if T_persons ≤ x4_66 then (MX8_passesBy_j136 N T_gives T_warm p1 p2 p3 yT0_66) else (MG ((p1 + (57 : Int32)) + x4_66) 792 (if (yT0_66 ((p1 + (57 : Int32)) + x4_66).toNatClampNeg) = (2 : Int32) then (MG ((p1 + (12 : Int32)) + x4_66) 792 (if (yT0_66 ((p1 + (12 : Int32)) + x4_66).toNatClampNeg) = (1 : Int32) then (MG ((p1 + (21 : Int32)) + x4_66) 792 (if (yT0_66 ((p1 + (21 : Int32)) + x4_66).toNatClampNeg) < (4 : Int32) then (MX8_passesBy_j130 x4_66 (MX8_passesBy_l66 N T_persons T_gives T_warm p1 p2 p3 n66) yT0_66) else ((MX8_sneezes N yT0_66 p1 x4_66).bind (fun u127 => MX8_passesBy_j130 x4_66 (MX8_passesBy_l66 N T_persons T_gives T_warm p1 p2 p3 n66) u127)))) else (MX8_passesBy_j130 x4_66 (MX8_passesBy_l66 N T_persons T_gives T_warm p1 p2 p3 n66) yT0_66))) else (MX8_passesBy_j130 x4_66 (MX8_passesBy_l66 N T_persons T_gives T_warm p1 p2 p3 n66) yT0_66)))
def MX8_passesBy_j63 (N : Nat) (T_persons : Int32) (T_gives : Int32) (T_warm : Int32) (p1 : Int32) (p2 : Int32) (p3 : Int32) (yT0_63 : (Nat → Int32)) : Option ((Nat → Int32)) :=
  MX8_passesBy_l66 N T_persons T_gives T_warm p1 p2 p3 N (0 : Int32) yT0_63
def MX8_passesBy_j57 (x4_3 : Int32) (rc3 : (Int32 → (Nat → Int32) → Option ((Nat → Int32)))) (yT0_57 : (Nat → Int32)) : Option ((Nat → Int32)) :=
  rc3 (x4_3 + (1 : Int32)) yT0_57
def MX8_passesBy_l3 (N : Nat) (T_persons : Int32) (T_family : (Nat → Int32)) (T_gives : Int32) (T_warm : Int32) (p1 : Int32) (p2 : Int32) (p3 : Int32) : Nat → Int32 → (Nat → Int32) → Option ((Nat → Int32))
  | 0, _, _ => none
  | n3 + 1, x4_3, yT0_3 =>
    if T_persons ≤ x4_3 then (MX8_passesBy_j63 N T_persons T_gives T_warm p1 p2 p3 yT0_3) else (MG ((p1 + (12 : Int32)) + x4_3) 792 (if (yT0_3 ((p1 + (12 : Int32)) + x4_3).toNatClampNeg) = 0 then (MG ((p1 + (48 : Int32)) + x4_3) 792 (MG (p1 + (0 : Int32)) 792 (if (yT0_3 ((p1 + (48 : Int32)) + x4_3).toNatClampNeg) = (yT0_3 (p1 + (0 : Int32)).toNatClampNeg) then ((MX8_joins N yT0_3 T_family p1 x4_3).bind (fun u54 => MX8_passesBy_j57 x4_3 (MX8_passesBy_l3 N T_persons T_family T_gives T_warm p1 p2 p3 n3) u54)) else (MX8_passesBy_j57 x4_3 (MX8_passesBy_l3 N T_persons T_family T_gives T_warm p1 p2 p3 n3) yT0_3)))) else (MX8_passesBy_j57 x4_3 (MX8_passesBy_l3 N T_persons T_family T_gives T_warm p1 p2 p3 n3) yT0_3)))
def MX8_passesBy (N : Nat) (T_w : (Nat → Int32)) (T_persons : Int32) (T_family : (Nat → Int32)) (T_gives : Int32) (T_warm : Int32) (p1 : Int32) (p2 : Int32) (p3 : Int32) : Option ((Nat → Int32)) :=
  MX8_passesBy_l3 N T_persons T_family T_gives T_warm p1 p2 p3 N (0 : Int32) T_w
set_option maxHeartbeats 4000000 in
set_option maxRecDepth 100000 in
theorem c_X8_passesBy (l : Launch) (G : va_G) (cI cZ cL : ClassId) (N : Nat) (aT : Nat → Nat) (T_w : (Nat → Int32)) (T_undoes : Int32) (T_kept : Int32) (T_persons : Int32) (T_family : (Nat → Int32)) (T_gives : Int32) (T_warm : Int32) (T_rumour : Int32) (T_seen : Int32) (T_seenOf : (Nat → Int32)) (T_seenBehind : (Nat → Int32)) (T_seenHas : (Nat → Int32)) (T_text : (Nat → Int32)) (T_texted : Int32) (T_place : Int32) (T_number : Int32) (T_readPersons : Int32) (T_readKind : (Nat → Int32)) (T_readComes : (Nat → Int32)) (T_readFamily : (Nat → Int32)) (T_readGives : Int32) (T_readWarm : Int32) (T_readRumour : Int32) (T_toCome : (Nat → Int32)) (T_order : (Nat → Int32)) (T_bestOrder : (Nat → Int32)) (p1 : Int32) (p2 : Int32) (p3 : Int32) (rr : (Nat → Int32)) (hM : MX8_passesBy N T_w T_persons T_family T_gives T_warm p1 p2 p3 = some rr) : CtV l yX8_passesBy cX8_passesBy 5 3 74 G cI cZ cL [.ref (aT 0), .int p1, .int p2, .int p3] [wMod cI cZ aT T_w T_undoes T_kept T_persons T_family T_gives T_warm T_rumour T_seen T_seenOf T_seenBehind T_seenHas T_text T_texted T_place T_number T_readPersons T_readKind T_readComes T_readFamily T_readGives T_readWarm T_readRumour T_toCome T_order T_bestOrder] [wMod cI cZ aT rr T_undoes T_kept T_persons T_family T_gives T_warm T_rumour T_seen T_seenOf T_seenBehind T_seenHas T_text T_texted T_place T_number T_readPersons T_readKind T_readComes T_readFamily T_readGives T_readWarm T_readRumour T_toCome T_order T_bestOrder] := by
  refine ct_body (fun A => qV G [wMod cI cZ aT rr T_undoes T_kept T_persons T_family T_gives T_warm T_rumour T_seen T_seenOf T_seenBehind T_seenHas T_text T_texted T_place T_number T_readPersons T_readKind T_readComes T_readFamily T_readGives T_readWarm T_readRumour T_toCome T_order T_bestOrder] A) (by decide) (Nat.le_of_ble_eq_true rfl) (fun p e s m below meth c A ls X hW hl => ?_)
  have hx := X.1
  have hb := X.2.1
  have hts := X.2.2.2.2.2.1
  have hown := X.2.2.2.2.2.2.1
  have hl : lv_has ls 5 [(0, .ref (aT 0)), (1, .int p1), (2, .int p2), (3, .int p3)] := hl
  unfold MX8_passesBy at hM
  refine lv_iconst (v := (0 : Int32)) hx hb dX8_passesBy_0 (by decide) ?_
  refine lv_istore (lv' := [(4, .int (0 : Int32)), (0, .ref (aT 0)), (1, .int p1), (2, .int p2), (3, .int p3)]) hx hb dX8_passesBy_1 hl (by decide) rfl (fun ls hl => ?_)
  have j63 : ∀ (yT0_63 : (Nat → Int32)) (H : Heap) (locs : List Loc) (ls : Array Slot), Wd G A s [wMod cI cZ aT yT0_63 T_undoes T_kept T_persons T_family T_gives T_warm T_rumour T_seen T_seenOf T_seenBehind T_seenHas T_text T_texted T_place T_number T_readPersons T_readKind T_readComes T_readFamily T_readGives T_readWarm T_readRumour T_toCome T_order T_bestOrder] H locs → lv_has ls 5 [(0, .ref (aT 0)), (1, .int p1), (2, .int p2), (3, .int p3)] → MX8_passesBy_j63 N T_persons T_gives T_warm p1 p2 p3 yT0_63 = some rr → W p l e (rmO 3 74) s m ([.ref (aT 0), .int p1, .int p2, .int p3] : List Value).toArray below meth c H locs 0 0 (MQ below (qV G [wMod cI cZ aT rr T_undoes T_kept T_persons T_family T_gives T_warm T_rumour T_seen T_seenOf T_seenBehind T_seenHas T_text T_texted T_place T_number T_readPersons T_readKind T_readComes T_readFamily T_readGives T_readWarm T_readRumour T_toCome T_order T_bestOrder] A) ([.ref (aT 0), .int p1, .int p2, .int p3] : List Value).toArray s 0 0 A) (F0 m 63 ls []) := by
    intro yT0_63 H locs ls hW hl hM
    unfold MX8_passesBy_j63 at hM
    refine lv_iconst (v := (0 : Int32)) hx hb dX8_passesBy_63 (by decide) ?_
    refine lv_istore (lv' := [(4, .int (0 : Int32)), (0, .ref (aT 0)), (1, .int p1), (2, .int p2), (3, .int p3)]) hx hb dX8_passesBy_64 hl (by decide) rfl (fun ls hl => ?_)
    have j136 : ∀ (yT0_136 : (Nat → Int32)) (H : Heap) (locs : List Loc) (ls : Array Slot), Wd G A s [wMod cI cZ aT yT0_136 T_undoes T_kept T_persons T_family T_gives T_warm T_rumour T_seen T_seenOf T_seenBehind T_seenHas T_text T_texted T_place T_number T_readPersons T_readKind T_readComes T_readFamily T_readGives T_readWarm T_readRumour T_toCome T_order T_bestOrder] H locs → lv_has ls 5 [(0, .ref (aT 0)), (1, .int p1), (2, .int p2), (3, .int p3)] → MX8_passesBy_j136 N T_gives T_warm p1 p2 p3 yT0_136 = some rr → W p l e (rmO 3 74) s m ([.ref (aT 0), .int p1, .int p2, .int p3] : List Value).toArray below meth c H locs 0 0 (MQ below (qV G [wMod cI cZ aT rr T_undoes T_kept T_persons T_family T_gives T_warm T_rumour T_seen T_seenOf T_seenBehind T_seenHas T_text T_texted T_place T_number T_readPersons T_readKind T_readComes T_readFamily T_readGives T_readWarm T_readRumour T_toCome T_order T_bestOrder] A) ([.ref (aT 0), .int p1, .int p2, .int p3] : List Value).toArray s 0 0 A) (F0 m 136 ls []) := by
      intro yT0_136 H locs ls hW hl hM
      unfold MX8_passesBy_j136 at hM
      refine lv_aload_n hx hb dX8_passesBy_136 rfl (lv_at hl 0 rfl) ?_
      refine g_get X hW 0 rfl rfl inX8 0 (by decide) q_817 rfl dX8_passesBy_137 ?_
      refine lv_iload_n hx hb dX8_passesBy_140 rfl (lv_at hl 1 rfl) ?_
      refine lv_iconst (v := (0 : Int32)) hx hb dX8_passesBy_141 (by decide) ?_
      refine lv_iadd hx hb dX8_passesBy_142 ?_
      obtain ⟨hi143, hM⟩ := MG_some hM
      refine g_ald X hW 1 rfl hi143 dX8_passesBy_143 ?_
      refine lv_aload_n hx hb dX8_passesBy_144 rfl (lv_at hl 0 rfl) ?_
      refine g_get X hW 0 rfl rfl inX8 5 (by decide) q_822 rfl dX8_passesBy_145 ?_
      obtain ⟨hz148, hM⟩ := MD_some hM
      refine lv_irem hx hb dX8_passesBy_148 hz148 ?_
      have j176 : ∀ (yT0_176 : (Nat → Int32)) (H : Heap) (locs : List Loc) (ls : Array Slot), Wd G A s [wMod cI cZ aT yT0_176 T_undoes T_kept T_persons T_family T_gives T_warm T_rumour T_seen T_seenOf T_seenBehind T_seenHas T_text T_texted T_place T_number T_readPersons T_readKind T_readComes T_readFamily T_readGives T_readWarm T_readRumour T_toCome T_order T_bestOrder] H locs → lv_has ls 5 [(0, .ref (aT 0)), (1, .int p1)] → MX8_passesBy_j176 N p1 yT0_176 = some rr → W p l e (rmO 3 74) s m ([.ref (aT 0), .int p1, .int p2, .int p3] : List Value).toArray below meth c H locs 0 0 (MQ below (qV G [wMod cI cZ aT rr T_undoes T_kept T_persons T_family T_gives T_warm T_rumour T_seen T_seenOf T_seenBehind T_seenHas T_text T_texted T_place T_number T_readPersons T_readKind T_readComes T_readFamily T_readGives T_readWarm T_readRumour T_toCome T_order T_bestOrder] A) ([.ref (aT 0), .int p1, .int p2, .int p3] : List Value).toArray s 0 0 A) (F0 m 176 ls []) := by
        intro yT0_176 H locs ls hW hl hM
        unfold MX8_passesBy_j176 at hM
        refine lv_iconst (v := (0 : Int32)) hx hb dX8_passesBy_176 (by decide) ?_
        refine lv_istore (lv' := [(4, .int (0 : Int32)), (0, .ref (aT 0)), (1, .int p1)]) hx hb dX8_passesBy_177 hl (by decide) rfl (fun ls hl => ?_)
        have j223 : ∀ (yT0_223 : (Nat → Int32)) (H : Heap) (locs : List Loc) (ls : Array Slot), Wd G A s [wMod cI cZ aT yT0_223 T_undoes T_kept T_persons T_family T_gives T_warm T_rumour T_seen T_seenOf T_seenBehind T_seenHas T_text T_texted T_place T_number T_readPersons T_readKind T_readComes T_readFamily T_readGives T_readWarm T_readRumour T_toCome T_order T_bestOrder] H locs → lv_has ls 5 [(0, .ref (aT 0)), (1, .int p1)] → MX8_passesBy_j223 p1 yT0_223 = some rr → W p l e (rmO 3 74) s m ([.ref (aT 0), .int p1, .int p2, .int p3] : List Value).toArray below meth c H locs 0 0 (MQ below (qV G [wMod cI cZ aT rr T_undoes T_kept T_persons T_family T_gives T_warm T_rumour T_seen T_seenOf T_seenBehind T_seenHas T_text T_texted T_place T_number T_readPersons T_readKind T_readComes T_readFamily T_readGives T_readWarm T_readRumour T_toCome T_order T_bestOrder] A) ([.ref (aT 0), .int p1, .int p2, .int p3] : List Value).toArray s 0 0 A) (F0 m 223 ls []) := by
          intro yT0_223 H locs ls hW hl hM
          unfold MX8_passesBy_j223 at hM
          refine lv_aload_n hx hb dX8_passesBy_223 rfl (lv_at hl 0 rfl) ?_
          refine g_get X hW 0 rfl rfl inX8 0 (by decide) q_817 rfl dX8_passesBy_224 ?_
          refine lv_iload_n hx hb dX8_passesBy_227 rfl (lv_at hl 1 rfl) ?_
          refine lv_iconst (v := (0 : Int32)) hx hb dX8_passesBy_228 (by decide) ?_
          refine lv_iadd hx hb dX8_passesBy_229 ?_
          refine lv_dup2_11 hx hb dX8_passesBy_230 rfl rfl ?_
          obtain ⟨hi231, hM⟩ := MG_some hM
          refine g_ald X hW 1 rfl hi231 dX8_passesBy_231 ?_
          refine lv_iconst (v := (1 : Int32)) hx hb dX8_passesBy_232 (by decide) ?_
          refine lv_iadd hx hb dX8_passesBy_233 ?_
          obtain ⟨hi234, hM⟩ := MG_some hM
          refine g_ast X hW 1 rfl hi234 [wMod cI cZ aT (upd yT0_223 (p1 + (0 : Int32)).toNatClampNeg ((yT0_223 (p1 + (0 : Int32)).toNatClampNeg) + (1 : Int32))) T_undoes T_kept T_persons T_family T_gives T_warm T_rumour T_seen T_seenOf T_seenBehind T_seenHas T_text T_texted T_place T_number T_readPersons T_readKind T_readComes T_readFamily T_readGives T_readWarm T_readRumour T_toCome T_order T_bestOrder] rfl dX8_passesBy_234 (fun H locs hW => ?_)
          obtain rfl := Option.some.inj hM
          exact g_retv X hW dX8_passesBy_235
        have lp179 : ∀ (n179 : Nat) (x4_179 : Int32) (yT0_179 : (Nat → Int32)) (H : Heap) (locs : List Loc) (ls : Array Slot), Wd G A s [wMod cI cZ aT yT0_179 T_undoes T_kept T_persons T_family T_gives T_warm T_rumour T_seen T_seenOf T_seenBehind T_seenHas T_text T_texted T_place T_number T_readPersons T_readKind T_readComes T_readFamily T_readGives T_readWarm T_readRumour T_toCome T_order T_bestOrder] H locs → lv_has ls 5 [(0, .ref (aT 0)), (1, .int p1), (4, .int x4_179)] → MX8_passesBy_l179 p1 n179 x4_179 yT0_179 = some rr → W p l e (rmO 3 74) s m ([.ref (aT 0), .int p1, .int p2, .int p3] : List Value).toArray below meth c H locs 0 0 (MQ below (qV G [wMod cI cZ aT rr T_undoes T_kept T_persons T_family T_gives T_warm T_rumour T_seen T_seenOf T_seenBehind T_seenHas T_text T_texted T_place T_number T_readPersons T_readKind T_readComes T_readFamily T_readGives T_readWarm T_readRumour T_toCome T_order T_bestOrder] A) ([.ref (aT 0), .int p1, .int p2, .int p3] : List Value).toArray s 0 0 A) (F0 m 179 ls []) := by
          intro n179
          induction n179 with
          | zero =>
            intro x4_179 yT0_179 H locs ls hW hl hM
            rw [MX8_passesBy_l179] at hM
            cases hM
          | succ n179 ih179 =>
            intro x4_179 yT0_179 H locs ls hW hl hM
            rw [MX8_passesBy_l179] at hM
            refine lv_iload hx hb dX8_passesBy_179 (lv_at hl 2 rfl) ?_
            refine lv_aload_n hx hb dX8_passesBy_181 rfl (lv_at hl 0 rfl) ?_
            refine g_get X hW 0 rfl rfl inX8 0 (by decide) q_817 rfl dX8_passesBy_182 ?_
            refine lv_iload_n hx hb dX8_passesBy_185 rfl (lv_at hl 1 rfl) ?_
            refine lv_iconst (v := (2 : Int32)) hx hb dX8_passesBy_186 (by decide) ?_
            refine lv_iadd hx hb dX8_passesBy_187 ?_
            obtain ⟨hi188, hM⟩ := MG_some hM
            refine g_ald X hW 1 rfl hi188 dX8_passesBy_188 ?_
            refine lv_icmp_ge (tgt := 223) hx hb dX8_passesBy_189 (by decide) (fun hc => ?_) (fun hc => ?_)
            · have hM := (if_pos hc).symm.trans hM
              exact j223 yT0_179 _ _ _ hW (lv_sub hl [0, 1] rfl) hM
            · have hM := (if_neg hc).symm.trans hM
              refine lv_aload_n hx hb dX8_passesBy_192 rfl (lv_at hl 0 rfl) ?_
              refine g_get X hW 0 rfl rfl inX8 0 (by decide) q_817 rfl dX8_passesBy_193 ?_
              refine lv_iload_n hx hb dX8_passesBy_196 rfl (lv_at hl 1 rfl) ?_
              refine lv_bipush (v := (21 : Int32)) hx hb dX8_passesBy_197 (by decide) ?_
              refine lv_iadd hx hb dX8_passesBy_199 ?_
              refine lv_aload_n hx hb dX8_passesBy_200 rfl (lv_at hl 0 rfl) ?_
              refine g_get X hW 0 rfl rfl inX8 0 (by decide) q_817 rfl dX8_passesBy_201 ?_
              refine lv_iload_n hx hb dX8_passesBy_204 rfl (lv_at hl 1 rfl) ?_
              refine lv_iconst (v := (3 : Int32)) hx hb dX8_passesBy_205 (by decide) ?_
              refine lv_iadd hx hb dX8_passesBy_206 ?_
              refine lv_iload hx hb dX8_passesBy_207 (lv_at hl 2 rfl) ?_
              refine lv_iadd hx hb dX8_passesBy_209 ?_
              obtain ⟨hi210, hM⟩ := MG_some hM
              refine g_ald X hW 1 rfl hi210 dX8_passesBy_210 ?_
              refine lv_iadd hx hb dX8_passesBy_211 ?_
              refine lv_dup2_11 hx hb dX8_passesBy_212 rfl rfl ?_
              obtain ⟨hi213, hM⟩ := MG_some hM
              refine g_ald X hW 1 rfl hi213 dX8_passesBy_213 ?_
              refine lv_iconst (v := (1 : Int32)) hx hb dX8_passesBy_214 (by decide) ?_
              refine lv_iadd hx hb dX8_passesBy_215 ?_
              obtain ⟨hi216, hM⟩ := MG_some hM
              refine g_ast X hW 1 rfl hi216 [wMod cI cZ aT (upd yT0_179 ((p1 + (21 : Int32)) + (yT0_179 ((p1 + (3 : Int32)) + x4_179).toNatClampNeg)).toNatClampNeg ((yT0_179 ((p1 + (21 : Int32)) + (yT0_179 ((p1 + (3 : Int32)) + x4_179).toNatClampNeg)).toNatClampNeg) + (1 : Int32))) T_undoes T_kept T_persons T_family T_gives T_warm T_rumour T_seen T_seenOf T_seenBehind T_seenHas T_text T_texted T_place T_number T_readPersons T_readKind T_readComes T_readFamily T_readGives T_readWarm T_readRumour T_toCome T_order T_bestOrder] rfl dX8_passesBy_216 (fun H locs hW => ?_)
              refine lv_iinc (v := x4_179 + (1 : Int32)) (lv' := [(4, .int (x4_179 + (1 : Int32))), (0, .ref (aT 0)), (1, .int p1)]) hx hb dX8_passesBy_217 hl (k := 2) rfl rfl (by decide) rfl (fun ls hl => ?_)
              refine lv_goto (tgt := 179) hx hb dX8_passesBy_220 (by decide) ?_
              exact ih179 (x4_179 + (1 : Int32)) (upd yT0_179 ((p1 + (21 : Int32)) + (yT0_179 ((p1 + (3 : Int32)) + x4_179).toNatClampNeg)).toNatClampNeg ((yT0_179 ((p1 + (21 : Int32)) + (yT0_179 ((p1 + (3 : Int32)) + x4_179).toNatClampNeg)).toNatClampNeg) + (1 : Int32))) _ _ _ hW (lv_sub hl [1, 2, 0] rfl) hM
        exact lp179 N (0 : Int32) yT0_176 _ _ _ hW (lv_sub hl [1, 2, 0] rfl) hM
      refine lv_if_ne (tgt := 176) hx hb dX8_passesBy_149 (by decide) (fun hc => ?_) (fun hc => ?_)
      · have hM := (if_neg hc).symm.trans hM
        exact j176 yT0_136 _ _ _ hW (lv_sub hl [0, 1] rfl) hM
      · have hM := (if_pos hc).symm.trans hM
        refine lv_aload_n hx hb dX8_passesBy_152 rfl (lv_at hl 0 rfl) ?_
        refine lv_iload_n hx hb dX8_passesBy_153 rfl (lv_at hl 1 rfl) ?_
        refine lv_iload_n hx hb dX8_passesBy_154 rfl (lv_at hl 3 rfl) ?_
        obtain ⟨u155, hu155, hM⟩ := bind_some hM
        refine g_callVv (rest := []) (gr := []) X hl.1 hW (c_X8_givesOne l G cI cZ cL N aT yT0_136 T_undoes T_kept T_persons T_family T_gives T_warm T_rumour T_seen T_seenOf T_seenBehind T_seenHas T_text T_texted T_place T_number T_readPersons T_readKind T_readComes T_readFamily T_readGives T_readWarm T_readRumour T_toCome T_order T_bestOrder p1 p3 u155 hu155) q_1007 q_1004 q_1006 q_40 q_67 hd_X8_givesOne rfl ⟨Nat.le_of_ble_eq_true rfl, Nat.le_of_ble_eq_true rfl⟩ ⟨Nat.zero_le _, Nat.zero_le _⟩ [0] [] [wMod cI cZ aT u155 T_undoes T_kept T_persons T_family T_gives T_warm T_rumour T_seen T_seenOf T_seenBehind T_seenHas T_text T_texted T_place T_number T_readPersons T_readKind T_readComes T_readFamily T_readGives T_readWarm T_readRumour T_toCome T_order T_bestOrder] ⟨pm_1_0, rfl, rfl, rfl⟩ ⟨pm_1_0, rfl, rfl, rfl⟩ (q0 := 0) rfl rfl rfl (Nat.le_of_ble_eq_true rfl) dX8_passesBy_155 (fun H locs hW => ?_)
        refine lv_iload_n hx hb dX8_passesBy_158 rfl (lv_at hl 2 rfl) ?_
        refine lv_if_eq (tgt := 176) hx hb dX8_passesBy_159 (by decide) (fun hc => ?_) (fun hc => ?_)
        · have hM := (if_pos hc).symm.trans hM
          exact j176 u155 _ _ _ hW (lv_sub hl [0, 1] rfl) hM
        · have hM := (if_neg hc).symm.trans hM
          refine lv_aload_n hx hb dX8_passesBy_162 rfl (lv_at hl 0 rfl) ?_
          refine lv_iload_n hx hb dX8_passesBy_163 rfl (lv_at hl 1 rfl) ?_
          refine lv_iload_n hx hb dX8_passesBy_164 rfl (lv_at hl 3 rfl) ?_
          have j173 : ∀ (t2_173 : Int32) (H : Heap) (locs : List Loc) (ls : Array Slot), Wd G A s [wMod cI cZ aT u155 T_undoes T_kept T_persons T_family T_gives T_warm T_rumour T_seen T_seenOf T_seenBehind T_seenHas T_text T_texted T_place T_number T_readPersons T_readKind T_readComes T_readFamily T_readGives T_readWarm T_readRumour T_toCome T_order T_bestOrder] H locs → lv_has ls 5 [(0, .ref (aT 0)), (1, .int p1)] → MX8_passesBy_j173 N T_warm p1 u155 t2_173 = some rr → W p l e (rmO 3 74) s m ([.ref (aT 0), .int p1, .int p2, .int p3] : List Value).toArray below meth c H locs 0 0 (MQ below (qV G [wMod cI cZ aT rr T_undoes T_kept T_persons T_family T_gives T_warm T_rumour T_seen T_seenOf T_seenBehind T_seenHas T_text T_texted T_place T_number T_readPersons T_readKind T_readComes T_readFamily T_readGives T_readWarm T_readRumour T_toCome T_order T_bestOrder] A) ([.ref (aT 0), .int p1, .int p2, .int p3] : List Value).toArray s 0 0 A) (F0 m 173 ls [.int t2_173, .int p1, .ref (aT 0)]) := by
            intro t2_173 H locs ls hW hl hM
            unfold MX8_passesBy_j173 at hM
            obtain ⟨u173, hu173, hM⟩ := bind_some hM
            refine g_callVv (rest := []) (gr := []) X hl.1 hW (c_X8_givesOne l G cI cZ cL N aT u155 T_undoes T_kept T_persons T_family T_gives T_warm T_rumour T_seen T_seenOf T_seenBehind T_seenHas T_text T_texted T_place T_number T_readPersons T_readKind T_readComes T_readFamily T_readGives T_readWarm T_readRumour T_toCome T_order T_bestOrder p1 t2_173 u173 hu173) q_1007 q_1004 q_1006 q_40 q_67 hd_X8_givesOne rfl ⟨Nat.le_of_ble_eq_true rfl, Nat.le_of_ble_eq_true rfl⟩ ⟨Nat.zero_le _, Nat.zero_le _⟩ [0] [] [wMod cI cZ aT u173 T_undoes T_kept T_persons T_family T_gives T_warm T_rumour T_seen T_seenOf T_seenBehind T_seenHas T_text T_texted T_place T_number T_readPersons T_readKind T_readComes T_readFamily T_readGives T_readWarm T_readRumour T_toCome T_order T_bestOrder] ⟨pm_1_0, rfl, rfl, rfl⟩ ⟨pm_1_0, rfl, rfl, rfl⟩ (q0 := 0) rfl rfl rfl (Nat.le_of_ble_eq_true rfl) dX8_passesBy_173 (fun H locs hW => ?_)
            exact j176 u173 _ _ _ hW (lv_sub hl [0, 1] rfl) hM
          refine lv_if_ne (tgt := 172) hx hb dX8_passesBy_165 (by decide) (fun hc => ?_) (fun hc => ?_)
          · have hM := (if_neg hc).symm.trans hM
            refine lv_iconst (v := (0 : Int32)) hx hb dX8_passesBy_172 (by decide) ?_
            exact j173 (0 : Int32) _ _ _ hW (lv_sub hl [0, 1] rfl) hM
          · have hM := (if_pos hc).symm.trans hM
            refine lv_iconst (v := (1 : Int32)) hx hb dX8_passesBy_168 (by decide) ?_
            refine lv_goto (tgt := 173) hx hb dX8_passesBy_169 (by decide) ?_
            exact j173 (1 : Int32) _ _ _ hW (lv_sub hl [0, 1] rfl) hM
    have lp66 : ∀ (n66 : Nat) (x4_66 : Int32) (yT0_66 : (Nat → Int32)) (H : Heap) (locs : List Loc) (ls : Array Slot), Wd G A s [wMod cI cZ aT yT0_66 T_undoes T_kept T_persons T_family T_gives T_warm T_rumour T_seen T_seenOf T_seenBehind T_seenHas T_text T_texted T_place T_number T_readPersons T_readKind T_readComes T_readFamily T_readGives T_readWarm T_readRumour T_toCome T_order T_bestOrder] H locs → lv_has ls 5 [(0, .ref (aT 0)), (1, .int p1), (2, .int p2), (3, .int p3), (4, .int x4_66)] → MX8_passesBy_l66 N T_persons T_gives T_warm p1 p2 p3 n66 x4_66 yT0_66 = some rr → W p l e (rmO 3 74) s m ([.ref (aT 0), .int p1, .int p2, .int p3] : List Value).toArray below meth c H locs 0 0 (MQ below (qV G [wMod cI cZ aT rr T_undoes T_kept T_persons T_family T_gives T_warm T_rumour T_seen T_seenOf T_seenBehind T_seenHas T_text T_texted T_place T_number T_readPersons T_readKind T_readComes T_readFamily T_readGives T_readWarm T_readRumour T_toCome T_order T_bestOrder] A) ([.ref (aT 0), .int p1, .int p2, .int p3] : List Value).toArray s 0 0 A) (F0 m 66 ls []) := by
      intro n66
      induction n66 with
      | zero =>
        intro x4_66 yT0_66 H locs ls hW hl hM
        rw [MX8_passesBy_l66] at hM
        cases hM
      | succ n66 ih66 =>
        intro x4_66 yT0_66 H locs ls hW hl hM
        rw [MX8_passesBy_l66] at hM
        refine lv_iload hx hb dX8_passesBy_66 (lv_at hl 4 rfl) ?_
        refine lv_aload_n hx hb dX8_passesBy_68 rfl (lv_at hl 0 rfl) ?_
        refine g_get X hW 0 rfl rfl inX8 3 (by decide) q_820 rfl dX8_passesBy_69 ?_
        refine lv_icmp_ge (tgt := 136) hx hb dX8_passesBy_72 (by decide) (fun hc => ?_) (fun hc => ?_)
        · have hM := (if_pos hc).symm.trans hM
          exact j136 yT0_66 _ _ _ hW (lv_sub hl [0, 1, 2, 3] rfl) hM
        · have hM := (if_neg hc).symm.trans hM
          refine lv_aload_n hx hb dX8_passesBy_75 rfl (lv_at hl 0 rfl) ?_
          refine g_get X hW 0 rfl rfl inX8 0 (by decide) q_817 rfl dX8_passesBy_76 ?_
          refine lv_iload_n hx hb dX8_passesBy_79 rfl (lv_at hl 1 rfl) ?_
          refine lv_bipush (v := (57 : Int32)) hx hb dX8_passesBy_80 (by decide) ?_
          refine lv_iadd hx hb dX8_passesBy_82 ?_
          refine lv_iload hx hb dX8_passesBy_83 (lv_at hl 4 rfl) ?_
          refine lv_iadd hx hb dX8_passesBy_85 ?_
          obtain ⟨hi86, hM⟩ := MG_some hM
          refine g_ald X hW 1 rfl hi86 dX8_passesBy_86 ?_
          refine lv_iconst (v := (2 : Int32)) hx hb dX8_passesBy_87 (by decide) ?_
          have j130 : ∀ (yT0_130 : (Nat → Int32)) (H : Heap) (locs : List Loc) (ls : Array Slot), Wd G A s [wMod cI cZ aT yT0_130 T_undoes T_kept T_persons T_family T_gives T_warm T_rumour T_seen T_seenOf T_seenBehind T_seenHas T_text T_texted T_place T_number T_readPersons T_readKind T_readComes T_readFamily T_readGives T_readWarm T_readRumour T_toCome T_order T_bestOrder] H locs → lv_has ls 5 [(0, .ref (aT 0)), (1, .int p1), (2, .int p2), (3, .int p3), (4, .int x4_66)] → MX8_passesBy_j130 x4_66 (MX8_passesBy_l66 N T_persons T_gives T_warm p1 p2 p3 n66) yT0_130 = some rr → W p l e (rmO 3 74) s m ([.ref (aT 0), .int p1, .int p2, .int p3] : List Value).toArray below meth c H locs 0 0 (MQ below (qV G [wMod cI cZ aT rr T_undoes T_kept T_persons T_family T_gives T_warm T_rumour T_seen T_seenOf T_seenBehind T_seenHas T_text T_texted T_place T_number T_readPersons T_readKind T_readComes T_readFamily T_readGives T_readWarm T_readRumour T_toCome T_order T_bestOrder] A) ([.ref (aT 0), .int p1, .int p2, .int p3] : List Value).toArray s 0 0 A) (F0 m 130 ls []) := by
            intro yT0_130 H locs ls hW hl hM
            unfold MX8_passesBy_j130 at hM
            refine lv_iinc (v := x4_66 + (1 : Int32)) (lv' := [(4, .int (x4_66 + (1 : Int32))), (0, .ref (aT 0)), (1, .int p1), (2, .int p2), (3, .int p3)]) hx hb dX8_passesBy_130 hl (k := 4) rfl rfl (by decide) rfl (fun ls hl => ?_)
            refine lv_goto (tgt := 66) hx hb dX8_passesBy_133 (by decide) ?_
            exact ih66 (x4_66 + (1 : Int32)) yT0_130 _ _ _ hW (lv_sub hl [1, 2, 3, 4, 0] rfl) hM
          refine lv_icmp_ne (tgt := 130) hx hb dX8_passesBy_88 (by decide) (fun hc => ?_) (fun hc => ?_)
          · have hM := (if_neg hc).symm.trans hM
            exact j130 yT0_66 _ _ _ hW (lv_sub hl [0, 1, 2, 3, 4] rfl) hM
          · have hM := (if_pos hc).symm.trans hM
            refine lv_aload_n hx hb dX8_passesBy_91 rfl (lv_at hl 0 rfl) ?_
            refine g_get X hW 0 rfl rfl inX8 0 (by decide) q_817 rfl dX8_passesBy_92 ?_
            refine lv_iload_n hx hb dX8_passesBy_95 rfl (lv_at hl 1 rfl) ?_
            refine lv_bipush (v := (12 : Int32)) hx hb dX8_passesBy_96 (by decide) ?_
            refine lv_iadd hx hb dX8_passesBy_98 ?_
            refine lv_iload hx hb dX8_passesBy_99 (lv_at hl 4 rfl) ?_
            refine lv_iadd hx hb dX8_passesBy_101 ?_
            obtain ⟨hi102, hM⟩ := MG_some hM
            refine g_ald X hW 1 rfl hi102 dX8_passesBy_102 ?_
            refine lv_iconst (v := (1 : Int32)) hx hb dX8_passesBy_103 (by decide) ?_
            refine lv_icmp_ne (tgt := 130) hx hb dX8_passesBy_104 (by decide) (fun hc => ?_) (fun hc => ?_)
            · have hM := (if_neg hc).symm.trans hM
              exact j130 yT0_66 _ _ _ hW (lv_sub hl [0, 1, 2, 3, 4] rfl) hM
            · have hM := (if_pos hc).symm.trans hM
              refine lv_aload_n hx hb dX8_passesBy_107 rfl (lv_at hl 0 rfl) ?_
              refine g_get X hW 0 rfl rfl inX8 0 (by decide) q_817 rfl dX8_passesBy_108 ?_
              refine lv_iload_n hx hb dX8_passesBy_111 rfl (lv_at hl 1 rfl) ?_
              refine lv_bipush (v := (21 : Int32)) hx hb dX8_passesBy_112 (by decide) ?_
              refine lv_iadd hx hb dX8_passesBy_114 ?_
              refine lv_iload hx hb dX8_passesBy_115 (lv_at hl 4 rfl) ?_
              refine lv_iadd hx hb dX8_passesBy_117 ?_
              obtain ⟨hi118, hM⟩ := MG_some hM
              refine g_ald X hW 1 rfl hi118 dX8_passesBy_118 ?_
              refine lv_iconst (v := (4 : Int32)) hx hb dX8_passesBy_119 (by decide) ?_
              refine lv_icmp_lt (tgt := 130) hx hb dX8_passesBy_120 (by decide) (fun hc => ?_) (fun hc => ?_)
              · have hM := (if_pos hc).symm.trans hM
                exact j130 yT0_66 _ _ _ hW (lv_sub hl [0, 1, 2, 3, 4] rfl) hM
              · have hM := (if_neg hc).symm.trans hM
                refine lv_aload_n hx hb dX8_passesBy_123 rfl (lv_at hl 0 rfl) ?_
                refine lv_iload_n hx hb dX8_passesBy_124 rfl (lv_at hl 1 rfl) ?_
                refine lv_iload hx hb dX8_passesBy_125 (lv_at hl 4 rfl) ?_
                obtain ⟨u127, hu127, hM⟩ := bind_some hM
                refine g_callVv (rest := []) (gr := []) X hl.1 hW (c_X8_sneezes l G cI cZ cL N aT yT0_66 T_undoes T_kept T_persons T_family T_gives T_warm T_rumour T_seen T_seenOf T_seenBehind T_seenHas T_text T_texted T_place T_number T_readPersons T_readKind T_readComes T_readFamily T_readGives T_readWarm T_readRumour T_toCome T_order T_bestOrder p1 x4_66 u127 hu127) q_999 q_996 q_998 q_38 q_67 hd_X8_sneezes rfl ⟨Nat.le_of_ble_eq_true rfl, Nat.le_of_ble_eq_true rfl⟩ ⟨Nat.zero_le _, Nat.zero_le _⟩ [0] [] [wMod cI cZ aT u127 T_undoes T_kept T_persons T_family T_gives T_warm T_rumour T_seen T_seenOf T_seenBehind T_seenHas T_text T_texted T_place T_number T_readPersons T_readKind T_readComes T_readFamily T_readGives T_readWarm T_readRumour T_toCome T_order T_bestOrder] ⟨pm_1_0, rfl, rfl, rfl⟩ ⟨pm_1_0, rfl, rfl, rfl⟩ (q0 := 0) rfl rfl rfl (Nat.le_of_ble_eq_true rfl) dX8_passesBy_127 (fun H locs hW => ?_)
                exact j130 u127 _ _ _ hW (lv_sub hl [0, 1, 2, 3, 4] rfl) hM
    exact lp66 N (0 : Int32) yT0_63 _ _ _ hW (lv_sub hl [1, 2, 3, 4, 0] rfl) hM
  have lp3 : ∀ (n3 : Nat) (x4_3 : Int32) (yT0_3 : (Nat → Int32)) (H : Heap) (locs : List Loc) (ls : Array Slot), Wd G A s [wMod cI cZ aT yT0_3 T_undoes T_kept T_persons T_family T_gives T_warm T_rumour T_seen T_seenOf T_seenBehind T_seenHas T_text T_texted T_place T_number T_readPersons T_readKind T_readComes T_readFamily T_readGives T_readWarm T_readRumour T_toCome T_order T_bestOrder] H locs → lv_has ls 5 [(0, .ref (aT 0)), (1, .int p1), (2, .int p2), (3, .int p3), (4, .int x4_3)] → MX8_passesBy_l3 N T_persons T_family T_gives T_warm p1 p2 p3 n3 x4_3 yT0_3 = some rr → W p l e (rmO 3 74) s m ([.ref (aT 0), .int p1, .int p2, .int p3] : List Value).toArray below meth c H locs 0 0 (MQ below (qV G [wMod cI cZ aT rr T_undoes T_kept T_persons T_family T_gives T_warm T_rumour T_seen T_seenOf T_seenBehind T_seenHas T_text T_texted T_place T_number T_readPersons T_readKind T_readComes T_readFamily T_readGives T_readWarm T_readRumour T_toCome T_order T_bestOrder] A) ([.ref (aT 0), .int p1, .int p2, .int p3] : List Value).toArray s 0 0 A) (F0 m 3 ls []) := by
    intro n3
    induction n3 with
    | zero =>
      intro x4_3 yT0_3 H locs ls hW hl hM
      rw [MX8_passesBy_l3] at hM
      cases hM
    | succ n3 ih3 =>
      intro x4_3 yT0_3 H locs ls hW hl hM
      rw [MX8_passesBy_l3] at hM
      refine lv_iload hx hb dX8_passesBy_3 (lv_at hl 4 rfl) ?_
      refine lv_aload_n hx hb dX8_passesBy_5 rfl (lv_at hl 0 rfl) ?_
      refine g_get X hW 0 rfl rfl inX8 3 (by decide) q_820 rfl dX8_passesBy_6 ?_
      refine lv_icmp_ge (tgt := 63) hx hb dX8_passesBy_9 (by decide) (fun hc => ?_) (fun hc => ?_)
      · have hM := (if_pos hc).symm.trans hM
        exact j63 yT0_3 _ _ _ hW (lv_sub hl [0, 1, 2, 3] rfl) hM
      · have hM := (if_neg hc).symm.trans hM
        refine lv_aload_n hx hb dX8_passesBy_12 rfl (lv_at hl 0 rfl) ?_
        refine g_get X hW 0 rfl rfl inX8 0 (by decide) q_817 rfl dX8_passesBy_13 ?_
        refine lv_iload_n hx hb dX8_passesBy_16 rfl (lv_at hl 1 rfl) ?_
        refine lv_bipush (v := (12 : Int32)) hx hb dX8_passesBy_17 (by decide) ?_
        refine lv_iadd hx hb dX8_passesBy_19 ?_
        refine lv_iload hx hb dX8_passesBy_20 (lv_at hl 4 rfl) ?_
        refine lv_iadd hx hb dX8_passesBy_22 ?_
        obtain ⟨hi23, hM⟩ := MG_some hM
        refine g_ald X hW 1 rfl hi23 dX8_passesBy_23 ?_
        have j57 : ∀ (yT0_57 : (Nat → Int32)) (H : Heap) (locs : List Loc) (ls : Array Slot), Wd G A s [wMod cI cZ aT yT0_57 T_undoes T_kept T_persons T_family T_gives T_warm T_rumour T_seen T_seenOf T_seenBehind T_seenHas T_text T_texted T_place T_number T_readPersons T_readKind T_readComes T_readFamily T_readGives T_readWarm T_readRumour T_toCome T_order T_bestOrder] H locs → lv_has ls 5 [(0, .ref (aT 0)), (1, .int p1), (2, .int p2), (3, .int p3), (4, .int x4_3)] → MX8_passesBy_j57 x4_3 (MX8_passesBy_l3 N T_persons T_family T_gives T_warm p1 p2 p3 n3) yT0_57 = some rr → W p l e (rmO 3 74) s m ([.ref (aT 0), .int p1, .int p2, .int p3] : List Value).toArray below meth c H locs 0 0 (MQ below (qV G [wMod cI cZ aT rr T_undoes T_kept T_persons T_family T_gives T_warm T_rumour T_seen T_seenOf T_seenBehind T_seenHas T_text T_texted T_place T_number T_readPersons T_readKind T_readComes T_readFamily T_readGives T_readWarm T_readRumour T_toCome T_order T_bestOrder] A) ([.ref (aT 0), .int p1, .int p2, .int p3] : List Value).toArray s 0 0 A) (F0 m 57 ls []) := by
          intro yT0_57 H locs ls hW hl hM
          unfold MX8_passesBy_j57 at hM
          refine lv_iinc (v := x4_3 + (1 : Int32)) (lv' := [(4, .int (x4_3 + (1 : Int32))), (0, .ref (aT 0)), (1, .int p1), (2, .int p2), (3, .int p3)]) hx hb dX8_passesBy_57 hl (k := 4) rfl rfl (by decide) rfl (fun ls hl => ?_)
          refine lv_goto (tgt := 3) hx hb dX8_passesBy_60 (by decide) ?_
          exact ih3 (x4_3 + (1 : Int32)) yT0_57 _ _ _ hW (lv_sub hl [1, 2, 3, 4, 0] rfl) hM
        refine lv_if_ne (tgt := 57) hx hb dX8_passesBy_24 (by decide) (fun hc => ?_) (fun hc => ?_)
        · have hM := (if_neg hc).symm.trans hM
          exact j57 yT0_3 _ _ _ hW (lv_sub hl [0, 1, 2, 3, 4] rfl) hM
        · have hM := (if_pos hc).symm.trans hM
          refine lv_aload_n hx hb dX8_passesBy_27 rfl (lv_at hl 0 rfl) ?_
          refine g_get X hW 0 rfl rfl inX8 0 (by decide) q_817 rfl dX8_passesBy_28 ?_
          refine lv_iload_n hx hb dX8_passesBy_31 rfl (lv_at hl 1 rfl) ?_
          refine lv_bipush (v := (48 : Int32)) hx hb dX8_passesBy_32 (by decide) ?_
          refine lv_iadd hx hb dX8_passesBy_34 ?_
          refine lv_iload hx hb dX8_passesBy_35 (lv_at hl 4 rfl) ?_
          refine lv_iadd hx hb dX8_passesBy_37 ?_
          obtain ⟨hi38, hM⟩ := MG_some hM
          refine g_ald X hW 1 rfl hi38 dX8_passesBy_38 ?_
          refine lv_aload_n hx hb dX8_passesBy_39 rfl (lv_at hl 0 rfl) ?_
          refine g_get X hW 0 rfl rfl inX8 0 (by decide) q_817 rfl dX8_passesBy_40 ?_
          refine lv_iload_n hx hb dX8_passesBy_43 rfl (lv_at hl 1 rfl) ?_
          refine lv_iconst (v := (0 : Int32)) hx hb dX8_passesBy_44 (by decide) ?_
          refine lv_iadd hx hb dX8_passesBy_45 ?_
          obtain ⟨hi46, hM⟩ := MG_some hM
          refine g_ald X hW 1 rfl hi46 dX8_passesBy_46 ?_
          refine lv_icmp_ne (tgt := 57) hx hb dX8_passesBy_47 (by decide) (fun hc => ?_) (fun hc => ?_)
          · have hM := (if_neg hc).symm.trans hM
            exact j57 yT0_3 _ _ _ hW (lv_sub hl [0, 1, 2, 3, 4] rfl) hM
          · have hM := (if_pos hc).symm.trans hM
            refine lv_aload_n hx hb dX8_passesBy_50 rfl (lv_at hl 0 rfl) ?_
            refine lv_iload_n hx hb dX8_passesBy_51 rfl (lv_at hl 1 rfl) ?_
            refine lv_iload hx hb dX8_passesBy_52 (lv_at hl 4 rfl) ?_
            obtain ⟨u54, hu54, hM⟩ := bind_some hM
            refine g_callVv (rest := []) (gr := []) X hl.1 hW (c_X8_joins l G cI cZ cL N aT yT0_3 T_undoes T_kept T_persons T_family T_gives T_warm T_rumour T_seen T_seenOf T_seenBehind T_seenHas T_text T_texted T_place T_number T_readPersons T_readKind T_readComes T_readFamily T_readGives T_readWarm T_readRumour T_toCome T_order T_bestOrder p1 x4_3 u54 hu54) q_991 q_988 q_990 q_36 q_67 hd_X8_joins rfl ⟨Nat.le_of_ble_eq_true rfl, Nat.le_of_ble_eq_true rfl⟩ ⟨Nat.zero_le _, Nat.zero_le _⟩ [0] [] [wMod cI cZ aT u54 T_undoes T_kept T_persons T_family T_gives T_warm T_rumour T_seen T_seenOf T_seenBehind T_seenHas T_text T_texted T_place T_number T_readPersons T_readKind T_readComes T_readFamily T_readGives T_readWarm T_readRumour T_toCome T_order T_bestOrder] ⟨pm_1_0, rfl, rfl, rfl⟩ ⟨pm_1_0, rfl, rfl, rfl⟩ (q0 := 0) rfl rfl rfl (Nat.le_of_ble_eq_true rfl) dX8_passesBy_54 (fun H locs hW => ?_)
            exact j57 u54 _ _ _ hW (lv_sub hl [0, 1, 2, 3, 4] rfl) hM
  exact lp3 N (0 : Int32) T_w _ _ _ hW (lv_sub hl [1, 2, 3, 4, 0] rfl) hM

def MX8_isRumour_j27 : Option (Int32) :=
  some ((0 : Int32))
def MX8_isRumour (N : Nat) (T_w : (Nat → Int32)) (T_rumour : Int32) (p1 : Int32) : Option (Int32) :=
  if T_rumour ≤ 0 then (MX8_isRumour_j27) else (MG (p1 + (0 : Int32)) 792 (MD T_rumour (if ((T_w (p1 + (0 : Int32)).toNatClampNeg) - (T_w (p1 + (0 : Int32)).toNatClampNeg) / T_rumour * T_rumour) = 0 then some ((1 : Int32)) else (MX8_isRumour_j27))))
set_option maxHeartbeats 4000000 in
set_option maxRecDepth 100000 in
theorem c_X8_isRumour (l : Launch) (G : va_G) (cI cZ cL : ClassId) (N : Nat) (aT : Nat → Nat) (T_w : (Nat → Int32)) (T_undoes : Int32) (T_kept : Int32) (T_persons : Int32) (T_family : (Nat → Int32)) (T_gives : Int32) (T_warm : Int32) (T_rumour : Int32) (T_seen : Int32) (T_seenOf : (Nat → Int32)) (T_seenBehind : (Nat → Int32)) (T_seenHas : (Nat → Int32)) (T_text : (Nat → Int32)) (T_texted : Int32) (T_place : Int32) (T_number : Int32) (T_readPersons : Int32) (T_readKind : (Nat → Int32)) (T_readComes : (Nat → Int32)) (T_readFamily : (Nat → Int32)) (T_readGives : Int32) (T_readWarm : Int32) (T_readRumour : Int32) (T_toCome : (Nat → Int32)) (T_order : (Nat → Int32)) (T_bestOrder : (Nat → Int32)) (p1 : Int32) (rr : Int32) (hM : MX8_isRumour N T_w T_rumour p1 = some rr) : CtI l yX8_isRumour cX8_isRumour 2 .boolean 0 0 G cI cZ cL [.ref (aT 0), .int p1] [wMod cI cZ aT T_w T_undoes T_kept T_persons T_family T_gives T_warm T_rumour T_seen T_seenOf T_seenBehind T_seenHas T_text T_texted T_place T_number T_readPersons T_readKind T_readComes T_readFamily T_readGives T_readWarm T_readRumour T_toCome T_order T_bestOrder] rr [wMod cI cZ aT T_w T_undoes T_kept T_persons T_family T_gives T_warm T_rumour T_seen T_seenOf T_seenBehind T_seenHas T_text T_texted T_place T_number T_readPersons T_readKind T_readComes T_readFamily T_readGives T_readWarm T_readRumour T_toCome T_order T_bestOrder] := by
  refine ct_body (fun A => qI G rr [wMod cI cZ aT T_w T_undoes T_kept T_persons T_family T_gives T_warm T_rumour T_seen T_seenOf T_seenBehind T_seenHas T_text T_texted T_place T_number T_readPersons T_readKind T_readComes T_readFamily T_readGives T_readWarm T_readRumour T_toCome T_order T_bestOrder] A) (by decide) (Nat.le_of_ble_eq_true rfl) (fun p e s m below meth c A ls X hW hl => ?_)
  have hx := X.1
  have hb := X.2.1
  have hts := X.2.2.2.2.2.1
  have hown := X.2.2.2.2.2.2.1
  have hl : lv_has ls 2 [(0, .ref (aT 0)), (1, .int p1)] := hl
  unfold MX8_isRumour at hM
  refine lv_aload_n hx hb dX8_isRumour_0 rfl (lv_at hl 0 rfl) ?_
  refine g_get X hW 0 rfl rfl inX8 7 (by decide) q_824 rfl dX8_isRumour_1 ?_
  have j27 : ∀ (H : Heap) (locs : List Loc) (ls : Array Slot), Wd G A s [wMod cI cZ aT T_w T_undoes T_kept T_persons T_family T_gives T_warm T_rumour T_seen T_seenOf T_seenBehind T_seenHas T_text T_texted T_place T_number T_readPersons T_readKind T_readComes T_readFamily T_readGives T_readWarm T_readRumour T_toCome T_order T_bestOrder] H locs → lv_has ls 2 [] → MX8_isRumour_j27 = some rr → W p l e (rmO 0 0) s m ([.ref (aT 0), .int p1] : List Value).toArray below meth c H locs 0 0 (MQ below (qI G rr [wMod cI cZ aT T_w T_undoes T_kept T_persons T_family T_gives T_warm T_rumour T_seen T_seenOf T_seenBehind T_seenHas T_text T_texted T_place T_number T_readPersons T_readKind T_readComes T_readFamily T_readGives T_readWarm T_readRumour T_toCome T_order T_bestOrder] A) ([.ref (aT 0), .int p1] : List Value).toArray s 0 0 A) (F0 m 27 ls []) := by
    intro H locs ls hW hl hM
    unfold MX8_isRumour_j27 at hM
    refine lv_iconst (v := (0 : Int32)) hx hb dX8_isRumour_27 (by decide) ?_
    obtain rfl := Option.some.inj hM
    exact g_reti X hW rfl rfl dX8_isRumour_28
  refine lv_if_le (tgt := 27) hx hb dX8_isRumour_4 (by decide) (fun hc => ?_) (fun hc => ?_)
  · have hM := (if_pos hc).symm.trans hM
    exact j27 _ _ _ hW (lv_sub hl [] rfl) hM
  · have hM := (if_neg hc).symm.trans hM
    refine lv_aload_n hx hb dX8_isRumour_7 rfl (lv_at hl 0 rfl) ?_
    refine g_get X hW 0 rfl rfl inX8 0 (by decide) q_817 rfl dX8_isRumour_8 ?_
    refine lv_iload_n hx hb dX8_isRumour_11 rfl (lv_at hl 1 rfl) ?_
    refine lv_iconst (v := (0 : Int32)) hx hb dX8_isRumour_12 (by decide) ?_
    refine lv_iadd hx hb dX8_isRumour_13 ?_
    obtain ⟨hi14, hM⟩ := MG_some hM
    refine g_ald X hW 1 rfl hi14 dX8_isRumour_14 ?_
    refine lv_aload_n hx hb dX8_isRumour_15 rfl (lv_at hl 0 rfl) ?_
    refine g_get X hW 0 rfl rfl inX8 7 (by decide) q_824 rfl dX8_isRumour_16 ?_
    obtain ⟨hz19, hM⟩ := MD_some hM
    refine lv_irem hx hb dX8_isRumour_19 hz19 ?_
    refine lv_if_ne (tgt := 27) hx hb dX8_isRumour_20 (by decide) (fun hc => ?_) (fun hc => ?_)
    · have hM := (if_neg hc).symm.trans hM
      exact j27 _ _ _ hW (lv_sub hl [] rfl) hM
    · have hM := (if_pos hc).symm.trans hM
      refine lv_iconst (v := (1 : Int32)) hx hb dX8_isRumour_23 (by decide) ?_
      refine lv_goto (tgt := 28) hx hb dX8_isRumour_24 (by decide) ?_
      obtain rfl := Option.some.inj hM
      exact g_reti X hW rfl rfl dX8_isRumour_28

def MX8_passes (N : Nat) (T_w : (Nat → Int32)) (T_persons : Int32) (T_family : (Nat → Int32)) (T_gives : Int32) (T_warm : Int32) (T_rumour : Int32) (p1 : Int32) : Option ((Nat → Int32)) :=
  (MX8_isRumour N T_w T_rumour p1).bind (fun u5 => (MX8_passesBy N T_w T_persons T_family T_gives T_warm p1 (0 : Int32) u5).bind (fun u8 => some (u8)))
set_option maxHeartbeats 4000000 in
set_option maxRecDepth 100000 in
theorem c_X8_passes (l : Launch) (G : va_G) (cI cZ cL : ClassId) (N : Nat) (aT : Nat → Nat) (T_w : (Nat → Int32)) (T_undoes : Int32) (T_kept : Int32) (T_persons : Int32) (T_family : (Nat → Int32)) (T_gives : Int32) (T_warm : Int32) (T_rumour : Int32) (T_seen : Int32) (T_seenOf : (Nat → Int32)) (T_seenBehind : (Nat → Int32)) (T_seenHas : (Nat → Int32)) (T_text : (Nat → Int32)) (T_texted : Int32) (T_place : Int32) (T_number : Int32) (T_readPersons : Int32) (T_readKind : (Nat → Int32)) (T_readComes : (Nat → Int32)) (T_readFamily : (Nat → Int32)) (T_readGives : Int32) (T_readWarm : Int32) (T_readRumour : Int32) (T_toCome : (Nat → Int32)) (T_order : (Nat → Int32)) (T_bestOrder : (Nat → Int32)) (p1 : Int32) (rr : (Nat → Int32)) (hM : MX8_passes N T_w T_persons T_family T_gives T_warm T_rumour p1 = some rr) : CtV l yX8_passes cX8_passes 2 4 98 G cI cZ cL [.ref (aT 0), .int p1] [wMod cI cZ aT T_w T_undoes T_kept T_persons T_family T_gives T_warm T_rumour T_seen T_seenOf T_seenBehind T_seenHas T_text T_texted T_place T_number T_readPersons T_readKind T_readComes T_readFamily T_readGives T_readWarm T_readRumour T_toCome T_order T_bestOrder] [wMod cI cZ aT rr T_undoes T_kept T_persons T_family T_gives T_warm T_rumour T_seen T_seenOf T_seenBehind T_seenHas T_text T_texted T_place T_number T_readPersons T_readKind T_readComes T_readFamily T_readGives T_readWarm T_readRumour T_toCome T_order T_bestOrder] := by
  refine ct_body (fun A => qV G [wMod cI cZ aT rr T_undoes T_kept T_persons T_family T_gives T_warm T_rumour T_seen T_seenOf T_seenBehind T_seenHas T_text T_texted T_place T_number T_readPersons T_readKind T_readComes T_readFamily T_readGives T_readWarm T_readRumour T_toCome T_order T_bestOrder] A) (by decide) (Nat.le_of_ble_eq_true rfl) (fun p e s m below meth c A ls X hW hl => ?_)
  have hx := X.1
  have hb := X.2.1
  have hts := X.2.2.2.2.2.1
  have hown := X.2.2.2.2.2.2.1
  have hl : lv_has ls 2 [(0, .ref (aT 0)), (1, .int p1)] := hl
  unfold MX8_passes at hM
  refine lv_aload_n hx hb dX8_passes_0 rfl (lv_at hl 0 rfl) ?_
  refine lv_iload_n hx hb dX8_passes_1 rfl (lv_at hl 1 rfl) ?_
  refine lv_iconst (v := (0 : Int32)) hx hb dX8_passes_2 (by decide) ?_
  refine lv_aload_n hx hb dX8_passes_3 rfl (lv_at hl 0 rfl) ?_
  refine lv_iload_n hx hb dX8_passes_4 rfl (lv_at hl 1 rfl) ?_
  obtain ⟨u5, hu5, hM⟩ := bind_some hM
  refine g_callVi (rest := [.int (0 : Int32), .int p1, .ref (aT 0)]) (gr := []) X hl.1 hW (c_X8_isRumour l G cI cZ cL N aT T_w T_undoes T_kept T_persons T_family T_gives T_warm T_rumour T_seen T_seenOf T_seenBehind T_seenHas T_text T_texted T_place T_number T_readPersons T_readKind T_readComes T_readFamily T_readGives T_readWarm T_readRumour T_toCome T_order T_bestOrder p1 u5 hu5) q_983 q_980 q_982 q_34 q_67 hd_X8_isRumour rfl ⟨Nat.le_of_ble_eq_true rfl, Nat.le_of_ble_eq_true rfl⟩ ⟨Nat.zero_le _, Nat.zero_le _⟩ [0] [] [wMod cI cZ aT T_w T_undoes T_kept T_persons T_family T_gives T_warm T_rumour T_seen T_seenOf T_seenBehind T_seenHas T_text T_texted T_place T_number T_readPersons T_readKind T_readComes T_readFamily T_readGives T_readWarm T_readRumour T_toCome T_order T_bestOrder] ⟨pm_1_0, rfl, rfl, rfl⟩ ⟨pm_1_0, rfl, rfl, rfl⟩ (q0 := 0) rfl rfl rfl (Nat.le_of_ble_eq_true rfl) dX8_passes_5 (fun H locs hW => ?_)
  obtain ⟨u8, hu8, hM⟩ := bind_some hM
  refine g_callVv (rest := []) (gr := []) X hl.1 hW (c_X8_passesBy l G cI cZ cL N aT T_w T_undoes T_kept T_persons T_family T_gives T_warm T_rumour T_seen T_seenOf T_seenBehind T_seenHas T_text T_texted T_place T_number T_readPersons T_readKind T_readComes T_readFamily T_readGives T_readWarm T_readRumour T_toCome T_order T_bestOrder p1 (0 : Int32) u5 u8 hu8) q_987 q_984 q_986 q_35 q_67 hd_X8_passesBy rfl ⟨Nat.le_of_ble_eq_true rfl, Nat.le_of_ble_eq_true rfl⟩ ⟨Nat.zero_le _, Nat.zero_le _⟩ [0] [] [wMod cI cZ aT u8 T_undoes T_kept T_persons T_family T_gives T_warm T_rumour T_seen T_seenOf T_seenBehind T_seenHas T_text T_texted T_place T_number T_readPersons T_readKind T_readComes T_readFamily T_readGives T_readWarm T_readRumour T_toCome T_order T_bestOrder] ⟨pm_1_0, rfl, rfl, rfl⟩ ⟨pm_1_0, rfl, rfl, rfl⟩ (q0 := 0) rfl rfl rfl (Nat.le_of_ble_eq_true rfl) dX8_passes_8 (fun H locs hW => ?_)
  obtain rfl := Option.some.inj hM
  exact g_retv X hW dX8_passes_11

def MX8_isWhere (N : Nat) (T_w : (Nat → Int32)) (p1 : Int32) (p2 : Int32) (p3 : Int32) : Option (Int32) :=
  MG ((p1 + (12 : Int32)) + p2) 792 (if (T_w ((p1 + (12 : Int32)) + p2).toNatClampNeg) = p3 then some ((1 : Int32)) else some ((0 : Int32)))
set_option maxHeartbeats 4000000 in
set_option maxRecDepth 100000 in
theorem c_X8_isWhere (l : Launch) (G : va_G) (cI cZ cL : ClassId) (N : Nat) (aT : Nat → Nat) (T_w : (Nat → Int32)) (T_undoes : Int32) (T_kept : Int32) (T_persons : Int32) (T_family : (Nat → Int32)) (T_gives : Int32) (T_warm : Int32) (T_rumour : Int32) (T_seen : Int32) (T_seenOf : (Nat → Int32)) (T_seenBehind : (Nat → Int32)) (T_seenHas : (Nat → Int32)) (T_text : (Nat → Int32)) (T_texted : Int32) (T_place : Int32) (T_number : Int32) (T_readPersons : Int32) (T_readKind : (Nat → Int32)) (T_readComes : (Nat → Int32)) (T_readFamily : (Nat → Int32)) (T_readGives : Int32) (T_readWarm : Int32) (T_readRumour : Int32) (T_toCome : (Nat → Int32)) (T_order : (Nat → Int32)) (T_bestOrder : (Nat → Int32)) (p1 : Int32) (p2 : Int32) (p3 : Int32) (rr : Int32) (hM : MX8_isWhere N T_w p1 p2 p3 = some rr) : CtI l yX8_isWhere cX8_isWhere 4 .boolean 0 0 G cI cZ cL [.ref (aT 0), .int p1, .int p2, .int p3] [wMod cI cZ aT T_w T_undoes T_kept T_persons T_family T_gives T_warm T_rumour T_seen T_seenOf T_seenBehind T_seenHas T_text T_texted T_place T_number T_readPersons T_readKind T_readComes T_readFamily T_readGives T_readWarm T_readRumour T_toCome T_order T_bestOrder] rr [wMod cI cZ aT T_w T_undoes T_kept T_persons T_family T_gives T_warm T_rumour T_seen T_seenOf T_seenBehind T_seenHas T_text T_texted T_place T_number T_readPersons T_readKind T_readComes T_readFamily T_readGives T_readWarm T_readRumour T_toCome T_order T_bestOrder] := by
  refine ct_body (fun A => qI G rr [wMod cI cZ aT T_w T_undoes T_kept T_persons T_family T_gives T_warm T_rumour T_seen T_seenOf T_seenBehind T_seenHas T_text T_texted T_place T_number T_readPersons T_readKind T_readComes T_readFamily T_readGives T_readWarm T_readRumour T_toCome T_order T_bestOrder] A) (by decide) (Nat.le_of_ble_eq_true rfl) (fun p e s m below meth c A ls X hW hl => ?_)
  have hx := X.1
  have hb := X.2.1
  have hts := X.2.2.2.2.2.1
  have hown := X.2.2.2.2.2.2.1
  have hl : lv_has ls 4 [(0, .ref (aT 0)), (1, .int p1), (2, .int p2), (3, .int p3)] := hl
  unfold MX8_isWhere at hM
  refine lv_aload_n hx hb dX8_isWhere_0 rfl (lv_at hl 0 rfl) ?_
  refine g_get X hW 0 rfl rfl inX8 0 (by decide) q_817 rfl dX8_isWhere_1 ?_
  refine lv_iload_n hx hb dX8_isWhere_4 rfl (lv_at hl 1 rfl) ?_
  refine lv_bipush (v := (12 : Int32)) hx hb dX8_isWhere_5 (by decide) ?_
  refine lv_iadd hx hb dX8_isWhere_7 ?_
  refine lv_iload_n hx hb dX8_isWhere_8 rfl (lv_at hl 2 rfl) ?_
  refine lv_iadd hx hb dX8_isWhere_9 ?_
  obtain ⟨hi10, hM⟩ := MG_some hM
  refine g_ald X hW 1 rfl hi10 dX8_isWhere_10 ?_
  refine lv_iload_n hx hb dX8_isWhere_11 rfl (lv_at hl 3 rfl) ?_
  refine lv_icmp_ne (tgt := 19) hx hb dX8_isWhere_12 (by decide) (fun hc => ?_) (fun hc => ?_)
  · have hM := (if_neg hc).symm.trans hM
    refine lv_iconst (v := (0 : Int32)) hx hb dX8_isWhere_19 (by decide) ?_
    obtain rfl := Option.some.inj hM
    exact g_reti X hW rfl rfl dX8_isWhere_20
  · have hM := (if_pos hc).symm.trans hM
    refine lv_iconst (v := (1 : Int32)) hx hb dX8_isWhere_15 (by decide) ?_
    refine lv_goto (tgt := 20) hx hb dX8_isWhere_16 (by decide) ?_
    obtain rfl := Option.some.inj hM
    exact g_reti X hW rfl rfl dX8_isWhere_20

def MX8_manyWhere_j36 (x2_36 : Int32) : Option (Int32) :=
  some (x2_36)
def MX8_manyWhere_j28 (x2_4 : Int32) (x3_4 : Int32) (rc4 : (Int32 → Int32 → Option (Int32))) (t1_28 : Int32) : Option (Int32) :=
  MLet (x2_4 + t1_28) (fun z29 => rc4 z29 (x3_4 + (1 : Int32)))
def MX8_manyWhere_l4 (N : Nat) (T_w : (Nat → Int32)) (T_persons : Int32) (p1 : Int32) : Nat → Int32 → Int32 → Option (Int32)
  | 0, _, _ => none
  | n4 + 1, x2_4, x3_4 =>
    if T_persons ≤ x3_4 then (MX8_manyWhere_j36 x2_4) else ((MX8_isWhere N T_w (0 : Int32) x3_4 p1).bind (fun u17 => if u17 = 0 then (MX8_manyWhere_j28 x2_4 x3_4 (MX8_manyWhere_l4 N T_w T_persons p1 n4) (0 : Int32)) else (MX8_manyWhere_j28 x2_4 x3_4 (MX8_manyWhere_l4 N T_w T_persons p1 n4) (1 : Int32))))
def MX8_manyWhere (N : Nat) (T_w : (Nat → Int32)) (T_persons : Int32) (p1 : Int32) : Option (Int32) :=
  MX8_manyWhere_l4 N T_w T_persons p1 N (0 : Int32) (0 : Int32)
set_option maxHeartbeats 4000000 in
set_option maxRecDepth 100000 in
theorem c_X8_manyWhere (l : Launch) (G : va_G) (cI cZ cL : ClassId) (N : Nat) (aT : Nat → Nat) (T_w : (Nat → Int32)) (T_undoes : Int32) (T_kept : Int32) (T_persons : Int32) (T_family : (Nat → Int32)) (T_gives : Int32) (T_warm : Int32) (T_rumour : Int32) (T_seen : Int32) (T_seenOf : (Nat → Int32)) (T_seenBehind : (Nat → Int32)) (T_seenHas : (Nat → Int32)) (T_text : (Nat → Int32)) (T_texted : Int32) (T_place : Int32) (T_number : Int32) (T_readPersons : Int32) (T_readKind : (Nat → Int32)) (T_readComes : (Nat → Int32)) (T_readFamily : (Nat → Int32)) (T_readGives : Int32) (T_readWarm : Int32) (T_readRumour : Int32) (T_toCome : (Nat → Int32)) (T_order : (Nat → Int32)) (T_bestOrder : (Nat → Int32)) (p1 : Int32) (rr : Int32) (hM : MX8_manyWhere N T_w T_persons p1 = some rr) : CtI l yX8_manyWhere cX8_manyWhere 4 .int 1 23 G cI cZ cL [.ref (aT 0), .int p1] [wMod cI cZ aT T_w T_undoes T_kept T_persons T_family T_gives T_warm T_rumour T_seen T_seenOf T_seenBehind T_seenHas T_text T_texted T_place T_number T_readPersons T_readKind T_readComes T_readFamily T_readGives T_readWarm T_readRumour T_toCome T_order T_bestOrder] rr [wMod cI cZ aT T_w T_undoes T_kept T_persons T_family T_gives T_warm T_rumour T_seen T_seenOf T_seenBehind T_seenHas T_text T_texted T_place T_number T_readPersons T_readKind T_readComes T_readFamily T_readGives T_readWarm T_readRumour T_toCome T_order T_bestOrder] := by
  refine ct_body (fun A => qI G rr [wMod cI cZ aT T_w T_undoes T_kept T_persons T_family T_gives T_warm T_rumour T_seen T_seenOf T_seenBehind T_seenHas T_text T_texted T_place T_number T_readPersons T_readKind T_readComes T_readFamily T_readGives T_readWarm T_readRumour T_toCome T_order T_bestOrder] A) (by decide) (Nat.le_of_ble_eq_true rfl) (fun p e s m below meth c A ls X hW hl => ?_)
  have hx := X.1
  have hb := X.2.1
  have hts := X.2.2.2.2.2.1
  have hown := X.2.2.2.2.2.2.1
  have hl : lv_has ls 4 [(0, .ref (aT 0)), (1, .int p1)] := hl
  unfold MX8_manyWhere at hM
  refine lv_iconst (v := (0 : Int32)) hx hb dX8_manyWhere_0 (by decide) ?_
  refine lv_istore_n (lv' := [(2, .int (0 : Int32)), (0, .ref (aT 0)), (1, .int p1)]) hx hb dX8_manyWhere_1 rfl hl (by decide) rfl (fun ls hl => ?_)
  refine lv_iconst (v := (0 : Int32)) hx hb dX8_manyWhere_2 (by decide) ?_
  refine lv_istore_n (lv' := [(3, .int (0 : Int32)), (2, .int (0 : Int32)), (0, .ref (aT 0)), (1, .int p1)]) hx hb dX8_manyWhere_3 rfl hl (by decide) rfl (fun ls hl => ?_)
  have j36 : ∀ (x2_36 : Int32) (H : Heap) (locs : List Loc) (ls : Array Slot), Wd G A s [wMod cI cZ aT T_w T_undoes T_kept T_persons T_family T_gives T_warm T_rumour T_seen T_seenOf T_seenBehind T_seenHas T_text T_texted T_place T_number T_readPersons T_readKind T_readComes T_readFamily T_readGives T_readWarm T_readRumour T_toCome T_order T_bestOrder] H locs → lv_has ls 4 [(2, .int x2_36)] → MX8_manyWhere_j36 x2_36 = some rr → W p l e (rmO 1 23) s m ([.ref (aT 0), .int p1] : List Value).toArray below meth c H locs 0 0 (MQ below (qI G rr [wMod cI cZ aT T_w T_undoes T_kept T_persons T_family T_gives T_warm T_rumour T_seen T_seenOf T_seenBehind T_seenHas T_text T_texted T_place T_number T_readPersons T_readKind T_readComes T_readFamily T_readGives T_readWarm T_readRumour T_toCome T_order T_bestOrder] A) ([.ref (aT 0), .int p1] : List Value).toArray s 0 0 A) (F0 m 36 ls []) := by
    intro x2_36 H locs ls hW hl hM
    unfold MX8_manyWhere_j36 at hM
    refine lv_iload_n hx hb dX8_manyWhere_36 rfl (lv_at hl 0 rfl) ?_
    obtain rfl := Option.some.inj hM
    exact g_reti X hW rfl rfl dX8_manyWhere_37
  have lp4 : ∀ (n4 : Nat) (x2_4 : Int32) (x3_4 : Int32) (H : Heap) (locs : List Loc) (ls : Array Slot), Wd G A s [wMod cI cZ aT T_w T_undoes T_kept T_persons T_family T_gives T_warm T_rumour T_seen T_seenOf T_seenBehind T_seenHas T_text T_texted T_place T_number T_readPersons T_readKind T_readComes T_readFamily T_readGives T_readWarm T_readRumour T_toCome T_order T_bestOrder] H locs → lv_has ls 4 [(0, .ref (aT 0)), (1, .int p1), (2, .int x2_4), (3, .int x3_4)] → MX8_manyWhere_l4 N T_w T_persons p1 n4 x2_4 x3_4 = some rr → W p l e (rmO 1 23) s m ([.ref (aT 0), .int p1] : List Value).toArray below meth c H locs 0 0 (MQ below (qI G rr [wMod cI cZ aT T_w T_undoes T_kept T_persons T_family T_gives T_warm T_rumour T_seen T_seenOf T_seenBehind T_seenHas T_text T_texted T_place T_number T_readPersons T_readKind T_readComes T_readFamily T_readGives T_readWarm T_readRumour T_toCome T_order T_bestOrder] A) ([.ref (aT 0), .int p1] : List Value).toArray s 0 0 A) (F0 m 4 ls []) := by
    intro n4
    induction n4 with
    | zero =>
      intro x2_4 x3_4 H locs ls hW hl hM
      rw [MX8_manyWhere_l4] at hM
      cases hM
    | succ n4 ih4 =>
      intro x2_4 x3_4 H locs ls hW hl hM
      rw [MX8_manyWhere_l4] at hM
      refine lv_iload_n hx hb dX8_manyWhere_4 rfl (lv_at hl 3 rfl) ?_
      refine lv_aload_n hx hb dX8_manyWhere_5 rfl (lv_at hl 0 rfl) ?_
      refine g_get X hW 0 rfl rfl inX8 3 (by decide) q_820 rfl dX8_manyWhere_6 ?_
      refine lv_icmp_ge (tgt := 36) hx hb dX8_manyWhere_9 (by decide) (fun hc => ?_) (fun hc => ?_)
      · have hM := (if_pos hc).symm.trans hM
        exact j36 x2_4 _ _ _ hW (lv_sub hl [2] rfl) hM
      · have hM := (if_neg hc).symm.trans hM
        refine lv_iload_n hx hb dX8_manyWhere_12 rfl (lv_at hl 2 rfl) ?_
        refine lv_aload_n hx hb dX8_manyWhere_13 rfl (lv_at hl 0 rfl) ?_
        refine lv_iconst (v := (0 : Int32)) hx hb dX8_manyWhere_14 (by decide) ?_
        refine lv_iload_n hx hb dX8_manyWhere_15 rfl (lv_at hl 3 rfl) ?_
        refine lv_iload_n hx hb dX8_manyWhere_16 rfl (lv_at hl 1 rfl) ?_
        obtain ⟨u17, hu17, hM⟩ := bind_some hM
        refine g_callVi (rest := [.int x2_4]) (gr := []) X hl.1 hW (c_X8_isWhere l G cI cZ cL N aT T_w T_undoes T_kept T_persons T_family T_gives T_warm T_rumour T_seen T_seenOf T_seenBehind T_seenHas T_text T_texted T_place T_number T_readPersons T_readKind T_readComes T_readFamily T_readGives T_readWarm T_readRumour T_toCome T_order T_bestOrder (0 : Int32) x3_4 p1 u17 hu17) q_1015 q_1012 q_1014 q_42 q_67 hd_X8_isWhere rfl ⟨Nat.le_of_ble_eq_true rfl, Nat.le_of_ble_eq_true rfl⟩ ⟨Nat.zero_le _, Nat.zero_le _⟩ [0] [] [wMod cI cZ aT T_w T_undoes T_kept T_persons T_family T_gives T_warm T_rumour T_seen T_seenOf T_seenBehind T_seenHas T_text T_texted T_place T_number T_readPersons T_readKind T_readComes T_readFamily T_readGives T_readWarm T_readRumour T_toCome T_order T_bestOrder] ⟨pm_1_0, rfl, rfl, rfl⟩ ⟨pm_1_0, rfl, rfl, rfl⟩ (q0 := 0) rfl rfl rfl (Nat.le_of_ble_eq_true rfl) dX8_manyWhere_17 (fun H locs hW => ?_)
        have j28 : ∀ (t1_28 : Int32) (H : Heap) (locs : List Loc) (ls : Array Slot), Wd G A s [wMod cI cZ aT T_w T_undoes T_kept T_persons T_family T_gives T_warm T_rumour T_seen T_seenOf T_seenBehind T_seenHas T_text T_texted T_place T_number T_readPersons T_readKind T_readComes T_readFamily T_readGives T_readWarm T_readRumour T_toCome T_order T_bestOrder] H locs → lv_has ls 4 [(0, .ref (aT 0)), (1, .int p1), (3, .int x3_4)] → MX8_manyWhere_j28 x2_4 x3_4 (MX8_manyWhere_l4 N T_w T_persons p1 n4) t1_28 = some rr → W p l e (rmO 1 23) s m ([.ref (aT 0), .int p1] : List Value).toArray below meth c H locs 0 0 (MQ below (qI G rr [wMod cI cZ aT T_w T_undoes T_kept T_persons T_family T_gives T_warm T_rumour T_seen T_seenOf T_seenBehind T_seenHas T_text T_texted T_place T_number T_readPersons T_readKind T_readComes T_readFamily T_readGives T_readWarm T_readRumour T_toCome T_order T_bestOrder] A) ([.ref (aT 0), .int p1] : List Value).toArray s 0 0 A) (F0 m 28 ls [.int t1_28, .int x2_4]) := by
          intro t1_28 H locs ls hW hl hM
          unfold MX8_manyWhere_j28 at hM
          refine lv_iadd hx hb dX8_manyWhere_28 ?_
          refine lv_topi (fun z29 ez29 => ?_)
          have hM := MLet_some hM z29 ez29
          refine lv_istore_n (lv' := [(2, .int z29), (0, .ref (aT 0)), (1, .int p1), (3, .int x3_4)]) hx hb dX8_manyWhere_29 rfl hl (by decide) rfl (fun ls hl => ?_)
          refine lv_iinc (v := x3_4 + (1 : Int32)) (lv' := [(3, .int (x3_4 + (1 : Int32))), (2, .int z29), (0, .ref (aT 0)), (1, .int p1)]) hx hb dX8_manyWhere_30 hl (k := 3) rfl rfl (by decide) rfl (fun ls hl => ?_)
          refine lv_goto (tgt := 4) hx hb dX8_manyWhere_33 (by decide) ?_
          exact ih4 z29 (x3_4 + (1 : Int32)) _ _ _ hW (lv_sub hl [2, 3, 1, 0] rfl) hM
        refine lv_if_eq (tgt := 27) hx hb dX8_manyWhere_20 (by decide) (fun hc => ?_) (fun hc => ?_)
        · have hM := (if_pos hc).symm.trans hM
          refine lv_iconst (v := (0 : Int32)) hx hb dX8_manyWhere_27 (by decide) ?_
          exact j28 (0 : Int32) _ _ _ hW (lv_sub hl [0, 1, 3] rfl) hM
        · have hM := (if_neg hc).symm.trans hM
          refine lv_iconst (v := (1 : Int32)) hx hb dX8_manyWhere_23 (by decide) ?_
          refine lv_goto (tgt := 28) hx hb dX8_manyWhere_24 (by decide) ?_
          exact j28 (1 : Int32) _ _ _ hW (lv_sub hl [0, 1, 3] rfl) hM
  exact lp4 N (0 : Int32) (0 : Int32) _ _ _ hW (lv_sub hl [2, 3, 1, 0] rfl) hM

def MX8_person (N : Nat) (T_w : (Nat → Int32)) (T_persons : Int32) (T_family : (Nat → Int32)) (p1 : Int32) (p2 : Int32) : Option (Int32) :=
  (MX8_isPerson N T_persons p1).bind (fun u2 => if u2 = 0 then some ((-1 : Int32)) else (if p2 = (0 : Int32) then (MG ((57 : Int32) + p1) 792 (some (T_w ((57 : Int32) + p1).toNatClampNeg))) else if p2 = (1 : Int32) then (MG ((48 : Int32) + p1) 792 (some (T_w ((48 : Int32) + p1).toNatClampNeg))) else if p2 = (2 : Int32) then MG p1 9 (some (T_family p1.toNatClampNeg)) else if p2 = (3 : Int32) then (MG ((12 : Int32) + p1) 792 (some (T_w ((12 : Int32) + p1).toNatClampNeg))) else if p2 = (4 : Int32) then ((MX8_placeOf N T_w (0 : Int32) p1).bind (fun u96 => some (u96))) else if p2 = (5 : Int32) then (MG ((21 : Int32) + p1) 792 (some (T_w ((21 : Int32) + p1).toNatClampNeg))) else if p2 = (6 : Int32) then (MG ((30 : Int32) + p1) 792 (some (T_w ((30 : Int32) + p1).toNatClampNeg))) else if p2 = (7 : Int32) then (MG ((39 : Int32) + p1) 792 (some (T_w ((39 : Int32) + p1).toNatClampNeg))) else some ((-1 : Int32))))
set_option maxHeartbeats 4000000 in
set_option maxRecDepth 100000 in
theorem c_X8_person (l : Launch) (G : va_G) (cI cZ cL : ClassId) (N : Nat) (aT : Nat → Nat) (T_w : (Nat → Int32)) (T_undoes : Int32) (T_kept : Int32) (T_persons : Int32) (T_family : (Nat → Int32)) (T_gives : Int32) (T_warm : Int32) (T_rumour : Int32) (T_seen : Int32) (T_seenOf : (Nat → Int32)) (T_seenBehind : (Nat → Int32)) (T_seenHas : (Nat → Int32)) (T_text : (Nat → Int32)) (T_texted : Int32) (T_place : Int32) (T_number : Int32) (T_readPersons : Int32) (T_readKind : (Nat → Int32)) (T_readComes : (Nat → Int32)) (T_readFamily : (Nat → Int32)) (T_readGives : Int32) (T_readWarm : Int32) (T_readRumour : Int32) (T_toCome : (Nat → Int32)) (T_order : (Nat → Int32)) (T_bestOrder : (Nat → Int32)) (p1 : Int32) (p2 : Int32) (rr : Int32) (hM : MX8_person N T_w T_persons T_family p1 p2 = some rr) : CtI l yX8_person cX8_person 3 .int 2 46 G cI cZ cL [.ref (aT 0), .int p1, .int p2] [wMod cI cZ aT T_w T_undoes T_kept T_persons T_family T_gives T_warm T_rumour T_seen T_seenOf T_seenBehind T_seenHas T_text T_texted T_place T_number T_readPersons T_readKind T_readComes T_readFamily T_readGives T_readWarm T_readRumour T_toCome T_order T_bestOrder] rr [wMod cI cZ aT T_w T_undoes T_kept T_persons T_family T_gives T_warm T_rumour T_seen T_seenOf T_seenBehind T_seenHas T_text T_texted T_place T_number T_readPersons T_readKind T_readComes T_readFamily T_readGives T_readWarm T_readRumour T_toCome T_order T_bestOrder] := by
  refine ct_body (fun A => qI G rr [wMod cI cZ aT T_w T_undoes T_kept T_persons T_family T_gives T_warm T_rumour T_seen T_seenOf T_seenBehind T_seenHas T_text T_texted T_place T_number T_readPersons T_readKind T_readComes T_readFamily T_readGives T_readWarm T_readRumour T_toCome T_order T_bestOrder] A) (by decide) (Nat.le_of_ble_eq_true rfl) (fun p e s m below meth c A ls X hW hl => ?_)
  have hx := X.1
  have hb := X.2.1
  have hts := X.2.2.2.2.2.1
  have hown := X.2.2.2.2.2.2.1
  have hl : lv_has ls 3 [(0, .ref (aT 0)), (1, .int p1), (2, .int p2)] := hl
  unfold MX8_person at hM
  refine lv_aload_n hx hb dX8_person_0 rfl (lv_at hl 0 rfl) ?_
  refine lv_iload_n hx hb dX8_person_1 rfl (lv_at hl 1 rfl) ?_
  obtain ⟨u2, hu2, hM⟩ := bind_some hM
  refine g_callVi (rest := []) (gr := []) X hl.1 hW (c_X8_isPerson l G cI cZ cL N aT T_w T_undoes T_kept T_persons T_family T_gives T_warm T_rumour T_seen T_seenOf T_seenBehind T_seenHas T_text T_texted T_place T_number T_readPersons T_readKind T_readComes T_readFamily T_readGives T_readWarm T_readRumour T_toCome T_order T_bestOrder p1 u2 hu2) q_954 q_951 q_953 q_29 q_67 hd_X8_isPerson rfl ⟨Nat.le_of_ble_eq_true rfl, Nat.le_of_ble_eq_true rfl⟩ ⟨Nat.zero_le _, Nat.zero_le _⟩ [0] [] [wMod cI cZ aT T_w T_undoes T_kept T_persons T_family T_gives T_warm T_rumour T_seen T_seenOf T_seenBehind T_seenHas T_text T_texted T_place T_number T_readPersons T_readKind T_readComes T_readFamily T_readGives T_readWarm T_readRumour T_toCome T_order T_bestOrder] ⟨pm_1_0, rfl, rfl, rfl⟩ ⟨pm_1_0, rfl, rfl, rfl⟩ (q0 := 0) rfl rfl rfl (Nat.le_of_ble_eq_true rfl) dX8_person_2 (fun H locs hW => ?_)
  refine lv_if_ne (tgt := 10) hx hb dX8_person_5 (by decide) (fun hc => ?_) (fun hc => ?_)
  · have hM := (if_neg hc).symm.trans hM
    refine lv_iload_n hx hb dX8_person_10 rfl (lv_at hl 2 rfl) ?_
    by_cases hs11_0 : p2 = (0 : Int32)
    · have hM := (if_pos hs11_0).symm.trans hM
      refine lv_tableIn (off := 45) (tgt := 56) hx hb dX8_person_11 (by rw [hs11_0]; decide) (by rw [hs11_0]; decide) (by rw [hs11_0]; rfl) (by decide) ?_
      refine lv_aload_n hx hb dX8_person_56 rfl (lv_at hl 0 rfl) ?_
      refine g_get X hW 0 rfl rfl inX8 0 (by decide) q_817 rfl dX8_person_57 ?_
      refine lv_bipush (v := (57 : Int32)) hx hb dX8_person_60 (by decide) ?_
      refine lv_iload_n hx hb dX8_person_62 rfl (lv_at hl 1 rfl) ?_
      refine lv_iadd hx hb dX8_person_63 ?_
      obtain ⟨hi64, hM⟩ := MG_some hM
      refine g_ald X hW 1 rfl hi64 dX8_person_64 ?_
      obtain rfl := Option.some.inj hM
      exact g_reti X hW rfl rfl dX8_person_65
    · have hM := (if_neg hs11_0).symm.trans hM
      by_cases hs11_1 : p2 = (1 : Int32)
      · have hM := (if_pos hs11_1).symm.trans hM
        refine lv_tableIn (off := 55) (tgt := 66) hx hb dX8_person_11 (by rw [hs11_1]; decide) (by rw [hs11_1]; decide) (by rw [hs11_1]; rfl) (by decide) ?_
        refine lv_aload_n hx hb dX8_person_66 rfl (lv_at hl 0 rfl) ?_
        refine g_get X hW 0 rfl rfl inX8 0 (by decide) q_817 rfl dX8_person_67 ?_
        refine lv_bipush (v := (48 : Int32)) hx hb dX8_person_70 (by decide) ?_
        refine lv_iload_n hx hb dX8_person_72 rfl (lv_at hl 1 rfl) ?_
        refine lv_iadd hx hb dX8_person_73 ?_
        obtain ⟨hi74, hM⟩ := MG_some hM
        refine g_ald X hW 1 rfl hi74 dX8_person_74 ?_
        obtain rfl := Option.some.inj hM
        exact g_reti X hW rfl rfl dX8_person_75
      · have hM := (if_neg hs11_1).symm.trans hM
        by_cases hs11_2 : p2 = (2 : Int32)
        · have hM := (if_pos hs11_2).symm.trans hM
          refine lv_tableIn (off := 65) (tgt := 76) hx hb dX8_person_11 (by rw [hs11_2]; decide) (by rw [hs11_2]; decide) (by rw [hs11_2]; rfl) (by decide) ?_
          refine lv_aload_n hx hb dX8_person_76 rfl (lv_at hl 0 rfl) ?_
          refine g_get X hW 0 rfl rfl inX8 4 (by decide) q_821 rfl dX8_person_77 ?_
          refine lv_iload_n hx hb dX8_person_80 rfl (lv_at hl 1 rfl) ?_
          obtain ⟨hi81, hM⟩ := MG_some hM
          refine g_ald X hW 2 rfl hi81 dX8_person_81 ?_
          obtain rfl := Option.some.inj hM
          exact g_reti X hW rfl rfl dX8_person_82
        · have hM := (if_neg hs11_2).symm.trans hM
          by_cases hs11_3 : p2 = (3 : Int32)
          · have hM := (if_pos hs11_3).symm.trans hM
            refine lv_tableIn (off := 72) (tgt := 83) hx hb dX8_person_11 (by rw [hs11_3]; decide) (by rw [hs11_3]; decide) (by rw [hs11_3]; rfl) (by decide) ?_
            refine lv_aload_n hx hb dX8_person_83 rfl (lv_at hl 0 rfl) ?_
            refine g_get X hW 0 rfl rfl inX8 0 (by decide) q_817 rfl dX8_person_84 ?_
            refine lv_bipush (v := (12 : Int32)) hx hb dX8_person_87 (by decide) ?_
            refine lv_iload_n hx hb dX8_person_89 rfl (lv_at hl 1 rfl) ?_
            refine lv_iadd hx hb dX8_person_90 ?_
            obtain ⟨hi91, hM⟩ := MG_some hM
            refine g_ald X hW 1 rfl hi91 dX8_person_91 ?_
            obtain rfl := Option.some.inj hM
            exact g_reti X hW rfl rfl dX8_person_92
          · have hM := (if_neg hs11_3).symm.trans hM
            by_cases hs11_4 : p2 = (4 : Int32)
            · have hM := (if_pos hs11_4).symm.trans hM
              refine lv_tableIn (off := 82) (tgt := 93) hx hb dX8_person_11 (by rw [hs11_4]; decide) (by rw [hs11_4]; decide) (by rw [hs11_4]; rfl) (by decide) ?_
              refine lv_aload_n hx hb dX8_person_93 rfl (lv_at hl 0 rfl) ?_
              refine lv_iconst (v := (0 : Int32)) hx hb dX8_person_94 (by decide) ?_
              refine lv_iload_n hx hb dX8_person_95 rfl (lv_at hl 1 rfl) ?_
              obtain ⟨u96, hu96, hM⟩ := bind_some hM
              refine g_callVi (rest := []) (gr := []) X hl.1 hW (c_X8_placeOf l G cI cZ cL N aT T_w T_undoes T_kept T_persons T_family T_gives T_warm T_rumour T_seen T_seenOf T_seenBehind T_seenHas T_text T_texted T_place T_number T_readPersons T_readKind T_readComes T_readFamily T_readGives T_readWarm T_readRumour T_toCome T_order T_bestOrder (0 : Int32) p1 u96 hu96) q_958 q_955 q_957 q_30 q_67 hd_X8_placeOf rfl ⟨Nat.le_of_ble_eq_true rfl, Nat.le_of_ble_eq_true rfl⟩ ⟨Nat.zero_le _, Nat.zero_le _⟩ [0] [] [wMod cI cZ aT T_w T_undoes T_kept T_persons T_family T_gives T_warm T_rumour T_seen T_seenOf T_seenBehind T_seenHas T_text T_texted T_place T_number T_readPersons T_readKind T_readComes T_readFamily T_readGives T_readWarm T_readRumour T_toCome T_order T_bestOrder] ⟨pm_1_0, rfl, rfl, rfl⟩ ⟨pm_1_0, rfl, rfl, rfl⟩ (q0 := 0) rfl rfl rfl (Nat.le_of_ble_eq_true rfl) dX8_person_96 (fun H locs hW => ?_)
              obtain rfl := Option.some.inj hM
              exact g_reti X hW rfl rfl dX8_person_99
            · have hM := (if_neg hs11_4).symm.trans hM
              by_cases hs11_5 : p2 = (5 : Int32)
              · have hM := (if_pos hs11_5).symm.trans hM
                refine lv_tableIn (off := 89) (tgt := 100) hx hb dX8_person_11 (by rw [hs11_5]; decide) (by rw [hs11_5]; decide) (by rw [hs11_5]; rfl) (by decide) ?_
                refine lv_aload_n hx hb dX8_person_100 rfl (lv_at hl 0 rfl) ?_
                refine g_get X hW 0 rfl rfl inX8 0 (by decide) q_817 rfl dX8_person_101 ?_
                refine lv_bipush (v := (21 : Int32)) hx hb dX8_person_104 (by decide) ?_
                refine lv_iload_n hx hb dX8_person_106 rfl (lv_at hl 1 rfl) ?_
                refine lv_iadd hx hb dX8_person_107 ?_
                obtain ⟨hi108, hM⟩ := MG_some hM
                refine g_ald X hW 1 rfl hi108 dX8_person_108 ?_
                obtain rfl := Option.some.inj hM
                exact g_reti X hW rfl rfl dX8_person_109
              · have hM := (if_neg hs11_5).symm.trans hM
                by_cases hs11_6 : p2 = (6 : Int32)
                · have hM := (if_pos hs11_6).symm.trans hM
                  refine lv_tableIn (off := 99) (tgt := 110) hx hb dX8_person_11 (by rw [hs11_6]; decide) (by rw [hs11_6]; decide) (by rw [hs11_6]; rfl) (by decide) ?_
                  refine lv_aload_n hx hb dX8_person_110 rfl (lv_at hl 0 rfl) ?_
                  refine g_get X hW 0 rfl rfl inX8 0 (by decide) q_817 rfl dX8_person_111 ?_
                  refine lv_bipush (v := (30 : Int32)) hx hb dX8_person_114 (by decide) ?_
                  refine lv_iload_n hx hb dX8_person_116 rfl (lv_at hl 1 rfl) ?_
                  refine lv_iadd hx hb dX8_person_117 ?_
                  obtain ⟨hi118, hM⟩ := MG_some hM
                  refine g_ald X hW 1 rfl hi118 dX8_person_118 ?_
                  obtain rfl := Option.some.inj hM
                  exact g_reti X hW rfl rfl dX8_person_119
                · have hM := (if_neg hs11_6).symm.trans hM
                  by_cases hs11_7 : p2 = (7 : Int32)
                  · have hM := (if_pos hs11_7).symm.trans hM
                    refine lv_tableIn (off := 109) (tgt := 120) hx hb dX8_person_11 (by rw [hs11_7]; decide) (by rw [hs11_7]; decide) (by rw [hs11_7]; rfl) (by decide) ?_
                    refine lv_aload_n hx hb dX8_person_120 rfl (lv_at hl 0 rfl) ?_
                    refine g_get X hW 0 rfl rfl inX8 0 (by decide) q_817 rfl dX8_person_121 ?_
                    refine lv_bipush (v := (39 : Int32)) hx hb dX8_person_124 (by decide) ?_
                    refine lv_iload_n hx hb dX8_person_126 rfl (lv_at hl 1 rfl) ?_
                    refine lv_iadd hx hb dX8_person_127 ?_
                    obtain ⟨hi128, hM⟩ := MG_some hM
                    refine g_ald X hW 1 rfl hi128 dX8_person_128 ?_
                    obtain rfl := Option.some.inj hM
                    exact g_reti X hW rfl rfl dX8_person_129
                  · have hM := (if_neg hs11_7).symm.trans hM
                    refine lv_tableOut (tgt := 130) hx hb dX8_person_11 (sw_out 7 (fun j hj => by rcases sw_le7 hj with rfl | rfl | rfl | rfl | rfl | rfl | rfl | rfl <;> assumption)) (by decide) ?_
                    refine lv_iconst (v := (-1 : Int32)) hx hb dX8_person_130 (by decide) ?_
                    obtain rfl := Option.some.inj hM
                    exact g_reti X hW rfl rfl dX8_person_131
  · have hM := (if_pos hc).symm.trans hM
    refine lv_iconst (v := (-1 : Int32)) hx hb dX8_person_8 (by decide) ?_
    obtain rfl := Option.some.inj hM
    exact g_reti X hW rfl rfl dX8_person_9

def MX8_at (N : Nat) (T_w : (Nat → Int32)) (p1 : Int32) : Option (Int32) :=
  if 0 ≤ p1 then (MG (2 : Int32) 792 (if (T_w (2 : Int32).toNatClampNeg) ≤ p1 then some ((-4 : Int32)) else (MG ((3 : Int32) + p1) 792 (some (T_w ((3 : Int32) + p1).toNatClampNeg))))) else some ((-1 : Int32))
set_option maxHeartbeats 4000000 in
set_option maxRecDepth 100000 in
theorem c_X8_at (l : Launch) (G : va_G) (cI cZ cL : ClassId) (N : Nat) (aT : Nat → Nat) (T_w : (Nat → Int32)) (T_undoes : Int32) (T_kept : Int32) (T_persons : Int32) (T_family : (Nat → Int32)) (T_gives : Int32) (T_warm : Int32) (T_rumour : Int32) (T_seen : Int32) (T_seenOf : (Nat → Int32)) (T_seenBehind : (Nat → Int32)) (T_seenHas : (Nat → Int32)) (T_text : (Nat → Int32)) (T_texted : Int32) (T_place : Int32) (T_number : Int32) (T_readPersons : Int32) (T_readKind : (Nat → Int32)) (T_readComes : (Nat → Int32)) (T_readFamily : (Nat → Int32)) (T_readGives : Int32) (T_readWarm : Int32) (T_readRumour : Int32) (T_toCome : (Nat → Int32)) (T_order : (Nat → Int32)) (T_bestOrder : (Nat → Int32)) (p1 : Int32) (rr : Int32) (hM : MX8_at N T_w p1 = some rr) : CtI l yX8_at cX8_at 2 .int 0 0 G cI cZ cL [.ref (aT 0), .int p1] [wMod cI cZ aT T_w T_undoes T_kept T_persons T_family T_gives T_warm T_rumour T_seen T_seenOf T_seenBehind T_seenHas T_text T_texted T_place T_number T_readPersons T_readKind T_readComes T_readFamily T_readGives T_readWarm T_readRumour T_toCome T_order T_bestOrder] rr [wMod cI cZ aT T_w T_undoes T_kept T_persons T_family T_gives T_warm T_rumour T_seen T_seenOf T_seenBehind T_seenHas T_text T_texted T_place T_number T_readPersons T_readKind T_readComes T_readFamily T_readGives T_readWarm T_readRumour T_toCome T_order T_bestOrder] := by
  refine ct_body (fun A => qI G rr [wMod cI cZ aT T_w T_undoes T_kept T_persons T_family T_gives T_warm T_rumour T_seen T_seenOf T_seenBehind T_seenHas T_text T_texted T_place T_number T_readPersons T_readKind T_readComes T_readFamily T_readGives T_readWarm T_readRumour T_toCome T_order T_bestOrder] A) (by decide) (Nat.le_of_ble_eq_true rfl) (fun p e s m below meth c A ls X hW hl => ?_)
  have hx := X.1
  have hb := X.2.1
  have hts := X.2.2.2.2.2.1
  have hown := X.2.2.2.2.2.2.1
  have hl : lv_has ls 2 [(0, .ref (aT 0)), (1, .int p1)] := hl
  unfold MX8_at at hM
  refine lv_iload_n hx hb dX8_at_0 rfl (lv_at hl 1 rfl) ?_
  refine lv_if_ge (tgt := 6) hx hb dX8_at_1 (by decide) (fun hc => ?_) (fun hc => ?_)
  · have hM := (if_pos hc).symm.trans hM
    refine lv_iload_n hx hb dX8_at_6 rfl (lv_at hl 1 rfl) ?_
    refine lv_aload_n hx hb dX8_at_7 rfl (lv_at hl 0 rfl) ?_
    refine g_get X hW 0 rfl rfl inX8 0 (by decide) q_817 rfl dX8_at_8 ?_
    refine lv_iconst (v := (2 : Int32)) hx hb dX8_at_11 (by decide) ?_
    obtain ⟨hi12, hM⟩ := MG_some hM
    refine g_ald X hW 1 rfl hi12 dX8_at_12 ?_
    refine lv_icmp_ge (tgt := 27) hx hb dX8_at_13 (by decide) (fun hc => ?_) (fun hc => ?_)
    · have hM := (if_pos hc).symm.trans hM
      refine lv_bipush (v := (-4 : Int32)) hx hb dX8_at_27 (by decide) ?_
      obtain rfl := Option.some.inj hM
      exact g_reti X hW rfl rfl dX8_at_29
    · have hM := (if_neg hc).symm.trans hM
      refine lv_aload_n hx hb dX8_at_16 rfl (lv_at hl 0 rfl) ?_
      refine g_get X hW 0 rfl rfl inX8 0 (by decide) q_817 rfl dX8_at_17 ?_
      refine lv_iconst (v := (3 : Int32)) hx hb dX8_at_20 (by decide) ?_
      refine lv_iload_n hx hb dX8_at_21 rfl (lv_at hl 1 rfl) ?_
      refine lv_iadd hx hb dX8_at_22 ?_
      obtain ⟨hi23, hM⟩ := MG_some hM
      refine g_ald X hW 1 rfl hi23 dX8_at_23 ?_
      refine lv_goto (tgt := 29) hx hb dX8_at_24 (by decide) ?_
      obtain rfl := Option.some.inj hM
      exact g_reti X hW rfl rfl dX8_at_29
  · have hM := (if_neg hc).symm.trans hM
    refine lv_iconst (v := (-1 : Int32)) hx hb dX8_at_4 (by decide) ?_
    obtain rfl := Option.some.inj hM
    exact g_reti X hW rfl rfl dX8_at_5

def MX8_minds_j57 (N : Nat) (yT0_57 : (Nat → Int32)) (yT1_57 : Int32) : Option ((Nat → Int32) × Int32) :=
  (MX8_copy N yT0_57 (0 : Int32) ((264 : Int32) + ((66 : Int32) * yT1_57))).bind (fun u70 => some (u70, (yT1_57 + (1 : Int32))))
def MX8_minds_j47 (N : Nat) (T_undoes : Int32) (yT0_47 : (Nat → Int32)) : Option ((Nat → Int32) × Int32) :=
  MX8_minds_j57 N yT0_47 (T_undoes - (1 : Int32))
def MX8_minds_l11 (N : Nat) (T_undoes : Int32) : Nat → Int32 → (Nat → Int32) → Option ((Nat → Int32) × Int32)
  | 0, _, _ => none
  | n11 + 1, x1_11, yT0_11 =>
    if (462 : Int32) ≤ x1_11 then (MX8_minds_j47 N T_undoes yT0_11) else (MG (((264 : Int32) + x1_11) + (66 : Int32)) 792 (MG ((264 : Int32) + x1_11) 792 ((MX8_minds_l11 N T_undoes n11) (x1_11 + (1 : Int32)) (upd yT0_11 ((264 : Int32) + x1_11).toNatClampNeg (yT0_11 (((264 : Int32) + x1_11) + (66 : Int32)).toNatClampNeg)))))
def MX8_minds (N : Nat) (T_w : (Nat → Int32)) (T_undoes : Int32) : Option ((Nat → Int32) × Int32) :=
  if T_undoes = (8 : Int32) then (MX8_minds_l11 N T_undoes N (0 : Int32) T_w) else (MX8_minds_j57 N T_w T_undoes)
set_option maxHeartbeats 4000000 in
set_option maxRecDepth 100000 in
theorem c_X8_minds (l : Launch) (G : va_G) (cI cZ cL : ClassId) (N : Nat) (aT : Nat → Nat) (T_w : (Nat → Int32)) (T_undoes : Int32) (T_kept : Int32) (T_persons : Int32) (T_family : (Nat → Int32)) (T_gives : Int32) (T_warm : Int32) (T_rumour : Int32) (T_seen : Int32) (T_seenOf : (Nat → Int32)) (T_seenBehind : (Nat → Int32)) (T_seenHas : (Nat → Int32)) (T_text : (Nat → Int32)) (T_texted : Int32) (T_place : Int32) (T_number : Int32) (T_readPersons : Int32) (T_readKind : (Nat → Int32)) (T_readComes : (Nat → Int32)) (T_readFamily : (Nat → Int32)) (T_readGives : Int32) (T_readWarm : Int32) (T_readRumour : Int32) (T_toCome : (Nat → Int32)) (T_order : (Nat → Int32)) (T_bestOrder : (Nat → Int32)) (rr : (Nat → Int32) × Int32) (hM : MX8_minds N T_w T_undoes = some rr) : CtV l yX8_minds cX8_minds 2 1 23 G cI cZ cL [.ref (aT 0)] [wMod cI cZ aT T_w T_undoes T_kept T_persons T_family T_gives T_warm T_rumour T_seen T_seenOf T_seenBehind T_seenHas T_text T_texted T_place T_number T_readPersons T_readKind T_readComes T_readFamily T_readGives T_readWarm T_readRumour T_toCome T_order T_bestOrder] [wMod cI cZ aT rr.1 rr.2 T_kept T_persons T_family T_gives T_warm T_rumour T_seen T_seenOf T_seenBehind T_seenHas T_text T_texted T_place T_number T_readPersons T_readKind T_readComes T_readFamily T_readGives T_readWarm T_readRumour T_toCome T_order T_bestOrder] := by
  refine ct_body (fun A => qV G [wMod cI cZ aT rr.1 rr.2 T_kept T_persons T_family T_gives T_warm T_rumour T_seen T_seenOf T_seenBehind T_seenHas T_text T_texted T_place T_number T_readPersons T_readKind T_readComes T_readFamily T_readGives T_readWarm T_readRumour T_toCome T_order T_bestOrder] A) (by decide) (Nat.le_of_ble_eq_true rfl) (fun p e s m below meth c A ls X hW hl => ?_)
  have hx := X.1
  have hb := X.2.1
  have hts := X.2.2.2.2.2.1
  have hown := X.2.2.2.2.2.2.1
  have hl : lv_has ls 2 [(0, .ref (aT 0))] := hl
  unfold MX8_minds at hM
  refine lv_aload_n hx hb dX8_minds_0 rfl (lv_at hl 0 rfl) ?_
  refine g_get X hW 0 rfl rfl inX8 1 (by decide) q_818 rfl dX8_minds_1 ?_
  refine lv_bipush (v := (8 : Int32)) hx hb dX8_minds_4 (by decide) ?_
  have j57 : ∀ (yT0_57 : (Nat → Int32)) (yT1_57 : Int32) (H : Heap) (locs : List Loc) (ls : Array Slot), Wd G A s [wMod cI cZ aT yT0_57 yT1_57 T_kept T_persons T_family T_gives T_warm T_rumour T_seen T_seenOf T_seenBehind T_seenHas T_text T_texted T_place T_number T_readPersons T_readKind T_readComes T_readFamily T_readGives T_readWarm T_readRumour T_toCome T_order T_bestOrder] H locs → lv_has ls 2 [(0, .ref (aT 0))] → MX8_minds_j57 N yT0_57 yT1_57 = some rr → W p l e (rmO 1 23) s m ([.ref (aT 0)] : List Value).toArray below meth c H locs 0 0 (MQ below (qV G [wMod cI cZ aT rr.1 rr.2 T_kept T_persons T_family T_gives T_warm T_rumour T_seen T_seenOf T_seenBehind T_seenHas T_text T_texted T_place T_number T_readPersons T_readKind T_readComes T_readFamily T_readGives T_readWarm T_readRumour T_toCome T_order T_bestOrder] A) ([.ref (aT 0)] : List Value).toArray s 0 0 A) (F0 m 57 ls []) := by
    intro yT0_57 yT1_57 H locs ls hW hl hM
    unfold MX8_minds_j57 at hM
    refine lv_aload_n hx hb dX8_minds_57 rfl (lv_at hl 0 rfl) ?_
    refine lv_iconst (v := (0 : Int32)) hx hb dX8_minds_58 (by decide) ?_
    refine lv_sipush (v := (264 : Int32)) hx hb dX8_minds_59 (by decide) ?_
    refine lv_bipush (v := (66 : Int32)) hx hb dX8_minds_62 (by decide) ?_
    refine lv_aload_n hx hb dX8_minds_64 rfl (lv_at hl 0 rfl) ?_
    refine g_get X hW 0 rfl rfl inX8 1 (by decide) q_818 rfl dX8_minds_65 ?_
    refine lv_imul hx hb dX8_minds_68 ?_
    refine lv_iadd hx hb dX8_minds_69 ?_
    obtain ⟨u70, hu70, hM⟩ := bind_some hM
    refine g_callVv (rest := []) (gr := []) X hl.1 hW (c_X8_copy l G cI cZ cL N aT yT0_57 yT1_57 T_kept T_persons T_family T_gives T_warm T_rumour T_seen T_seenOf T_seenBehind T_seenHas T_text T_texted T_place T_number T_readPersons T_readKind T_readComes T_readFamily T_readGives T_readWarm T_readRumour T_toCome T_order T_bestOrder (0 : Int32) ((264 : Int32) + ((66 : Int32) * yT1_57)) u70 hu70) q_975 q_972 q_974 q_32 q_67 hd_X8_copy rfl ⟨Nat.le_of_ble_eq_true rfl, Nat.le_of_ble_eq_true rfl⟩ ⟨Nat.zero_le _, Nat.zero_le _⟩ [0] [] [wMod cI cZ aT u70 yT1_57 T_kept T_persons T_family T_gives T_warm T_rumour T_seen T_seenOf T_seenBehind T_seenHas T_text T_texted T_place T_number T_readPersons T_readKind T_readComes T_readFamily T_readGives T_readWarm T_readRumour T_toCome T_order T_bestOrder] ⟨pm_1_0, rfl, rfl, rfl⟩ ⟨pm_1_0, rfl, rfl, rfl⟩ (q0 := 0) rfl rfl rfl (Nat.le_of_ble_eq_true rfl) dX8_minds_70 (fun H locs hW => ?_)
    refine lv_aload_n hx hb dX8_minds_73 rfl (lv_at hl 0 rfl) ?_
    refine lv_dup hx hb dX8_minds_74 rfl ?_
    refine g_get X hW 0 rfl rfl inX8 1 (by decide) q_818 rfl dX8_minds_75 ?_
    refine lv_iconst (v := (1 : Int32)) hx hb dX8_minds_78 (by decide) ?_
    refine lv_iadd hx hb dX8_minds_79 ?_
    refine g_put X hW 0 rfl rfl inX8 tyX8 tyX8_ok nmX8 1 (by decide) q_818 rfl rfl (Nat.le_of_ble_eq_true rfl) [wMod cI cZ aT u70 (yT1_57 + (1 : Int32)) T_kept T_persons T_family T_gives T_warm T_rumour T_seen T_seenOf T_seenBehind T_seenHas T_text T_texted T_place T_number T_readPersons T_readKind T_readComes T_readFamily T_readGives T_readWarm T_readRumour T_toCome T_order T_bestOrder] rfl dX8_minds_80 (fun H locs hW => ?_)
    obtain rfl := Option.some.inj hM
    exact g_retv X hW dX8_minds_83
  refine lv_icmp_ne (tgt := 57) hx hb dX8_minds_6 (by decide) (fun hc => ?_) (fun hc => ?_)
  · have hM := (if_neg hc).symm.trans hM
    exact j57 T_w T_undoes _ _ _ hW (lv_sub hl [0] rfl) hM
  · have hM := (if_pos hc).symm.trans hM
    refine lv_iconst (v := (0 : Int32)) hx hb dX8_minds_9 (by decide) ?_
    refine lv_istore_n (lv' := [(1, .int (0 : Int32)), (0, .ref (aT 0))]) hx hb dX8_minds_10 rfl hl (by decide) rfl (fun ls hl => ?_)
    have j47 : ∀ (yT0_47 : (Nat → Int32)) (H : Heap) (locs : List Loc) (ls : Array Slot), Wd G A s [wMod cI cZ aT yT0_47 T_undoes T_kept T_persons T_family T_gives T_warm T_rumour T_seen T_seenOf T_seenBehind T_seenHas T_text T_texted T_place T_number T_readPersons T_readKind T_readComes T_readFamily T_readGives T_readWarm T_readRumour T_toCome T_order T_bestOrder] H locs → lv_has ls 2 [(0, .ref (aT 0))] → MX8_minds_j47 N T_undoes yT0_47 = some rr → W p l e (rmO 1 23) s m ([.ref (aT 0)] : List Value).toArray below meth c H locs 0 0 (MQ below (qV G [wMod cI cZ aT rr.1 rr.2 T_kept T_persons T_family T_gives T_warm T_rumour T_seen T_seenOf T_seenBehind T_seenHas T_text T_texted T_place T_number T_readPersons T_readKind T_readComes T_readFamily T_readGives T_readWarm T_readRumour T_toCome T_order T_bestOrder] A) ([.ref (aT 0)] : List Value).toArray s 0 0 A) (F0 m 47 ls []) := by
      intro yT0_47 H locs ls hW hl hM
      unfold MX8_minds_j47 at hM
      refine lv_aload_n hx hb dX8_minds_47 rfl (lv_at hl 0 rfl) ?_
      refine lv_dup hx hb dX8_minds_48 rfl ?_
      refine g_get X hW 0 rfl rfl inX8 1 (by decide) q_818 rfl dX8_minds_49 ?_
      refine lv_iconst (v := (1 : Int32)) hx hb dX8_minds_52 (by decide) ?_
      refine lv_isub hx hb dX8_minds_53 ?_
      refine g_put X hW 0 rfl rfl inX8 tyX8 tyX8_ok nmX8 1 (by decide) q_818 rfl rfl (Nat.le_of_ble_eq_true rfl) [wMod cI cZ aT yT0_47 (T_undoes - (1 : Int32)) T_kept T_persons T_family T_gives T_warm T_rumour T_seen T_seenOf T_seenBehind T_seenHas T_text T_texted T_place T_number T_readPersons T_readKind T_readComes T_readFamily T_readGives T_readWarm T_readRumour T_toCome T_order T_bestOrder] rfl dX8_minds_54 (fun H locs hW => ?_)
      exact j57 yT0_47 (T_undoes - (1 : Int32)) _ _ _ hW (lv_sub hl [0] rfl) hM
    have lp11 : ∀ (n11 : Nat) (x1_11 : Int32) (yT0_11 : (Nat → Int32)) (H : Heap) (locs : List Loc) (ls : Array Slot), Wd G A s [wMod cI cZ aT yT0_11 T_undoes T_kept T_persons T_family T_gives T_warm T_rumour T_seen T_seenOf T_seenBehind T_seenHas T_text T_texted T_place T_number T_readPersons T_readKind T_readComes T_readFamily T_readGives T_readWarm T_readRumour T_toCome T_order T_bestOrder] H locs → lv_has ls 2 [(0, .ref (aT 0)), (1, .int x1_11)] → MX8_minds_l11 N T_undoes n11 x1_11 yT0_11 = some rr → W p l e (rmO 1 23) s m ([.ref (aT 0)] : List Value).toArray below meth c H locs 0 0 (MQ below (qV G [wMod cI cZ aT rr.1 rr.2 T_kept T_persons T_family T_gives T_warm T_rumour T_seen T_seenOf T_seenBehind T_seenHas T_text T_texted T_place T_number T_readPersons T_readKind T_readComes T_readFamily T_readGives T_readWarm T_readRumour T_toCome T_order T_bestOrder] A) ([.ref (aT 0)] : List Value).toArray s 0 0 A) (F0 m 11 ls []) := by
      intro n11
      induction n11 with
      | zero =>
        intro x1_11 yT0_11 H locs ls hW hl hM
        rw [MX8_minds_l11] at hM
        cases hM
      | succ n11 ih11 =>
        intro x1_11 yT0_11 H locs ls hW hl hM
        rw [MX8_minds_l11] at hM
        refine lv_iload_n hx hb dX8_minds_11 rfl (lv_at hl 1 rfl) ?_
        refine lv_sipush (v := (462 : Int32)) hx hb dX8_minds_12 (by decide) ?_
        refine lv_icmp_ge (tgt := 47) hx hb dX8_minds_15 (by decide) (fun hc => ?_) (fun hc => ?_)
        · have hM := (if_pos hc).symm.trans hM
          exact j47 yT0_11 _ _ _ hW (lv_sub hl [0] rfl) hM
        · have hM := (if_neg hc).symm.trans hM
          refine lv_aload_n hx hb dX8_minds_18 rfl (lv_at hl 0 rfl) ?_
          refine g_get X hW 0 rfl rfl inX8 0 (by decide) q_817 rfl dX8_minds_19 ?_
          refine lv_sipush (v := (264 : Int32)) hx hb dX8_minds_22 (by decide) ?_
          refine lv_iload_n hx hb dX8_minds_25 rfl (lv_at hl 1 rfl) ?_
          refine lv_iadd hx hb dX8_minds_26 ?_
          refine lv_aload_n hx hb dX8_minds_27 rfl (lv_at hl 0 rfl) ?_
          refine g_get X hW 0 rfl rfl inX8 0 (by decide) q_817 rfl dX8_minds_28 ?_
          refine lv_sipush (v := (264 : Int32)) hx hb dX8_minds_31 (by decide) ?_
          refine lv_iload_n hx hb dX8_minds_34 rfl (lv_at hl 1 rfl) ?_
          refine lv_iadd hx hb dX8_minds_35 ?_
          refine lv_bipush (v := (66 : Int32)) hx hb dX8_minds_36 (by decide) ?_
          refine lv_iadd hx hb dX8_minds_38 ?_
          obtain ⟨hi39, hM⟩ := MG_some hM
          refine g_ald X hW 1 rfl hi39 dX8_minds_39 ?_
          obtain ⟨hi40, hM⟩ := MG_some hM
          refine g_ast X hW 1 rfl hi40 [wMod cI cZ aT (upd yT0_11 ((264 : Int32) + x1_11).toNatClampNeg (yT0_11 (((264 : Int32) + x1_11) + (66 : Int32)).toNatClampNeg)) T_undoes T_kept T_persons T_family T_gives T_warm T_rumour T_seen T_seenOf T_seenBehind T_seenHas T_text T_texted T_place T_number T_readPersons T_readKind T_readComes T_readFamily T_readGives T_readWarm T_readRumour T_toCome T_order T_bestOrder] rfl dX8_minds_40 (fun H locs hW => ?_)
          refine lv_iinc (v := x1_11 + (1 : Int32)) (lv' := [(1, .int (x1_11 + (1 : Int32))), (0, .ref (aT 0))]) hx hb dX8_minds_41 hl (k := 1) rfl rfl (by decide) rfl (fun ls hl => ?_)
          refine lv_goto (tgt := 11) hx hb dX8_minds_44 (by decide) ?_
          exact ih11 (x1_11 + (1 : Int32)) (upd yT0_11 ((264 : Int32) + x1_11).toNatClampNeg (yT0_11 (((264 : Int32) + x1_11) + (66 : Int32)).toNatClampNeg)) _ _ _ hW (lv_sub hl [1, 0] rfl) hM
    exact lp11 N (0 : Int32) T_w _ _ _ hW (lv_sub hl [1, 0] rfl) hM

def MX8_pass_j36 (N : Nat) (T_persons : Int32) (u15 : (Nat → Int32) × Int32) (yT0_36 : (Nat → Int32)) : Option (Int32 × (Nat → Int32) × Int32) :=
  (MX8_manyWhere N yT0_36 T_persons (3 : Int32)).bind (fun u38 => some (u38, yT0_36, u15.2))
def MX8_pass_l20 (N : Nat) (T_persons : Int32) (T_family : (Nat → Int32)) (T_gives : Int32) (T_warm : Int32) (T_rumour : Int32) (p1 : Int32) (u15 : (Nat → Int32) × Int32) : Nat → Int32 → (Nat → Int32) → Option (Int32 × (Nat → Int32) × Int32)
  | 0, _, _ => none
  | n20 + 1, x2_20, yT0_20 =>
    if p1 ≤ x2_20 then (MX8_pass_j36 N T_persons u15 yT0_20) else ((MX8_passes N yT0_20 T_persons T_family T_gives T_warm T_rumour (0 : Int32)).bind (fun u27 => (MX8_pass_l20 N T_persons T_family T_gives T_warm T_rumour p1 u15 n20) (x2_20 + (1 : Int32)) u27))
def MX8_pass (N : Nat) (T_w : (Nat → Int32)) (T_undoes : Int32) (T_persons : Int32) (T_family : (Nat → Int32)) (T_gives : Int32) (T_warm : Int32) (T_rumour : Int32) (p1 : Int32) : Option (Int32 × (Nat → Int32) × Int32) :=
  (MX8_in N p1.toInt64 (1 : Int64) (30 : Int64)).bind (fun u6 => if u6 = 0 then some ((-1 : Int32), T_w, T_undoes) else ((MX8_minds N T_w T_undoes).bind (fun u15 => MX8_pass_l20 N T_persons T_family T_gives T_warm T_rumour p1 u15 N (0 : Int32) u15.1)))
set_option maxHeartbeats 4000000 in
set_option maxRecDepth 100000 in
theorem c_X8_pass (l : Launch) (G : va_G) (cI cZ cL : ClassId) (N : Nat) (aT : Nat → Nat) (T_w : (Nat → Int32)) (T_undoes : Int32) (T_kept : Int32) (T_persons : Int32) (T_family : (Nat → Int32)) (T_gives : Int32) (T_warm : Int32) (T_rumour : Int32) (T_seen : Int32) (T_seenOf : (Nat → Int32)) (T_seenBehind : (Nat → Int32)) (T_seenHas : (Nat → Int32)) (T_text : (Nat → Int32)) (T_texted : Int32) (T_place : Int32) (T_number : Int32) (T_readPersons : Int32) (T_readKind : (Nat → Int32)) (T_readComes : (Nat → Int32)) (T_readFamily : (Nat → Int32)) (T_readGives : Int32) (T_readWarm : Int32) (T_readRumour : Int32) (T_toCome : (Nat → Int32)) (T_order : (Nat → Int32)) (T_bestOrder : (Nat → Int32)) (p1 : Int32) (rr : Int32 × (Nat → Int32) × Int32) (hM : MX8_pass N T_w T_undoes T_persons T_family T_gives T_warm T_rumour p1 = some rr) : CtI l yX8_pass cX8_pass 3 .int 5 119 G cI cZ cL [.ref (aT 0), .int p1] [wMod cI cZ aT T_w T_undoes T_kept T_persons T_family T_gives T_warm T_rumour T_seen T_seenOf T_seenBehind T_seenHas T_text T_texted T_place T_number T_readPersons T_readKind T_readComes T_readFamily T_readGives T_readWarm T_readRumour T_toCome T_order T_bestOrder] rr.1 [wMod cI cZ aT rr.2.1 rr.2.2 T_kept T_persons T_family T_gives T_warm T_rumour T_seen T_seenOf T_seenBehind T_seenHas T_text T_texted T_place T_number T_readPersons T_readKind T_readComes T_readFamily T_readGives T_readWarm T_readRumour T_toCome T_order T_bestOrder] := by
  refine ct_body (fun A => qI G rr.1 [wMod cI cZ aT rr.2.1 rr.2.2 T_kept T_persons T_family T_gives T_warm T_rumour T_seen T_seenOf T_seenBehind T_seenHas T_text T_texted T_place T_number T_readPersons T_readKind T_readComes T_readFamily T_readGives T_readWarm T_readRumour T_toCome T_order T_bestOrder] A) (by decide) (Nat.le_of_ble_eq_true rfl) (fun p e s m below meth c A ls X hW hl => ?_)
  have hx := X.1
  have hb := X.2.1
  have hts := X.2.2.2.2.2.1
  have hown := X.2.2.2.2.2.2.1
  have hl : lv_has ls 3 [(0, .ref (aT 0)), (1, .int p1)] := hl
  unfold MX8_pass at hM
  refine lv_iload_n hx hb dX8_pass_0 rfl (lv_at hl 1 rfl) ?_
  refine lv_i2l hx hb dX8_pass_1 rfl ?_
  refine lv_lconst (v := (1 : Int64)) hx hb dX8_pass_2 (by decide) ?_
  refine lv_ldc2 (v := (30 : Int64)) hx hb hown (hts _ q_967) dX8_pass_3 ?_
  obtain ⟨u6, hu6, hM⟩ := bind_some hM
  refine g_callSi (rest := []) X hl.1 hW (c_X8_in l G cI cZ cL N p1.toInt64 (1 : Int64) (30 : Int64) u6 hu6) q_904 q_902 q_903 q_67 hd_X8_in rfl ⟨Nat.le_of_ble_eq_true rfl, Nat.le_of_ble_eq_true rfl⟩ ⟨Nat.zero_le _, Nat.zero_le _⟩ rfl (Nat.le_of_ble_eq_true rfl) dX8_pass_6 (fun H locs hW => ?_)
  refine lv_if_ne (tgt := 14) hx hb dX8_pass_9 (by decide) (fun hc => ?_) (fun hc => ?_)
  · have hM := (if_neg hc).symm.trans hM
    refine lv_aload_n hx hb dX8_pass_14 rfl (lv_at hl 0 rfl) ?_
    obtain ⟨u15, hu15, hM⟩ := bind_some hM
    refine g_callVv (rest := []) (gr := []) X hl.1 hW (c_X8_minds l G cI cZ cL N aT T_w T_undoes T_kept T_persons T_family T_gives T_warm T_rumour T_seen T_seenOf T_seenBehind T_seenHas T_text T_texted T_place T_number T_readPersons T_readKind T_readComes T_readFamily T_readGives T_readWarm T_readRumour T_toCome T_order T_bestOrder u15 hu15) q_971 q_968 q_970 q_31 q_67 hd_X8_minds rfl ⟨Nat.le_of_ble_eq_true rfl, Nat.le_of_ble_eq_true rfl⟩ ⟨Nat.zero_le _, Nat.zero_le _⟩ [0] [] [wMod cI cZ aT u15.1 u15.2 T_kept T_persons T_family T_gives T_warm T_rumour T_seen T_seenOf T_seenBehind T_seenHas T_text T_texted T_place T_number T_readPersons T_readKind T_readComes T_readFamily T_readGives T_readWarm T_readRumour T_toCome T_order T_bestOrder] ⟨pm_1_0, rfl, rfl, rfl⟩ ⟨pm_1_0, rfl, rfl, rfl⟩ (q0 := 0) rfl rfl rfl (Nat.le_of_ble_eq_true rfl) dX8_pass_15 (fun H locs hW => ?_)
    refine lv_iconst (v := (0 : Int32)) hx hb dX8_pass_18 (by decide) ?_
    refine lv_istore_n (lv' := [(2, .int (0 : Int32)), (0, .ref (aT 0)), (1, .int p1)]) hx hb dX8_pass_19 rfl hl (by decide) rfl (fun ls hl => ?_)
    have j36 : ∀ (yT0_36 : (Nat → Int32)) (H : Heap) (locs : List Loc) (ls : Array Slot), Wd G A s [wMod cI cZ aT yT0_36 u15.2 T_kept T_persons T_family T_gives T_warm T_rumour T_seen T_seenOf T_seenBehind T_seenHas T_text T_texted T_place T_number T_readPersons T_readKind T_readComes T_readFamily T_readGives T_readWarm T_readRumour T_toCome T_order T_bestOrder] H locs → lv_has ls 3 [(0, .ref (aT 0))] → MX8_pass_j36 N T_persons u15 yT0_36 = some rr → W p l e (rmO 5 119) s m ([.ref (aT 0), .int p1] : List Value).toArray below meth c H locs 0 0 (MQ below (qI G rr.1 [wMod cI cZ aT rr.2.1 rr.2.2 T_kept T_persons T_family T_gives T_warm T_rumour T_seen T_seenOf T_seenBehind T_seenHas T_text T_texted T_place T_number T_readPersons T_readKind T_readComes T_readFamily T_readGives T_readWarm T_readRumour T_toCome T_order T_bestOrder] A) ([.ref (aT 0), .int p1] : List Value).toArray s 0 0 A) (F0 m 36 ls []) := by
      intro yT0_36 H locs ls hW hl hM
      unfold MX8_pass_j36 at hM
      refine lv_aload_n hx hb dX8_pass_36 rfl (lv_at hl 0 rfl) ?_
      refine lv_iconst (v := (3 : Int32)) hx hb dX8_pass_37 (by decide) ?_
      obtain ⟨u38, hu38, hM⟩ := bind_some hM
      refine g_callVi (rest := []) (gr := []) X hl.1 hW (c_X8_manyWhere l G cI cZ cL N aT yT0_36 u15.2 T_kept T_persons T_family T_gives T_warm T_rumour T_seen T_seenOf T_seenBehind T_seenHas T_text T_texted T_place T_number T_readPersons T_readKind T_readComes T_readFamily T_readGives T_readWarm T_readRumour T_toCome T_order T_bestOrder (3 : Int32) u38 hu38) q_1011 q_1008 q_1010 q_41 q_67 hd_X8_manyWhere rfl ⟨Nat.le_of_ble_eq_true rfl, Nat.le_of_ble_eq_true rfl⟩ ⟨Nat.zero_le _, Nat.zero_le _⟩ [0] [] [wMod cI cZ aT yT0_36 u15.2 T_kept T_persons T_family T_gives T_warm T_rumour T_seen T_seenOf T_seenBehind T_seenHas T_text T_texted T_place T_number T_readPersons T_readKind T_readComes T_readFamily T_readGives T_readWarm T_readRumour T_toCome T_order T_bestOrder] ⟨pm_1_0, rfl, rfl, rfl⟩ ⟨pm_1_0, rfl, rfl, rfl⟩ (q0 := 0) rfl rfl rfl (Nat.le_of_ble_eq_true rfl) dX8_pass_38 (fun H locs hW => ?_)
      obtain rfl := Option.some.inj hM
      exact g_reti X hW rfl rfl dX8_pass_41
    have lp20 : ∀ (n20 : Nat) (x2_20 : Int32) (yT0_20 : (Nat → Int32)) (H : Heap) (locs : List Loc) (ls : Array Slot), Wd G A s [wMod cI cZ aT yT0_20 u15.2 T_kept T_persons T_family T_gives T_warm T_rumour T_seen T_seenOf T_seenBehind T_seenHas T_text T_texted T_place T_number T_readPersons T_readKind T_readComes T_readFamily T_readGives T_readWarm T_readRumour T_toCome T_order T_bestOrder] H locs → lv_has ls 3 [(0, .ref (aT 0)), (1, .int p1), (2, .int x2_20)] → MX8_pass_l20 N T_persons T_family T_gives T_warm T_rumour p1 u15 n20 x2_20 yT0_20 = some rr → W p l e (rmO 5 119) s m ([.ref (aT 0), .int p1] : List Value).toArray below meth c H locs 0 0 (MQ below (qI G rr.1 [wMod cI cZ aT rr.2.1 rr.2.2 T_kept T_persons T_family T_gives T_warm T_rumour T_seen T_seenOf T_seenBehind T_seenHas T_text T_texted T_place T_number T_readPersons T_readKind T_readComes T_readFamily T_readGives T_readWarm T_readRumour T_toCome T_order T_bestOrder] A) ([.ref (aT 0), .int p1] : List Value).toArray s 0 0 A) (F0 m 20 ls []) := by
      intro n20
      induction n20 with
      | zero =>
        intro x2_20 yT0_20 H locs ls hW hl hM
        rw [MX8_pass_l20] at hM
        cases hM
      | succ n20 ih20 =>
        intro x2_20 yT0_20 H locs ls hW hl hM
        rw [MX8_pass_l20] at hM
        refine lv_iload_n hx hb dX8_pass_20 rfl (lv_at hl 2 rfl) ?_
        refine lv_iload_n hx hb dX8_pass_21 rfl (lv_at hl 1 rfl) ?_
        refine lv_icmp_ge (tgt := 36) hx hb dX8_pass_22 (by decide) (fun hc => ?_) (fun hc => ?_)
        · have hM := (if_pos hc).symm.trans hM
          exact j36 yT0_20 _ _ _ hW (lv_sub hl [0] rfl) hM
        · have hM := (if_neg hc).symm.trans hM
          refine lv_aload_n hx hb dX8_pass_25 rfl (lv_at hl 0 rfl) ?_
          refine lv_iconst (v := (0 : Int32)) hx hb dX8_pass_26 (by decide) ?_
          obtain ⟨u27, hu27, hM⟩ := bind_some hM
          refine g_callVv (rest := []) (gr := []) X hl.1 hW (c_X8_passes l G cI cZ cL N aT yT0_20 u15.2 T_kept T_persons T_family T_gives T_warm T_rumour T_seen T_seenOf T_seenBehind T_seenHas T_text T_texted T_place T_number T_readPersons T_readKind T_readComes T_readFamily T_readGives T_readWarm T_readRumour T_toCome T_order T_bestOrder (0 : Int32) u27 hu27) q_979 q_976 q_978 q_33 q_67 hd_X8_passes rfl ⟨Nat.le_of_ble_eq_true rfl, Nat.le_of_ble_eq_true rfl⟩ ⟨Nat.zero_le _, Nat.zero_le _⟩ [0] [] [wMod cI cZ aT u27 u15.2 T_kept T_persons T_family T_gives T_warm T_rumour T_seen T_seenOf T_seenBehind T_seenHas T_text T_texted T_place T_number T_readPersons T_readKind T_readComes T_readFamily T_readGives T_readWarm T_readRumour T_toCome T_order T_bestOrder] ⟨pm_1_0, rfl, rfl, rfl⟩ ⟨pm_1_0, rfl, rfl, rfl⟩ (q0 := 0) rfl rfl rfl (Nat.le_of_ble_eq_true rfl) dX8_pass_27 (fun H locs hW => ?_)
          refine lv_iinc (v := x2_20 + (1 : Int32)) (lv' := [(2, .int (x2_20 + (1 : Int32))), (0, .ref (aT 0)), (1, .int p1)]) hx hb dX8_pass_30 hl (k := 2) rfl rfl (by decide) rfl (fun ls hl => ?_)
          refine lv_goto (tgt := 20) hx hb dX8_pass_33 (by decide) ?_
          exact ih20 (x2_20 + (1 : Int32)) u27 _ _ _ hW (lv_sub hl [1, 2, 0] rfl) hM
    exact lp20 N (0 : Int32) u15.1 _ _ _ hW (lv_sub hl [1, 2, 0] rfl) hM
  · have hM := (if_pos hc).symm.trans hM
    refine lv_iconst (v := (-1 : Int32)) hx hb dX8_pass_12 (by decide) ?_
    obtain rfl := Option.some.inj hM
    exact g_reti X hW rfl rfl dX8_pass_13

def MX8_canGiveUp_j33 : Option (Int32) :=
  some ((0 : Int32))
def MX8_canGiveUp (N : Nat) (T_w : (Nat → Int32)) (p1 : Int32) (p2 : Int32) : Option (Int32) :=
  (MX8_isWhere N T_w p1 p2 (1 : Int32)).bind (fun u4 => if u4 = 0 then (MX8_canGiveUp_j33) else ((MX8_placeOf N T_w p1 p2).bind (fun u13 => MG (p1 + (2 : Int32)) 792 (if ((T_w (p1 + (2 : Int32)).toNatClampNeg) - (1 : Int32)) ≤ u13 then (MX8_canGiveUp_j33) else some ((1 : Int32))))))
set_option maxHeartbeats 4000000 in
set_option maxRecDepth 100000 in
theorem c_X8_canGiveUp (l : Launch) (G : va_G) (cI cZ cL : ClassId) (N : Nat) (aT : Nat → Nat) (T_w : (Nat → Int32)) (T_undoes : Int32) (T_kept : Int32) (T_persons : Int32) (T_family : (Nat → Int32)) (T_gives : Int32) (T_warm : Int32) (T_rumour : Int32) (T_seen : Int32) (T_seenOf : (Nat → Int32)) (T_seenBehind : (Nat → Int32)) (T_seenHas : (Nat → Int32)) (T_text : (Nat → Int32)) (T_texted : Int32) (T_place : Int32) (T_number : Int32) (T_readPersons : Int32) (T_readKind : (Nat → Int32)) (T_readComes : (Nat → Int32)) (T_readFamily : (Nat → Int32)) (T_readGives : Int32) (T_readWarm : Int32) (T_readRumour : Int32) (T_toCome : (Nat → Int32)) (T_order : (Nat → Int32)) (T_bestOrder : (Nat → Int32)) (p1 : Int32) (p2 : Int32) (rr : Int32) (hM : MX8_canGiveUp N T_w p1 p2 = some rr) : CtI l yX8_canGiveUp cX8_canGiveUp 3 .boolean 1 23 G cI cZ cL [.ref (aT 0), .int p1, .int p2] [wMod cI cZ aT T_w T_undoes T_kept T_persons T_family T_gives T_warm T_rumour T_seen T_seenOf T_seenBehind T_seenHas T_text T_texted T_place T_number T_readPersons T_readKind T_readComes T_readFamily T_readGives T_readWarm T_readRumour T_toCome T_order T_bestOrder] rr [wMod cI cZ aT T_w T_undoes T_kept T_persons T_family T_gives T_warm T_rumour T_seen T_seenOf T_seenBehind T_seenHas T_text T_texted T_place T_number T_readPersons T_readKind T_readComes T_readFamily T_readGives T_readWarm T_readRumour T_toCome T_order T_bestOrder] := by
  refine ct_body (fun A => qI G rr [wMod cI cZ aT T_w T_undoes T_kept T_persons T_family T_gives T_warm T_rumour T_seen T_seenOf T_seenBehind T_seenHas T_text T_texted T_place T_number T_readPersons T_readKind T_readComes T_readFamily T_readGives T_readWarm T_readRumour T_toCome T_order T_bestOrder] A) (by decide) (Nat.le_of_ble_eq_true rfl) (fun p e s m below meth c A ls X hW hl => ?_)
  have hx := X.1
  have hb := X.2.1
  have hts := X.2.2.2.2.2.1
  have hown := X.2.2.2.2.2.2.1
  have hl : lv_has ls 3 [(0, .ref (aT 0)), (1, .int p1), (2, .int p2)] := hl
  unfold MX8_canGiveUp at hM
  refine lv_aload_n hx hb dX8_canGiveUp_0 rfl (lv_at hl 0 rfl) ?_
  refine lv_iload_n hx hb dX8_canGiveUp_1 rfl (lv_at hl 1 rfl) ?_
  refine lv_iload_n hx hb dX8_canGiveUp_2 rfl (lv_at hl 2 rfl) ?_
  refine lv_iconst (v := (1 : Int32)) hx hb dX8_canGiveUp_3 (by decide) ?_
  obtain ⟨u4, hu4, hM⟩ := bind_some hM
  refine g_callVi (rest := []) (gr := []) X hl.1 hW (c_X8_isWhere l G cI cZ cL N aT T_w T_undoes T_kept T_persons T_family T_gives T_warm T_rumour T_seen T_seenOf T_seenBehind T_seenHas T_text T_texted T_place T_number T_readPersons T_readKind T_readComes T_readFamily T_readGives T_readWarm T_readRumour T_toCome T_order T_bestOrder p1 p2 (1 : Int32) u4 hu4) q_1015 q_1012 q_1014 q_42 q_67 hd_X8_isWhere rfl ⟨Nat.le_of_ble_eq_true rfl, Nat.le_of_ble_eq_true rfl⟩ ⟨Nat.zero_le _, Nat.zero_le _⟩ [0] [] [wMod cI cZ aT T_w T_undoes T_kept T_persons T_family T_gives T_warm T_rumour T_seen T_seenOf T_seenBehind T_seenHas T_text T_texted T_place T_number T_readPersons T_readKind T_readComes T_readFamily T_readGives T_readWarm T_readRumour T_toCome T_order T_bestOrder] ⟨pm_1_0, rfl, rfl, rfl⟩ ⟨pm_1_0, rfl, rfl, rfl⟩ (q0 := 0) rfl rfl rfl (Nat.le_of_ble_eq_true rfl) dX8_canGiveUp_4 (fun H locs hW => ?_)
  have j33 : ∀ (H : Heap) (locs : List Loc) (ls : Array Slot), Wd G A s [wMod cI cZ aT T_w T_undoes T_kept T_persons T_family T_gives T_warm T_rumour T_seen T_seenOf T_seenBehind T_seenHas T_text T_texted T_place T_number T_readPersons T_readKind T_readComes T_readFamily T_readGives T_readWarm T_readRumour T_toCome T_order T_bestOrder] H locs → lv_has ls 3 [] → MX8_canGiveUp_j33 = some rr → W p l e (rmO 1 23) s m ([.ref (aT 0), .int p1, .int p2] : List Value).toArray below meth c H locs 0 0 (MQ below (qI G rr [wMod cI cZ aT T_w T_undoes T_kept T_persons T_family T_gives T_warm T_rumour T_seen T_seenOf T_seenBehind T_seenHas T_text T_texted T_place T_number T_readPersons T_readKind T_readComes T_readFamily T_readGives T_readWarm T_readRumour T_toCome T_order T_bestOrder] A) ([.ref (aT 0), .int p1, .int p2] : List Value).toArray s 0 0 A) (F0 m 33 ls []) := by
    intro H locs ls hW hl hM
    unfold MX8_canGiveUp_j33 at hM
    refine lv_iconst (v := (0 : Int32)) hx hb dX8_canGiveUp_33 (by decide) ?_
    obtain rfl := Option.some.inj hM
    exact g_reti X hW rfl rfl dX8_canGiveUp_34
  refine lv_if_eq (tgt := 33) hx hb dX8_canGiveUp_7 (by decide) (fun hc => ?_) (fun hc => ?_)
  · have hM := (if_pos hc).symm.trans hM
    exact j33 _ _ _ hW (lv_sub hl [] rfl) hM
  · have hM := (if_neg hc).symm.trans hM
    refine lv_aload_n hx hb dX8_canGiveUp_10 rfl (lv_at hl 0 rfl) ?_
    refine lv_iload_n hx hb dX8_canGiveUp_11 rfl (lv_at hl 1 rfl) ?_
    refine lv_iload_n hx hb dX8_canGiveUp_12 rfl (lv_at hl 2 rfl) ?_
    obtain ⟨u13, hu13, hM⟩ := bind_some hM
    refine g_callVi (rest := []) (gr := []) X hl.1 hW (c_X8_placeOf l G cI cZ cL N aT T_w T_undoes T_kept T_persons T_family T_gives T_warm T_rumour T_seen T_seenOf T_seenBehind T_seenHas T_text T_texted T_place T_number T_readPersons T_readKind T_readComes T_readFamily T_readGives T_readWarm T_readRumour T_toCome T_order T_bestOrder p1 p2 u13 hu13) q_958 q_955 q_957 q_30 q_67 hd_X8_placeOf rfl ⟨Nat.le_of_ble_eq_true rfl, Nat.le_of_ble_eq_true rfl⟩ ⟨Nat.zero_le _, Nat.zero_le _⟩ [0] [] [wMod cI cZ aT T_w T_undoes T_kept T_persons T_family T_gives T_warm T_rumour T_seen T_seenOf T_seenBehind T_seenHas T_text T_texted T_place T_number T_readPersons T_readKind T_readComes T_readFamily T_readGives T_readWarm T_readRumour T_toCome T_order T_bestOrder] ⟨pm_1_0, rfl, rfl, rfl⟩ ⟨pm_1_0, rfl, rfl, rfl⟩ (q0 := 0) rfl rfl rfl (Nat.le_of_ble_eq_true rfl) dX8_canGiveUp_13 (fun H locs hW => ?_)
    refine lv_aload_n hx hb dX8_canGiveUp_16 rfl (lv_at hl 0 rfl) ?_
    refine g_get X hW 0 rfl rfl inX8 0 (by decide) q_817 rfl dX8_canGiveUp_17 ?_
    refine lv_iload_n hx hb dX8_canGiveUp_20 rfl (lv_at hl 1 rfl) ?_
    refine lv_iconst (v := (2 : Int32)) hx hb dX8_canGiveUp_21 (by decide) ?_
    refine lv_iadd hx hb dX8_canGiveUp_22 ?_
    obtain ⟨hi23, hM⟩ := MG_some hM
    refine g_ald X hW 1 rfl hi23 dX8_canGiveUp_23 ?_
    refine lv_iconst (v := (1 : Int32)) hx hb dX8_canGiveUp_24 (by decide) ?_
    refine lv_isub hx hb dX8_canGiveUp_25 ?_
    refine lv_icmp_ge (tgt := 33) hx hb dX8_canGiveUp_26 (by decide) (fun hc => ?_) (fun hc => ?_)
    · have hM := (if_pos hc).symm.trans hM
      exact j33 _ _ _ hW (lv_sub hl [] rfl) hM
    · have hM := (if_neg hc).symm.trans hM
      refine lv_iconst (v := (1 : Int32)) hx hb dX8_canGiveUp_29 (by decide) ?_
      refine lv_goto (tgt := 34) hx hb dX8_canGiveUp_30 (by decide) ?_
      obtain rfl := Option.some.inj hM
      exact g_reti X hW rfl rfl dX8_canGiveUp_34

def MX8_givesUp (N : Nat) (T_w : (Nat → Int32)) (p1 : Int32) (p2 : Int32) : Option ((Nat → Int32)) :=
  (MX8_placeOf N T_w p1 p2).bind (fun u3 => MG (((p1 + (3 : Int32)) + u3) + (1 : Int32)) 792 (MG ((p1 + (3 : Int32)) + u3) 792 (MG (((p1 + (3 : Int32)) + u3) + (1 : Int32)) 792 (some ((upd (upd T_w ((p1 + (3 : Int32)) + u3).toNatClampNeg (T_w (((p1 + (3 : Int32)) + u3) + (1 : Int32)).toNatClampNeg)) (((p1 + (3 : Int32)) + u3) + (1 : Int32)).toNatClampNeg p2))))))
set_option maxHeartbeats 4000000 in
set_option maxRecDepth 100000 in
theorem c_X8_givesUp (l : Launch) (G : va_G) (cI cZ cL : ClassId) (N : Nat) (aT : Nat → Nat) (T_w : (Nat → Int32)) (T_undoes : Int32) (T_kept : Int32) (T_persons : Int32) (T_family : (Nat → Int32)) (T_gives : Int32) (T_warm : Int32) (T_rumour : Int32) (T_seen : Int32) (T_seenOf : (Nat → Int32)) (T_seenBehind : (Nat → Int32)) (T_seenHas : (Nat → Int32)) (T_text : (Nat → Int32)) (T_texted : Int32) (T_place : Int32) (T_number : Int32) (T_readPersons : Int32) (T_readKind : (Nat → Int32)) (T_readComes : (Nat → Int32)) (T_readFamily : (Nat → Int32)) (T_readGives : Int32) (T_readWarm : Int32) (T_readRumour : Int32) (T_toCome : (Nat → Int32)) (T_order : (Nat → Int32)) (T_bestOrder : (Nat → Int32)) (p1 : Int32) (p2 : Int32) (rr : (Nat → Int32)) (hM : MX8_givesUp N T_w p1 p2 = some rr) : CtV l yX8_givesUp cX8_givesUp 4 1 23 G cI cZ cL [.ref (aT 0), .int p1, .int p2] [wMod cI cZ aT T_w T_undoes T_kept T_persons T_family T_gives T_warm T_rumour T_seen T_seenOf T_seenBehind T_seenHas T_text T_texted T_place T_number T_readPersons T_readKind T_readComes T_readFamily T_readGives T_readWarm T_readRumour T_toCome T_order T_bestOrder] [wMod cI cZ aT rr T_undoes T_kept T_persons T_family T_gives T_warm T_rumour T_seen T_seenOf T_seenBehind T_seenHas T_text T_texted T_place T_number T_readPersons T_readKind T_readComes T_readFamily T_readGives T_readWarm T_readRumour T_toCome T_order T_bestOrder] := by
  refine ct_body (fun A => qV G [wMod cI cZ aT rr T_undoes T_kept T_persons T_family T_gives T_warm T_rumour T_seen T_seenOf T_seenBehind T_seenHas T_text T_texted T_place T_number T_readPersons T_readKind T_readComes T_readFamily T_readGives T_readWarm T_readRumour T_toCome T_order T_bestOrder] A) (by decide) (Nat.le_of_ble_eq_true rfl) (fun p e s m below meth c A ls X hW hl => ?_)
  have hx := X.1
  have hb := X.2.1
  have hts := X.2.2.2.2.2.1
  have hown := X.2.2.2.2.2.2.1
  have hl : lv_has ls 4 [(0, .ref (aT 0)), (1, .int p1), (2, .int p2)] := hl
  unfold MX8_givesUp at hM
  refine lv_aload_n hx hb dX8_givesUp_0 rfl (lv_at hl 0 rfl) ?_
  refine lv_iload_n hx hb dX8_givesUp_1 rfl (lv_at hl 1 rfl) ?_
  refine lv_iload_n hx hb dX8_givesUp_2 rfl (lv_at hl 2 rfl) ?_
  obtain ⟨u3, hu3, hM⟩ := bind_some hM
  refine g_callVi (rest := []) (gr := []) X hl.1 hW (c_X8_placeOf l G cI cZ cL N aT T_w T_undoes T_kept T_persons T_family T_gives T_warm T_rumour T_seen T_seenOf T_seenBehind T_seenHas T_text T_texted T_place T_number T_readPersons T_readKind T_readComes T_readFamily T_readGives T_readWarm T_readRumour T_toCome T_order T_bestOrder p1 p2 u3 hu3) q_958 q_955 q_957 q_30 q_67 hd_X8_placeOf rfl ⟨Nat.le_of_ble_eq_true rfl, Nat.le_of_ble_eq_true rfl⟩ ⟨Nat.zero_le _, Nat.zero_le _⟩ [0] [] [wMod cI cZ aT T_w T_undoes T_kept T_persons T_family T_gives T_warm T_rumour T_seen T_seenOf T_seenBehind T_seenHas T_text T_texted T_place T_number T_readPersons T_readKind T_readComes T_readFamily T_readGives T_readWarm T_readRumour T_toCome T_order T_bestOrder] ⟨pm_1_0, rfl, rfl, rfl⟩ ⟨pm_1_0, rfl, rfl, rfl⟩ (q0 := 0) rfl rfl rfl (Nat.le_of_ble_eq_true rfl) dX8_givesUp_3 (fun H locs hW => ?_)
  refine lv_istore_n (lv' := [(3, .int u3), (0, .ref (aT 0)), (1, .int p1), (2, .int p2)]) hx hb dX8_givesUp_6 rfl hl (by decide) rfl (fun ls hl => ?_)
  refine lv_aload_n hx hb dX8_givesUp_7 rfl (lv_at hl 1 rfl) ?_
  refine g_get X hW 0 rfl rfl inX8 0 (by decide) q_817 rfl dX8_givesUp_8 ?_
  refine lv_iload_n hx hb dX8_givesUp_11 rfl (lv_at hl 2 rfl) ?_
  refine lv_iconst (v := (3 : Int32)) hx hb dX8_givesUp_12 (by decide) ?_
  refine lv_iadd hx hb dX8_givesUp_13 ?_
  refine lv_iload_n hx hb dX8_givesUp_14 rfl (lv_at hl 0 rfl) ?_
  refine lv_iadd hx hb dX8_givesUp_15 ?_
  refine lv_aload_n hx hb dX8_givesUp_16 rfl (lv_at hl 1 rfl) ?_
  refine g_get X hW 0 rfl rfl inX8 0 (by decide) q_817 rfl dX8_givesUp_17 ?_
  refine lv_iload_n hx hb dX8_givesUp_20 rfl (lv_at hl 2 rfl) ?_
  refine lv_iconst (v := (3 : Int32)) hx hb dX8_givesUp_21 (by decide) ?_
  refine lv_iadd hx hb dX8_givesUp_22 ?_
  refine lv_iload_n hx hb dX8_givesUp_23 rfl (lv_at hl 0 rfl) ?_
  refine lv_iadd hx hb dX8_givesUp_24 ?_
  refine lv_iconst (v := (1 : Int32)) hx hb dX8_givesUp_25 (by decide) ?_
  refine lv_iadd hx hb dX8_givesUp_26 ?_
  obtain ⟨hi27, hM⟩ := MG_some hM
  refine g_ald X hW 1 rfl hi27 dX8_givesUp_27 ?_
  obtain ⟨hi28, hM⟩ := MG_some hM
  refine g_ast X hW 1 rfl hi28 [wMod cI cZ aT (upd T_w ((p1 + (3 : Int32)) + u3).toNatClampNeg (T_w (((p1 + (3 : Int32)) + u3) + (1 : Int32)).toNatClampNeg)) T_undoes T_kept T_persons T_family T_gives T_warm T_rumour T_seen T_seenOf T_seenBehind T_seenHas T_text T_texted T_place T_number T_readPersons T_readKind T_readComes T_readFamily T_readGives T_readWarm T_readRumour T_toCome T_order T_bestOrder] rfl dX8_givesUp_28 (fun H locs hW => ?_)
  refine lv_aload_n hx hb dX8_givesUp_29 rfl (lv_at hl 1 rfl) ?_
  refine g_get X hW 0 rfl rfl inX8 0 (by decide) q_817 rfl dX8_givesUp_30 ?_
  refine lv_iload_n hx hb dX8_givesUp_33 rfl (lv_at hl 2 rfl) ?_
  refine lv_iconst (v := (3 : Int32)) hx hb dX8_givesUp_34 (by decide) ?_
  refine lv_iadd hx hb dX8_givesUp_35 ?_
  refine lv_iload_n hx hb dX8_givesUp_36 rfl (lv_at hl 0 rfl) ?_
  refine lv_iadd hx hb dX8_givesUp_37 ?_
  refine lv_iconst (v := (1 : Int32)) hx hb dX8_givesUp_38 (by decide) ?_
  refine lv_iadd hx hb dX8_givesUp_39 ?_
  refine lv_iload_n hx hb dX8_givesUp_40 rfl (lv_at hl 3 rfl) ?_
  obtain ⟨hi41, hM⟩ := MG_some hM
  refine g_ast X hW 1 rfl hi41 [wMod cI cZ aT (upd (upd T_w ((p1 + (3 : Int32)) + u3).toNatClampNeg (T_w (((p1 + (3 : Int32)) + u3) + (1 : Int32)).toNatClampNeg)) (((p1 + (3 : Int32)) + u3) + (1 : Int32)).toNatClampNeg p2) T_undoes T_kept T_persons T_family T_gives T_warm T_rumour T_seen T_seenOf T_seenBehind T_seenHas T_text T_texted T_place T_number T_readPersons T_readKind T_readComes T_readFamily T_readGives T_readWarm T_readRumour T_toCome T_order T_bestOrder] rfl dX8_givesUp_41 (fun H locs hW => ?_)
  obtain rfl := Option.some.inj hM
  exact g_retv X hW dX8_givesUp_42

def MX8_giveUp (N : Nat) (T_w : (Nat → Int32)) (T_undoes : Int32) (T_persons : Int32) (p1 : Int32) : Option (Int32 × (Nat → Int32) × Int32) :=
  (MX8_isPerson N T_persons p1).bind (fun u2 => if u2 = 0 then some ((-1 : Int32), T_w, T_undoes) else ((MX8_canGiveUp N T_w (0 : Int32) p1).bind (fun u13 => if u13 = 0 then some ((-2 : Int32), T_w, T_undoes) else ((MX8_minds N T_w T_undoes).bind (fun u23 => (MX8_givesUp N u23.1 (0 : Int32) p1).bind (fun u29 => (MX8_placeOf N u29 (0 : Int32) p1).bind (fun u35 => some (u35, u29, u23.2))))))))
set_option maxHeartbeats 4000000 in
set_option maxRecDepth 100000 in
theorem c_X8_giveUp (l : Launch) (G : va_G) (cI cZ cL : ClassId) (N : Nat) (aT : Nat → Nat) (T_w : (Nat → Int32)) (T_undoes : Int32) (T_kept : Int32) (T_persons : Int32) (T_family : (Nat → Int32)) (T_gives : Int32) (T_warm : Int32) (T_rumour : Int32) (T_seen : Int32) (T_seenOf : (Nat → Int32)) (T_seenBehind : (Nat → Int32)) (T_seenHas : (Nat → Int32)) (T_text : (Nat → Int32)) (T_texted : Int32) (T_place : Int32) (T_number : Int32) (T_readPersons : Int32) (T_readKind : (Nat → Int32)) (T_readComes : (Nat → Int32)) (T_readFamily : (Nat → Int32)) (T_readGives : Int32) (T_readWarm : Int32) (T_readRumour : Int32) (T_toCome : (Nat → Int32)) (T_order : (Nat → Int32)) (T_bestOrder : (Nat → Int32)) (p1 : Int32) (rr : Int32 × (Nat → Int32) × Int32) (hM : MX8_giveUp N T_w T_undoes T_persons p1 = some rr) : CtI l yX8_giveUp cX8_giveUp 2 .int 2 46 G cI cZ cL [.ref (aT 0), .int p1] [wMod cI cZ aT T_w T_undoes T_kept T_persons T_family T_gives T_warm T_rumour T_seen T_seenOf T_seenBehind T_seenHas T_text T_texted T_place T_number T_readPersons T_readKind T_readComes T_readFamily T_readGives T_readWarm T_readRumour T_toCome T_order T_bestOrder] rr.1 [wMod cI cZ aT rr.2.1 rr.2.2 T_kept T_persons T_family T_gives T_warm T_rumour T_seen T_seenOf T_seenBehind T_seenHas T_text T_texted T_place T_number T_readPersons T_readKind T_readComes T_readFamily T_readGives T_readWarm T_readRumour T_toCome T_order T_bestOrder] := by
  refine ct_body (fun A => qI G rr.1 [wMod cI cZ aT rr.2.1 rr.2.2 T_kept T_persons T_family T_gives T_warm T_rumour T_seen T_seenOf T_seenBehind T_seenHas T_text T_texted T_place T_number T_readPersons T_readKind T_readComes T_readFamily T_readGives T_readWarm T_readRumour T_toCome T_order T_bestOrder] A) (by decide) (Nat.le_of_ble_eq_true rfl) (fun p e s m below meth c A ls X hW hl => ?_)
  have hx := X.1
  have hb := X.2.1
  have hts := X.2.2.2.2.2.1
  have hown := X.2.2.2.2.2.2.1
  have hl : lv_has ls 2 [(0, .ref (aT 0)), (1, .int p1)] := hl
  unfold MX8_giveUp at hM
  refine lv_aload_n hx hb dX8_giveUp_0 rfl (lv_at hl 0 rfl) ?_
  refine lv_iload_n hx hb dX8_giveUp_1 rfl (lv_at hl 1 rfl) ?_
  obtain ⟨u2, hu2, hM⟩ := bind_some hM
  refine g_callVi (rest := []) (gr := []) X hl.1 hW (c_X8_isPerson l G cI cZ cL N aT T_w T_undoes T_kept T_persons T_family T_gives T_warm T_rumour T_seen T_seenOf T_seenBehind T_seenHas T_text T_texted T_place T_number T_readPersons T_readKind T_readComes T_readFamily T_readGives T_readWarm T_readRumour T_toCome T_order T_bestOrder p1 u2 hu2) q_954 q_951 q_953 q_29 q_67 hd_X8_isPerson rfl ⟨Nat.le_of_ble_eq_true rfl, Nat.le_of_ble_eq_true rfl⟩ ⟨Nat.zero_le _, Nat.zero_le _⟩ [0] [] [wMod cI cZ aT T_w T_undoes T_kept T_persons T_family T_gives T_warm T_rumour T_seen T_seenOf T_seenBehind T_seenHas T_text T_texted T_place T_number T_readPersons T_readKind T_readComes T_readFamily T_readGives T_readWarm T_readRumour T_toCome T_order T_bestOrder] ⟨pm_1_0, rfl, rfl, rfl⟩ ⟨pm_1_0, rfl, rfl, rfl⟩ (q0 := 0) rfl rfl rfl (Nat.le_of_ble_eq_true rfl) dX8_giveUp_2 (fun H locs hW => ?_)
  refine lv_if_ne (tgt := 10) hx hb dX8_giveUp_5 (by decide) (fun hc => ?_) (fun hc => ?_)
  · have hM := (if_neg hc).symm.trans hM
    refine lv_aload_n hx hb dX8_giveUp_10 rfl (lv_at hl 0 rfl) ?_
    refine lv_iconst (v := (0 : Int32)) hx hb dX8_giveUp_11 (by decide) ?_
    refine lv_iload_n hx hb dX8_giveUp_12 rfl (lv_at hl 1 rfl) ?_
    obtain ⟨u13, hu13, hM⟩ := bind_some hM
    refine g_callVi (rest := []) (gr := []) X hl.1 hW (c_X8_canGiveUp l G cI cZ cL N aT T_w T_undoes T_kept T_persons T_family T_gives T_warm T_rumour T_seen T_seenOf T_seenBehind T_seenHas T_text T_texted T_place T_number T_readPersons T_readKind T_readComes T_readFamily T_readGives T_readWarm T_readRumour T_toCome T_order T_bestOrder (0 : Int32) p1 u13 hu13) q_1023 q_1020 q_1022 q_43 q_67 hd_X8_canGiveUp rfl ⟨Nat.le_of_ble_eq_true rfl, Nat.le_of_ble_eq_true rfl⟩ ⟨Nat.zero_le _, Nat.zero_le _⟩ [0] [] [wMod cI cZ aT T_w T_undoes T_kept T_persons T_family T_gives T_warm T_rumour T_seen T_seenOf T_seenBehind T_seenHas T_text T_texted T_place T_number T_readPersons T_readKind T_readComes T_readFamily T_readGives T_readWarm T_readRumour T_toCome T_order T_bestOrder] ⟨pm_1_0, rfl, rfl, rfl⟩ ⟨pm_1_0, rfl, rfl, rfl⟩ (q0 := 0) rfl rfl rfl (Nat.le_of_ble_eq_true rfl) dX8_giveUp_13 (fun H locs hW => ?_)
    refine lv_if_ne (tgt := 22) hx hb dX8_giveUp_16 (by decide) (fun hc => ?_) (fun hc => ?_)
    · have hM := (if_neg hc).symm.trans hM
      refine lv_aload_n hx hb dX8_giveUp_22 rfl (lv_at hl 0 rfl) ?_
      obtain ⟨u23, hu23, hM⟩ := bind_some hM
      refine g_callVv (rest := []) (gr := []) X hl.1 hW (c_X8_minds l G cI cZ cL N aT T_w T_undoes T_kept T_persons T_family T_gives T_warm T_rumour T_seen T_seenOf T_seenBehind T_seenHas T_text T_texted T_place T_number T_readPersons T_readKind T_readComes T_readFamily T_readGives T_readWarm T_readRumour T_toCome T_order T_bestOrder u23 hu23) q_971 q_968 q_970 q_31 q_67 hd_X8_minds rfl ⟨Nat.le_of_ble_eq_true rfl, Nat.le_of_ble_eq_true rfl⟩ ⟨Nat.zero_le _, Nat.zero_le _⟩ [0] [] [wMod cI cZ aT u23.1 u23.2 T_kept T_persons T_family T_gives T_warm T_rumour T_seen T_seenOf T_seenBehind T_seenHas T_text T_texted T_place T_number T_readPersons T_readKind T_readComes T_readFamily T_readGives T_readWarm T_readRumour T_toCome T_order T_bestOrder] ⟨pm_1_0, rfl, rfl, rfl⟩ ⟨pm_1_0, rfl, rfl, rfl⟩ (q0 := 0) rfl rfl rfl (Nat.le_of_ble_eq_true rfl) dX8_giveUp_23 (fun H locs hW => ?_)
      refine lv_aload_n hx hb dX8_giveUp_26 rfl (lv_at hl 0 rfl) ?_
      refine lv_iconst (v := (0 : Int32)) hx hb dX8_giveUp_27 (by decide) ?_
      refine lv_iload_n hx hb dX8_giveUp_28 rfl (lv_at hl 1 rfl) ?_
      obtain ⟨u29, hu29, hM⟩ := bind_some hM
      refine g_callVv (rest := []) (gr := []) X hl.1 hW (c_X8_givesUp l G cI cZ cL N aT u23.1 u23.2 T_kept T_persons T_family T_gives T_warm T_rumour T_seen T_seenOf T_seenBehind T_seenHas T_text T_texted T_place T_number T_readPersons T_readKind T_readComes T_readFamily T_readGives T_readWarm T_readRumour T_toCome T_order T_bestOrder (0 : Int32) p1 u29 hu29) q_1027 q_1024 q_1026 q_44 q_67 hd_X8_givesUp rfl ⟨Nat.le_of_ble_eq_true rfl, Nat.le_of_ble_eq_true rfl⟩ ⟨Nat.zero_le _, Nat.zero_le _⟩ [0] [] [wMod cI cZ aT u29 u23.2 T_kept T_persons T_family T_gives T_warm T_rumour T_seen T_seenOf T_seenBehind T_seenHas T_text T_texted T_place T_number T_readPersons T_readKind T_readComes T_readFamily T_readGives T_readWarm T_readRumour T_toCome T_order T_bestOrder] ⟨pm_1_0, rfl, rfl, rfl⟩ ⟨pm_1_0, rfl, rfl, rfl⟩ (q0 := 0) rfl rfl rfl (Nat.le_of_ble_eq_true rfl) dX8_giveUp_29 (fun H locs hW => ?_)
      refine lv_aload_n hx hb dX8_giveUp_32 rfl (lv_at hl 0 rfl) ?_
      refine lv_iconst (v := (0 : Int32)) hx hb dX8_giveUp_33 (by decide) ?_
      refine lv_iload_n hx hb dX8_giveUp_34 rfl (lv_at hl 1 rfl) ?_
      obtain ⟨u35, hu35, hM⟩ := bind_some hM
      refine g_callVi (rest := []) (gr := []) X hl.1 hW (c_X8_placeOf l G cI cZ cL N aT u29 u23.2 T_kept T_persons T_family T_gives T_warm T_rumour T_seen T_seenOf T_seenBehind T_seenHas T_text T_texted T_place T_number T_readPersons T_readKind T_readComes T_readFamily T_readGives T_readWarm T_readRumour T_toCome T_order T_bestOrder (0 : Int32) p1 u35 hu35) q_958 q_955 q_957 q_30 q_67 hd_X8_placeOf rfl ⟨Nat.le_of_ble_eq_true rfl, Nat.le_of_ble_eq_true rfl⟩ ⟨Nat.zero_le _, Nat.zero_le _⟩ [0] [] [wMod cI cZ aT u29 u23.2 T_kept T_persons T_family T_gives T_warm T_rumour T_seen T_seenOf T_seenBehind T_seenHas T_text T_texted T_place T_number T_readPersons T_readKind T_readComes T_readFamily T_readGives T_readWarm T_readRumour T_toCome T_order T_bestOrder] ⟨pm_1_0, rfl, rfl, rfl⟩ ⟨pm_1_0, rfl, rfl, rfl⟩ (q0 := 0) rfl rfl rfl (Nat.le_of_ble_eq_true rfl) dX8_giveUp_35 (fun H locs hW => ?_)
      obtain rfl := Option.some.inj hM
      exact g_reti X hW rfl rfl dX8_giveUp_38
    · have hM := (if_pos hc).symm.trans hM
      refine lv_bipush (v := (-2 : Int32)) hx hb dX8_giveUp_19 (by decide) ?_
      obtain rfl := Option.some.inj hM
      exact g_reti X hW rfl rfl dX8_giveUp_21
  · have hM := (if_pos hc).symm.trans hM
    refine lv_iconst (v := (-1 : Int32)) hx hb dX8_giveUp_8 (by decide) ?_
    obtain rfl := Option.some.inj hM
    exact g_reti X hW rfl rfl dX8_giveUp_9

def MX8_sneeze (N : Nat) (T_w : (Nat → Int32)) (T_undoes : Int32) (T_persons : Int32) (p1 : Int32) : Option (Int32 × (Nat → Int32) × Int32) :=
  (MX8_isPerson N T_persons p1).bind (fun u2 => if u2 = 0 then some ((-1 : Int32), T_w, T_undoes) else ((MX8_isWhere N T_w (0 : Int32) p1 (1 : Int32)).bind (fun u14 => if u14 = 0 then some ((-2 : Int32), T_w, T_undoes) else ((MX8_minds N T_w T_undoes).bind (fun u24 => (MX8_sneezes N u24.1 (0 : Int32) p1).bind (fun u30 => MG (2 : Int32) 792 (some (u30 (2 : Int32).toNatClampNeg, u30, u24.2))))))))
set_option maxHeartbeats 4000000 in
set_option maxRecDepth 100000 in
theorem c_X8_sneeze (l : Launch) (G : va_G) (cI cZ cL : ClassId) (N : Nat) (aT : Nat → Nat) (T_w : (Nat → Int32)) (T_undoes : Int32) (T_kept : Int32) (T_persons : Int32) (T_family : (Nat → Int32)) (T_gives : Int32) (T_warm : Int32) (T_rumour : Int32) (T_seen : Int32) (T_seenOf : (Nat → Int32)) (T_seenBehind : (Nat → Int32)) (T_seenHas : (Nat → Int32)) (T_text : (Nat → Int32)) (T_texted : Int32) (T_place : Int32) (T_number : Int32) (T_readPersons : Int32) (T_readKind : (Nat → Int32)) (T_readComes : (Nat → Int32)) (T_readFamily : (Nat → Int32)) (T_readGives : Int32) (T_readWarm : Int32) (T_readRumour : Int32) (T_toCome : (Nat → Int32)) (T_order : (Nat → Int32)) (T_bestOrder : (Nat → Int32)) (p1 : Int32) (rr : Int32 × (Nat → Int32) × Int32) (hM : MX8_sneeze N T_w T_undoes T_persons p1 = some rr) : CtI l yX8_sneeze cX8_sneeze 2 .int 3 69 G cI cZ cL [.ref (aT 0), .int p1] [wMod cI cZ aT T_w T_undoes T_kept T_persons T_family T_gives T_warm T_rumour T_seen T_seenOf T_seenBehind T_seenHas T_text T_texted T_place T_number T_readPersons T_readKind T_readComes T_readFamily T_readGives T_readWarm T_readRumour T_toCome T_order T_bestOrder] rr.1 [wMod cI cZ aT rr.2.1 rr.2.2 T_kept T_persons T_family T_gives T_warm T_rumour T_seen T_seenOf T_seenBehind T_seenHas T_text T_texted T_place T_number T_readPersons T_readKind T_readComes T_readFamily T_readGives T_readWarm T_readRumour T_toCome T_order T_bestOrder] := by
  refine ct_body (fun A => qI G rr.1 [wMod cI cZ aT rr.2.1 rr.2.2 T_kept T_persons T_family T_gives T_warm T_rumour T_seen T_seenOf T_seenBehind T_seenHas T_text T_texted T_place T_number T_readPersons T_readKind T_readComes T_readFamily T_readGives T_readWarm T_readRumour T_toCome T_order T_bestOrder] A) (by decide) (Nat.le_of_ble_eq_true rfl) (fun p e s m below meth c A ls X hW hl => ?_)
  have hx := X.1
  have hb := X.2.1
  have hts := X.2.2.2.2.2.1
  have hown := X.2.2.2.2.2.2.1
  have hl : lv_has ls 2 [(0, .ref (aT 0)), (1, .int p1)] := hl
  unfold MX8_sneeze at hM
  refine lv_aload_n hx hb dX8_sneeze_0 rfl (lv_at hl 0 rfl) ?_
  refine lv_iload_n hx hb dX8_sneeze_1 rfl (lv_at hl 1 rfl) ?_
  obtain ⟨u2, hu2, hM⟩ := bind_some hM
  refine g_callVi (rest := []) (gr := []) X hl.1 hW (c_X8_isPerson l G cI cZ cL N aT T_w T_undoes T_kept T_persons T_family T_gives T_warm T_rumour T_seen T_seenOf T_seenBehind T_seenHas T_text T_texted T_place T_number T_readPersons T_readKind T_readComes T_readFamily T_readGives T_readWarm T_readRumour T_toCome T_order T_bestOrder p1 u2 hu2) q_954 q_951 q_953 q_29 q_67 hd_X8_isPerson rfl ⟨Nat.le_of_ble_eq_true rfl, Nat.le_of_ble_eq_true rfl⟩ ⟨Nat.zero_le _, Nat.zero_le _⟩ [0] [] [wMod cI cZ aT T_w T_undoes T_kept T_persons T_family T_gives T_warm T_rumour T_seen T_seenOf T_seenBehind T_seenHas T_text T_texted T_place T_number T_readPersons T_readKind T_readComes T_readFamily T_readGives T_readWarm T_readRumour T_toCome T_order T_bestOrder] ⟨pm_1_0, rfl, rfl, rfl⟩ ⟨pm_1_0, rfl, rfl, rfl⟩ (q0 := 0) rfl rfl rfl (Nat.le_of_ble_eq_true rfl) dX8_sneeze_2 (fun H locs hW => ?_)
  refine lv_if_ne (tgt := 10) hx hb dX8_sneeze_5 (by decide) (fun hc => ?_) (fun hc => ?_)
  · have hM := (if_neg hc).symm.trans hM
    refine lv_aload_n hx hb dX8_sneeze_10 rfl (lv_at hl 0 rfl) ?_
    refine lv_iconst (v := (0 : Int32)) hx hb dX8_sneeze_11 (by decide) ?_
    refine lv_iload_n hx hb dX8_sneeze_12 rfl (lv_at hl 1 rfl) ?_
    refine lv_iconst (v := (1 : Int32)) hx hb dX8_sneeze_13 (by decide) ?_
    obtain ⟨u14, hu14, hM⟩ := bind_some hM
    refine g_callVi (rest := []) (gr := []) X hl.1 hW (c_X8_isWhere l G cI cZ cL N aT T_w T_undoes T_kept T_persons T_family T_gives T_warm T_rumour T_seen T_seenOf T_seenBehind T_seenHas T_text T_texted T_place T_number T_readPersons T_readKind T_readComes T_readFamily T_readGives T_readWarm T_readRumour T_toCome T_order T_bestOrder (0 : Int32) p1 (1 : Int32) u14 hu14) q_1015 q_1012 q_1014 q_42 q_67 hd_X8_isWhere rfl ⟨Nat.le_of_ble_eq_true rfl, Nat.le_of_ble_eq_true rfl⟩ ⟨Nat.zero_le _, Nat.zero_le _⟩ [0] [] [wMod cI cZ aT T_w T_undoes T_kept T_persons T_family T_gives T_warm T_rumour T_seen T_seenOf T_seenBehind T_seenHas T_text T_texted T_place T_number T_readPersons T_readKind T_readComes T_readFamily T_readGives T_readWarm T_readRumour T_toCome T_order T_bestOrder] ⟨pm_1_0, rfl, rfl, rfl⟩ ⟨pm_1_0, rfl, rfl, rfl⟩ (q0 := 0) rfl rfl rfl (Nat.le_of_ble_eq_true rfl) dX8_sneeze_14 (fun H locs hW => ?_)
    refine lv_if_ne (tgt := 23) hx hb dX8_sneeze_17 (by decide) (fun hc => ?_) (fun hc => ?_)
    · have hM := (if_neg hc).symm.trans hM
      refine lv_aload_n hx hb dX8_sneeze_23 rfl (lv_at hl 0 rfl) ?_
      obtain ⟨u24, hu24, hM⟩ := bind_some hM
      refine g_callVv (rest := []) (gr := []) X hl.1 hW (c_X8_minds l G cI cZ cL N aT T_w T_undoes T_kept T_persons T_family T_gives T_warm T_rumour T_seen T_seenOf T_seenBehind T_seenHas T_text T_texted T_place T_number T_readPersons T_readKind T_readComes T_readFamily T_readGives T_readWarm T_readRumour T_toCome T_order T_bestOrder u24 hu24) q_971 q_968 q_970 q_31 q_67 hd_X8_minds rfl ⟨Nat.le_of_ble_eq_true rfl, Nat.le_of_ble_eq_true rfl⟩ ⟨Nat.zero_le _, Nat.zero_le _⟩ [0] [] [wMod cI cZ aT u24.1 u24.2 T_kept T_persons T_family T_gives T_warm T_rumour T_seen T_seenOf T_seenBehind T_seenHas T_text T_texted T_place T_number T_readPersons T_readKind T_readComes T_readFamily T_readGives T_readWarm T_readRumour T_toCome T_order T_bestOrder] ⟨pm_1_0, rfl, rfl, rfl⟩ ⟨pm_1_0, rfl, rfl, rfl⟩ (q0 := 0) rfl rfl rfl (Nat.le_of_ble_eq_true rfl) dX8_sneeze_24 (fun H locs hW => ?_)
      refine lv_aload_n hx hb dX8_sneeze_27 rfl (lv_at hl 0 rfl) ?_
      refine lv_iconst (v := (0 : Int32)) hx hb dX8_sneeze_28 (by decide) ?_
      refine lv_iload_n hx hb dX8_sneeze_29 rfl (lv_at hl 1 rfl) ?_
      obtain ⟨u30, hu30, hM⟩ := bind_some hM
      refine g_callVv (rest := []) (gr := []) X hl.1 hW (c_X8_sneezes l G cI cZ cL N aT u24.1 u24.2 T_kept T_persons T_family T_gives T_warm T_rumour T_seen T_seenOf T_seenBehind T_seenHas T_text T_texted T_place T_number T_readPersons T_readKind T_readComes T_readFamily T_readGives T_readWarm T_readRumour T_toCome T_order T_bestOrder (0 : Int32) p1 u30 hu30) q_999 q_996 q_998 q_38 q_67 hd_X8_sneezes rfl ⟨Nat.le_of_ble_eq_true rfl, Nat.le_of_ble_eq_true rfl⟩ ⟨Nat.zero_le _, Nat.zero_le _⟩ [0] [] [wMod cI cZ aT u30 u24.2 T_kept T_persons T_family T_gives T_warm T_rumour T_seen T_seenOf T_seenBehind T_seenHas T_text T_texted T_place T_number T_readPersons T_readKind T_readComes T_readFamily T_readGives T_readWarm T_readRumour T_toCome T_order T_bestOrder] ⟨pm_1_0, rfl, rfl, rfl⟩ ⟨pm_1_0, rfl, rfl, rfl⟩ (q0 := 0) rfl rfl rfl (Nat.le_of_ble_eq_true rfl) dX8_sneeze_30 (fun H locs hW => ?_)
      refine lv_aload_n hx hb dX8_sneeze_33 rfl (lv_at hl 0 rfl) ?_
      refine g_get X hW 0 rfl rfl inX8 0 (by decide) q_817 rfl dX8_sneeze_34 ?_
      refine lv_iconst (v := (2 : Int32)) hx hb dX8_sneeze_37 (by decide) ?_
      obtain ⟨hi38, hM⟩ := MG_some hM
      refine g_ald X hW 1 rfl hi38 dX8_sneeze_38 ?_
      obtain rfl := Option.some.inj hM
      exact g_reti X hW rfl rfl dX8_sneeze_39
    · have hM := (if_pos hc).symm.trans hM
      refine lv_bipush (v := (-2 : Int32)) hx hb dX8_sneeze_20 (by decide) ?_
      obtain rfl := Option.some.inj hM
      exact g_reti X hW rfl rfl dX8_sneeze_22
  · have hM := (if_pos hc).symm.trans hM
    refine lv_iconst (v := (-1 : Int32)) hx hb dX8_sneeze_8 (by decide) ?_
    obtain rfl := Option.some.inj hM
    exact g_reti X hW rfl rfl dX8_sneeze_9

def MX8_leave (N : Nat) (T_w : (Nat → Int32)) (T_undoes : Int32) (T_persons : Int32) (p1 : Int32) : Option (Int32 × (Nat → Int32) × Int32) :=
  (MX8_isPerson N T_persons p1).bind (fun u2 => if u2 = 0 then some ((-1 : Int32), T_w, T_undoes) else ((MX8_isWhere N T_w (0 : Int32) p1 (1 : Int32)).bind (fun u14 => if u14 = 0 then some ((-2 : Int32), T_w, T_undoes) else ((MX8_minds N T_w T_undoes).bind (fun u24 => (MX8_goes N u24.1 (0 : Int32) p1 (2 : Int32)).bind (fun u31 => MG (2 : Int32) 792 (some (u31 (2 : Int32).toNatClampNeg, u31, u24.2))))))))
set_option maxHeartbeats 4000000 in
set_option maxRecDepth 100000 in
theorem c_X8_leave (l : Launch) (G : va_G) (cI cZ cL : ClassId) (N : Nat) (aT : Nat → Nat) (T_w : (Nat → Int32)) (T_undoes : Int32) (T_kept : Int32) (T_persons : Int32) (T_family : (Nat → Int32)) (T_gives : Int32) (T_warm : Int32) (T_rumour : Int32) (T_seen : Int32) (T_seenOf : (Nat → Int32)) (T_seenBehind : (Nat → Int32)) (T_seenHas : (Nat → Int32)) (T_text : (Nat → Int32)) (T_texted : Int32) (T_place : Int32) (T_number : Int32) (T_readPersons : Int32) (T_readKind : (Nat → Int32)) (T_readComes : (Nat → Int32)) (T_readFamily : (Nat → Int32)) (T_readGives : Int32) (T_readWarm : Int32) (T_readRumour : Int32) (T_toCome : (Nat → Int32)) (T_order : (Nat → Int32)) (T_bestOrder : (Nat → Int32)) (p1 : Int32) (rr : Int32 × (Nat → Int32) × Int32) (hM : MX8_leave N T_w T_undoes T_persons p1 = some rr) : CtI l yX8_leave cX8_leave 2 .int 2 47 G cI cZ cL [.ref (aT 0), .int p1] [wMod cI cZ aT T_w T_undoes T_kept T_persons T_family T_gives T_warm T_rumour T_seen T_seenOf T_seenBehind T_seenHas T_text T_texted T_place T_number T_readPersons T_readKind T_readComes T_readFamily T_readGives T_readWarm T_readRumour T_toCome T_order T_bestOrder] rr.1 [wMod cI cZ aT rr.2.1 rr.2.2 T_kept T_persons T_family T_gives T_warm T_rumour T_seen T_seenOf T_seenBehind T_seenHas T_text T_texted T_place T_number T_readPersons T_readKind T_readComes T_readFamily T_readGives T_readWarm T_readRumour T_toCome T_order T_bestOrder] := by
  refine ct_body (fun A => qI G rr.1 [wMod cI cZ aT rr.2.1 rr.2.2 T_kept T_persons T_family T_gives T_warm T_rumour T_seen T_seenOf T_seenBehind T_seenHas T_text T_texted T_place T_number T_readPersons T_readKind T_readComes T_readFamily T_readGives T_readWarm T_readRumour T_toCome T_order T_bestOrder] A) (by decide) (Nat.le_of_ble_eq_true rfl) (fun p e s m below meth c A ls X hW hl => ?_)
  have hx := X.1
  have hb := X.2.1
  have hts := X.2.2.2.2.2.1
  have hown := X.2.2.2.2.2.2.1
  have hl : lv_has ls 2 [(0, .ref (aT 0)), (1, .int p1)] := hl
  unfold MX8_leave at hM
  refine lv_aload_n hx hb dX8_leave_0 rfl (lv_at hl 0 rfl) ?_
  refine lv_iload_n hx hb dX8_leave_1 rfl (lv_at hl 1 rfl) ?_
  obtain ⟨u2, hu2, hM⟩ := bind_some hM
  refine g_callVi (rest := []) (gr := []) X hl.1 hW (c_X8_isPerson l G cI cZ cL N aT T_w T_undoes T_kept T_persons T_family T_gives T_warm T_rumour T_seen T_seenOf T_seenBehind T_seenHas T_text T_texted T_place T_number T_readPersons T_readKind T_readComes T_readFamily T_readGives T_readWarm T_readRumour T_toCome T_order T_bestOrder p1 u2 hu2) q_954 q_951 q_953 q_29 q_67 hd_X8_isPerson rfl ⟨Nat.le_of_ble_eq_true rfl, Nat.le_of_ble_eq_true rfl⟩ ⟨Nat.zero_le _, Nat.zero_le _⟩ [0] [] [wMod cI cZ aT T_w T_undoes T_kept T_persons T_family T_gives T_warm T_rumour T_seen T_seenOf T_seenBehind T_seenHas T_text T_texted T_place T_number T_readPersons T_readKind T_readComes T_readFamily T_readGives T_readWarm T_readRumour T_toCome T_order T_bestOrder] ⟨pm_1_0, rfl, rfl, rfl⟩ ⟨pm_1_0, rfl, rfl, rfl⟩ (q0 := 0) rfl rfl rfl (Nat.le_of_ble_eq_true rfl) dX8_leave_2 (fun H locs hW => ?_)
  refine lv_if_ne (tgt := 10) hx hb dX8_leave_5 (by decide) (fun hc => ?_) (fun hc => ?_)
  · have hM := (if_neg hc).symm.trans hM
    refine lv_aload_n hx hb dX8_leave_10 rfl (lv_at hl 0 rfl) ?_
    refine lv_iconst (v := (0 : Int32)) hx hb dX8_leave_11 (by decide) ?_
    refine lv_iload_n hx hb dX8_leave_12 rfl (lv_at hl 1 rfl) ?_
    refine lv_iconst (v := (1 : Int32)) hx hb dX8_leave_13 (by decide) ?_
    obtain ⟨u14, hu14, hM⟩ := bind_some hM
    refine g_callVi (rest := []) (gr := []) X hl.1 hW (c_X8_isWhere l G cI cZ cL N aT T_w T_undoes T_kept T_persons T_family T_gives T_warm T_rumour T_seen T_seenOf T_seenBehind T_seenHas T_text T_texted T_place T_number T_readPersons T_readKind T_readComes T_readFamily T_readGives T_readWarm T_readRumour T_toCome T_order T_bestOrder (0 : Int32) p1 (1 : Int32) u14 hu14) q_1015 q_1012 q_1014 q_42 q_67 hd_X8_isWhere rfl ⟨Nat.le_of_ble_eq_true rfl, Nat.le_of_ble_eq_true rfl⟩ ⟨Nat.zero_le _, Nat.zero_le _⟩ [0] [] [wMod cI cZ aT T_w T_undoes T_kept T_persons T_family T_gives T_warm T_rumour T_seen T_seenOf T_seenBehind T_seenHas T_text T_texted T_place T_number T_readPersons T_readKind T_readComes T_readFamily T_readGives T_readWarm T_readRumour T_toCome T_order T_bestOrder] ⟨pm_1_0, rfl, rfl, rfl⟩ ⟨pm_1_0, rfl, rfl, rfl⟩ (q0 := 0) rfl rfl rfl (Nat.le_of_ble_eq_true rfl) dX8_leave_14 (fun H locs hW => ?_)
    refine lv_if_ne (tgt := 23) hx hb dX8_leave_17 (by decide) (fun hc => ?_) (fun hc => ?_)
    · have hM := (if_neg hc).symm.trans hM
      refine lv_aload_n hx hb dX8_leave_23 rfl (lv_at hl 0 rfl) ?_
      obtain ⟨u24, hu24, hM⟩ := bind_some hM
      refine g_callVv (rest := []) (gr := []) X hl.1 hW (c_X8_minds l G cI cZ cL N aT T_w T_undoes T_kept T_persons T_family T_gives T_warm T_rumour T_seen T_seenOf T_seenBehind T_seenHas T_text T_texted T_place T_number T_readPersons T_readKind T_readComes T_readFamily T_readGives T_readWarm T_readRumour T_toCome T_order T_bestOrder u24 hu24) q_971 q_968 q_970 q_31 q_67 hd_X8_minds rfl ⟨Nat.le_of_ble_eq_true rfl, Nat.le_of_ble_eq_true rfl⟩ ⟨Nat.zero_le _, Nat.zero_le _⟩ [0] [] [wMod cI cZ aT u24.1 u24.2 T_kept T_persons T_family T_gives T_warm T_rumour T_seen T_seenOf T_seenBehind T_seenHas T_text T_texted T_place T_number T_readPersons T_readKind T_readComes T_readFamily T_readGives T_readWarm T_readRumour T_toCome T_order T_bestOrder] ⟨pm_1_0, rfl, rfl, rfl⟩ ⟨pm_1_0, rfl, rfl, rfl⟩ (q0 := 0) rfl rfl rfl (Nat.le_of_ble_eq_true rfl) dX8_leave_24 (fun H locs hW => ?_)
      refine lv_aload_n hx hb dX8_leave_27 rfl (lv_at hl 0 rfl) ?_
      refine lv_iconst (v := (0 : Int32)) hx hb dX8_leave_28 (by decide) ?_
      refine lv_iload_n hx hb dX8_leave_29 rfl (lv_at hl 1 rfl) ?_
      refine lv_iconst (v := (2 : Int32)) hx hb dX8_leave_30 (by decide) ?_
      obtain ⟨u31, hu31, hM⟩ := bind_some hM
      refine g_callVv (rest := []) (gr := []) X hl.1 hW (c_X8_goes l G cI cZ cL N aT u24.1 u24.2 T_kept T_persons T_family T_gives T_warm T_rumour T_seen T_seenOf T_seenBehind T_seenHas T_text T_texted T_place T_number T_readPersons T_readKind T_readComes T_readFamily T_readGives T_readWarm T_readRumour T_toCome T_order T_bestOrder (0 : Int32) p1 (2 : Int32) u31 hu31) q_1003 q_1000 q_1002 q_39 q_67 hd_X8_goes rfl ⟨Nat.le_of_ble_eq_true rfl, Nat.le_of_ble_eq_true rfl⟩ ⟨Nat.zero_le _, Nat.zero_le _⟩ [0] [] [wMod cI cZ aT u31 u24.2 T_kept T_persons T_family T_gives T_warm T_rumour T_seen T_seenOf T_seenBehind T_seenHas T_text T_texted T_place T_number T_readPersons T_readKind T_readComes T_readFamily T_readGives T_readWarm T_readRumour T_toCome T_order T_bestOrder] ⟨pm_1_0, rfl, rfl, rfl⟩ ⟨pm_1_0, rfl, rfl, rfl⟩ (q0 := 0) rfl rfl rfl (Nat.le_of_ble_eq_true rfl) dX8_leave_31 (fun H locs hW => ?_)
      refine lv_aload_n hx hb dX8_leave_34 rfl (lv_at hl 0 rfl) ?_
      refine g_get X hW 0 rfl rfl inX8 0 (by decide) q_817 rfl dX8_leave_35 ?_
      refine lv_iconst (v := (2 : Int32)) hx hb dX8_leave_38 (by decide) ?_
      obtain ⟨hi39, hM⟩ := MG_some hM
      refine g_ald X hW 1 rfl hi39 dX8_leave_39 ?_
      obtain rfl := Option.some.inj hM
      exact g_reti X hW rfl rfl dX8_leave_40
    · have hM := (if_pos hc).symm.trans hM
      refine lv_bipush (v := (-2 : Int32)) hx hb dX8_leave_20 (by decide) ?_
      obtain rfl := Option.some.inj hM
      exact g_reti X hW rfl rfl dX8_leave_22
  · have hM := (if_pos hc).symm.trans hM
    refine lv_iconst (v := (-1 : Int32)) hx hb dX8_leave_8 (by decide) ?_
    obtain rfl := Option.some.inj hM
    exact g_reti X hW rfl rfl dX8_leave_9

def MX8_again (N : Nat) (T_w : (Nat → Int32)) (T_undoes : Int32) (T_persons : Int32) (T_family : (Nat → Int32)) (p1 : Int32) : Option (Int32 × (Nat → Int32) × Int32) :=
  (MX8_isPerson N T_persons p1).bind (fun u2 => if u2 = 0 then some ((-1 : Int32), T_w, T_undoes) else ((MX8_isWhere N T_w (0 : Int32) p1 (2 : Int32)).bind (fun u14 => if u14 = 0 then some ((-2 : Int32), T_w, T_undoes) else ((MX8_minds N T_w T_undoes).bind (fun u24 => (MX8_joins N u24.1 T_family (0 : Int32) p1).bind (fun u30 => (MX8_placeOf N u30 (0 : Int32) p1).bind (fun u36 => some (u36, u30, u24.2))))))))
set_option maxHeartbeats 4000000 in
set_option maxRecDepth 100000 in
theorem c_X8_again (l : Launch) (G : va_G) (cI cZ cL : ClassId) (N : Nat) (aT : Nat → Nat) (T_w : (Nat → Int32)) (T_undoes : Int32) (T_kept : Int32) (T_persons : Int32) (T_family : (Nat → Int32)) (T_gives : Int32) (T_warm : Int32) (T_rumour : Int32) (T_seen : Int32) (T_seenOf : (Nat → Int32)) (T_seenBehind : (Nat → Int32)) (T_seenHas : (Nat → Int32)) (T_text : (Nat → Int32)) (T_texted : Int32) (T_place : Int32) (T_number : Int32) (T_readPersons : Int32) (T_readKind : (Nat → Int32)) (T_readComes : (Nat → Int32)) (T_readFamily : (Nat → Int32)) (T_readGives : Int32) (T_readWarm : Int32) (T_readRumour : Int32) (T_toCome : (Nat → Int32)) (T_order : (Nat → Int32)) (T_bestOrder : (Nat → Int32)) (p1 : Int32) (rr : Int32 × (Nat → Int32) × Int32) (hM : MX8_again N T_w T_undoes T_persons T_family p1 = some rr) : CtI l yX8_again cX8_again 2 .int 2 48 G cI cZ cL [.ref (aT 0), .int p1] [wMod cI cZ aT T_w T_undoes T_kept T_persons T_family T_gives T_warm T_rumour T_seen T_seenOf T_seenBehind T_seenHas T_text T_texted T_place T_number T_readPersons T_readKind T_readComes T_readFamily T_readGives T_readWarm T_readRumour T_toCome T_order T_bestOrder] rr.1 [wMod cI cZ aT rr.2.1 rr.2.2 T_kept T_persons T_family T_gives T_warm T_rumour T_seen T_seenOf T_seenBehind T_seenHas T_text T_texted T_place T_number T_readPersons T_readKind T_readComes T_readFamily T_readGives T_readWarm T_readRumour T_toCome T_order T_bestOrder] := by
  refine ct_body (fun A => qI G rr.1 [wMod cI cZ aT rr.2.1 rr.2.2 T_kept T_persons T_family T_gives T_warm T_rumour T_seen T_seenOf T_seenBehind T_seenHas T_text T_texted T_place T_number T_readPersons T_readKind T_readComes T_readFamily T_readGives T_readWarm T_readRumour T_toCome T_order T_bestOrder] A) (by decide) (Nat.le_of_ble_eq_true rfl) (fun p e s m below meth c A ls X hW hl => ?_)
  have hx := X.1
  have hb := X.2.1
  have hts := X.2.2.2.2.2.1
  have hown := X.2.2.2.2.2.2.1
  have hl : lv_has ls 2 [(0, .ref (aT 0)), (1, .int p1)] := hl
  unfold MX8_again at hM
  refine lv_aload_n hx hb dX8_again_0 rfl (lv_at hl 0 rfl) ?_
  refine lv_iload_n hx hb dX8_again_1 rfl (lv_at hl 1 rfl) ?_
  obtain ⟨u2, hu2, hM⟩ := bind_some hM
  refine g_callVi (rest := []) (gr := []) X hl.1 hW (c_X8_isPerson l G cI cZ cL N aT T_w T_undoes T_kept T_persons T_family T_gives T_warm T_rumour T_seen T_seenOf T_seenBehind T_seenHas T_text T_texted T_place T_number T_readPersons T_readKind T_readComes T_readFamily T_readGives T_readWarm T_readRumour T_toCome T_order T_bestOrder p1 u2 hu2) q_954 q_951 q_953 q_29 q_67 hd_X8_isPerson rfl ⟨Nat.le_of_ble_eq_true rfl, Nat.le_of_ble_eq_true rfl⟩ ⟨Nat.zero_le _, Nat.zero_le _⟩ [0] [] [wMod cI cZ aT T_w T_undoes T_kept T_persons T_family T_gives T_warm T_rumour T_seen T_seenOf T_seenBehind T_seenHas T_text T_texted T_place T_number T_readPersons T_readKind T_readComes T_readFamily T_readGives T_readWarm T_readRumour T_toCome T_order T_bestOrder] ⟨pm_1_0, rfl, rfl, rfl⟩ ⟨pm_1_0, rfl, rfl, rfl⟩ (q0 := 0) rfl rfl rfl (Nat.le_of_ble_eq_true rfl) dX8_again_2 (fun H locs hW => ?_)
  refine lv_if_ne (tgt := 10) hx hb dX8_again_5 (by decide) (fun hc => ?_) (fun hc => ?_)
  · have hM := (if_neg hc).symm.trans hM
    refine lv_aload_n hx hb dX8_again_10 rfl (lv_at hl 0 rfl) ?_
    refine lv_iconst (v := (0 : Int32)) hx hb dX8_again_11 (by decide) ?_
    refine lv_iload_n hx hb dX8_again_12 rfl (lv_at hl 1 rfl) ?_
    refine lv_iconst (v := (2 : Int32)) hx hb dX8_again_13 (by decide) ?_
    obtain ⟨u14, hu14, hM⟩ := bind_some hM
    refine g_callVi (rest := []) (gr := []) X hl.1 hW (c_X8_isWhere l G cI cZ cL N aT T_w T_undoes T_kept T_persons T_family T_gives T_warm T_rumour T_seen T_seenOf T_seenBehind T_seenHas T_text T_texted T_place T_number T_readPersons T_readKind T_readComes T_readFamily T_readGives T_readWarm T_readRumour T_toCome T_order T_bestOrder (0 : Int32) p1 (2 : Int32) u14 hu14) q_1015 q_1012 q_1014 q_42 q_67 hd_X8_isWhere rfl ⟨Nat.le_of_ble_eq_true rfl, Nat.le_of_ble_eq_true rfl⟩ ⟨Nat.zero_le _, Nat.zero_le _⟩ [0] [] [wMod cI cZ aT T_w T_undoes T_kept T_persons T_family T_gives T_warm T_rumour T_seen T_seenOf T_seenBehind T_seenHas T_text T_texted T_place T_number T_readPersons T_readKind T_readComes T_readFamily T_readGives T_readWarm T_readRumour T_toCome T_order T_bestOrder] ⟨pm_1_0, rfl, rfl, rfl⟩ ⟨pm_1_0, rfl, rfl, rfl⟩ (q0 := 0) rfl rfl rfl (Nat.le_of_ble_eq_true rfl) dX8_again_14 (fun H locs hW => ?_)
    refine lv_if_ne (tgt := 23) hx hb dX8_again_17 (by decide) (fun hc => ?_) (fun hc => ?_)
    · have hM := (if_neg hc).symm.trans hM
      refine lv_aload_n hx hb dX8_again_23 rfl (lv_at hl 0 rfl) ?_
      obtain ⟨u24, hu24, hM⟩ := bind_some hM
      refine g_callVv (rest := []) (gr := []) X hl.1 hW (c_X8_minds l G cI cZ cL N aT T_w T_undoes T_kept T_persons T_family T_gives T_warm T_rumour T_seen T_seenOf T_seenBehind T_seenHas T_text T_texted T_place T_number T_readPersons T_readKind T_readComes T_readFamily T_readGives T_readWarm T_readRumour T_toCome T_order T_bestOrder u24 hu24) q_971 q_968 q_970 q_31 q_67 hd_X8_minds rfl ⟨Nat.le_of_ble_eq_true rfl, Nat.le_of_ble_eq_true rfl⟩ ⟨Nat.zero_le _, Nat.zero_le _⟩ [0] [] [wMod cI cZ aT u24.1 u24.2 T_kept T_persons T_family T_gives T_warm T_rumour T_seen T_seenOf T_seenBehind T_seenHas T_text T_texted T_place T_number T_readPersons T_readKind T_readComes T_readFamily T_readGives T_readWarm T_readRumour T_toCome T_order T_bestOrder] ⟨pm_1_0, rfl, rfl, rfl⟩ ⟨pm_1_0, rfl, rfl, rfl⟩ (q0 := 0) rfl rfl rfl (Nat.le_of_ble_eq_true rfl) dX8_again_24 (fun H locs hW => ?_)
      refine lv_aload_n hx hb dX8_again_27 rfl (lv_at hl 0 rfl) ?_
      refine lv_iconst (v := (0 : Int32)) hx hb dX8_again_28 (by decide) ?_
      refine lv_iload_n hx hb dX8_again_29 rfl (lv_at hl 1 rfl) ?_
      obtain ⟨u30, hu30, hM⟩ := bind_some hM
      refine g_callVv (rest := []) (gr := []) X hl.1 hW (c_X8_joins l G cI cZ cL N aT u24.1 u24.2 T_kept T_persons T_family T_gives T_warm T_rumour T_seen T_seenOf T_seenBehind T_seenHas T_text T_texted T_place T_number T_readPersons T_readKind T_readComes T_readFamily T_readGives T_readWarm T_readRumour T_toCome T_order T_bestOrder (0 : Int32) p1 u30 hu30) q_991 q_988 q_990 q_36 q_67 hd_X8_joins rfl ⟨Nat.le_of_ble_eq_true rfl, Nat.le_of_ble_eq_true rfl⟩ ⟨Nat.zero_le _, Nat.zero_le _⟩ [0] [] [wMod cI cZ aT u30 u24.2 T_kept T_persons T_family T_gives T_warm T_rumour T_seen T_seenOf T_seenBehind T_seenHas T_text T_texted T_place T_number T_readPersons T_readKind T_readComes T_readFamily T_readGives T_readWarm T_readRumour T_toCome T_order T_bestOrder] ⟨pm_1_0, rfl, rfl, rfl⟩ ⟨pm_1_0, rfl, rfl, rfl⟩ (q0 := 0) rfl rfl rfl (Nat.le_of_ble_eq_true rfl) dX8_again_30 (fun H locs hW => ?_)
      refine lv_aload_n hx hb dX8_again_33 rfl (lv_at hl 0 rfl) ?_
      refine lv_iconst (v := (0 : Int32)) hx hb dX8_again_34 (by decide) ?_
      refine lv_iload_n hx hb dX8_again_35 rfl (lv_at hl 1 rfl) ?_
      obtain ⟨u36, hu36, hM⟩ := bind_some hM
      refine g_callVi (rest := []) (gr := []) X hl.1 hW (c_X8_placeOf l G cI cZ cL N aT u30 u24.2 T_kept T_persons T_family T_gives T_warm T_rumour T_seen T_seenOf T_seenBehind T_seenHas T_text T_texted T_place T_number T_readPersons T_readKind T_readComes T_readFamily T_readGives T_readWarm T_readRumour T_toCome T_order T_bestOrder (0 : Int32) p1 u36 hu36) q_958 q_955 q_957 q_30 q_67 hd_X8_placeOf rfl ⟨Nat.le_of_ble_eq_true rfl, Nat.le_of_ble_eq_true rfl⟩ ⟨Nat.zero_le _, Nat.zero_le _⟩ [0] [] [wMod cI cZ aT u30 u24.2 T_kept T_persons T_family T_gives T_warm T_rumour T_seen T_seenOf T_seenBehind T_seenHas T_text T_texted T_place T_number T_readPersons T_readKind T_readComes T_readFamily T_readGives T_readWarm T_readRumour T_toCome T_order T_bestOrder] ⟨pm_1_0, rfl, rfl, rfl⟩ ⟨pm_1_0, rfl, rfl, rfl⟩ (q0 := 0) rfl rfl rfl (Nat.le_of_ble_eq_true rfl) dX8_again_36 (fun H locs hW => ?_)
      obtain rfl := Option.some.inj hM
      exact g_reti X hW rfl rfl dX8_again_39
    · have hM := (if_pos hc).symm.trans hM
      refine lv_bipush (v := (-2 : Int32)) hx hb dX8_again_20 (by decide) ?_
      obtain rfl := Option.some.inj hM
      exact g_reti X hW rfl rfl dX8_again_22
  · have hM := (if_pos hc).symm.trans hM
    refine lv_iconst (v := (-1 : Int32)) hx hb dX8_again_8 (by decide) ?_
    obtain rfl := Option.some.inj hM
    exact g_reti X hW rfl rfl dX8_again_9

def MX8_undo (N : Nat) (T_w : (Nat → Int32)) (T_undoes : Int32) : Option (Int32 × (Nat → Int32) × Int32) :=
  if T_undoes = 0 then some ((-2 : Int32), T_w, T_undoes) else ((MX8_copy N T_w ((264 : Int32) + ((66 : Int32) * (T_undoes - (1 : Int32)))) (0 : Int32)).bind (fun u33 => some ((T_undoes - (1 : Int32)), u33, (T_undoes - (1 : Int32)))))
set_option maxHeartbeats 4000000 in
set_option maxRecDepth 100000 in
theorem c_X8_undo (l : Launch) (G : va_G) (cI cZ cL : ClassId) (N : Nat) (aT : Nat → Nat) (T_w : (Nat → Int32)) (T_undoes : Int32) (T_kept : Int32) (T_persons : Int32) (T_family : (Nat → Int32)) (T_gives : Int32) (T_warm : Int32) (T_rumour : Int32) (T_seen : Int32) (T_seenOf : (Nat → Int32)) (T_seenBehind : (Nat → Int32)) (T_seenHas : (Nat → Int32)) (T_text : (Nat → Int32)) (T_texted : Int32) (T_place : Int32) (T_number : Int32) (T_readPersons : Int32) (T_readKind : (Nat → Int32)) (T_readComes : (Nat → Int32)) (T_readFamily : (Nat → Int32)) (T_readGives : Int32) (T_readWarm : Int32) (T_readRumour : Int32) (T_toCome : (Nat → Int32)) (T_order : (Nat → Int32)) (T_bestOrder : (Nat → Int32)) (rr : Int32 × (Nat → Int32) × Int32) (hM : MX8_undo N T_w T_undoes = some rr) : CtI l yX8_undo cX8_undo 1 .int 1 23 G cI cZ cL [.ref (aT 0)] [wMod cI cZ aT T_w T_undoes T_kept T_persons T_family T_gives T_warm T_rumour T_seen T_seenOf T_seenBehind T_seenHas T_text T_texted T_place T_number T_readPersons T_readKind T_readComes T_readFamily T_readGives T_readWarm T_readRumour T_toCome T_order T_bestOrder] rr.1 [wMod cI cZ aT rr.2.1 rr.2.2 T_kept T_persons T_family T_gives T_warm T_rumour T_seen T_seenOf T_seenBehind T_seenHas T_text T_texted T_place T_number T_readPersons T_readKind T_readComes T_readFamily T_readGives T_readWarm T_readRumour T_toCome T_order T_bestOrder] := by
  refine ct_body (fun A => qI G rr.1 [wMod cI cZ aT rr.2.1 rr.2.2 T_kept T_persons T_family T_gives T_warm T_rumour T_seen T_seenOf T_seenBehind T_seenHas T_text T_texted T_place T_number T_readPersons T_readKind T_readComes T_readFamily T_readGives T_readWarm T_readRumour T_toCome T_order T_bestOrder] A) (by decide) (Nat.le_of_ble_eq_true rfl) (fun p e s m below meth c A ls X hW hl => ?_)
  have hx := X.1
  have hb := X.2.1
  have hts := X.2.2.2.2.2.1
  have hown := X.2.2.2.2.2.2.1
  have hl : lv_has ls 1 [(0, .ref (aT 0))] := hl
  unfold MX8_undo at hM
  refine lv_aload_n hx hb dX8_undo_0 rfl (lv_at hl 0 rfl) ?_
  refine g_get X hW 0 rfl rfl inX8 1 (by decide) q_818 rfl dX8_undo_1 ?_
  refine lv_if_ne (tgt := 10) hx hb dX8_undo_4 (by decide) (fun hc => ?_) (fun hc => ?_)
  · have hM := (if_neg hc).symm.trans hM
    refine lv_aload_n hx hb dX8_undo_10 rfl (lv_at hl 0 rfl) ?_
    refine lv_dup hx hb dX8_undo_11 rfl ?_
    refine g_get X hW 0 rfl rfl inX8 1 (by decide) q_818 rfl dX8_undo_12 ?_
    refine lv_iconst (v := (1 : Int32)) hx hb dX8_undo_15 (by decide) ?_
    refine lv_isub hx hb dX8_undo_16 ?_
    refine g_put X hW 0 rfl rfl inX8 tyX8 tyX8_ok nmX8 1 (by decide) q_818 rfl rfl (Nat.le_of_ble_eq_true rfl) [wMod cI cZ aT T_w (T_undoes - (1 : Int32)) T_kept T_persons T_family T_gives T_warm T_rumour T_seen T_seenOf T_seenBehind T_seenHas T_text T_texted T_place T_number T_readPersons T_readKind T_readComes T_readFamily T_readGives T_readWarm T_readRumour T_toCome T_order T_bestOrder] rfl dX8_undo_17 (fun H locs hW => ?_)
    refine lv_aload_n hx hb dX8_undo_20 rfl (lv_at hl 0 rfl) ?_
    refine lv_sipush (v := (264 : Int32)) hx hb dX8_undo_21 (by decide) ?_
    refine lv_bipush (v := (66 : Int32)) hx hb dX8_undo_24 (by decide) ?_
    refine lv_aload_n hx hb dX8_undo_26 rfl (lv_at hl 0 rfl) ?_
    refine g_get X hW 0 rfl rfl inX8 1 (by decide) q_818 rfl dX8_undo_27 ?_
    refine lv_imul hx hb dX8_undo_30 ?_
    refine lv_iadd hx hb dX8_undo_31 ?_
    refine lv_iconst (v := (0 : Int32)) hx hb dX8_undo_32 (by decide) ?_
    obtain ⟨u33, hu33, hM⟩ := bind_some hM
    refine g_callVv (rest := []) (gr := []) X hl.1 hW (c_X8_copy l G cI cZ cL N aT T_w (T_undoes - (1 : Int32)) T_kept T_persons T_family T_gives T_warm T_rumour T_seen T_seenOf T_seenBehind T_seenHas T_text T_texted T_place T_number T_readPersons T_readKind T_readComes T_readFamily T_readGives T_readWarm T_readRumour T_toCome T_order T_bestOrder ((264 : Int32) + ((66 : Int32) * (T_undoes - (1 : Int32)))) (0 : Int32) u33 hu33) q_975 q_972 q_974 q_32 q_67 hd_X8_copy rfl ⟨Nat.le_of_ble_eq_true rfl, Nat.le_of_ble_eq_true rfl⟩ ⟨Nat.zero_le _, Nat.zero_le _⟩ [0] [] [wMod cI cZ aT u33 (T_undoes - (1 : Int32)) T_kept T_persons T_family T_gives T_warm T_rumour T_seen T_seenOf T_seenBehind T_seenHas T_text T_texted T_place T_number T_readPersons T_readKind T_readComes T_readFamily T_readGives T_readWarm T_readRumour T_toCome T_order T_bestOrder] ⟨pm_1_0, rfl, rfl, rfl⟩ ⟨pm_1_0, rfl, rfl, rfl⟩ (q0 := 0) rfl rfl rfl (Nat.le_of_ble_eq_true rfl) dX8_undo_33 (fun H locs hW => ?_)
    refine lv_aload_n hx hb dX8_undo_36 rfl (lv_at hl 0 rfl) ?_
    refine g_get X hW 0 rfl rfl inX8 1 (by decide) q_818 rfl dX8_undo_37 ?_
    obtain rfl := Option.some.inj hM
    exact g_reti X hW rfl rfl dX8_undo_40
  · have hM := (if_pos hc).symm.trans hM
    refine lv_bipush (v := (-2 : Int32)) hx hb dX8_undo_7 (by decide) ?_
    obtain rfl := Option.some.inj hM
    exact g_reti X hW rfl rfl dX8_undo_9

def MX8_tries (N : Nat) (T_w : (Nat → Int32)) : Option ((Nat → Int32)) :=
  (MX8_copy N T_w (0 : Int32) (66 : Int32)).bind (fun u4 => some (u4))
set_option maxHeartbeats 4000000 in
set_option maxRecDepth 100000 in
theorem c_X8_tries (l : Launch) (G : va_G) (cI cZ cL : ClassId) (N : Nat) (aT : Nat → Nat) (T_w : (Nat → Int32)) (T_undoes : Int32) (T_kept : Int32) (T_persons : Int32) (T_family : (Nat → Int32)) (T_gives : Int32) (T_warm : Int32) (T_rumour : Int32) (T_seen : Int32) (T_seenOf : (Nat → Int32)) (T_seenBehind : (Nat → Int32)) (T_seenHas : (Nat → Int32)) (T_text : (Nat → Int32)) (T_texted : Int32) (T_place : Int32) (T_number : Int32) (T_readPersons : Int32) (T_readKind : (Nat → Int32)) (T_readComes : (Nat → Int32)) (T_readFamily : (Nat → Int32)) (T_readGives : Int32) (T_readWarm : Int32) (T_readRumour : Int32) (T_toCome : (Nat → Int32)) (T_order : (Nat → Int32)) (T_bestOrder : (Nat → Int32)) (rr : (Nat → Int32)) (hM : MX8_tries N T_w = some rr) : CtV l yX8_tries cX8_tries 1 1 23 G cI cZ cL [.ref (aT 0)] [wMod cI cZ aT T_w T_undoes T_kept T_persons T_family T_gives T_warm T_rumour T_seen T_seenOf T_seenBehind T_seenHas T_text T_texted T_place T_number T_readPersons T_readKind T_readComes T_readFamily T_readGives T_readWarm T_readRumour T_toCome T_order T_bestOrder] [wMod cI cZ aT rr T_undoes T_kept T_persons T_family T_gives T_warm T_rumour T_seen T_seenOf T_seenBehind T_seenHas T_text T_texted T_place T_number T_readPersons T_readKind T_readComes T_readFamily T_readGives T_readWarm T_readRumour T_toCome T_order T_bestOrder] := by
  refine ct_body (fun A => qV G [wMod cI cZ aT rr T_undoes T_kept T_persons T_family T_gives T_warm T_rumour T_seen T_seenOf T_seenBehind T_seenHas T_text T_texted T_place T_number T_readPersons T_readKind T_readComes T_readFamily T_readGives T_readWarm T_readRumour T_toCome T_order T_bestOrder] A) (by decide) (Nat.le_of_ble_eq_true rfl) (fun p e s m below meth c A ls X hW hl => ?_)
  have hx := X.1
  have hb := X.2.1
  have hts := X.2.2.2.2.2.1
  have hown := X.2.2.2.2.2.2.1
  have hl : lv_has ls 1 [(0, .ref (aT 0))] := hl
  unfold MX8_tries at hM
  refine lv_aload_n hx hb dX8_tries_0 rfl (lv_at hl 0 rfl) ?_
  refine lv_iconst (v := (0 : Int32)) hx hb dX8_tries_1 (by decide) ?_
  refine lv_bipush (v := (66 : Int32)) hx hb dX8_tries_2 (by decide) ?_
  obtain ⟨u4, hu4, hM⟩ := bind_some hM
  refine g_callVv (rest := []) (gr := []) X hl.1 hW (c_X8_copy l G cI cZ cL N aT T_w T_undoes T_kept T_persons T_family T_gives T_warm T_rumour T_seen T_seenOf T_seenBehind T_seenHas T_text T_texted T_place T_number T_readPersons T_readKind T_readComes T_readFamily T_readGives T_readWarm T_readRumour T_toCome T_order T_bestOrder (0 : Int32) (66 : Int32) u4 hu4) q_975 q_972 q_974 q_32 q_67 hd_X8_copy rfl ⟨Nat.le_of_ble_eq_true rfl, Nat.le_of_ble_eq_true rfl⟩ ⟨Nat.zero_le _, Nat.zero_le _⟩ [0] [] [wMod cI cZ aT u4 T_undoes T_kept T_persons T_family T_gives T_warm T_rumour T_seen T_seenOf T_seenBehind T_seenHas T_text T_texted T_place T_number T_readPersons T_readKind T_readComes T_readFamily T_readGives T_readWarm T_readRumour T_toCome T_order T_bestOrder] ⟨pm_1_0, rfl, rfl, rfl⟩ ⟨pm_1_0, rfl, rfl, rfl⟩ (q0 := 0) rfl rfl rfl (Nat.le_of_ble_eq_true rfl) dX8_tries_4 (fun H locs hW => ?_)
  obtain rfl := Option.some.inj hM
  exact g_retv X hW dX8_tries_7

def MX8_behind_j51 (p2 : Int32) (yT0_51 : (Nat → Int32)) : Option (Int32 × (Nat → Int32)) :=
  if 0 ≤ p2 then (MG (68 : Int32) 792 (if (yT0_51 (68 : Int32).toNatClampNeg) ≤ p2 then some ((-4 : Int32), yT0_51) else (MG ((69 : Int32) + p2) 792 (some (yT0_51 ((69 : Int32) + p2).toNatClampNeg, yT0_51))))) else (MG (68 : Int32) 792 (some (yT0_51 (68 : Int32).toNatClampNeg, yT0_51)))
def MX8_behind_l34 (N : Nat) (T_persons : Int32) (T_family : (Nat → Int32)) (T_gives : Int32) (T_warm : Int32) (T_rumour : Int32) (p1 : Int32) (p2 : Int32) : Nat → Int32 → (Nat → Int32) → Option (Int32 × (Nat → Int32))
  | 0, _, _ => none
  | n34 + 1, x3_34, yT0_34 =>
    if p1 ≤ x3_34 then (MX8_behind_j51 p2 yT0_34) else ((MX8_passes N yT0_34 T_persons T_family T_gives T_warm T_rumour (66 : Int32)).bind (fun u42 => (MX8_behind_l34 N T_persons T_family T_gives T_warm T_rumour p1 p2 n34) (x3_34 + (1 : Int32)) u42))
def MX8_behind (N : Nat) (T_w : (Nat → Int32)) (T_persons : Int32) (T_family : (Nat → Int32)) (T_gives : Int32) (T_warm : Int32) (T_rumour : Int32) (p1 : Int32) (p2 : Int32) : Option (Int32 × (Nat → Int32)) :=
  (MX8_in N p1.toInt64 (0 : Int64) (60 : Int64)).bind (fun u6 => if u6 = 0 then some ((-1 : Int32), T_w) else ((MX8_in N p2.toInt64 (-1 : Int64) (8 : Int64)).bind (fun u20 => if u20 = 0 then some ((-1 : Int32), T_w) else ((MX8_tries N T_w).bind (fun u29 => MX8_behind_l34 N T_persons T_family T_gives T_warm T_rumour p1 p2 N (0 : Int32) u29)))))
set_option maxHeartbeats 4000000 in
set_option maxRecDepth 100000 in
theorem c_X8_behind (l : Launch) (G : va_G) (cI cZ cL : ClassId) (N : Nat) (aT : Nat → Nat) (T_w : (Nat → Int32)) (T_undoes : Int32) (T_kept : Int32) (T_persons : Int32) (T_family : (Nat → Int32)) (T_gives : Int32) (T_warm : Int32) (T_rumour : Int32) (T_seen : Int32) (T_seenOf : (Nat → Int32)) (T_seenBehind : (Nat → Int32)) (T_seenHas : (Nat → Int32)) (T_text : (Nat → Int32)) (T_texted : Int32) (T_place : Int32) (T_number : Int32) (T_readPersons : Int32) (T_readKind : (Nat → Int32)) (T_readComes : (Nat → Int32)) (T_readFamily : (Nat → Int32)) (T_readGives : Int32) (T_readWarm : Int32) (T_readRumour : Int32) (T_toCome : (Nat → Int32)) (T_order : (Nat → Int32)) (T_bestOrder : (Nat → Int32)) (p1 : Int32) (p2 : Int32) (rr : Int32 × (Nat → Int32)) (hM : MX8_behind N T_w T_persons T_family T_gives T_warm T_rumour p1 p2 = some rr) : CtI l yX8_behind cX8_behind 4 .int 5 119 G cI cZ cL [.ref (aT 0), .int p1, .int p2] [wMod cI cZ aT T_w T_undoes T_kept T_persons T_family T_gives T_warm T_rumour T_seen T_seenOf T_seenBehind T_seenHas T_text T_texted T_place T_number T_readPersons T_readKind T_readComes T_readFamily T_readGives T_readWarm T_readRumour T_toCome T_order T_bestOrder] rr.1 [wMod cI cZ aT rr.2 T_undoes T_kept T_persons T_family T_gives T_warm T_rumour T_seen T_seenOf T_seenBehind T_seenHas T_text T_texted T_place T_number T_readPersons T_readKind T_readComes T_readFamily T_readGives T_readWarm T_readRumour T_toCome T_order T_bestOrder] := by
  refine ct_body (fun A => qI G rr.1 [wMod cI cZ aT rr.2 T_undoes T_kept T_persons T_family T_gives T_warm T_rumour T_seen T_seenOf T_seenBehind T_seenHas T_text T_texted T_place T_number T_readPersons T_readKind T_readComes T_readFamily T_readGives T_readWarm T_readRumour T_toCome T_order T_bestOrder] A) (by decide) (Nat.le_of_ble_eq_true rfl) (fun p e s m below meth c A ls X hW hl => ?_)
  have hx := X.1
  have hb := X.2.1
  have hts := X.2.2.2.2.2.1
  have hown := X.2.2.2.2.2.2.1
  have hl : lv_has ls 4 [(0, .ref (aT 0)), (1, .int p1), (2, .int p2)] := hl
  unfold MX8_behind at hM
  refine lv_iload_n hx hb dX8_behind_0 rfl (lv_at hl 1 rfl) ?_
  refine lv_i2l hx hb dX8_behind_1 rfl ?_
  refine lv_lconst (v := (0 : Int64)) hx hb dX8_behind_2 (by decide) ?_
  refine lv_ldc2 (v := (60 : Int64)) hx hb hown (hts _ q_1048) dX8_behind_3 ?_
  obtain ⟨u6, hu6, hM⟩ := bind_some hM
  refine g_callSi (rest := []) X hl.1 hW (c_X8_in l G cI cZ cL N p1.toInt64 (0 : Int64) (60 : Int64) u6 hu6) q_904 q_902 q_903 q_67 hd_X8_in rfl ⟨Nat.le_of_ble_eq_true rfl, Nat.le_of_ble_eq_true rfl⟩ ⟨Nat.zero_le _, Nat.zero_le _⟩ rfl (Nat.le_of_ble_eq_true rfl) dX8_behind_6 (fun H locs hW => ?_)
  refine lv_if_eq (tgt := 26) hx hb dX8_behind_9 (by decide) (fun hc => ?_) (fun hc => ?_)
  · have hM := (if_pos hc).symm.trans hM
    refine lv_iconst (v := (-1 : Int32)) hx hb dX8_behind_26 (by decide) ?_
    obtain rfl := Option.some.inj hM
    exact g_reti X hW rfl rfl dX8_behind_27
  · have hM := (if_neg hc).symm.trans hM
    refine lv_iload_n hx hb dX8_behind_12 rfl (lv_at hl 2 rfl) ?_
    refine lv_i2l hx hb dX8_behind_13 rfl ?_
    refine lv_ldc2 (v := (-1 : Int64)) hx hb hown (hts _ q_1049) dX8_behind_14 ?_
    refine lv_ldc2 (v := (8 : Int64)) hx hb hown (hts _ q_1050) dX8_behind_17 ?_
    obtain ⟨u20, hu20, hM⟩ := bind_some hM
    refine g_callSi (rest := []) X hl.1 hW (c_X8_in l G cI cZ cL N p2.toInt64 (-1 : Int64) (8 : Int64) u20 hu20) q_904 q_902 q_903 q_67 hd_X8_in rfl ⟨Nat.le_of_ble_eq_true rfl, Nat.le_of_ble_eq_true rfl⟩ ⟨Nat.zero_le _, Nat.zero_le _⟩ rfl (Nat.le_of_ble_eq_true rfl) dX8_behind_20 (fun H locs hW => ?_)
    refine lv_if_ne (tgt := 28) hx hb dX8_behind_23 (by decide) (fun hc => ?_) (fun hc => ?_)
    · have hM := (if_neg hc).symm.trans hM
      refine lv_aload_n hx hb dX8_behind_28 rfl (lv_at hl 0 rfl) ?_
      obtain ⟨u29, hu29, hM⟩ := bind_some hM
      refine g_callVv (rest := []) (gr := []) X hl.1 hW (c_X8_tries l G cI cZ cL N aT T_w T_undoes T_kept T_persons T_family T_gives T_warm T_rumour T_seen T_seenOf T_seenBehind T_seenHas T_text T_texted T_place T_number T_readPersons T_readKind T_readComes T_readFamily T_readGives T_readWarm T_readRumour T_toCome T_order T_bestOrder u29 hu29) q_1054 q_1051 q_1053 q_45 q_67 hd_X8_tries rfl ⟨Nat.le_of_ble_eq_true rfl, Nat.le_of_ble_eq_true rfl⟩ ⟨Nat.zero_le _, Nat.zero_le _⟩ [0] [] [wMod cI cZ aT u29 T_undoes T_kept T_persons T_family T_gives T_warm T_rumour T_seen T_seenOf T_seenBehind T_seenHas T_text T_texted T_place T_number T_readPersons T_readKind T_readComes T_readFamily T_readGives T_readWarm T_readRumour T_toCome T_order T_bestOrder] ⟨pm_1_0, rfl, rfl, rfl⟩ ⟨pm_1_0, rfl, rfl, rfl⟩ (q0 := 0) rfl rfl rfl (Nat.le_of_ble_eq_true rfl) dX8_behind_29 (fun H locs hW => ?_)
      refine lv_iconst (v := (0 : Int32)) hx hb dX8_behind_32 (by decide) ?_
      refine lv_istore_n (lv' := [(3, .int (0 : Int32)), (0, .ref (aT 0)), (1, .int p1), (2, .int p2)]) hx hb dX8_behind_33 rfl hl (by decide) rfl (fun ls hl => ?_)
      have j51 : ∀ (yT0_51 : (Nat → Int32)) (H : Heap) (locs : List Loc) (ls : Array Slot), Wd G A s [wMod cI cZ aT yT0_51 T_undoes T_kept T_persons T_family T_gives T_warm T_rumour T_seen T_seenOf T_seenBehind T_seenHas T_text T_texted T_place T_number T_readPersons T_readKind T_readComes T_readFamily T_readGives T_readWarm T_readRumour T_toCome T_order T_bestOrder] H locs → lv_has ls 4 [(0, .ref (aT 0)), (2, .int p2)] → MX8_behind_j51 p2 yT0_51 = some rr → W p l e (rmO 5 119) s m ([.ref (aT 0), .int p1, .int p2] : List Value).toArray below meth c H locs 0 0 (MQ below (qI G rr.1 [wMod cI cZ aT rr.2 T_undoes T_kept T_persons T_family T_gives T_warm T_rumour T_seen T_seenOf T_seenBehind T_seenHas T_text T_texted T_place T_number T_readPersons T_readKind T_readComes T_readFamily T_readGives T_readWarm T_readRumour T_toCome T_order T_bestOrder] A) ([.ref (aT 0), .int p1, .int p2] : List Value).toArray s 0 0 A) (F0 m 51 ls []) := by
        intro yT0_51 H locs ls hW hl hM
        unfold MX8_behind_j51 at hM
        refine lv_iload_n hx hb dX8_behind_51 rfl (lv_at hl 1 rfl) ?_
        refine lv_if_ge (tgt := 65) hx hb dX8_behind_52 (by decide) (fun hc => ?_) (fun hc => ?_)
        · have hM := (if_pos hc).symm.trans hM
          refine lv_iload_n hx hb dX8_behind_65 rfl (lv_at hl 1 rfl) ?_
          refine lv_aload_n hx hb dX8_behind_66 rfl (lv_at hl 0 rfl) ?_
          refine g_get X hW 0 rfl rfl inX8 0 (by decide) q_817 rfl dX8_behind_67 ?_
          refine lv_bipush (v := (68 : Int32)) hx hb dX8_behind_70 (by decide) ?_
          obtain ⟨hi72, hM⟩ := MG_some hM
          refine g_ald X hW 1 rfl hi72 dX8_behind_72 ?_
          refine lv_icmp_ge (tgt := 88) hx hb dX8_behind_73 (by decide) (fun hc => ?_) (fun hc => ?_)
          · have hM := (if_pos hc).symm.trans hM
            refine lv_bipush (v := (-4 : Int32)) hx hb dX8_behind_88 (by decide) ?_
            obtain rfl := Option.some.inj hM
            exact g_reti X hW rfl rfl dX8_behind_90
          · have hM := (if_neg hc).symm.trans hM
            refine lv_aload_n hx hb dX8_behind_76 rfl (lv_at hl 0 rfl) ?_
            refine g_get X hW 0 rfl rfl inX8 0 (by decide) q_817 rfl dX8_behind_77 ?_
            refine lv_bipush (v := (69 : Int32)) hx hb dX8_behind_80 (by decide) ?_
            refine lv_iload_n hx hb dX8_behind_82 rfl (lv_at hl 1 rfl) ?_
            refine lv_iadd hx hb dX8_behind_83 ?_
            obtain ⟨hi84, hM⟩ := MG_some hM
            refine g_ald X hW 1 rfl hi84 dX8_behind_84 ?_
            refine lv_goto (tgt := 90) hx hb dX8_behind_85 (by decide) ?_
            obtain rfl := Option.some.inj hM
            exact g_reti X hW rfl rfl dX8_behind_90
        · have hM := (if_neg hc).symm.trans hM
          refine lv_aload_n hx hb dX8_behind_55 rfl (lv_at hl 0 rfl) ?_
          refine g_get X hW 0 rfl rfl inX8 0 (by decide) q_817 rfl dX8_behind_56 ?_
          refine lv_bipush (v := (68 : Int32)) hx hb dX8_behind_59 (by decide) ?_
          obtain ⟨hi61, hM⟩ := MG_some hM
          refine g_ald X hW 1 rfl hi61 dX8_behind_61 ?_
          refine lv_goto (tgt := 90) hx hb dX8_behind_62 (by decide) ?_
          obtain rfl := Option.some.inj hM
          exact g_reti X hW rfl rfl dX8_behind_90
      have lp34 : ∀ (n34 : Nat) (x3_34 : Int32) (yT0_34 : (Nat → Int32)) (H : Heap) (locs : List Loc) (ls : Array Slot), Wd G A s [wMod cI cZ aT yT0_34 T_undoes T_kept T_persons T_family T_gives T_warm T_rumour T_seen T_seenOf T_seenBehind T_seenHas T_text T_texted T_place T_number T_readPersons T_readKind T_readComes T_readFamily T_readGives T_readWarm T_readRumour T_toCome T_order T_bestOrder] H locs → lv_has ls 4 [(0, .ref (aT 0)), (1, .int p1), (2, .int p2), (3, .int x3_34)] → MX8_behind_l34 N T_persons T_family T_gives T_warm T_rumour p1 p2 n34 x3_34 yT0_34 = some rr → W p l e (rmO 5 119) s m ([.ref (aT 0), .int p1, .int p2] : List Value).toArray below meth c H locs 0 0 (MQ below (qI G rr.1 [wMod cI cZ aT rr.2 T_undoes T_kept T_persons T_family T_gives T_warm T_rumour T_seen T_seenOf T_seenBehind T_seenHas T_text T_texted T_place T_number T_readPersons T_readKind T_readComes T_readFamily T_readGives T_readWarm T_readRumour T_toCome T_order T_bestOrder] A) ([.ref (aT 0), .int p1, .int p2] : List Value).toArray s 0 0 A) (F0 m 34 ls []) := by
        intro n34
        induction n34 with
        | zero =>
          intro x3_34 yT0_34 H locs ls hW hl hM
          rw [MX8_behind_l34] at hM
          cases hM
        | succ n34 ih34 =>
          intro x3_34 yT0_34 H locs ls hW hl hM
          rw [MX8_behind_l34] at hM
          refine lv_iload_n hx hb dX8_behind_34 rfl (lv_at hl 3 rfl) ?_
          refine lv_iload_n hx hb dX8_behind_35 rfl (lv_at hl 1 rfl) ?_
          refine lv_icmp_ge (tgt := 51) hx hb dX8_behind_36 (by decide) (fun hc => ?_) (fun hc => ?_)
          · have hM := (if_pos hc).symm.trans hM
            exact j51 yT0_34 _ _ _ hW (lv_sub hl [0, 2] rfl) hM
          · have hM := (if_neg hc).symm.trans hM
            refine lv_aload_n hx hb dX8_behind_39 rfl (lv_at hl 0 rfl) ?_
            refine lv_bipush (v := (66 : Int32)) hx hb dX8_behind_40 (by decide) ?_
            obtain ⟨u42, hu42, hM⟩ := bind_some hM
            refine g_callVv (rest := []) (gr := []) X hl.1 hW (c_X8_passes l G cI cZ cL N aT yT0_34 T_undoes T_kept T_persons T_family T_gives T_warm T_rumour T_seen T_seenOf T_seenBehind T_seenHas T_text T_texted T_place T_number T_readPersons T_readKind T_readComes T_readFamily T_readGives T_readWarm T_readRumour T_toCome T_order T_bestOrder (66 : Int32) u42 hu42) q_979 q_976 q_978 q_33 q_67 hd_X8_passes rfl ⟨Nat.le_of_ble_eq_true rfl, Nat.le_of_ble_eq_true rfl⟩ ⟨Nat.zero_le _, Nat.zero_le _⟩ [0] [] [wMod cI cZ aT u42 T_undoes T_kept T_persons T_family T_gives T_warm T_rumour T_seen T_seenOf T_seenBehind T_seenHas T_text T_texted T_place T_number T_readPersons T_readKind T_readComes T_readFamily T_readGives T_readWarm T_readRumour T_toCome T_order T_bestOrder] ⟨pm_1_0, rfl, rfl, rfl⟩ ⟨pm_1_0, rfl, rfl, rfl⟩ (q0 := 0) rfl rfl rfl (Nat.le_of_ble_eq_true rfl) dX8_behind_42 (fun H locs hW => ?_)
            refine lv_iinc (v := x3_34 + (1 : Int32)) (lv' := [(3, .int (x3_34 + (1 : Int32))), (0, .ref (aT 0)), (1, .int p1), (2, .int p2)]) hx hb dX8_behind_45 hl (k := 3) rfl rfl (by decide) rfl (fun ls hl => ?_)
            refine lv_goto (tgt := 34) hx hb dX8_behind_48 (by decide) ?_
            exact ih34 (x3_34 + (1 : Int32)) u42 _ _ _ hW (lv_sub hl [1, 2, 3, 0] rfl) hM
      exact lp34 N (0 : Int32) u29 _ _ _ hW (lv_sub hl [1, 2, 3, 0] rfl) hM
    · have hM := (if_pos hc).symm.trans hM
      refine lv_iconst (v := (-1 : Int32)) hx hb dX8_behind_26 (by decide) ?_
      obtain rfl := Option.some.inj hM
      exact g_reti X hW rfl rfl dX8_behind_27

def MX8_eats_l2 (N : Nat) (T_persons : Int32) (T_family : (Nat → Int32)) (T_gives : Int32) (T_warm : Int32) (T_rumour : Int32) (p1 : Int32) (p2 : Int32) : Nat → Int32 → (Nat → Int32) → Option (Int32 × (Nat → Int32))
  | 0, _, _ => none
  | n2 + 1, x3_2, yT0_2 =>
    if (99 : Int32) < x3_2 then some ((100 : Int32), yT0_2) else ((MX8_isRumour N yT0_2 T_rumour (66 : Int32)).bind (fun u15 => (MX8_passesBy N yT0_2 T_persons T_family T_gives T_warm (66 : Int32) p2 u15).bind (fun u18 => (MX8_isWhere N u18 (66 : Int32) p1 (3 : Int32)).bind (fun u26 => if u26 = 0 then ((MX8_eats_l2 N T_persons T_family T_gives T_warm T_rumour p1 p2 n2) (x3_2 + (1 : Int32)) u18) else some (x3_2, u18)))))
def MX8_eats (N : Nat) (T_w : (Nat → Int32)) (T_persons : Int32) (T_family : (Nat → Int32)) (T_gives : Int32) (T_warm : Int32) (T_rumour : Int32) (p1 : Int32) (p2 : Int32) : Option (Int32 × (Nat → Int32)) :=
  MX8_eats_l2 N T_persons T_family T_gives T_warm T_rumour p1 p2 N (1 : Int32) T_w
set_option maxHeartbeats 4000000 in
set_option maxRecDepth 100000 in
theorem c_X8_eats (l : Launch) (G : va_G) (cI cZ cL : ClassId) (N : Nat) (aT : Nat → Nat) (T_w : (Nat → Int32)) (T_undoes : Int32) (T_kept : Int32) (T_persons : Int32) (T_family : (Nat → Int32)) (T_gives : Int32) (T_warm : Int32) (T_rumour : Int32) (T_seen : Int32) (T_seenOf : (Nat → Int32)) (T_seenBehind : (Nat → Int32)) (T_seenHas : (Nat → Int32)) (T_text : (Nat → Int32)) (T_texted : Int32) (T_place : Int32) (T_number : Int32) (T_readPersons : Int32) (T_readKind : (Nat → Int32)) (T_readComes : (Nat → Int32)) (T_readFamily : (Nat → Int32)) (T_readGives : Int32) (T_readWarm : Int32) (T_readRumour : Int32) (T_toCome : (Nat → Int32)) (T_order : (Nat → Int32)) (T_bestOrder : (Nat → Int32)) (p1 : Int32) (p2 : Int32) (rr : Int32 × (Nat → Int32)) (hM : MX8_eats N T_w T_persons T_family T_gives T_warm T_rumour p1 p2 = some rr) : CtI l yX8_eats cX8_eats 4 .int 4 98 G cI cZ cL [.ref (aT 0), .int p1, .int p2] [wMod cI cZ aT T_w T_undoes T_kept T_persons T_family T_gives T_warm T_rumour T_seen T_seenOf T_seenBehind T_seenHas T_text T_texted T_place T_number T_readPersons T_readKind T_readComes T_readFamily T_readGives T_readWarm T_readRumour T_toCome T_order T_bestOrder] rr.1 [wMod cI cZ aT rr.2 T_undoes T_kept T_persons T_family T_gives T_warm T_rumour T_seen T_seenOf T_seenBehind T_seenHas T_text T_texted T_place T_number T_readPersons T_readKind T_readComes T_readFamily T_readGives T_readWarm T_readRumour T_toCome T_order T_bestOrder] := by
  refine ct_body (fun A => qI G rr.1 [wMod cI cZ aT rr.2 T_undoes T_kept T_persons T_family T_gives T_warm T_rumour T_seen T_seenOf T_seenBehind T_seenHas T_text T_texted T_place T_number T_readPersons T_readKind T_readComes T_readFamily T_readGives T_readWarm T_readRumour T_toCome T_order T_bestOrder] A) (by decide) (Nat.le_of_ble_eq_true rfl) (fun p e s m below meth c A ls X hW hl => ?_)
  have hx := X.1
  have hb := X.2.1
  have hts := X.2.2.2.2.2.1
  have hown := X.2.2.2.2.2.2.1
  have hl : lv_has ls 4 [(0, .ref (aT 0)), (1, .int p1), (2, .int p2)] := hl
  unfold MX8_eats at hM
  refine lv_iconst (v := (1 : Int32)) hx hb dX8_eats_0 (by decide) ?_
  refine lv_istore_n (lv' := [(3, .int (1 : Int32)), (0, .ref (aT 0)), (1, .int p1), (2, .int p2)]) hx hb dX8_eats_1 rfl hl (by decide) rfl (fun ls hl => ?_)
  have lp2 : ∀ (n2 : Nat) (x3_2 : Int32) (yT0_2 : (Nat → Int32)) (H : Heap) (locs : List Loc) (ls : Array Slot), Wd G A s [wMod cI cZ aT yT0_2 T_undoes T_kept T_persons T_family T_gives T_warm T_rumour T_seen T_seenOf T_seenBehind T_seenHas T_text T_texted T_place T_number T_readPersons T_readKind T_readComes T_readFamily T_readGives T_readWarm T_readRumour T_toCome T_order T_bestOrder] H locs → lv_has ls 4 [(0, .ref (aT 0)), (1, .int p1), (2, .int p2), (3, .int x3_2)] → MX8_eats_l2 N T_persons T_family T_gives T_warm T_rumour p1 p2 n2 x3_2 yT0_2 = some rr → W p l e (rmO 4 98) s m ([.ref (aT 0), .int p1, .int p2] : List Value).toArray below meth c H locs 0 0 (MQ below (qI G rr.1 [wMod cI cZ aT rr.2 T_undoes T_kept T_persons T_family T_gives T_warm T_rumour T_seen T_seenOf T_seenBehind T_seenHas T_text T_texted T_place T_number T_readPersons T_readKind T_readComes T_readFamily T_readGives T_readWarm T_readRumour T_toCome T_order T_bestOrder] A) ([.ref (aT 0), .int p1, .int p2] : List Value).toArray s 0 0 A) (F0 m 2 ls []) := by
    intro n2
    induction n2 with
    | zero =>
      intro x3_2 yT0_2 H locs ls hW hl hM
      rw [MX8_eats_l2] at hM
      cases hM
    | succ n2 ih2 =>
      intro x3_2 yT0_2 H locs ls hW hl hM
      rw [MX8_eats_l2] at hM
      refine lv_iload_n hx hb dX8_eats_2 rfl (lv_at hl 3 rfl) ?_
      refine lv_bipush (v := (99 : Int32)) hx hb dX8_eats_3 (by decide) ?_
      refine lv_icmp_gt (tgt := 40) hx hb dX8_eats_5 (by decide) (fun hc => ?_) (fun hc => ?_)
      · have hM := (if_pos hc).symm.trans hM
        refine lv_bipush (v := (100 : Int32)) hx hb dX8_eats_40 (by decide) ?_
        obtain rfl := Option.some.inj hM
        exact g_reti X hW rfl rfl dX8_eats_42
      · have hM := (if_neg hc).symm.trans hM
        refine lv_aload_n hx hb dX8_eats_8 rfl (lv_at hl 0 rfl) ?_
        refine lv_bipush (v := (66 : Int32)) hx hb dX8_eats_9 (by decide) ?_
        refine lv_iload_n hx hb dX8_eats_11 rfl (lv_at hl 2 rfl) ?_
        refine lv_aload_n hx hb dX8_eats_12 rfl (lv_at hl 0 rfl) ?_
        refine lv_bipush (v := (66 : Int32)) hx hb dX8_eats_13 (by decide) ?_
        obtain ⟨u15, hu15, hM⟩ := bind_some hM
        refine g_callVi (rest := [.int p2, .int (66 : Int32), .ref (aT 0)]) (gr := []) X hl.1 hW (c_X8_isRumour l G cI cZ cL N aT yT0_2 T_undoes T_kept T_persons T_family T_gives T_warm T_rumour T_seen T_seenOf T_seenBehind T_seenHas T_text T_texted T_place T_number T_readPersons T_readKind T_readComes T_readFamily T_readGives T_readWarm T_readRumour T_toCome T_order T_bestOrder (66 : Int32) u15 hu15) q_983 q_980 q_982 q_34 q_67 hd_X8_isRumour rfl ⟨Nat.le_of_ble_eq_true rfl, Nat.le_of_ble_eq_true rfl⟩ ⟨Nat.zero_le _, Nat.zero_le _⟩ [0] [] [wMod cI cZ aT yT0_2 T_undoes T_kept T_persons T_family T_gives T_warm T_rumour T_seen T_seenOf T_seenBehind T_seenHas T_text T_texted T_place T_number T_readPersons T_readKind T_readComes T_readFamily T_readGives T_readWarm T_readRumour T_toCome T_order T_bestOrder] ⟨pm_1_0, rfl, rfl, rfl⟩ ⟨pm_1_0, rfl, rfl, rfl⟩ (q0 := 0) rfl rfl rfl (Nat.le_of_ble_eq_true rfl) dX8_eats_15 (fun H locs hW => ?_)
        obtain ⟨u18, hu18, hM⟩ := bind_some hM
        refine g_callVv (rest := []) (gr := []) X hl.1 hW (c_X8_passesBy l G cI cZ cL N aT yT0_2 T_undoes T_kept T_persons T_family T_gives T_warm T_rumour T_seen T_seenOf T_seenBehind T_seenHas T_text T_texted T_place T_number T_readPersons T_readKind T_readComes T_readFamily T_readGives T_readWarm T_readRumour T_toCome T_order T_bestOrder (66 : Int32) p2 u15 u18 hu18) q_987 q_984 q_986 q_35 q_67 hd_X8_passesBy rfl ⟨Nat.le_of_ble_eq_true rfl, Nat.le_of_ble_eq_true rfl⟩ ⟨Nat.zero_le _, Nat.zero_le _⟩ [0] [] [wMod cI cZ aT u18 T_undoes T_kept T_persons T_family T_gives T_warm T_rumour T_seen T_seenOf T_seenBehind T_seenHas T_text T_texted T_place T_number T_readPersons T_readKind T_readComes T_readFamily T_readGives T_readWarm T_readRumour T_toCome T_order T_bestOrder] ⟨pm_1_0, rfl, rfl, rfl⟩ ⟨pm_1_0, rfl, rfl, rfl⟩ (q0 := 0) rfl rfl rfl (Nat.le_of_ble_eq_true rfl) dX8_eats_18 (fun H locs hW => ?_)
        refine lv_aload_n hx hb dX8_eats_21 rfl (lv_at hl 0 rfl) ?_
        refine lv_bipush (v := (66 : Int32)) hx hb dX8_eats_22 (by decide) ?_
        refine lv_iload_n hx hb dX8_eats_24 rfl (lv_at hl 1 rfl) ?_
        refine lv_iconst (v := (3 : Int32)) hx hb dX8_eats_25 (by decide) ?_
        obtain ⟨u26, hu26, hM⟩ := bind_some hM
        refine g_callVi (rest := []) (gr := []) X hl.1 hW (c_X8_isWhere l G cI cZ cL N aT u18 T_undoes T_kept T_persons T_family T_gives T_warm T_rumour T_seen T_seenOf T_seenBehind T_seenHas T_text T_texted T_place T_number T_readPersons T_readKind T_readComes T_readFamily T_readGives T_readWarm T_readRumour T_toCome T_order T_bestOrder (66 : Int32) p1 (3 : Int32) u26 hu26) q_1015 q_1012 q_1014 q_42 q_67 hd_X8_isWhere rfl ⟨Nat.le_of_ble_eq_true rfl, Nat.le_of_ble_eq_true rfl⟩ ⟨Nat.zero_le _, Nat.zero_le _⟩ [0] [] [wMod cI cZ aT u18 T_undoes T_kept T_persons T_family T_gives T_warm T_rumour T_seen T_seenOf T_seenBehind T_seenHas T_text T_texted T_place T_number T_readPersons T_readKind T_readComes T_readFamily T_readGives T_readWarm T_readRumour T_toCome T_order T_bestOrder] ⟨pm_1_0, rfl, rfl, rfl⟩ ⟨pm_1_0, rfl, rfl, rfl⟩ (q0 := 0) rfl rfl rfl (Nat.le_of_ble_eq_true rfl) dX8_eats_26 (fun H locs hW => ?_)
        refine lv_if_eq (tgt := 34) hx hb dX8_eats_29 (by decide) (fun hc => ?_) (fun hc => ?_)
        · have hM := (if_pos hc).symm.trans hM
          refine lv_iinc (v := x3_2 + (1 : Int32)) (lv' := [(3, .int (x3_2 + (1 : Int32))), (0, .ref (aT 0)), (1, .int p1), (2, .int p2)]) hx hb dX8_eats_34 hl (k := 3) rfl rfl (by decide) rfl (fun ls hl => ?_)
          refine lv_goto (tgt := 2) hx hb dX8_eats_37 (by decide) ?_
          exact ih2 (x3_2 + (1 : Int32)) u18 _ _ _ hW (lv_sub hl [1, 2, 3, 0] rfl) hM
        · have hM := (if_neg hc).symm.trans hM
          refine lv_iload_n hx hb dX8_eats_32 rfl (lv_at hl 3 rfl) ?_
          obtain rfl := Option.some.inj hM
          exact g_reti X hW rfl rfl dX8_eats_33
  exact lp2 N (1 : Int32) T_w _ _ _ hW (lv_sub hl [1, 2, 3, 0] rfl) hM

def MX8_whenOf (N : Nat) (T_w : (Nat → Int32)) (T_persons : Int32) (T_family : (Nat → Int32)) (T_gives : Int32) (T_warm : Int32) (T_rumour : Int32) (p1 : Int32) (p2 : Int32) : Option (Int32 × (Nat → Int32)) :=
  (MX8_isPerson N T_persons p1).bind (fun u2 => if u2 = 0 then some ((-1 : Int32), T_w) else ((MX8_isWhere N T_w (0 : Int32) p1 (3 : Int32)).bind (fun u14 => if u14 = 0 then ((MX8_tries N T_w).bind (fun u24 => (MX8_eats N u24 T_persons T_family T_gives T_warm T_rumour p1 p2).bind (fun u30 => if u30.1 ≤ (99 : Int32) then some (u30.1, u30.2) else some ((-4 : Int32), u30.2)))) else some ((-2 : Int32), T_w))))
set_option maxHeartbeats 4000000 in
set_option maxRecDepth 100000 in
theorem c_X8_whenOf (l : Launch) (G : va_G) (cI cZ cL : ClassId) (N : Nat) (aT : Nat → Nat) (T_w : (Nat → Int32)) (T_undoes : Int32) (T_kept : Int32) (T_persons : Int32) (T_family : (Nat → Int32)) (T_gives : Int32) (T_warm : Int32) (T_rumour : Int32) (T_seen : Int32) (T_seenOf : (Nat → Int32)) (T_seenBehind : (Nat → Int32)) (T_seenHas : (Nat → Int32)) (T_text : (Nat → Int32)) (T_texted : Int32) (T_place : Int32) (T_number : Int32) (T_readPersons : Int32) (T_readKind : (Nat → Int32)) (T_readComes : (Nat → Int32)) (T_readFamily : (Nat → Int32)) (T_readGives : Int32) (T_readWarm : Int32) (T_readRumour : Int32) (T_toCome : (Nat → Int32)) (T_order : (Nat → Int32)) (T_bestOrder : (Nat → Int32)) (p1 : Int32) (p2 : Int32) (rr : Int32 × (Nat → Int32)) (hM : MX8_whenOf N T_w T_persons T_family T_gives T_warm T_rumour p1 p2 = some rr) : CtI l yX8_whenOf cX8_whenOf 4 .int 5 121 G cI cZ cL [.ref (aT 0), .int p1, .int p2] [wMod cI cZ aT T_w T_undoes T_kept T_persons T_family T_gives T_warm T_rumour T_seen T_seenOf T_seenBehind T_seenHas T_text T_texted T_place T_number T_readPersons T_readKind T_readComes T_readFamily T_readGives T_readWarm T_readRumour T_toCome T_order T_bestOrder] rr.1 [wMod cI cZ aT rr.2 T_undoes T_kept T_persons T_family T_gives T_warm T_rumour T_seen T_seenOf T_seenBehind T_seenHas T_text T_texted T_place T_number T_readPersons T_readKind T_readComes T_readFamily T_readGives T_readWarm T_readRumour T_toCome T_order T_bestOrder] := by
  refine ct_body (fun A => qI G rr.1 [wMod cI cZ aT rr.2 T_undoes T_kept T_persons T_family T_gives T_warm T_rumour T_seen T_seenOf T_seenBehind T_seenHas T_text T_texted T_place T_number T_readPersons T_readKind T_readComes T_readFamily T_readGives T_readWarm T_readRumour T_toCome T_order T_bestOrder] A) (by decide) (Nat.le_of_ble_eq_true rfl) (fun p e s m below meth c A ls X hW hl => ?_)
  have hx := X.1
  have hb := X.2.1
  have hts := X.2.2.2.2.2.1
  have hown := X.2.2.2.2.2.2.1
  have hl : lv_has ls 4 [(0, .ref (aT 0)), (1, .int p1), (2, .int p2)] := hl
  unfold MX8_whenOf at hM
  refine lv_aload_n hx hb dX8_whenOf_0 rfl (lv_at hl 0 rfl) ?_
  refine lv_iload_n hx hb dX8_whenOf_1 rfl (lv_at hl 1 rfl) ?_
  obtain ⟨u2, hu2, hM⟩ := bind_some hM
  refine g_callVi (rest := []) (gr := []) X hl.1 hW (c_X8_isPerson l G cI cZ cL N aT T_w T_undoes T_kept T_persons T_family T_gives T_warm T_rumour T_seen T_seenOf T_seenBehind T_seenHas T_text T_texted T_place T_number T_readPersons T_readKind T_readComes T_readFamily T_readGives T_readWarm T_readRumour T_toCome T_order T_bestOrder p1 u2 hu2) q_954 q_951 q_953 q_29 q_67 hd_X8_isPerson rfl ⟨Nat.le_of_ble_eq_true rfl, Nat.le_of_ble_eq_true rfl⟩ ⟨Nat.zero_le _, Nat.zero_le _⟩ [0] [] [wMod cI cZ aT T_w T_undoes T_kept T_persons T_family T_gives T_warm T_rumour T_seen T_seenOf T_seenBehind T_seenHas T_text T_texted T_place T_number T_readPersons T_readKind T_readComes T_readFamily T_readGives T_readWarm T_readRumour T_toCome T_order T_bestOrder] ⟨pm_1_0, rfl, rfl, rfl⟩ ⟨pm_1_0, rfl, rfl, rfl⟩ (q0 := 0) rfl rfl rfl (Nat.le_of_ble_eq_true rfl) dX8_whenOf_2 (fun H locs hW => ?_)
  refine lv_if_ne (tgt := 10) hx hb dX8_whenOf_5 (by decide) (fun hc => ?_) (fun hc => ?_)
  · have hM := (if_neg hc).symm.trans hM
    refine lv_aload_n hx hb dX8_whenOf_10 rfl (lv_at hl 0 rfl) ?_
    refine lv_iconst (v := (0 : Int32)) hx hb dX8_whenOf_11 (by decide) ?_
    refine lv_iload_n hx hb dX8_whenOf_12 rfl (lv_at hl 1 rfl) ?_
    refine lv_iconst (v := (3 : Int32)) hx hb dX8_whenOf_13 (by decide) ?_
    obtain ⟨u14, hu14, hM⟩ := bind_some hM
    refine g_callVi (rest := []) (gr := []) X hl.1 hW (c_X8_isWhere l G cI cZ cL N aT T_w T_undoes T_kept T_persons T_family T_gives T_warm T_rumour T_seen T_seenOf T_seenBehind T_seenHas T_text T_texted T_place T_number T_readPersons T_readKind T_readComes T_readFamily T_readGives T_readWarm T_readRumour T_toCome T_order T_bestOrder (0 : Int32) p1 (3 : Int32) u14 hu14) q_1015 q_1012 q_1014 q_42 q_67 hd_X8_isWhere rfl ⟨Nat.le_of_ble_eq_true rfl, Nat.le_of_ble_eq_true rfl⟩ ⟨Nat.zero_le _, Nat.zero_le _⟩ [0] [] [wMod cI cZ aT T_w T_undoes T_kept T_persons T_family T_gives T_warm T_rumour T_seen T_seenOf T_seenBehind T_seenHas T_text T_texted T_place T_number T_readPersons T_readKind T_readComes T_readFamily T_readGives T_readWarm T_readRumour T_toCome T_order T_bestOrder] ⟨pm_1_0, rfl, rfl, rfl⟩ ⟨pm_1_0, rfl, rfl, rfl⟩ (q0 := 0) rfl rfl rfl (Nat.le_of_ble_eq_true rfl) dX8_whenOf_14 (fun H locs hW => ?_)
    refine lv_if_eq (tgt := 23) hx hb dX8_whenOf_17 (by decide) (fun hc => ?_) (fun hc => ?_)
    · have hM := (if_pos hc).symm.trans hM
      refine lv_aload_n hx hb dX8_whenOf_23 rfl (lv_at hl 0 rfl) ?_
      obtain ⟨u24, hu24, hM⟩ := bind_some hM
      refine g_callVv (rest := []) (gr := []) X hl.1 hW (c_X8_tries l G cI cZ cL N aT T_w T_undoes T_kept T_persons T_family T_gives T_warm T_rumour T_seen T_seenOf T_seenBehind T_seenHas T_text T_texted T_place T_number T_readPersons T_readKind T_readComes T_readFamily T_readGives T_readWarm T_readRumour T_toCome T_order T_bestOrder u24 hu24) q_1054 q_1051 q_1053 q_45 q_67 hd_X8_tries rfl ⟨Nat.le_of_ble_eq_true rfl, Nat.le_of_ble_eq_true rfl⟩ ⟨Nat.zero_le _, Nat.zero_le _⟩ [0] [] [wMod cI cZ aT u24 T_undoes T_kept T_persons T_family T_gives T_warm T_rumour T_seen T_seenOf T_seenBehind T_seenHas T_text T_texted T_place T_number T_readPersons T_readKind T_readComes T_readFamily T_readGives T_readWarm T_readRumour T_toCome T_order T_bestOrder] ⟨pm_1_0, rfl, rfl, rfl⟩ ⟨pm_1_0, rfl, rfl, rfl⟩ (q0 := 0) rfl rfl rfl (Nat.le_of_ble_eq_true rfl) dX8_whenOf_24 (fun H locs hW => ?_)
      refine lv_aload_n hx hb dX8_whenOf_27 rfl (lv_at hl 0 rfl) ?_
      refine lv_iload_n hx hb dX8_whenOf_28 rfl (lv_at hl 1 rfl) ?_
      refine lv_iload_n hx hb dX8_whenOf_29 rfl (lv_at hl 2 rfl) ?_
      obtain ⟨u30, hu30, hM⟩ := bind_some hM
      refine g_callVi (rest := []) (gr := []) X hl.1 hW (c_X8_eats l G cI cZ cL N aT u24 T_undoes T_kept T_persons T_family T_gives T_warm T_rumour T_seen T_seenOf T_seenBehind T_seenHas T_text T_texted T_place T_number T_readPersons T_readKind T_readComes T_readFamily T_readGives T_readWarm T_readRumour T_toCome T_order T_bestOrder p1 p2 u30 hu30) q_1066 q_1063 q_1065 q_47 q_67 hd_X8_eats rfl ⟨Nat.le_of_ble_eq_true rfl, Nat.le_of_ble_eq_true rfl⟩ ⟨Nat.zero_le _, Nat.zero_le _⟩ [0] [] [wMod cI cZ aT u30.2 T_undoes T_kept T_persons T_family T_gives T_warm T_rumour T_seen T_seenOf T_seenBehind T_seenHas T_text T_texted T_place T_number T_readPersons T_readKind T_readComes T_readFamily T_readGives T_readWarm T_readRumour T_toCome T_order T_bestOrder] ⟨pm_1_0, rfl, rfl, rfl⟩ ⟨pm_1_0, rfl, rfl, rfl⟩ (q0 := 0) rfl rfl rfl (Nat.le_of_ble_eq_true rfl) dX8_whenOf_30 (fun H locs hW => ?_)
      refine lv_istore_n (lv' := [(3, .int u30.1), (0, .ref (aT 0)), (1, .int p1), (2, .int p2)]) hx hb dX8_whenOf_33 rfl hl (by decide) rfl (fun ls hl => ?_)
      refine lv_iload_n hx hb dX8_whenOf_34 rfl (lv_at hl 0 rfl) ?_
      refine lv_bipush (v := (99 : Int32)) hx hb dX8_whenOf_35 (by decide) ?_
      refine lv_icmp_le (tgt := 45) hx hb dX8_whenOf_37 (by decide) (fun hc => ?_) (fun hc => ?_)
      · have hM := (if_pos hc).symm.trans hM
        refine lv_iload_n hx hb dX8_whenOf_45 rfl (lv_at hl 0 rfl) ?_
        obtain rfl := Option.some.inj hM
        exact g_reti X hW rfl rfl dX8_whenOf_46
      · have hM := (if_neg hc).symm.trans hM
        refine lv_bipush (v := (-4 : Int32)) hx hb dX8_whenOf_40 (by decide) ?_
        refine lv_goto (tgt := 46) hx hb dX8_whenOf_42 (by decide) ?_
        obtain rfl := Option.some.inj hM
        exact g_reti X hW rfl rfl dX8_whenOf_46
    · have hM := (if_neg hc).symm.trans hM
      refine lv_bipush (v := (-2 : Int32)) hx hb dX8_whenOf_20 (by decide) ?_
      obtain rfl := Option.some.inj hM
      exact g_reti X hW rfl rfl dX8_whenOf_22
  · have hM := (if_pos hc).symm.trans hM
    refine lv_iconst (v := (-1 : Int32)) hx hb dX8_whenOf_8 (by decide) ?_
    obtain rfl := Option.some.inj hM
    exact g_reti X hW rfl rfl dX8_whenOf_9

def MX8_when (N : Nat) (T_w : (Nat → Int32)) (T_persons : Int32) (T_family : (Nat → Int32)) (T_gives : Int32) (T_warm : Int32) (T_rumour : Int32) (p1 : Int32) : Option (Int32 × (Nat → Int32)) :=
  (MX8_whenOf N T_w T_persons T_family T_gives T_warm T_rumour p1 (0 : Int32)).bind (fun u3 => some (u3.1, u3.2))
set_option maxHeartbeats 4000000 in
set_option maxRecDepth 100000 in
theorem c_X8_when (l : Launch) (G : va_G) (cI cZ cL : ClassId) (N : Nat) (aT : Nat → Nat) (T_w : (Nat → Int32)) (T_undoes : Int32) (T_kept : Int32) (T_persons : Int32) (T_family : (Nat → Int32)) (T_gives : Int32) (T_warm : Int32) (T_rumour : Int32) (T_seen : Int32) (T_seenOf : (Nat → Int32)) (T_seenBehind : (Nat → Int32)) (T_seenHas : (Nat → Int32)) (T_text : (Nat → Int32)) (T_texted : Int32) (T_place : Int32) (T_number : Int32) (T_readPersons : Int32) (T_readKind : (Nat → Int32)) (T_readComes : (Nat → Int32)) (T_readFamily : (Nat → Int32)) (T_readGives : Int32) (T_readWarm : Int32) (T_readRumour : Int32) (T_toCome : (Nat → Int32)) (T_order : (Nat → Int32)) (T_bestOrder : (Nat → Int32)) (p1 : Int32) (rr : Int32 × (Nat → Int32)) (hM : MX8_when N T_w T_persons T_family T_gives T_warm T_rumour p1 = some rr) : CtI l yX8_when cX8_when 2 .int 6 144 G cI cZ cL [.ref (aT 0), .int p1] [wMod cI cZ aT T_w T_undoes T_kept T_persons T_family T_gives T_warm T_rumour T_seen T_seenOf T_seenBehind T_seenHas T_text T_texted T_place T_number T_readPersons T_readKind T_readComes T_readFamily T_readGives T_readWarm T_readRumour T_toCome T_order T_bestOrder] rr.1 [wMod cI cZ aT rr.2 T_undoes T_kept T_persons T_family T_gives T_warm T_rumour T_seen T_seenOf T_seenBehind T_seenHas T_text T_texted T_place T_number T_readPersons T_readKind T_readComes T_readFamily T_readGives T_readWarm T_readRumour T_toCome T_order T_bestOrder] := by
  refine ct_body (fun A => qI G rr.1 [wMod cI cZ aT rr.2 T_undoes T_kept T_persons T_family T_gives T_warm T_rumour T_seen T_seenOf T_seenBehind T_seenHas T_text T_texted T_place T_number T_readPersons T_readKind T_readComes T_readFamily T_readGives T_readWarm T_readRumour T_toCome T_order T_bestOrder] A) (by decide) (Nat.le_of_ble_eq_true rfl) (fun p e s m below meth c A ls X hW hl => ?_)
  have hx := X.1
  have hb := X.2.1
  have hts := X.2.2.2.2.2.1
  have hown := X.2.2.2.2.2.2.1
  have hl : lv_has ls 2 [(0, .ref (aT 0)), (1, .int p1)] := hl
  unfold MX8_when at hM
  refine lv_aload_n hx hb dX8_when_0 rfl (lv_at hl 0 rfl) ?_
  refine lv_iload_n hx hb dX8_when_1 rfl (lv_at hl 1 rfl) ?_
  refine lv_iconst (v := (0 : Int32)) hx hb dX8_when_2 (by decide) ?_
  obtain ⟨u3, hu3, hM⟩ := bind_some hM
  refine g_callVi (rest := []) (gr := []) X hl.1 hW (c_X8_whenOf l G cI cZ cL N aT T_w T_undoes T_kept T_persons T_family T_gives T_warm T_rumour T_seen T_seenOf T_seenBehind T_seenHas T_text T_texted T_place T_number T_readPersons T_readKind T_readComes T_readFamily T_readGives T_readWarm T_readRumour T_toCome T_order T_bestOrder p1 (0 : Int32) u3 hu3) q_1062 q_1059 q_1061 q_46 q_67 hd_X8_whenOf rfl ⟨Nat.le_of_ble_eq_true rfl, Nat.le_of_ble_eq_true rfl⟩ ⟨Nat.zero_le _, Nat.zero_le _⟩ [0] [] [wMod cI cZ aT u3.2 T_undoes T_kept T_persons T_family T_gives T_warm T_rumour T_seen T_seenOf T_seenBehind T_seenHas T_text T_texted T_place T_number T_readPersons T_readKind T_readComes T_readFamily T_readGives T_readWarm T_readRumour T_toCome T_order T_bestOrder] ⟨pm_1_0, rfl, rfl, rfl⟩ ⟨pm_1_0, rfl, rfl, rfl⟩ (q0 := 0) rfl rfl rfl (Nat.le_of_ble_eq_true rfl) dX8_when_3 (fun H locs hW => ?_)
  obtain rfl := Option.some.inj hM
  exact g_reti X hW rfl rfl dX8_when_6

def MX8_besides (N : Nat) (T_w : (Nat → Int32)) (T_persons : Int32) (T_family : (Nat → Int32)) (T_gives : Int32) (T_warm : Int32) (T_rumour : Int32) (p1 : Int32) : Option (Int32 × (Nat → Int32)) :=
  (MX8_whenOf N T_w T_persons T_family T_gives T_warm T_rumour p1 (1 : Int32)).bind (fun u3 => some (u3.1, u3.2))
set_option maxHeartbeats 4000000 in
set_option maxRecDepth 100000 in
theorem c_X8_besides (l : Launch) (G : va_G) (cI cZ cL : ClassId) (N : Nat) (aT : Nat → Nat) (T_w : (Nat → Int32)) (T_undoes : Int32) (T_kept : Int32) (T_persons : Int32) (T_family : (Nat → Int32)) (T_gives : Int32) (T_warm : Int32) (T_rumour : Int32) (T_seen : Int32) (T_seenOf : (Nat → Int32)) (T_seenBehind : (Nat → Int32)) (T_seenHas : (Nat → Int32)) (T_text : (Nat → Int32)) (T_texted : Int32) (T_place : Int32) (T_number : Int32) (T_readPersons : Int32) (T_readKind : (Nat → Int32)) (T_readComes : (Nat → Int32)) (T_readFamily : (Nat → Int32)) (T_readGives : Int32) (T_readWarm : Int32) (T_readRumour : Int32) (T_toCome : (Nat → Int32)) (T_order : (Nat → Int32)) (T_bestOrder : (Nat → Int32)) (p1 : Int32) (rr : Int32 × (Nat → Int32)) (hM : MX8_besides N T_w T_persons T_family T_gives T_warm T_rumour p1 = some rr) : CtI l yX8_besides cX8_besides 2 .int 6 144 G cI cZ cL [.ref (aT 0), .int p1] [wMod cI cZ aT T_w T_undoes T_kept T_persons T_family T_gives T_warm T_rumour T_seen T_seenOf T_seenBehind T_seenHas T_text T_texted T_place T_number T_readPersons T_readKind T_readComes T_readFamily T_readGives T_readWarm T_readRumour T_toCome T_order T_bestOrder] rr.1 [wMod cI cZ aT rr.2 T_undoes T_kept T_persons T_family T_gives T_warm T_rumour T_seen T_seenOf T_seenBehind T_seenHas T_text T_texted T_place T_number T_readPersons T_readKind T_readComes T_readFamily T_readGives T_readWarm T_readRumour T_toCome T_order T_bestOrder] := by
  refine ct_body (fun A => qI G rr.1 [wMod cI cZ aT rr.2 T_undoes T_kept T_persons T_family T_gives T_warm T_rumour T_seen T_seenOf T_seenBehind T_seenHas T_text T_texted T_place T_number T_readPersons T_readKind T_readComes T_readFamily T_readGives T_readWarm T_readRumour T_toCome T_order T_bestOrder] A) (by decide) (Nat.le_of_ble_eq_true rfl) (fun p e s m below meth c A ls X hW hl => ?_)
  have hx := X.1
  have hb := X.2.1
  have hts := X.2.2.2.2.2.1
  have hown := X.2.2.2.2.2.2.1
  have hl : lv_has ls 2 [(0, .ref (aT 0)), (1, .int p1)] := hl
  unfold MX8_besides at hM
  refine lv_aload_n hx hb dX8_besides_0 rfl (lv_at hl 0 rfl) ?_
  refine lv_iload_n hx hb dX8_besides_1 rfl (lv_at hl 1 rfl) ?_
  refine lv_iconst (v := (1 : Int32)) hx hb dX8_besides_2 (by decide) ?_
  obtain ⟨u3, hu3, hM⟩ := bind_some hM
  refine g_callVi (rest := []) (gr := []) X hl.1 hW (c_X8_whenOf l G cI cZ cL N aT T_w T_undoes T_kept T_persons T_family T_gives T_warm T_rumour T_seen T_seenOf T_seenBehind T_seenHas T_text T_texted T_place T_number T_readPersons T_readKind T_readComes T_readFamily T_readGives T_readWarm T_readRumour T_toCome T_order T_bestOrder p1 (1 : Int32) u3 hu3) q_1062 q_1059 q_1061 q_46 q_67 hd_X8_whenOf rfl ⟨Nat.le_of_ble_eq_true rfl, Nat.le_of_ble_eq_true rfl⟩ ⟨Nat.zero_le _, Nat.zero_le _⟩ [0] [] [wMod cI cZ aT u3.2 T_undoes T_kept T_persons T_family T_gives T_warm T_rumour T_seen T_seenOf T_seenBehind T_seenHas T_text T_texted T_place T_number T_readPersons T_readKind T_readComes T_readFamily T_readGives T_readWarm T_readRumour T_toCome T_order T_bestOrder] ⟨pm_1_0, rfl, rfl, rfl⟩ ⟨pm_1_0, rfl, rfl, rfl⟩ (q0 := 0) rfl rfl rfl (Nat.le_of_ble_eq_true rfl) dX8_besides_3 (fun H locs hW => ?_)
  obtain rfl := Option.some.inj hM
  exact g_reti X hW rfl rfl dX8_besides_6

def MX8_servedBy_j94 (x2_94 : Int32) (yT0_94 : (Nat → Int32)) : Option (Int32 × (Nat → Int32)) :=
  some (x2_94, yT0_94)
def MX8_servedBy_j88 (x3_4 : Int32) (rc4 : (Int32 → Int32 → (Nat → Int32) → Option (Int32 × (Nat → Int32)))) (x2_88 : Int32) (yT0_88 : (Nat → Int32)) : Option (Int32 × (Nat → Int32)) :=
  rc4 x2_88 (x3_4 + (1 : Int32)) yT0_88
def MX8_servedBy_j86 (x2_4 : Int32) (x3_4 : Int32) (rc4 : (Int32 → Int32 → (Nat → Int32) → Option (Int32 × (Nat → Int32)))) (u71 : Int32 × (Nat → Int32)) (t1_86 : Int32) : Option (Int32 × (Nat → Int32)) :=
  MLet (x2_4 ||| t1_86) (fun z87 => MX8_servedBy_j88 x3_4 rc4 z87 u71.2)
def MX8_servedBy_j67 (N : Nat) (T_persons : Int32) (T_family : (Nat → Int32)) (T_gives : Int32) (T_warm : Int32) (T_rumour : Int32) (x2_4 : Int32) (x3_4 : Int32) (rc4 : (Int32 → Int32 → (Nat → Int32) → Option (Int32 × (Nat → Int32)))) (u29 : Int32 × (Nat → Int32)) (yT0_67 : (Nat → Int32)) : Option (Int32 × (Nat → Int32)) :=
  (MX8_eats N yT0_67 T_persons T_family T_gives T_warm T_rumour x3_4 (0 : Int32)).bind (fun u71 => if u29.1 ≤ u71.1 then MX8_servedBy_j86 x2_4 x3_4 rc4 u71 (0 : Int32) else MX8_servedBy_j86 x2_4 x3_4 rc4 u71 ((1 : Int32) <<< (x3_4 &&& 31)))
def MX8_servedBy_l4 (N : Nat) (T_persons : Int32) (T_family : (Nat → Int32)) (T_gives : Int32) (T_warm : Int32) (T_rumour : Int32) (p1 : Int32) : Nat → Int32 → Int32 → (Nat → Int32) → Option (Int32 × (Nat → Int32))
  | 0, _, _, _ => none
  | n4 + 1, x2_4, x3_4, yT0_4 =>
    if T_persons ≤ x3_4 then (MX8_servedBy_j94 x2_4 yT0_4) else ((MX8_isWhere N yT0_4 (0 : Int32) x3_4 (1 : Int32)).bind (fun u16 => if u16 = 0 then (MX8_servedBy_j88 x3_4 (MX8_servedBy_l4 N T_persons T_family T_gives T_warm T_rumour p1 n4) x2_4 yT0_4) else ((MX8_tries N yT0_4).bind (fun u23 => (MX8_eats N u23 T_persons T_family T_gives T_warm T_rumour x3_4 (0 : Int32)).bind (fun u29 => (MX8_tries N u29.2).bind (fun u35 => if p1 = 0 then ((MX8_goes N u35 (66 : Int32) x3_4 (2 : Int32)).bind (fun u57 => (MX8_joins N u57 T_family (66 : Int32) x3_4).bind (fun u64 => MX8_servedBy_j67 N T_persons T_family T_gives T_warm T_rumour x2_4 x3_4 (MX8_servedBy_l4 N T_persons T_family T_gives T_warm T_rumour p1 n4) u29 u64))) else ((MX8_sneezes N u35 (66 : Int32) x3_4).bind (fun u46 => MX8_servedBy_j67 N T_persons T_family T_gives T_warm T_rumour x2_4 x3_4 (MX8_servedBy_l4 N T_persons T_family T_gives T_warm T_rumour p1 n4) u29 u46))))))))
def MX8_servedBy (N : Nat) (T_w : (Nat → Int32)) (T_persons : Int32) (T_family : (Nat → Int32)) (T_gives : Int32) (T_warm : Int32) (T_rumour : Int32) (p1 : Int32) : Option (Int32 × (Nat → Int32)) :=
  MX8_servedBy_l4 N T_persons T_family T_gives T_warm T_rumour p1 N (0 : Int32) (0 : Int32) T_w
set_option maxHeartbeats 4000000 in
set_option maxRecDepth 100000 in
theorem c_X8_servedBy (l : Launch) (G : va_G) (cI cZ cL : ClassId) (N : Nat) (aT : Nat → Nat) (T_w : (Nat → Int32)) (T_undoes : Int32) (T_kept : Int32) (T_persons : Int32) (T_family : (Nat → Int32)) (T_gives : Int32) (T_warm : Int32) (T_rumour : Int32) (T_seen : Int32) (T_seenOf : (Nat → Int32)) (T_seenBehind : (Nat → Int32)) (T_seenHas : (Nat → Int32)) (T_text : (Nat → Int32)) (T_texted : Int32) (T_place : Int32) (T_number : Int32) (T_readPersons : Int32) (T_readKind : (Nat → Int32)) (T_readComes : (Nat → Int32)) (T_readFamily : (Nat → Int32)) (T_readGives : Int32) (T_readWarm : Int32) (T_readRumour : Int32) (T_toCome : (Nat → Int32)) (T_order : (Nat → Int32)) (T_bestOrder : (Nat → Int32)) (p1 : Int32) (rr : Int32 × (Nat → Int32)) (hM : MX8_servedBy N T_w T_persons T_family T_gives T_warm T_rumour p1 = some rr) : CtI l yX8_servedBy cX8_servedBy 5 .int 5 121 G cI cZ cL [.ref (aT 0), .int p1] [wMod cI cZ aT T_w T_undoes T_kept T_persons T_family T_gives T_warm T_rumour T_seen T_seenOf T_seenBehind T_seenHas T_text T_texted T_place T_number T_readPersons T_readKind T_readComes T_readFamily T_readGives T_readWarm T_readRumour T_toCome T_order T_bestOrder] rr.1 [wMod cI cZ aT rr.2 T_undoes T_kept T_persons T_family T_gives T_warm T_rumour T_seen T_seenOf T_seenBehind T_seenHas T_text T_texted T_place T_number T_readPersons T_readKind T_readComes T_readFamily T_readGives T_readWarm T_readRumour T_toCome T_order T_bestOrder] := by
  refine ct_body (fun A => qI G rr.1 [wMod cI cZ aT rr.2 T_undoes T_kept T_persons T_family T_gives T_warm T_rumour T_seen T_seenOf T_seenBehind T_seenHas T_text T_texted T_place T_number T_readPersons T_readKind T_readComes T_readFamily T_readGives T_readWarm T_readRumour T_toCome T_order T_bestOrder] A) (by decide) (Nat.le_of_ble_eq_true rfl) (fun p e s m below meth c A ls X hW hl => ?_)
  have hx := X.1
  have hb := X.2.1
  have hts := X.2.2.2.2.2.1
  have hown := X.2.2.2.2.2.2.1
  have hl : lv_has ls 5 [(0, .ref (aT 0)), (1, .int p1)] := hl
  unfold MX8_servedBy at hM
  refine lv_iconst (v := (0 : Int32)) hx hb dX8_servedBy_0 (by decide) ?_
  refine lv_istore_n (lv' := [(2, .int (0 : Int32)), (0, .ref (aT 0)), (1, .int p1)]) hx hb dX8_servedBy_1 rfl hl (by decide) rfl (fun ls hl => ?_)
  refine lv_iconst (v := (0 : Int32)) hx hb dX8_servedBy_2 (by decide) ?_
  refine lv_istore_n (lv' := [(3, .int (0 : Int32)), (2, .int (0 : Int32)), (0, .ref (aT 0)), (1, .int p1)]) hx hb dX8_servedBy_3 rfl hl (by decide) rfl (fun ls hl => ?_)
  have j94 : ∀ (x2_94 : Int32) (yT0_94 : (Nat → Int32)) (H : Heap) (locs : List Loc) (ls : Array Slot), Wd G A s [wMod cI cZ aT yT0_94 T_undoes T_kept T_persons T_family T_gives T_warm T_rumour T_seen T_seenOf T_seenBehind T_seenHas T_text T_texted T_place T_number T_readPersons T_readKind T_readComes T_readFamily T_readGives T_readWarm T_readRumour T_toCome T_order T_bestOrder] H locs → lv_has ls 5 [(2, .int x2_94)] → MX8_servedBy_j94 x2_94 yT0_94 = some rr → W p l e (rmO 5 121) s m ([.ref (aT 0), .int p1] : List Value).toArray below meth c H locs 0 0 (MQ below (qI G rr.1 [wMod cI cZ aT rr.2 T_undoes T_kept T_persons T_family T_gives T_warm T_rumour T_seen T_seenOf T_seenBehind T_seenHas T_text T_texted T_place T_number T_readPersons T_readKind T_readComes T_readFamily T_readGives T_readWarm T_readRumour T_toCome T_order T_bestOrder] A) ([.ref (aT 0), .int p1] : List Value).toArray s 0 0 A) (F0 m 94 ls []) := by
    intro x2_94 yT0_94 H locs ls hW hl hM
    unfold MX8_servedBy_j94 at hM
    refine lv_iload_n hx hb dX8_servedBy_94 rfl (lv_at hl 0 rfl) ?_
    obtain rfl := Option.some.inj hM
    exact g_reti X hW rfl rfl dX8_servedBy_95
  have lp4 : ∀ (n4 : Nat) (x2_4 : Int32) (x3_4 : Int32) (yT0_4 : (Nat → Int32)) (H : Heap) (locs : List Loc) (ls : Array Slot), Wd G A s [wMod cI cZ aT yT0_4 T_undoes T_kept T_persons T_family T_gives T_warm T_rumour T_seen T_seenOf T_seenBehind T_seenHas T_text T_texted T_place T_number T_readPersons T_readKind T_readComes T_readFamily T_readGives T_readWarm T_readRumour T_toCome T_order T_bestOrder] H locs → lv_has ls 5 [(0, .ref (aT 0)), (1, .int p1), (2, .int x2_4), (3, .int x3_4)] → MX8_servedBy_l4 N T_persons T_family T_gives T_warm T_rumour p1 n4 x2_4 x3_4 yT0_4 = some rr → W p l e (rmO 5 121) s m ([.ref (aT 0), .int p1] : List Value).toArray below meth c H locs 0 0 (MQ below (qI G rr.1 [wMod cI cZ aT rr.2 T_undoes T_kept T_persons T_family T_gives T_warm T_rumour T_seen T_seenOf T_seenBehind T_seenHas T_text T_texted T_place T_number T_readPersons T_readKind T_readComes T_readFamily T_readGives T_readWarm T_readRumour T_toCome T_order T_bestOrder] A) ([.ref (aT 0), .int p1] : List Value).toArray s 0 0 A) (F0 m 4 ls []) := by
    intro n4
    induction n4 with
    | zero =>
      intro x2_4 x3_4 yT0_4 H locs ls hW hl hM
      rw [MX8_servedBy_l4] at hM
      cases hM
    | succ n4 ih4 =>
      intro x2_4 x3_4 yT0_4 H locs ls hW hl hM
      rw [MX8_servedBy_l4] at hM
      refine lv_iload_n hx hb dX8_servedBy_4 rfl (lv_at hl 3 rfl) ?_
      refine lv_aload_n hx hb dX8_servedBy_5 rfl (lv_at hl 0 rfl) ?_
      refine g_get X hW 0 rfl rfl inX8 3 (by decide) q_820 rfl dX8_servedBy_6 ?_
      refine lv_icmp_ge (tgt := 94) hx hb dX8_servedBy_9 (by decide) (fun hc => ?_) (fun hc => ?_)
      · have hM := (if_pos hc).symm.trans hM
        exact j94 x2_4 yT0_4 _ _ _ hW (lv_sub hl [2] rfl) hM
      · have hM := (if_neg hc).symm.trans hM
        refine lv_aload_n hx hb dX8_servedBy_12 rfl (lv_at hl 0 rfl) ?_
        refine lv_iconst (v := (0 : Int32)) hx hb dX8_servedBy_13 (by decide) ?_
        refine lv_iload_n hx hb dX8_servedBy_14 rfl (lv_at hl 3 rfl) ?_
        refine lv_iconst (v := (1 : Int32)) hx hb dX8_servedBy_15 (by decide) ?_
        obtain ⟨u16, hu16, hM⟩ := bind_some hM
        refine g_callVi (rest := []) (gr := []) X hl.1 hW (c_X8_isWhere l G cI cZ cL N aT yT0_4 T_undoes T_kept T_persons T_family T_gives T_warm T_rumour T_seen T_seenOf T_seenBehind T_seenHas T_text T_texted T_place T_number T_readPersons T_readKind T_readComes T_readFamily T_readGives T_readWarm T_readRumour T_toCome T_order T_bestOrder (0 : Int32) x3_4 (1 : Int32) u16 hu16) q_1015 q_1012 q_1014 q_42 q_67 hd_X8_isWhere rfl ⟨Nat.le_of_ble_eq_true rfl, Nat.le_of_ble_eq_true rfl⟩ ⟨Nat.zero_le _, Nat.zero_le _⟩ [0] [] [wMod cI cZ aT yT0_4 T_undoes T_kept T_persons T_family T_gives T_warm T_rumour T_seen T_seenOf T_seenBehind T_seenHas T_text T_texted T_place T_number T_readPersons T_readKind T_readComes T_readFamily T_readGives T_readWarm T_readRumour T_toCome T_order T_bestOrder] ⟨pm_1_0, rfl, rfl, rfl⟩ ⟨pm_1_0, rfl, rfl, rfl⟩ (q0 := 0) rfl rfl rfl (Nat.le_of_ble_eq_true rfl) dX8_servedBy_16 (fun H locs hW => ?_)
        have j88 : ∀ (x2_88 : Int32) (yT0_88 : (Nat → Int32)) (H : Heap) (locs : List Loc) (ls : Array Slot), Wd G A s [wMod cI cZ aT yT0_88 T_undoes T_kept T_persons T_family T_gives T_warm T_rumour T_seen T_seenOf T_seenBehind T_seenHas T_text T_texted T_place T_number T_readPersons T_readKind T_readComes T_readFamily T_readGives T_readWarm T_readRumour T_toCome T_order T_bestOrder] H locs → lv_has ls 5 [(0, .ref (aT 0)), (1, .int p1), (2, .int x2_88), (3, .int x3_4)] → MX8_servedBy_j88 x3_4 (MX8_servedBy_l4 N T_persons T_family T_gives T_warm T_rumour p1 n4) x2_88 yT0_88 = some rr → W p l e (rmO 5 121) s m ([.ref (aT 0), .int p1] : List Value).toArray below meth c H locs 0 0 (MQ below (qI G rr.1 [wMod cI cZ aT rr.2 T_undoes T_kept T_persons T_family T_gives T_warm T_rumour T_seen T_seenOf T_seenBehind T_seenHas T_text T_texted T_place T_number T_readPersons T_readKind T_readComes T_readFamily T_readGives T_readWarm T_readRumour T_toCome T_order T_bestOrder] A) ([.ref (aT 0), .int p1] : List Value).toArray s 0 0 A) (F0 m 88 ls []) := by
          intro x2_88 yT0_88 H locs ls hW hl hM
          unfold MX8_servedBy_j88 at hM
          refine lv_iinc (v := x3_4 + (1 : Int32)) (lv' := [(3, .int (x3_4 + (1 : Int32))), (0, .ref (aT 0)), (1, .int p1), (2, .int x2_88)]) hx hb dX8_servedBy_88 hl (k := 3) rfl rfl (by decide) rfl (fun ls hl => ?_)
          refine lv_goto (tgt := 4) hx hb dX8_servedBy_91 (by decide) ?_
          exact ih4 x2_88 (x3_4 + (1 : Int32)) yT0_88 _ _ _ hW (lv_sub hl [1, 2, 3, 0] rfl) hM
        refine lv_if_eq (tgt := 88) hx hb dX8_servedBy_19 (by decide) (fun hc => ?_) (fun hc => ?_)
        · have hM := (if_pos hc).symm.trans hM
          exact j88 x2_4 yT0_4 _ _ _ hW (lv_sub hl [0, 1, 2, 3] rfl) hM
        · have hM := (if_neg hc).symm.trans hM
          refine lv_aload_n hx hb dX8_servedBy_22 rfl (lv_at hl 0 rfl) ?_
          obtain ⟨u23, hu23, hM⟩ := bind_some hM
          refine g_callVv (rest := []) (gr := []) X hl.1 hW (c_X8_tries l G cI cZ cL N aT yT0_4 T_undoes T_kept T_persons T_family T_gives T_warm T_rumour T_seen T_seenOf T_seenBehind T_seenHas T_text T_texted T_place T_number T_readPersons T_readKind T_readComes T_readFamily T_readGives T_readWarm T_readRumour T_toCome T_order T_bestOrder u23 hu23) q_1054 q_1051 q_1053 q_45 q_67 hd_X8_tries rfl ⟨Nat.le_of_ble_eq_true rfl, Nat.le_of_ble_eq_true rfl⟩ ⟨Nat.zero_le _, Nat.zero_le _⟩ [0] [] [wMod cI cZ aT u23 T_undoes T_kept T_persons T_family T_gives T_warm T_rumour T_seen T_seenOf T_seenBehind T_seenHas T_text T_texted T_place T_number T_readPersons T_readKind T_readComes T_readFamily T_readGives T_readWarm T_readRumour T_toCome T_order T_bestOrder] ⟨pm_1_0, rfl, rfl, rfl⟩ ⟨pm_1_0, rfl, rfl, rfl⟩ (q0 := 0) rfl rfl rfl (Nat.le_of_ble_eq_true rfl) dX8_servedBy_23 (fun H locs hW => ?_)
          refine lv_aload_n hx hb dX8_servedBy_26 rfl (lv_at hl 0 rfl) ?_
          refine lv_iload_n hx hb dX8_servedBy_27 rfl (lv_at hl 3 rfl) ?_
          refine lv_iconst (v := (0 : Int32)) hx hb dX8_servedBy_28 (by decide) ?_
          obtain ⟨u29, hu29, hM⟩ := bind_some hM
          refine g_callVi (rest := []) (gr := []) X hl.1 hW (c_X8_eats l G cI cZ cL N aT u23 T_undoes T_kept T_persons T_family T_gives T_warm T_rumour T_seen T_seenOf T_seenBehind T_seenHas T_text T_texted T_place T_number T_readPersons T_readKind T_readComes T_readFamily T_readGives T_readWarm T_readRumour T_toCome T_order T_bestOrder x3_4 (0 : Int32) u29 hu29) q_1066 q_1063 q_1065 q_47 q_67 hd_X8_eats rfl ⟨Nat.le_of_ble_eq_true rfl, Nat.le_of_ble_eq_true rfl⟩ ⟨Nat.zero_le _, Nat.zero_le _⟩ [0] [] [wMod cI cZ aT u29.2 T_undoes T_kept T_persons T_family T_gives T_warm T_rumour T_seen T_seenOf T_seenBehind T_seenHas T_text T_texted T_place T_number T_readPersons T_readKind T_readComes T_readFamily T_readGives T_readWarm T_readRumour T_toCome T_order T_bestOrder] ⟨pm_1_0, rfl, rfl, rfl⟩ ⟨pm_1_0, rfl, rfl, rfl⟩ (q0 := 0) rfl rfl rfl (Nat.le_of_ble_eq_true rfl) dX8_servedBy_29 (fun H locs hW => ?_)
          refine lv_istore (lv' := [(4, .int u29.1), (0, .ref (aT 0)), (1, .int p1), (2, .int x2_4), (3, .int x3_4)]) hx hb dX8_servedBy_32 hl (by decide) rfl (fun ls hl => ?_)
          refine lv_aload_n hx hb dX8_servedBy_34 rfl (lv_at hl 1 rfl) ?_
          obtain ⟨u35, hu35, hM⟩ := bind_some hM
          refine g_callVv (rest := []) (gr := []) X hl.1 hW (c_X8_tries l G cI cZ cL N aT u29.2 T_undoes T_kept T_persons T_family T_gives T_warm T_rumour T_seen T_seenOf T_seenBehind T_seenHas T_text T_texted T_place T_number T_readPersons T_readKind T_readComes T_readFamily T_readGives T_readWarm T_readRumour T_toCome T_order T_bestOrder u35 hu35) q_1054 q_1051 q_1053 q_45 q_67 hd_X8_tries rfl ⟨Nat.le_of_ble_eq_true rfl, Nat.le_of_ble_eq_true rfl⟩ ⟨Nat.zero_le _, Nat.zero_le _⟩ [0] [] [wMod cI cZ aT u35 T_undoes T_kept T_persons T_family T_gives T_warm T_rumour T_seen T_seenOf T_seenBehind T_seenHas T_text T_texted T_place T_number T_readPersons T_readKind T_readComes T_readFamily T_readGives T_readWarm T_readRumour T_toCome T_order T_bestOrder] ⟨pm_1_0, rfl, rfl, rfl⟩ ⟨pm_1_0, rfl, rfl, rfl⟩ (q0 := 0) rfl rfl rfl (Nat.le_of_ble_eq_true rfl) dX8_servedBy_35 (fun H locs hW => ?_)
          refine lv_iload_n hx hb dX8_servedBy_38 rfl (lv_at hl 2 rfl) ?_
          have j67 : ∀ (yT0_67 : (Nat → Int32)) (H : Heap) (locs : List Loc) (ls : Array Slot), Wd G A s [wMod cI cZ aT yT0_67 T_undoes T_kept T_persons T_family T_gives T_warm T_rumour T_seen T_seenOf T_seenBehind T_seenHas T_text T_texted T_place T_number T_readPersons T_readKind T_readComes T_readFamily T_readGives T_readWarm T_readRumour T_toCome T_order T_bestOrder] H locs → lv_has ls 5 [(0, .ref (aT 0)), (1, .int p1), (2, .int x2_4), (3, .int x3_4), (4, .int u29.1)] → MX8_servedBy_j67 N T_persons T_family T_gives T_warm T_rumour x2_4 x3_4 (MX8_servedBy_l4 N T_persons T_family T_gives T_warm T_rumour p1 n4) u29 yT0_67 = some rr → W p l e (rmO 5 121) s m ([.ref (aT 0), .int p1] : List Value).toArray below meth c H locs 0 0 (MQ below (qI G rr.1 [wMod cI cZ aT rr.2 T_undoes T_kept T_persons T_family T_gives T_warm T_rumour T_seen T_seenOf T_seenBehind T_seenHas T_text T_texted T_place T_number T_readPersons T_readKind T_readComes T_readFamily T_readGives T_readWarm T_readRumour T_toCome T_order T_bestOrder] A) ([.ref (aT 0), .int p1] : List Value).toArray s 0 0 A) (F0 m 67 ls []) := by
            intro yT0_67 H locs ls hW hl hM
            unfold MX8_servedBy_j67 at hM
            refine lv_iload_n hx hb dX8_servedBy_67 rfl (lv_at hl 2 rfl) ?_
            refine lv_aload_n hx hb dX8_servedBy_68 rfl (lv_at hl 0 rfl) ?_
            refine lv_iload_n hx hb dX8_servedBy_69 rfl (lv_at hl 3 rfl) ?_
            refine lv_iconst (v := (0 : Int32)) hx hb dX8_servedBy_70 (by decide) ?_
            obtain ⟨u71, hu71, hM⟩ := bind_some hM
            refine g_callVi (rest := [.int x2_4]) (gr := []) X hl.1 hW (c_X8_eats l G cI cZ cL N aT yT0_67 T_undoes T_kept T_persons T_family T_gives T_warm T_rumour T_seen T_seenOf T_seenBehind T_seenHas T_text T_texted T_place T_number T_readPersons T_readKind T_readComes T_readFamily T_readGives T_readWarm T_readRumour T_toCome T_order T_bestOrder x3_4 (0 : Int32) u71 hu71) q_1066 q_1063 q_1065 q_47 q_67 hd_X8_eats rfl ⟨Nat.le_of_ble_eq_true rfl, Nat.le_of_ble_eq_true rfl⟩ ⟨Nat.zero_le _, Nat.zero_le _⟩ [0] [] [wMod cI cZ aT u71.2 T_undoes T_kept T_persons T_family T_gives T_warm T_rumour T_seen T_seenOf T_seenBehind T_seenHas T_text T_texted T_place T_number T_readPersons T_readKind T_readComes T_readFamily T_readGives T_readWarm T_readRumour T_toCome T_order T_bestOrder] ⟨pm_1_0, rfl, rfl, rfl⟩ ⟨pm_1_0, rfl, rfl, rfl⟩ (q0 := 0) rfl rfl rfl (Nat.le_of_ble_eq_true rfl) dX8_servedBy_71 (fun H locs hW => ?_)
            refine lv_iload hx hb dX8_servedBy_74 (lv_at hl 4 rfl) ?_
            have j86 : ∀ (t1_86 : Int32) (H : Heap) (locs : List Loc) (ls : Array Slot), Wd G A s [wMod cI cZ aT u71.2 T_undoes T_kept T_persons T_family T_gives T_warm T_rumour T_seen T_seenOf T_seenBehind T_seenHas T_text T_texted T_place T_number T_readPersons T_readKind T_readComes T_readFamily T_readGives T_readWarm T_readRumour T_toCome T_order T_bestOrder] H locs → lv_has ls 5 [(0, .ref (aT 0)), (1, .int p1), (3, .int x3_4)] → MX8_servedBy_j86 x2_4 x3_4 (MX8_servedBy_l4 N T_persons T_family T_gives T_warm T_rumour p1 n4) u71 t1_86 = some rr → W p l e (rmO 5 121) s m ([.ref (aT 0), .int p1] : List Value).toArray below meth c H locs 0 0 (MQ below (qI G rr.1 [wMod cI cZ aT rr.2 T_undoes T_kept T_persons T_family T_gives T_warm T_rumour T_seen T_seenOf T_seenBehind T_seenHas T_text T_texted T_place T_number T_readPersons T_readKind T_readComes T_readFamily T_readGives T_readWarm T_readRumour T_toCome T_order T_bestOrder] A) ([.ref (aT 0), .int p1] : List Value).toArray s 0 0 A) (F0 m 86 ls [.int t1_86, .int x2_4]) := by
              intro t1_86 H locs ls hW hl hM
              unfold MX8_servedBy_j86 at hM
              refine lv_ior hx hb dX8_servedBy_86 ?_
              refine lv_topi (fun z87 ez87 => ?_)
              have hM := MLet_some hM z87 ez87
              refine lv_istore_n (lv' := [(2, .int z87), (0, .ref (aT 0)), (1, .int p1), (3, .int x3_4)]) hx hb dX8_servedBy_87 rfl hl (by decide) rfl (fun ls hl => ?_)
              exact j88 z87 u71.2 _ _ _ hW (lv_sub hl [1, 2, 0, 3] rfl) hM
            refine lv_icmp_ge (tgt := 85) hx hb dX8_servedBy_76 (by decide) (fun hc => ?_) (fun hc => ?_)
            · have hM := (if_pos hc).symm.trans hM
              refine lv_iconst (v := (0 : Int32)) hx hb dX8_servedBy_85 (by decide) ?_
              exact j86 (0 : Int32) _ _ _ hW (lv_sub hl [0, 1, 3] rfl) hM
            · have hM := (if_neg hc).symm.trans hM
              refine lv_iconst (v := (1 : Int32)) hx hb dX8_servedBy_79 (by decide) ?_
              refine lv_iload_n hx hb dX8_servedBy_80 rfl (lv_at hl 3 rfl) ?_
              refine lv_ishl hx hb dX8_servedBy_81 ?_
              refine lv_goto (tgt := 86) hx hb dX8_servedBy_82 (by decide) ?_
              exact j86 ((1 : Int32) <<< (x3_4 &&& 31)) _ _ _ hW (lv_sub hl [0, 1, 3] rfl) hM
          refine lv_if_eq (tgt := 52) hx hb dX8_servedBy_39 (by decide) (fun hc => ?_) (fun hc => ?_)
          · have hM := (if_pos hc).symm.trans hM
            refine lv_aload_n hx hb dX8_servedBy_52 rfl (lv_at hl 1 rfl) ?_
            refine lv_bipush (v := (66 : Int32)) hx hb dX8_servedBy_53 (by decide) ?_
            refine lv_iload_n hx hb dX8_servedBy_55 rfl (lv_at hl 4 rfl) ?_
            refine lv_iconst (v := (2 : Int32)) hx hb dX8_servedBy_56 (by decide) ?_
            obtain ⟨u57, hu57, hM⟩ := bind_some hM
            refine g_callVv (rest := []) (gr := []) X hl.1 hW (c_X8_goes l G cI cZ cL N aT u35 T_undoes T_kept T_persons T_family T_gives T_warm T_rumour T_seen T_seenOf T_seenBehind T_seenHas T_text T_texted T_place T_number T_readPersons T_readKind T_readComes T_readFamily T_readGives T_readWarm T_readRumour T_toCome T_order T_bestOrder (66 : Int32) x3_4 (2 : Int32) u57 hu57) q_1003 q_1000 q_1002 q_39 q_67 hd_X8_goes rfl ⟨Nat.le_of_ble_eq_true rfl, Nat.le_of_ble_eq_true rfl⟩ ⟨Nat.zero_le _, Nat.zero_le _⟩ [0] [] [wMod cI cZ aT u57 T_undoes T_kept T_persons T_family T_gives T_warm T_rumour T_seen T_seenOf T_seenBehind T_seenHas T_text T_texted T_place T_number T_readPersons T_readKind T_readComes T_readFamily T_readGives T_readWarm T_readRumour T_toCome T_order T_bestOrder] ⟨pm_1_0, rfl, rfl, rfl⟩ ⟨pm_1_0, rfl, rfl, rfl⟩ (q0 := 0) rfl rfl rfl (Nat.le_of_ble_eq_true rfl) dX8_servedBy_57 (fun H locs hW => ?_)
            refine lv_aload_n hx hb dX8_servedBy_60 rfl (lv_at hl 1 rfl) ?_
            refine lv_bipush (v := (66 : Int32)) hx hb dX8_servedBy_61 (by decide) ?_
            refine lv_iload_n hx hb dX8_servedBy_63 rfl (lv_at hl 4 rfl) ?_
            obtain ⟨u64, hu64, hM⟩ := bind_some hM
            refine g_callVv (rest := []) (gr := []) X hl.1 hW (c_X8_joins l G cI cZ cL N aT u57 T_undoes T_kept T_persons T_family T_gives T_warm T_rumour T_seen T_seenOf T_seenBehind T_seenHas T_text T_texted T_place T_number T_readPersons T_readKind T_readComes T_readFamily T_readGives T_readWarm T_readRumour T_toCome T_order T_bestOrder (66 : Int32) x3_4 u64 hu64) q_991 q_988 q_990 q_36 q_67 hd_X8_joins rfl ⟨Nat.le_of_ble_eq_true rfl, Nat.le_of_ble_eq_true rfl⟩ ⟨Nat.zero_le _, Nat.zero_le _⟩ [0] [] [wMod cI cZ aT u64 T_undoes T_kept T_persons T_family T_gives T_warm T_rumour T_seen T_seenOf T_seenBehind T_seenHas T_text T_texted T_place T_number T_readPersons T_readKind T_readComes T_readFamily T_readGives T_readWarm T_readRumour T_toCome T_order T_bestOrder] ⟨pm_1_0, rfl, rfl, rfl⟩ ⟨pm_1_0, rfl, rfl, rfl⟩ (q0 := 0) rfl rfl rfl (Nat.le_of_ble_eq_true rfl) dX8_servedBy_64 (fun H locs hW => ?_)
            exact j67 u64 _ _ _ hW (lv_sub hl [1, 2, 3, 4, 0] rfl) hM
          · have hM := (if_neg hc).symm.trans hM
            refine lv_aload_n hx hb dX8_servedBy_42 rfl (lv_at hl 1 rfl) ?_
            refine lv_bipush (v := (66 : Int32)) hx hb dX8_servedBy_43 (by decide) ?_
            refine lv_iload_n hx hb dX8_servedBy_45 rfl (lv_at hl 4 rfl) ?_
            obtain ⟨u46, hu46, hM⟩ := bind_some hM
            refine g_callVv (rest := []) (gr := []) X hl.1 hW (c_X8_sneezes l G cI cZ cL N aT u35 T_undoes T_kept T_persons T_family T_gives T_warm T_rumour T_seen T_seenOf T_seenBehind T_seenHas T_text T_texted T_place T_number T_readPersons T_readKind T_readComes T_readFamily T_readGives T_readWarm T_readRumour T_toCome T_order T_bestOrder (66 : Int32) x3_4 u46 hu46) q_999 q_996 q_998 q_38 q_67 hd_X8_sneezes rfl ⟨Nat.le_of_ble_eq_true rfl, Nat.le_of_ble_eq_true rfl⟩ ⟨Nat.zero_le _, Nat.zero_le _⟩ [0] [] [wMod cI cZ aT u46 T_undoes T_kept T_persons T_family T_gives T_warm T_rumour T_seen T_seenOf T_seenBehind T_seenHas T_text T_texted T_place T_number T_readPersons T_readKind T_readComes T_readFamily T_readGives T_readWarm T_readRumour T_toCome T_order T_bestOrder] ⟨pm_1_0, rfl, rfl, rfl⟩ ⟨pm_1_0, rfl, rfl, rfl⟩ (q0 := 0) rfl rfl rfl (Nat.le_of_ble_eq_true rfl) dX8_servedBy_46 (fun H locs hW => ?_)
            refine lv_goto (tgt := 67) hx hb dX8_servedBy_49 (by decide) ?_
            exact j67 u46 _ _ _ hW (lv_sub hl [1, 2, 3, 4, 0] rfl) hM
  exact lp4 N (0 : Int32) (0 : Int32) T_w _ _ _ hW (lv_sub hl [2, 3, 1, 0] rfl) hM

def MX8_pays (N : Nat) (T_w : (Nat → Int32)) (T_persons : Int32) (T_family : (Nat → Int32)) (T_gives : Int32) (T_warm : Int32) (T_rumour : Int32) : Option (Int32 × (Nat → Int32)) :=
  (MX8_servedBy N T_w T_persons T_family T_gives T_warm T_rumour (0 : Int32)).bind (fun u2 => some (u2.1, u2.2))
set_option maxHeartbeats 4000000 in
set_option maxRecDepth 100000 in
theorem c_X8_pays (l : Launch) (G : va_G) (cI cZ cL : ClassId) (N : Nat) (aT : Nat → Nat) (T_w : (Nat → Int32)) (T_undoes : Int32) (T_kept : Int32) (T_persons : Int32) (T_family : (Nat → Int32)) (T_gives : Int32) (T_warm : Int32) (T_rumour : Int32) (T_seen : Int32) (T_seenOf : (Nat → Int32)) (T_seenBehind : (Nat → Int32)) (T_seenHas : (Nat → Int32)) (T_text : (Nat → Int32)) (T_texted : Int32) (T_place : Int32) (T_number : Int32) (T_readPersons : Int32) (T_readKind : (Nat → Int32)) (T_readComes : (Nat → Int32)) (T_readFamily : (Nat → Int32)) (T_readGives : Int32) (T_readWarm : Int32) (T_readRumour : Int32) (T_toCome : (Nat → Int32)) (T_order : (Nat → Int32)) (T_bestOrder : (Nat → Int32)) (rr : Int32 × (Nat → Int32)) (hM : MX8_pays N T_w T_persons T_family T_gives T_warm T_rumour = some rr) : CtI l yX8_pays cX8_pays 1 .int 6 145 G cI cZ cL [.ref (aT 0)] [wMod cI cZ aT T_w T_undoes T_kept T_persons T_family T_gives T_warm T_rumour T_seen T_seenOf T_seenBehind T_seenHas T_text T_texted T_place T_number T_readPersons T_readKind T_readComes T_readFamily T_readGives T_readWarm T_readRumour T_toCome T_order T_bestOrder] rr.1 [wMod cI cZ aT rr.2 T_undoes T_kept T_persons T_family T_gives T_warm T_rumour T_seen T_seenOf T_seenBehind T_seenHas T_text T_texted T_place T_number T_readPersons T_readKind T_readComes T_readFamily T_readGives T_readWarm T_readRumour T_toCome T_order T_bestOrder] := by
  refine ct_body (fun A => qI G rr.1 [wMod cI cZ aT rr.2 T_undoes T_kept T_persons T_family T_gives T_warm T_rumour T_seen T_seenOf T_seenBehind T_seenHas T_text T_texted T_place T_number T_readPersons T_readKind T_readComes T_readFamily T_readGives T_readWarm T_readRumour T_toCome T_order T_bestOrder] A) (by decide) (Nat.le_of_ble_eq_true rfl) (fun p e s m below meth c A ls X hW hl => ?_)
  have hx := X.1
  have hb := X.2.1
  have hts := X.2.2.2.2.2.1
  have hown := X.2.2.2.2.2.2.1
  have hl : lv_has ls 1 [(0, .ref (aT 0))] := hl
  unfold MX8_pays at hM
  refine lv_aload_n hx hb dX8_pays_0 rfl (lv_at hl 0 rfl) ?_
  refine lv_iconst (v := (0 : Int32)) hx hb dX8_pays_1 (by decide) ?_
  obtain ⟨u2, hu2, hM⟩ := bind_some hM
  refine g_callVi (rest := []) (gr := []) X hl.1 hW (c_X8_servedBy l G cI cZ cL N aT T_w T_undoes T_kept T_persons T_family T_gives T_warm T_rumour T_seen T_seenOf T_seenBehind T_seenHas T_text T_texted T_place T_number T_readPersons T_readKind T_readComes T_readFamily T_readGives T_readWarm T_readRumour T_toCome T_order T_bestOrder (0 : Int32) u2 hu2) q_1078 q_1075 q_1077 q_48 q_67 hd_X8_servedBy rfl ⟨Nat.le_of_ble_eq_true rfl, Nat.le_of_ble_eq_true rfl⟩ ⟨Nat.zero_le _, Nat.zero_le _⟩ [0] [] [wMod cI cZ aT u2.2 T_undoes T_kept T_persons T_family T_gives T_warm T_rumour T_seen T_seenOf T_seenBehind T_seenHas T_text T_texted T_place T_number T_readPersons T_readKind T_readComes T_readFamily T_readGives T_readWarm T_readRumour T_toCome T_order T_bestOrder] ⟨pm_1_0, rfl, rfl, rfl⟩ ⟨pm_1_0, rfl, rfl, rfl⟩ (q0 := 0) rfl rfl rfl (Nat.le_of_ble_eq_true rfl) dX8_pays_2 (fun H locs hW => ?_)
  obtain rfl := Option.some.inj hM
  exact g_reti X hW rfl rfl dX8_pays_5

def MX8_gains (N : Nat) (T_w : (Nat → Int32)) (T_persons : Int32) (T_family : (Nat → Int32)) (T_gives : Int32) (T_warm : Int32) (T_rumour : Int32) : Option (Int32 × (Nat → Int32)) :=
  (MX8_servedBy N T_w T_persons T_family T_gives T_warm T_rumour (1 : Int32)).bind (fun u2 => some (u2.1, u2.2))
set_option maxHeartbeats 4000000 in
set_option maxRecDepth 100000 in
theorem c_X8_gains (l : Launch) (G : va_G) (cI cZ cL : ClassId) (N : Nat) (aT : Nat → Nat) (T_w : (Nat → Int32)) (T_undoes : Int32) (T_kept : Int32) (T_persons : Int32) (T_family : (Nat → Int32)) (T_gives : Int32) (T_warm : Int32) (T_rumour : Int32) (T_seen : Int32) (T_seenOf : (Nat → Int32)) (T_seenBehind : (Nat → Int32)) (T_seenHas : (Nat → Int32)) (T_text : (Nat → Int32)) (T_texted : Int32) (T_place : Int32) (T_number : Int32) (T_readPersons : Int32) (T_readKind : (Nat → Int32)) (T_readComes : (Nat → Int32)) (T_readFamily : (Nat → Int32)) (T_readGives : Int32) (T_readWarm : Int32) (T_readRumour : Int32) (T_toCome : (Nat → Int32)) (T_order : (Nat → Int32)) (T_bestOrder : (Nat → Int32)) (rr : Int32 × (Nat → Int32)) (hM : MX8_gains N T_w T_persons T_family T_gives T_warm T_rumour = some rr) : CtI l yX8_gains cX8_gains 1 .int 6 145 G cI cZ cL [.ref (aT 0)] [wMod cI cZ aT T_w T_undoes T_kept T_persons T_family T_gives T_warm T_rumour T_seen T_seenOf T_seenBehind T_seenHas T_text T_texted T_place T_number T_readPersons T_readKind T_readComes T_readFamily T_readGives T_readWarm T_readRumour T_toCome T_order T_bestOrder] rr.1 [wMod cI cZ aT rr.2 T_undoes T_kept T_persons T_family T_gives T_warm T_rumour T_seen T_seenOf T_seenBehind T_seenHas T_text T_texted T_place T_number T_readPersons T_readKind T_readComes T_readFamily T_readGives T_readWarm T_readRumour T_toCome T_order T_bestOrder] := by
  refine ct_body (fun A => qI G rr.1 [wMod cI cZ aT rr.2 T_undoes T_kept T_persons T_family T_gives T_warm T_rumour T_seen T_seenOf T_seenBehind T_seenHas T_text T_texted T_place T_number T_readPersons T_readKind T_readComes T_readFamily T_readGives T_readWarm T_readRumour T_toCome T_order T_bestOrder] A) (by decide) (Nat.le_of_ble_eq_true rfl) (fun p e s m below meth c A ls X hW hl => ?_)
  have hx := X.1
  have hb := X.2.1
  have hts := X.2.2.2.2.2.1
  have hown := X.2.2.2.2.2.2.1
  have hl : lv_has ls 1 [(0, .ref (aT 0))] := hl
  unfold MX8_gains at hM
  refine lv_aload_n hx hb dX8_gains_0 rfl (lv_at hl 0 rfl) ?_
  refine lv_iconst (v := (1 : Int32)) hx hb dX8_gains_1 (by decide) ?_
  obtain ⟨u2, hu2, hM⟩ := bind_some hM
  refine g_callVi (rest := []) (gr := []) X hl.1 hW (c_X8_servedBy l G cI cZ cL N aT T_w T_undoes T_kept T_persons T_family T_gives T_warm T_rumour T_seen T_seenOf T_seenBehind T_seenHas T_text T_texted T_place T_number T_readPersons T_readKind T_readComes T_readFamily T_readGives T_readWarm T_readRumour T_toCome T_order T_bestOrder (1 : Int32) u2 hu2) q_1078 q_1075 q_1077 q_48 q_67 hd_X8_servedBy rfl ⟨Nat.le_of_ble_eq_true rfl, Nat.le_of_ble_eq_true rfl⟩ ⟨Nat.zero_le _, Nat.zero_le _⟩ [0] [] [wMod cI cZ aT u2.2 T_undoes T_kept T_persons T_family T_gives T_warm T_rumour T_seen T_seenOf T_seenBehind T_seenHas T_text T_texted T_place T_number T_readPersons T_readKind T_readComes T_readFamily T_readGives T_readWarm T_readRumour T_toCome T_order T_bestOrder] ⟨pm_1_0, rfl, rfl, rfl⟩ ⟨pm_1_0, rfl, rfl, rfl⟩ (q0 := 0) rfl rfl rfl (Nat.le_of_ble_eq_true rfl) dX8_gains_2 (fun H locs hW => ?_)
  obtain rfl := Option.some.inj hM
  exact g_reti X hW rfl rfl dX8_gains_5
