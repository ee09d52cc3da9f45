def MX7_behind (N : Nat) (P : PlanV) (Nw : LineV) (Tr : LineV) (p1 : Int32) (p2 : Int32) : Option (Int32 × (Nat → Int32) × (Nat → Int32) × (Nat → Int32) × (Nat → Int32) × (Nat → Int32) × Int32 × Int32 × Int32 × Int32) :=
  if p1 < 0 then some ((-1 : Int32), Tr.1, Tr.2.1, Tr.2.2.1, Tr.2.2.2.1, Tr.2.2.2.2.1, Tr.2.2.2.2.2.1, Tr.2.2.2.2.2.2.1, Tr.2.2.2.2.2.2.2.1, Tr.2.2.2.2.2.2.2.2) else (if (60 : Int32) < p1 then some ((-1 : Int32), Tr.1, Tr.2.1, Tr.2.2.1, Tr.2.2.2.1, Tr.2.2.2.2.1, Tr.2.2.2.2.2.1, Tr.2.2.2.2.2.2.1, Tr.2.2.2.2.2.2.2.1, Tr.2.2.2.2.2.2.2.2) else (if p2 < (-1 : Int32) then some ((-1 : Int32), Tr.1, Tr.2.1, Tr.2.2.1, Tr.2.2.2.1, Tr.2.2.2.2.1, Tr.2.2.2.2.2.1, Tr.2.2.2.2.2.2.1, Tr.2.2.2.2.2.2.2.1, Tr.2.2.2.2.2.2.2.2) else (if p2 < (9 : Int32) then ((MX0_lineBehind N P Nw Tr p1).bind (fun u28 => if p2 = (-1 : Int32) then some (u28.2.2.2.2.2.1, u28.1, u28.2.1, u28.2.2.1, u28.2.2.2.1, u28.2.2.2.2.1, u28.2.2.2.2.2.1, u28.2.2.2.2.2.2.1, u28.2.2.2.2.2.2.2.1, u28.2.2.2.2.2.2.2.2) else ((MX1_whoAt N u28 p2).bind (fun u46 => some (u46, u28.1, u28.2.1, u28.2.2.1, u28.2.2.2.1, u28.2.2.2.2.1, u28.2.2.2.2.2.1, u28.2.2.2.2.2.2.1, u28.2.2.2.2.2.2.2.1, u28.2.2.2.2.2.2.2.2))))) else some ((-1 : Int32), Tr.1, Tr.2.1, Tr.2.2.1, Tr.2.2.2.1, Tr.2.2.2.2.1, Tr.2.2.2.2.2.1, Tr.2.2.2.2.2.2.1, Tr.2.2.2.2.2.2.2.1, Tr.2.2.2.2.2.2.2.2))))
set_option maxHeartbeats 4000000 in
set_option maxRecDepth 100000 in
theorem c_X7_behind (l : Launch) (G : va_G) (cI cZ cL : ClassId) (N : Nat) (bl : Nat) (aTx : Nat → Nat) (aD : Nat → Nat) (fc : Nat) (aP : Nat → Nat) (aNw : Nat → Nat) (aGs : Nat → Nat) (aTr : Nat → Nat) (aO : Nat → Nat) (aS : Nat → Nat) (aU : Nat → Nat) (laU : Nat → Nat → Nat) (aK : Nat → Nat) (laK : Nat → Nat → Nat) (Tx : TextV) (D : PlanV) (P : PlanV) (Nw : LineV) (Gs : PlanV) (Tr : LineV) (O : OrdV) (S : SeenV) (U : ShelfV) (K : ShelfV) (p1 : Int32) (p2 : Int32) (rr : Int32 × (Nat → Int32) × (Nat → Int32) × (Nat → Int32) × (Nat → Int32) × (Nat → Int32) × Int32 × Int32 × Int32 × Int32) (hM : MX7_behind N P Nw Tr p1 p2 = some rr) : CtI l yX7_behind cX7_behind 4 .int 6 136 G cI cZ cL [.ref bl, .int p1, .int p2] [wBL bl (aTx 0) (aD 0) fc (aP 0) (aNw 0) (aS 0) (aU 0) (aK 0), wText cI aTx Tx, wPlan cI aD D, wFc fc (aP 0) (aNw 0) (aGs 0) (aTr 0) (aO 0), wPlan cI aP P, wLine cI aNw Nw, wPlan cI aGs Gs, wLine cI aTr Tr, wOrd cI aO O, wSeen cI cZ aS S, wShelf cI cL 8 aU laU U, wShelf cI cL 2 aK laK K] rr.1 [wBL bl (aTx 0) (aD 0) fc (aP 0) (aNw 0) (aS 0) (aU 0) (aK 0), wText cI aTx Tx, wPlan cI aD D, wFc fc (aP 0) (aNw 0) (aGs 0) (aTr 0) (aO 0), wPlan cI aP P, wLine cI aNw Nw, wPlan cI aGs Gs, wLine cI aTr (rr.2.1, rr.2.2.1, rr.2.2.2.1, rr.2.2.2.2.1, rr.2.2.2.2.2.1, rr.2.2.2.2.2.2.1, rr.2.2.2.2.2.2.2.1, rr.2.2.2.2.2.2.2.2.1, rr.2.2.2.2.2.2.2.2.2), wOrd cI aO O, wSeen cI cZ aS S, wShelf cI cL 8 aU laU U, wShelf cI cL 2 aK laK K] := by
  refine ct_body (fun A => qI G rr.1 [wBL bl (aTx 0) (aD 0) fc (aP 0) (aNw 0) (aS 0) (aU 0) (aK 0), wText cI aTx Tx, wPlan cI aD D, wFc fc (aP 0) (aNw 0) (aGs 0) (aTr 0) (aO 0), wPlan cI aP P, wLine cI aNw Nw, wPlan cI aGs Gs, wLine cI aTr (rr.2.1, rr.2.2.1, rr.2.2.2.1, rr.2.2.2.2.1, rr.2.2.2.2.2.1, rr.2.2.2.2.2.2.1, rr.2.2.2.2.2.2.2.1, rr.2.2.2.2.2.2.2.2.1, rr.2.2.2.2.2.2.2.2.2), wOrd cI aO O, wSeen cI cZ aS S, wShelf cI cL 8 aU laU U, wShelf cI cL 2 aK laK K] A) (by decide) (Nat.le_of_ble_eq_true rfl) (fun p e s m below meth c A ls X hW hl => ?_)
  have hx := X.1
  have hb := X.2.1
  have hts := X.2.2.2.2.2.1
  have hown := X.2.2.2.2.2.2.1
  have hl : lv_has ls 4 [(0, .ref bl), (1, .int p1), (2, .int p2)] := hl
  unfold MX7_behind at hM
  refine lv_iload_n hx hb dX7_behind_0 rfl (lv_at hl 1 rfl) ?_
  refine lv_if_lt (tgt := 21) hx hb dX7_behind_1 (by decide) (fun hc => ?_) (fun hc => ?_)
  · have hM := (if_pos hc).symm.trans hM
    refine lv_iconst (v := (-1 : Int32)) hx hb dX7_behind_21 (by decide) ?_
    obtain rfl := Option.some.inj hM
    exact g_reti X hW rfl rfl dX7_behind_22
  · have hM := (if_neg hc).symm.trans hM
    refine lv_iload_n hx hb dX7_behind_4 rfl (lv_at hl 1 rfl) ?_
    refine lv_bipush (v := (60 : Int32)) hx hb dX7_behind_5 (by decide) ?_
    refine lv_icmp_gt (tgt := 21) hx hb dX7_behind_7 (by decide) (fun hc => ?_) (fun hc => ?_)
    · have hM := (if_pos hc).symm.trans hM
      refine lv_iconst (v := (-1 : Int32)) hx hb dX7_behind_21 (by decide) ?_
      obtain rfl := Option.some.inj hM
      exact g_reti X hW rfl rfl dX7_behind_22
    · have hM := (if_neg hc).symm.trans hM
      refine lv_iload_n hx hb dX7_behind_10 rfl (lv_at hl 2 rfl) ?_
      refine lv_iconst (v := (-1 : Int32)) hx hb dX7_behind_11 (by decide) ?_
      refine lv_icmp_lt (tgt := 21) hx hb dX7_behind_12 (by decide) (fun hc => ?_) (fun hc => ?_)
      · have hM := (if_pos hc).symm.trans hM
        refine lv_iconst (v := (-1 : Int32)) hx hb dX7_behind_21 (by decide) ?_
        obtain rfl := Option.some.inj hM
        exact g_reti X hW rfl rfl dX7_behind_22
      · have hM := (if_neg hc).symm.trans hM
        refine lv_iload_n hx hb dX7_behind_15 rfl (lv_at hl 2 rfl) ?_
        refine lv_bipush (v := (9 : Int32)) hx hb dX7_behind_16 (by decide) ?_
        refine lv_icmp_lt (tgt := 23) hx hb dX7_behind_18 (by decide) (fun hc => ?_) (fun hc => ?_)
        · have hM := (if_pos hc).symm.trans hM
          refine lv_aload_n hx hb dX7_behind_23 rfl (lv_at hl 0 rfl) ?_
          refine g_get X hW 0 rfl rfl inX7 2 (by decide) q_368 rfl dX7_behind_24 ?_
          refine lv_iload_n hx hb dX7_behind_27 rfl (lv_at hl 1 rfl) ?_
          obtain ⟨u28, hu28, hM⟩ := bind_some hM
          refine g_callVr (rest := []) (gr := [wBL bl (aTx 0) (aD 0) fc (aP 0) (aNw 0) (aS 0) (aU 0) (aK 0), wText cI aTx Tx, wPlan cI aD D, wSeen cI cZ aS S, wShelf cI cL 8 aU laU U, wShelf cI cL 2 aK laK K]) X hl.1 hW (c_X0_lineBehind l G cI cZ cL N fc aP aNw aGs aTr aO P Nw Gs Tr O p1 u28 hu28) q_596 q_593 q_594 q_595 q_57 hd_X0_lineBehind rfl ⟨Nat.le_of_ble_eq_true rfl, Nat.le_of_ble_eq_true rfl⟩ ⟨Nat.zero_le _, Nat.zero_le _⟩ [3, 4, 5, 6, 7, 8] [0, 1, 2, 9, 10, 11] [wBL bl (aTx 0) (aD 0) fc (aP 0) (aNw 0) (aS 0) (aU 0) (aK 0), wText cI aTx Tx, wPlan cI aD D, wFc fc (aP 0) (aNw 0) (aGs 0) (aTr 0) (aO 0), wPlan cI aP P, wLine cI aNw Nw, wPlan cI aGs Gs, wLine cI aTr u28, wOrd cI aO O, wSeen cI cZ aS S, wShelf cI cL 8 aU laU U, wShelf cI cL 2 aK laK K] ⟨pm_12_3_4_5_6_7_8, rfl, rfl, rfl⟩ ⟨pm_12_3_4_5_6_7_8, rfl, rfl, rfl⟩ (q0 := 8) rfl rfl rfl (Nat.le_of_ble_eq_true rfl) dX7_behind_28 (fun H locs hW => ?_)
          refine lv_astore_n (lv' := [(3, .ref (aTr 0)), (0, .ref bl), (1, .int p1), (2, .int p2)]) hx hb dX7_behind_31 rfl hl (by decide) rfl (fun ls hl => ?_)
          refine lv_iload_n hx hb dX7_behind_32 rfl (lv_at hl 3 rfl) ?_
          refine lv_iconst (v := (-1 : Int32)) hx hb dX7_behind_33 (by decide) ?_
          refine lv_icmp_ne (tgt := 44) hx hb dX7_behind_34 (by decide) (fun hc => ?_) (fun hc => ?_)
          · have hM := (if_neg hc).symm.trans hM
            refine lv_aload_n hx hb dX7_behind_44 rfl (lv_at hl 0 rfl) ?_
            refine lv_iload_n hx hb dX7_behind_45 rfl (lv_at hl 3 rfl) ?_
            obtain ⟨u46, hu46, hM⟩ := bind_some hM
            refine g_callVi (rest := []) (gr := [wBL bl (aTx 0) (aD 0) fc (aP 0) (aNw 0) (aS 0) (aU 0) (aK 0), wText cI aTx Tx, wPlan cI aD D, wFc fc (aP 0) (aNw 0) (aGs 0) (aTr 0) (aO 0), wPlan cI aP P, wLine cI aNw Nw, wPlan cI aGs Gs, wOrd cI aO O, wSeen cI cZ aS S, wShelf cI cL 8 aU laU U, wShelf cI cL 2 aK laK K]) X hl.1 hW (c_X1_whoAt l G cI cZ cL N aTr u28 p2 u46 hu46) q_474 q_471 q_472 q_473 q_58 hd_X1_whoAt rfl ⟨Nat.le_of_ble_eq_true rfl, Nat.le_of_ble_eq_true rfl⟩ ⟨Nat.zero_le _, Nat.zero_le _⟩ [7] [0, 1, 2, 3, 4, 5, 6, 8, 9, 10, 11] [wBL bl (aTx 0) (aD 0) fc (aP 0) (aNw 0) (aS 0) (aU 0) (aK 0), wText cI aTx Tx, wPlan cI aD D, wFc fc (aP 0) (aNw 0) (aGs 0) (aTr 0) (aO 0), wPlan cI aP P, wLine cI aNw Nw, wPlan cI aGs Gs, wLine cI aTr u28, wOrd cI aO O, wSeen cI cZ aS S, wShelf cI cL 8 aU laU U, wShelf cI cL 2 aK laK K] ⟨pm_12_7, rfl, rfl, rfl⟩ ⟨pm_12_7, rfl, rfl, rfl⟩ (q0 := 23) rfl rfl rfl (Nat.le_of_ble_eq_true rfl) dX7_behind_46 (fun H locs hW => ?_)
            obtain rfl := Option.some.inj hM
            exact g_reti X hW rfl rfl dX7_behind_49
          · have hM := (if_pos hc).symm.trans hM
            refine lv_aload_n hx hb dX7_behind_37 rfl (lv_at hl 0 rfl) ?_
            refine g_getN X hW 23 rfl rfl inX1 5 (by decide) nt_13 rfl dX7_behind_38 ?_
            refine lv_goto (tgt := 49) hx hb dX7_behind_41 (by decide) ?_
            obtain rfl := Option.some.inj hM
            exact g_reti X hW rfl rfl dX7_behind_49
        · have hM := (if_neg hc).symm.trans hM
          refine lv_iconst (v := (-1 : Int32)) hx hb dX7_behind_21 (by decide) ?_
          obtain rfl := Option.some.inj hM
          exact g_reti X hW rfl rfl dX7_behind_22

def MX7_whenOf (N : Nat) (P : PlanV) (Nw : LineV) (Tr : LineV) (p1 : Int32) (p2 : Int32) : Option (Int32 × (Nat → Int32) × (Nat → Int32) × (Nat → Int32) × (Nat → Int32) × (Nat → Int32) × Int32 × Int32 × Int32 × Int32) :=
  (MX3_has N P p1).bind (fun u5 => if u5 = 0 then some ((-1 : Int32), Tr.1, Tr.2.1, Tr.2.2.1, Tr.2.2.2.1, Tr.2.2.2.2.1, Tr.2.2.2.2.2.1, Tr.2.2.2.2.2.2.1, Tr.2.2.2.2.2.2.2.1, Tr.2.2.2.2.2.2.2.2) else ((MX1_whereIs N Nw p1).bind (fun u18 => if u18 = (3 : Int32) then some ((-2 : Int32), Tr.1, Tr.2.1, Tr.2.2.1, Tr.2.2.2.1, Tr.2.2.2.2.1, Tr.2.2.2.2.2.1, Tr.2.2.2.2.2.2.1, Tr.2.2.2.2.2.2.2.1, Tr.2.2.2.2.2.2.2.2) else ((MX0_startTrial N Nw Tr).bind (fun u32 => (MX0_whenEaten N P u32 p1 p2).bind (fun u41 => if u41.1 ≤ (99 : Int32) then some (u41.1, u41.2.1, u41.2.2.1, u41.2.2.2.1, u41.2.2.2.2.1, u41.2.2.2.2.2.1, u41.2.2.2.2.2.2.1, u41.2.2.2.2.2.2.2.1, u41.2.2.2.2.2.2.2.2.1, u41.2.2.2.2.2.2.2.2.2) else some ((-4 : Int32), u41.2.1, u41.2.2.1, u41.2.2.2.1, u41.2.2.2.2.1, u41.2.2.2.2.2.1, u41.2.2.2.2.2.2.1, u41.2.2.2.2.2.2.2.1, u41.2.2.2.2.2.2.2.2.1, u41.2.2.2.2.2.2.2.2.2)))))))
set_option maxHeartbeats 4000000 in
set_option maxRecDepth 100000 in
theorem c_X7_whenOf (l : Launch) (G : va_G) (cI cZ cL : ClassId) (N : Nat) (bl : Nat) (aTx : Nat → Nat) (aD : Nat → Nat) (fc : Nat) (aP : Nat → Nat) (aNw : Nat → Nat) (aGs : Nat → Nat) (aTr : Nat → Nat) (aO : Nat → Nat) (aS : Nat → Nat) (aU : Nat → Nat) (laU : Nat → Nat → Nat) (aK : Nat → Nat) (laK : Nat → Nat → Nat) (Tx : TextV) (D : PlanV) (P : PlanV) (Nw : LineV) (Gs : PlanV) (Tr : LineV) (O : OrdV) (S : SeenV) (U : ShelfV) (K : ShelfV) (p1 : Int32) (p2 : Int32) (rr : Int32 × (Nat → Int32) × (Nat → Int32) × (Nat → Int32) × (Nat → Int32) × (Nat → Int32) × Int32 × Int32 × Int32 × Int32) (hM : MX7_whenOf N P Nw Tr p1 p2 = some rr) : CtI l yX7_whenOf cX7_whenOf 4 .int 5 115 G cI cZ cL [.ref bl, .int p1, .int p2] [wBL bl (aTx 0) (aD 0) fc (aP 0) (aNw 0) (aS 0) (aU 0) (aK 0), wText cI aTx Tx, wPlan cI aD D, wFc fc (aP 0) (aNw 0) (aGs 0) (aTr 0) (aO 0), wPlan cI aP P, wLine cI aNw Nw, wPlan cI aGs Gs, wLine cI aTr Tr, wOrd cI aO O, wSeen cI cZ aS S, wShelf cI cL 8 aU laU U, wShelf cI cL 2 aK laK K] rr.1 [wBL bl (aTx 0) (aD 0) fc (aP 0) (aNw 0) (aS 0) (aU 0) (aK 0), wText cI aTx Tx, wPlan cI aD D, wFc fc (aP 0) (aNw 0) (aGs 0) (aTr 0) (aO 0), wPlan cI aP P, wLine cI aNw Nw, wPlan cI aGs Gs, wLine cI aTr (rr.2.1, rr.2.2.1, rr.2.2.2.1, rr.2.2.2.2.1, rr.2.2.2.2.2.1, rr.2.2.2.2.2.2.1, rr.2.2.2.2.2.2.2.1, rr.2.2.2.2.2.2.2.2.1, rr.2.2.2.2.2.2.2.2.2), wOrd cI aO O, wSeen cI cZ aS S, wShelf cI cL 8 aU laU U, wShelf cI cL 2 aK laK K] := by
  refine ct_body (fun A => qI G rr.1 [wBL bl (aTx 0) (aD 0) fc (aP 0) (aNw 0) (aS 0) (aU 0) (aK 0), wText cI aTx Tx, wPlan cI aD D, wFc fc (aP 0) (aNw 0) (aGs 0) (aTr 0) (aO 0), wPlan cI aP P, wLine cI aNw Nw, wPlan cI aGs Gs, wLine cI aTr (rr.2.1, rr.2.2.1, rr.2.2.2.1, rr.2.2.2.2.1, rr.2.2.2.2.2.1, rr.2.2.2.2.2.2.1, rr.2.2.2.2.2.2.2.1, rr.2.2.2.2.2.2.2.2.1, rr.2.2.2.2.2.2.2.2.2), wOrd cI aO O, wSeen cI cZ aS S, wShelf cI cL 8 aU laU U, wShelf cI cL 2 aK laK K] A) (by decide) (Nat.le_of_ble_eq_true rfl) (fun p e s m below meth c A ls X hW hl => ?_)
  have hx := X.1
  have hb := X.2.1
  have hts := X.2.2.2.2.2.1
  have hown := X.2.2.2.2.2.2.1
  have hl : lv_has ls 4 [(0, .ref bl), (1, .int p1), (2, .int p2)] := hl
  unfold MX7_whenOf at hM
  refine lv_aload_n hx hb dX7_whenOf_0 rfl (lv_at hl 0 rfl) ?_
  refine g_get X hW 0 rfl rfl inX7 3 (by decide) q_369 rfl dX7_whenOf_1 ?_
  refine lv_iload_n hx hb dX7_whenOf_4 rfl (lv_at hl 1 rfl) ?_
  obtain ⟨u5, hu5, hM⟩ := bind_some hM
  refine g_callVi (rest := []) (gr := [wBL bl (aTx 0) (aD 0) fc (aP 0) (aNw 0) (aS 0) (aU 0) (aK 0), wText cI aTx Tx, wPlan cI aD D, wFc fc (aP 0) (aNw 0) (aGs 0) (aTr 0) (aO 0), wLine cI aNw Nw, wPlan cI aGs Gs, wLine cI aTr Tr, wOrd cI aO O, wSeen cI cZ aS S, wShelf cI cL 8 aU laU U, wShelf cI cL 2 aK laK K]) X hl.1 hW (c_X3_has l G cI cZ cL N aP P p1 u5 hu5) q_434 q_431 q_432 q_433 q_56 hd_X3_has rfl ⟨Nat.le_of_ble_eq_true rfl, Nat.le_of_ble_eq_true rfl⟩ ⟨Nat.zero_le _, Nat.zero_le _⟩ [4] [0, 1, 2, 3, 5, 6, 7, 8, 9, 10, 11] [wBL bl (aTx 0) (aD 0) fc (aP 0) (aNw 0) (aS 0) (aU 0) (aK 0), wText cI aTx Tx, wPlan cI aD D, wFc fc (aP 0) (aNw 0) (aGs 0) (aTr 0) (aO 0), wPlan cI aP P, wLine cI aNw Nw, wPlan cI aGs Gs, wLine cI aTr Tr, wOrd cI aO O, wSeen cI cZ aS S, wShelf cI cL 8 aU laU U, wShelf cI cL 2 aK laK K] ⟨pm_12_4, rfl, rfl, rfl⟩ ⟨pm_12_4, rfl, rfl, rfl⟩ (q0 := 9) rfl rfl rfl (Nat.le_of_ble_eq_true rfl) dX7_whenOf_5 (fun H locs hW => ?_)
  refine lv_if_ne (tgt := 13) hx hb dX7_whenOf_8 (by decide) (fun hc => ?_) (fun hc => ?_)
  · have hM := (if_neg hc).symm.trans hM
    refine lv_aload_n hx hb dX7_whenOf_13 rfl (lv_at hl 0 rfl) ?_
    refine g_get X hW 0 rfl rfl inX7 4 (by decide) q_370 rfl dX7_whenOf_14 ?_
    refine lv_iload_n hx hb dX7_whenOf_17 rfl (lv_at hl 1 rfl) ?_
    obtain ⟨u18, hu18, hM⟩ := bind_some hM
    refine g_callVi (rest := []) (gr := [wBL bl (aTx 0) (aD 0) fc (aP 0) (aNw 0) (aS 0) (aU 0) (aK 0), wText cI aTx Tx, wPlan cI aD D, wFc fc (aP 0) (aNw 0) (aGs 0) (aTr 0) (aO 0), wPlan cI aP P, wPlan cI aGs Gs, wLine cI aTr Tr, wOrd cI aO O, wSeen cI cZ aS S, wShelf cI cL 8 aU laU U, wShelf cI cL 2 aK laK K]) X hl.1 hW (c_X1_whereIs l G cI cZ cL N aNw Nw p1 u18 hu18) q_450 q_447 q_448 q_449 q_58 hd_X1_whereIs rfl ⟨Nat.le_of_ble_eq_true rfl, Nat.le_of_ble_eq_true rfl⟩ ⟨Nat.zero_le _, Nat.zero_le _⟩ [5] [0, 1, 2, 3, 4, 6, 7, 8, 9, 10, 11] [wBL bl (aTx 0) (aD 0) fc (aP 0) (aNw 0) (aS 0) (aU 0) (aK 0), wText cI aTx Tx, wPlan cI aD D, wFc fc (aP 0) (aNw 0) (aGs 0) (aTr 0) (aO 0), wPlan cI aP P, wLine cI aNw Nw, wPlan cI aGs Gs, wLine cI aTr Tr, wOrd cI aO O, wSeen cI cZ aS S, wShelf cI cL 8 aU laU U, wShelf cI cL 2 aK laK K] ⟨pm_12_5, rfl, rfl, rfl⟩ ⟨pm_12_5, rfl, rfl, rfl⟩ (q0 := 13) rfl rfl rfl (Nat.le_of_ble_eq_true rfl) dX7_whenOf_18 (fun H locs hW => ?_)
    refine lv_iconst (v := (3 : Int32)) hx hb dX7_whenOf_21 (by decide) ?_
    refine lv_icmp_ne (tgt := 28) hx hb dX7_whenOf_22 (by decide) (fun hc => ?_) (fun hc => ?_)
    · have hM := (if_neg hc).symm.trans hM
      refine lv_aload_n hx hb dX7_whenOf_28 rfl (lv_at hl 0 rfl) ?_
      refine g_get X hW 0 rfl rfl inX7 2 (by decide) q_368 rfl dX7_whenOf_29 ?_
      obtain ⟨u32, hu32, hM⟩ := bind_some hM
      refine g_callVv (rest := []) (gr := [wBL bl (aTx 0) (aD 0) fc (aP 0) (aNw 0) (aS 0) (aU 0) (aK 0), wText cI aTx Tx, wPlan cI aD D, wSeen cI cZ aS S, wShelf cI cL 8 aU laU U, wShelf cI cL 2 aK laK K]) X hl.1 hW (c_X0_startTrial l G cI cZ cL N fc aP aNw aGs aTr aO P Nw Gs Tr O u32 hu32) q_600 q_611 q_598 q_599 q_57 hd_X0_startTrial rfl ⟨Nat.le_of_ble_eq_true rfl, Nat.le_of_ble_eq_true rfl⟩ ⟨Nat.zero_le _, Nat.zero_le _⟩ [3, 4, 5, 6, 7, 8] [0, 1, 2, 9, 10, 11] [wBL bl (aTx 0) (aD 0) fc (aP 0) (aNw 0) (aS 0) (aU 0) (aK 0), wText cI aTx Tx, wPlan cI aD D, wFc fc (aP 0) (aNw 0) (aGs 0) (aTr 0) (aO 0), wPlan cI aP P, wLine cI aNw Nw, wPlan cI aGs Gs, wLine cI aTr u32, wOrd cI aO O, wSeen cI cZ aS S, wShelf cI cL 8 aU laU U, wShelf cI cL 2 aK laK K] ⟨pm_12_3_4_5_6_7_8, rfl, rfl, rfl⟩ ⟨pm_12_3_4_5_6_7_8, rfl, rfl, rfl⟩ (q0 := 8) rfl rfl rfl (Nat.le_of_ble_eq_true rfl) dX7_whenOf_32 (fun H locs hW => ?_)
      refine lv_aload_n hx hb dX7_whenOf_35 rfl (lv_at hl 0 rfl) ?_
      refine g_get X hW 0 rfl rfl inX7 2 (by decide) q_368 rfl dX7_whenOf_36 ?_
      refine lv_iload_n hx hb dX7_whenOf_39 rfl (lv_at hl 1 rfl) ?_
      refine lv_iload_n hx hb dX7_whenOf_40 rfl (lv_at hl 2 rfl) ?_
      obtain ⟨u41, hu41, hM⟩ := bind_some hM
      refine g_callVi (rest := []) (gr := [wBL bl (aTx 0) (aD 0) fc (aP 0) (aNw 0) (aS 0) (aU 0) (aK 0), wText cI aTx Tx, wPlan cI aD D, wSeen cI cZ aS S, wShelf cI cL 8 aU laU U, wShelf cI cL 2 aK laK K]) X hl.1 hW (c_X0_whenEaten l G cI cZ cL N fc aP aNw aGs aTr aO P Nw Gs u32 O p1 p2 u41 hu41) q_615 q_612 q_613 q_614 q_57 hd_X0_whenEaten rfl ⟨Nat.le_of_ble_eq_true rfl, Nat.le_of_ble_eq_true rfl⟩ ⟨Nat.zero_le _, Nat.zero_le _⟩ [3, 4, 5, 6, 7, 8] [0, 1, 2, 9, 10, 11] [wBL bl (aTx 0) (aD 0) fc (aP 0) (aNw 0) (aS 0) (aU 0) (aK 0), wText cI aTx Tx, wPlan cI aD D, wFc fc (aP 0) (aNw 0) (aGs 0) (aTr 0) (aO 0), wPlan cI aP P, wLine cI aNw Nw, wPlan cI aGs Gs, wLine cI aTr (u41.2.1, u41.2.2.1, u41.2.2.2.1, u41.2.2.2.2.1, u41.2.2.2.2.2.1, u41.2.2.2.2.2.2.1, u41.2.2.2.2.2.2.2.1, u41.2.2.2.2.2.2.2.2.1, u41.2.2.2.2.2.2.2.2.2), wOrd cI aO O, wSeen cI cZ aS S, wShelf cI cL 8 aU laU U, wShelf cI cL 2 aK laK K] ⟨pm_12_3_4_5_6_7_8, rfl, rfl, rfl⟩ ⟨pm_12_3_4_5_6_7_8, rfl, rfl, rfl⟩ (q0 := 8) rfl rfl rfl (Nat.le_of_ble_eq_true rfl) dX7_whenOf_41 (fun H locs hW => ?_)
      refine lv_istore_n (lv' := [(3, .int u41.1), (0, .ref bl), (1, .int p1), (2, .int p2)]) hx hb dX7_whenOf_44 rfl hl (by decide) rfl (fun ls hl => ?_)
      refine lv_iload_n hx hb dX7_whenOf_45 rfl (lv_at hl 0 rfl) ?_
      refine lv_bipush (v := (99 : Int32)) hx hb dX7_whenOf_46 (by decide) ?_
      refine lv_icmp_le (tgt := 56) hx hb dX7_whenOf_48 (by decide) (fun hc => ?_) (fun hc => ?_)
      · have hM := (if_pos hc).symm.trans hM
        refine lv_iload_n hx hb dX7_whenOf_56 rfl (lv_at hl 0 rfl) ?_
        obtain rfl := Option.some.inj hM
        exact g_reti X hW rfl rfl dX7_whenOf_57
      · have hM := (if_neg hc).symm.trans hM
        refine lv_bipush (v := (-4 : Int32)) hx hb dX7_whenOf_51 (by decide) ?_
        refine lv_goto (tgt := 57) hx hb dX7_whenOf_53 (by decide) ?_
        obtain rfl := Option.some.inj hM
        exact g_reti X hW rfl rfl dX7_whenOf_57
    · have hM := (if_pos hc).symm.trans hM
      refine lv_bipush (v := (-2 : Int32)) hx hb dX7_whenOf_25 (by decide) ?_
      obtain rfl := Option.some.inj hM
      exact g_reti X hW rfl rfl dX7_whenOf_27
  · have hM := (if_pos hc).symm.trans hM
    refine lv_iconst (v := (-1 : Int32)) hx hb dX7_whenOf_11 (by decide) ?_
    obtain rfl := Option.some.inj hM
    exact g_reti X hW rfl rfl dX7_whenOf_12

def MX7_when (N : Nat) (P : PlanV) (Nw : LineV) (Tr : LineV) (p1 : Int32) : Option (Int32 × (Nat → Int32) × (Nat → Int32) × (Nat → Int32) × (Nat → Int32) × (Nat → Int32) × Int32 × Int32 × Int32 × Int32) :=
  (MX7_whenOf N P Nw Tr p1 (0 : Int32)).bind (fun u3 => some (u3.1, u3.2.1, u3.2.2.1, u3.2.2.2.1, u3.2.2.2.2.1, u3.2.2.2.2.2.1, u3.2.2.2.2.2.2.1, u3.2.2.2.2.2.2.2.1, u3.2.2.2.2.2.2.2.2.1, u3.2.2.2.2.2.2.2.2.2))
set_option maxHeartbeats 4000000 in
set_option maxRecDepth 100000 in
theorem c_X7_when (l : Launch) (G : va_G) (cI cZ cL : ClassId) (N : Nat) (bl : Nat) (aTx : Nat → Nat) (aD : Nat → Nat) (fc : Nat) (aP : Nat → Nat) (aNw : Nat → Nat) (aGs : Nat → Nat) (aTr : Nat → Nat) (aO : Nat → Nat) (aS : Nat → Nat) (aU : Nat → Nat) (laU : Nat → Nat → Nat) (aK : Nat → Nat) (laK : Nat → Nat → Nat) (Tx : TextV) (D : PlanV) (P : PlanV) (Nw : LineV) (Gs : PlanV) (Tr : LineV) (O : OrdV) (S : SeenV) (U : ShelfV) (K : ShelfV) (p1 : Int32) (rr : Int32 × (Nat → Int32) × (Nat → Int32) × (Nat → Int32) × (Nat → Int32) × (Nat → Int32) × Int32 × Int32 × Int32 × Int32) (hM : MX7_when N P Nw Tr p1 = some rr) : CtI l yX7_when cX7_when 2 .int 6 138 G cI cZ cL [.ref bl, .int p1] [wBL bl (aTx 0) (aD 0) fc (aP 0) (aNw 0) (aS 0) (aU 0) (aK 0), wText cI aTx Tx, wPlan cI aD D, wFc fc (aP 0) (aNw 0) (aGs 0) (aTr 0) (aO 0), wPlan cI aP P, wLine cI aNw Nw, wPlan cI aGs Gs, wLine cI aTr Tr, wOrd cI aO O, wSeen cI cZ aS S, wShelf cI cL 8 aU laU U, wShelf cI cL 2 aK laK K] rr.1 [wBL bl (aTx 0) (aD 0) fc (aP 0) (aNw 0) (aS 0) (aU 0) (aK 0), wText cI aTx Tx, wPlan cI aD D, wFc fc (aP 0) (aNw 0) (aGs 0) (aTr 0) (aO 0), wPlan cI aP P, wLine cI aNw Nw, wPlan cI aGs Gs, wLine cI aTr (rr.2.1, rr.2.2.1, rr.2.2.2.1, rr.2.2.2.2.1, rr.2.2.2.2.2.1, rr.2.2.2.2.2.2.1, rr.2.2.2.2.2.2.2.1, rr.2.2.2.2.2.2.2.2.1, rr.2.2.2.2.2.2.2.2.2), wOrd cI aO O, wSeen cI cZ aS S, wShelf cI cL 8 aU laU U, wShelf cI cL 2 aK laK K] := by
  refine ct_body (fun A => qI G rr.1 [wBL bl (aTx 0) (aD 0) fc (aP 0) (aNw 0) (aS 0) (aU 0) (aK 0), wText cI aTx Tx, wPlan cI aD D, wFc fc (aP 0) (aNw 0) (aGs 0) (aTr 0) (aO 0), wPlan cI aP P, wLine cI aNw Nw, wPlan cI aGs Gs, wLine cI aTr (rr.2.1, rr.2.2.1, rr.2.2.2.1, rr.2.2.2.2.1, rr.2.2.2.2.2.1, rr.2.2.2.2.2.2.1, rr.2.2.2.2.2.2.2.1, rr.2.2.2.2.2.2.2.2.1, rr.2.2.2.2.2.2.2.2.2), wOrd cI aO O, wSeen cI cZ aS S, wShelf cI cL 8 aU laU U, wShelf cI cL 2 aK laK K] A) (by decide) (Nat.le_of_ble_eq_true rfl) (fun p e s m below meth c A ls X hW hl => ?_)
  have hx := X.1
  have hb := X.2.1
  have hts := X.2.2.2.2.2.1
  have hown := X.2.2.2.2.2.2.1
  have hl : lv_has ls 2 [(0, .ref bl), (1, .int p1)] := hl
  unfold MX7_when at hM
  refine lv_aload_n hx hb dX7_when_0 rfl (lv_at hl 0 rfl) ?_
  refine lv_iload_n hx hb dX7_when_1 rfl (lv_at hl 1 rfl) ?_
  refine lv_iconst (v := (0 : Int32)) hx hb dX7_when_2 (by decide) ?_
  obtain ⟨u3, hu3, hM⟩ := bind_some hM
  refine g_callVi (rest := []) (gr := []) X hl.1 hW (c_X7_whenOf l G cI cZ cL N bl aTx aD fc aP aNw aGs aTr aO aS aU laU aK laK Tx D P Nw Gs Tr O S U K p1 (0 : Int32) u3 hu3) q_610 q_607 q_609 q_12 q_54 hd_X7_whenOf rfl ⟨Nat.le_of_ble_eq_true rfl, Nat.le_of_ble_eq_true rfl⟩ ⟨Nat.zero_le _, Nat.zero_le _⟩ [0, 1, 2, 3, 4, 5, 6, 7, 8, 9, 10, 11] [] [wBL bl (aTx 0) (aD 0) fc (aP 0) (aNw 0) (aS 0) (aU 0) (aK 0), wText cI aTx Tx, wPlan cI aD D, wFc fc (aP 0) (aNw 0) (aGs 0) (aTr 0) (aO 0), wPlan cI aP P, wLine cI aNw Nw, wPlan cI aGs Gs, wLine cI aTr (u3.2.1, u3.2.2.1, u3.2.2.2.1, u3.2.2.2.2.1, u3.2.2.2.2.2.1, u3.2.2.2.2.2.2.1, u3.2.2.2.2.2.2.2.1, u3.2.2.2.2.2.2.2.2.1, u3.2.2.2.2.2.2.2.2.2), wOrd cI aO O, wSeen cI cZ aS S, wShelf cI cL 8 aU laU U, wShelf cI cL 2 aK laK K] ⟨pm_12_0_1_2_3_4_5_6_7_8_9_10_11, rfl, rfl, rfl⟩ ⟨pm_12_0_1_2_3_4_5_6_7_8_9_10_11, rfl, rfl, rfl⟩ (q0 := 0) rfl rfl rfl (Nat.le_of_ble_eq_true rfl) dX7_when_3 (fun H locs hW => ?_)
  obtain rfl := Option.some.inj hM
  exact g_reti X hW rfl rfl dX7_when_6

def MX7_pays (N : Nat) (P : PlanV) (Nw : LineV) (Tr : LineV) : Option (Int32 × (Nat → Int32) × (Nat → Int32) × (Nat → Int32) × (Nat → Int32) × (Nat → Int32) × Int32 × Int32 × Int32 × Int32) :=
  (MX0_whoGains N P Nw Tr (1 : Int32)).bind (fun u5 => some (u5.1, u5.2.1, u5.2.2.1, u5.2.2.2.1, u5.2.2.2.2.1, u5.2.2.2.2.2.1, u5.2.2.2.2.2.2.1, u5.2.2.2.2.2.2.2.1, u5.2.2.2.2.2.2.2.2.1, u5.2.2.2.2.2.2.2.2.2))
set_option maxHeartbeats 4000000 in
set_option maxRecDepth 100000 in
theorem c_X7_pays (l : Launch) (G : va_G) (cI cZ cL : ClassId) (N : Nat) (bl : Nat) (aTx : Nat → Nat) (aD : Nat → Nat) (fc : Nat) (aP : Nat → Nat) (aNw : Nat → Nat) (aGs : Nat → Nat) (aTr : Nat → Nat) (aO : Nat → Nat) (aS : Nat → Nat) (aU : Nat → Nat) (laU : Nat → Nat → Nat) (aK : Nat → Nat) (laK : Nat → Nat → Nat) (Tx : TextV) (D : PlanV) (P : PlanV) (Nw : LineV) (Gs : PlanV) (Tr : LineV) (O : OrdV) (S : SeenV) (U : ShelfV) (K : ShelfV) (rr : Int32 × (Nat → Int32) × (Nat → Int32) × (Nat → Int32) × (Nat → Int32) × (Nat → Int32) × Int32 × Int32 × Int32 × Int32) (hM : MX7_pays N P Nw Tr = some rr) : CtI l yX7_pays cX7_pays 1 .int 6 139 G cI cZ cL [.ref bl] [wBL bl (aTx 0) (aD 0) fc (aP 0) (aNw 0) (aS 0) (aU 0) (aK 0), wText cI aTx Tx, wPlan cI aD D, wFc fc (aP 0) (aNw 0) (aGs 0) (aTr 0) (aO 0), wPlan cI aP P, wLine cI aNw Nw, wPlan cI aGs Gs, wLine cI aTr Tr, wOrd cI aO O, wSeen cI cZ aS S, wShelf cI cL 8 aU laU U, wShelf cI cL 2 aK laK K] rr.1 [wBL bl (aTx 0) (aD 0) fc (aP 0) (aNw 0) (aS 0) (aU 0) (aK 0), wText cI aTx Tx, wPlan cI aD D, wFc fc (aP 0) (aNw 0) (aGs 0) (aTr 0) (aO 0), wPlan cI aP P, wLine cI aNw Nw, wPlan cI aGs Gs, wLine cI aTr (rr.2.1, rr.2.2.1, rr.2.2.2.1, rr.2.2.2.2.1, rr.2.2.2.2.2.1, rr.2.2.2.2.2.2.1, rr.2.2.2.2.2.2.2.1, rr.2.2.2.2.2.2.2.2.1, rr.2.2.2.2.2.2.2.2.2), wOrd cI aO O, wSeen cI cZ aS S, wShelf cI cL 8 aU laU U, wShelf cI cL 2 aK laK K] := by
  refine ct_body (fun A => qI G rr.1 [wBL bl (aTx 0) (aD 0) fc (aP 0) (aNw 0) (aS 0) (aU 0) (aK 0), wText cI aTx Tx, wPlan cI aD D, wFc fc (aP 0) (aNw 0) (aGs 0) (aTr 0) (aO 0), wPlan cI aP P, wLine cI aNw Nw, wPlan cI aGs Gs, wLine cI aTr (rr.2.1, rr.2.2.1, rr.2.2.2.1, rr.2.2.2.2.1, rr.2.2.2.2.2.1, rr.2.2.2.2.2.2.1, rr.2.2.2.2.2.2.2.1, rr.2.2.2.2.2.2.2.2.1, rr.2.2.2.2.2.2.2.2.2), wOrd cI aO O, wSeen cI cZ aS S, wShelf cI cL 8 aU laU U, wShelf cI cL 2 aK laK K] A) (by decide) (Nat.le_of_ble_eq_true rfl) (fun p e s m below meth c A ls X hW hl => ?_)
  have hx := X.1
  have hb := X.2.1
  have hts := X.2.2.2.2.2.1
  have hown := X.2.2.2.2.2.2.1
  have hl : lv_has ls 1 [(0, .ref bl)] := hl
  unfold MX7_pays at hM
  refine lv_aload_n hx hb dX7_pays_0 rfl (lv_at hl 0 rfl) ?_
  refine g_get X hW 0 rfl rfl inX7 2 (by decide) q_368 rfl dX7_pays_1 ?_
  refine lv_iconst (v := (1 : Int32)) hx hb dX7_pays_4 (by decide) ?_
  obtain ⟨u5, hu5, hM⟩ := bind_some hM
  refine g_callVi (rest := []) (gr := [wBL bl (aTx 0) (aD 0) fc (aP 0) (aNw 0) (aS 0) (aU 0) (aK 0), wText cI aTx Tx, wPlan cI aD D, wSeen cI cZ aS S, wShelf cI cL 8 aU laU U, wShelf cI cL 2 aK laK K]) X hl.1 hW (c_X0_whoGains l G cI cZ cL N fc aP aNw aGs aTr aO P Nw Gs Tr O (1 : Int32) u5 hu5) q_626 q_623 q_624 q_625 q_57 hd_X0_whoGains rfl ⟨Nat.le_of_ble_eq_true rfl, Nat.le_of_ble_eq_true rfl⟩ ⟨Nat.zero_le _, Nat.zero_le _⟩ [3, 4, 5, 6, 7, 8] [0, 1, 2, 9, 10, 11] [wBL bl (aTx 0) (aD 0) fc (aP 0) (aNw 0) (aS 0) (aU 0) (aK 0), wText cI aTx Tx, wPlan cI aD D, wFc fc (aP 0) (aNw 0) (aGs 0) (aTr 0) (aO 0), wPlan cI aP P, wLine cI aNw Nw, wPlan cI aGs Gs, wLine cI aTr (u5.2.1, u5.2.2.1, u5.2.2.2.1, u5.2.2.2.2.1, u5.2.2.2.2.2.1, u5.2.2.2.2.2.2.1, u5.2.2.2.2.2.2.2.1, u5.2.2.2.2.2.2.2.2.1, u5.2.2.2.2.2.2.2.2.2), wOrd cI aO O, wSeen cI cZ aS S, wShelf cI cL 8 aU laU U, wShelf cI cL 2 aK laK K] ⟨pm_12_3_4_5_6_7_8, rfl, rfl, rfl⟩ ⟨pm_12_3_4_5_6_7_8, rfl, rfl, rfl⟩ (q0 := 8) rfl rfl rfl (Nat.le_of_ble_eq_true rfl) dX7_pays_5 (fun H locs hW => ?_)
  obtain rfl := Option.some.inj hM
  exact g_reti X hW rfl rfl dX7_pays_8

def MX7_gains (N : Nat) (P : PlanV) (Nw : LineV) (Tr : LineV) : Option (Int32 × (Nat → Int32) × (Nat → Int32) × (Nat → Int32) × (Nat → Int32) × (Nat → Int32) × Int32 × Int32 × Int32 × Int32) :=
  (MX0_whoGains N P Nw Tr (0 : Int32)).bind (fun u5 => some (u5.1, u5.2.1, u5.2.2.1, u5.2.2.2.1, u5.2.2.2.2.1, u5.2.2.2.2.2.1, u5.2.2.2.2.2.2.1, u5.2.2.2.2.2.2.2.1, u5.2.2.2.2.2.2.2.2.1, u5.2.2.2.2.2.2.2.2.2))
set_option maxHeartbeats 4000000 in
set_option maxRecDepth 100000 in
theorem c_X7_gains (l : Launch) (G : va_G) (cI cZ cL : ClassId) (N : Nat) (bl : Nat) (aTx : Nat → Nat) (aD : Nat → Nat) (fc : Nat) (aP : Nat → Nat) (aNw : Nat → Nat) (aGs : Nat → Nat) (aTr : Nat → Nat) (aO : Nat → Nat) (aS : Nat → Nat) (aU : Nat → Nat) (laU : Nat → Nat → Nat) (aK : Nat → Nat) (laK : Nat → Nat → Nat) (Tx : TextV) (D : PlanV) (P : PlanV) (Nw : LineV) (Gs : PlanV) (Tr : LineV) (O : OrdV) (S : SeenV) (U : ShelfV) (K : ShelfV) (rr : Int32 × (Nat → Int32) × (Nat → Int32) × (Nat → Int32) × (Nat → Int32) × (Nat → Int32) × Int32 × Int32 × Int32 × Int32) (hM : MX7_gains N P Nw Tr = some rr) : CtI l yX7_gains cX7_gains 1 .int 6 139 G cI cZ cL [.ref bl] [wBL bl (aTx 0) (aD 0) fc (aP 0) (aNw 0) (aS 0) (aU 0) (aK 0), wText cI aTx Tx, wPlan cI aD D, wFc fc (aP 0) (aNw 0) (aGs 0) (aTr 0) (aO 0), wPlan cI aP P, wLine cI aNw Nw, wPlan cI aGs Gs, wLine cI aTr Tr, wOrd cI aO O, wSeen cI cZ aS S, wShelf cI cL 8 aU laU U, wShelf cI cL 2 aK laK K] rr.1 [wBL bl (aTx 0) (aD 0) fc (aP 0) (aNw 0) (aS 0) (aU 0) (aK 0), wText cI aTx Tx, wPlan cI aD D, wFc fc (aP 0) (aNw 0) (aGs 0) (aTr 0) (aO 0), wPlan cI aP P, wLine cI aNw Nw, wPlan cI aGs Gs, wLine cI aTr (rr.2.1, rr.2.2.1, rr.2.2.2.1, rr.2.2.2.2.1, rr.2.2.2.2.2.1, rr.2.2.2.2.2.2.1, rr.2.2.2.2.2.2.2.1, rr.2.2.2.2.2.2.2.2.1, rr.2.2.2.2.2.2.2.2.2), wOrd cI aO O, wSeen cI cZ aS S, wShelf cI cL 8 aU laU U, wShelf cI cL 2 aK laK K] := by
  refine ct_body (fun A => qI G rr.1 [wBL bl (aTx 0) (aD 0) fc (aP 0) (aNw 0) (aS 0) (aU 0) (aK 0), wText cI aTx Tx, wPlan cI aD D, wFc fc (aP 0) (aNw 0) (aGs 0) (aTr 0) (aO 0), wPlan cI aP P, wLine cI aNw Nw, wPlan cI aGs Gs, wLine cI aTr (rr.2.1, rr.2.2.1, rr.2.2.2.1, rr.2.2.2.2.1, rr.2.2.2.2.2.1, rr.2.2.2.2.2.2.1, rr.2.2.2.2.2.2.2.1, rr.2.2.2.2.2.2.2.2.1, rr.2.2.2.2.2.2.2.2.2), wOrd cI aO O, wSeen cI cZ aS S, wShelf cI cL 8 aU laU U, wShelf cI cL 2 aK laK K] A) (by decide) (Nat.le_of_ble_eq_true rfl) (fun p e s m below meth c A ls X hW hl => ?_)
  have hx := X.1
  have hb := X.2.1
  have hts := X.2.2.2.2.2.1
  have hown := X.2.2.2.2.2.2.1
  have hl : lv_has ls 1 [(0, .ref bl)] := hl
  unfold MX7_gains at hM
  refine lv_aload_n hx hb dX7_gains_0 rfl (lv_at hl 0 rfl) ?_
  refine g_get X hW 0 rfl rfl inX7 2 (by decide) q_368 rfl dX7_gains_1 ?_
  refine lv_iconst (v := (0 : Int32)) hx hb dX7_gains_4 (by decide) ?_
  obtain ⟨u5, hu5, hM⟩ := bind_some hM
  refine g_callVi (rest := []) (gr := [wBL bl (aTx 0) (aD 0) fc (aP 0) (aNw 0) (aS 0) (aU 0) (aK 0), wText cI aTx Tx, wPlan cI aD D, wSeen cI cZ aS S, wShelf cI cL 8 aU laU U, wShelf cI cL 2 aK laK K]) X hl.1 hW (c_X0_whoGains l G cI cZ cL N fc aP aNw aGs aTr aO P Nw Gs Tr O (0 : Int32) u5 hu5) q_626 q_623 q_624 q_625 q_57 hd_X0_whoGains rfl ⟨Nat.le_of_ble_eq_true rfl, Nat.le_of_ble_eq_true rfl⟩ ⟨Nat.zero_le _, Nat.zero_le _⟩ [3, 4, 5, 6, 7, 8] [0, 1, 2, 9, 10, 11] [wBL bl (aTx 0) (aD 0) fc (aP 0) (aNw 0) (aS 0) (aU 0) (aK 0), wText cI aTx Tx, wPlan cI aD D, wFc fc (aP 0) (aNw 0) (aGs 0) (aTr 0) (aO 0), wPlan cI aP P, wLine cI aNw Nw, wPlan cI aGs Gs, wLine cI aTr (u5.2.1, u5.2.2.1, u5.2.2.2.1, u5.2.2.2.2.1, u5.2.2.2.2.2.1, u5.2.2.2.2.2.2.1, u5.2.2.2.2.2.2.2.1, u5.2.2.2.2.2.2.2.2.1, u5.2.2.2.2.2.2.2.2.2), wOrd cI aO O, wSeen cI cZ aS S, wShelf cI cL 8 aU laU U, wShelf cI cL 2 aK laK K] ⟨pm_12_3_4_5_6_7_8, rfl, rfl, rfl⟩ ⟨pm_12_3_4_5_6_7_8, rfl, rfl, rfl⟩ (q0 := 8) rfl rfl rfl (Nat.le_of_ble_eq_true rfl) dX7_gains_5 (fun H locs hW => ?_)
  obtain rfl := Option.some.inj hM
  exact g_reti X hW rfl rfl dX7_gains_8

def MX7_besides (N : Nat) (P : PlanV) (Nw : LineV) (Tr : LineV) (p1 : Int32) : Option (Int32 × (Nat → Int32) × (Nat → Int32) × (Nat → Int32) × (Nat → Int32) × (Nat → Int32) × Int32 × Int32 × Int32 × Int32) :=
  (MX7_whenOf N P Nw Tr p1 (1 : Int32)).bind (fun u3 => some (u3.1, u3.2.1, u3.2.2.1, u3.2.2.2.1, u3.2.2.2.2.1, u3.2.2.2.2.2.1, u3.2.2.2.2.2.2.1, u3.2.2.2.2.2.2.2.1, u3.2.2.2.2.2.2.2.2.1, u3.2.2.2.2.2.2.2.2.2))
set_option maxHeartbeats 4000000 in
set_option maxRecDepth 100000 in
theorem c_X7_besides (l : Launch) (G : va_G) (cI cZ cL : ClassId) (N : Nat) (bl : Nat) (aTx : Nat → Nat) (aD : Nat → Nat) (fc : Nat) (aP : Nat → Nat) (aNw : Nat → Nat) (aGs : Nat → Nat) (aTr : Nat → Nat) (aO : Nat → Nat) (aS : Nat → Nat) (aU : Nat → Nat) (laU : Nat → Nat → Nat) (aK : Nat → Nat) (laK : Nat → Nat → Nat) (Tx : TextV) (D : PlanV) (P : PlanV) (Nw : LineV) (Gs : PlanV) (Tr : LineV) (O : OrdV) (S : SeenV) (U : ShelfV) (K : ShelfV) (p1 : Int32) (rr : Int32 × (Nat → Int32) × (Nat → Int32) × (Nat → Int32) × (Nat → Int32) × (Nat → Int32) × Int32 × Int32 × Int32 × Int32) (hM : MX7_besides N P Nw Tr p1 = some rr) : CtI l yX7_besides cX7_besides 2 .int 6 138 G cI cZ cL [.ref bl, .int p1] [wBL bl (aTx 0) (aD 0) fc (aP 0) (aNw 0) (aS 0) (aU 0) (aK 0), wText cI aTx Tx, wPlan cI aD D, wFc fc (aP 0) (aNw 0) (aGs 0) (aTr 0) (aO 0), wPlan cI aP P, wLine cI aNw Nw, wPlan cI aGs Gs, wLine cI aTr Tr, wOrd cI aO O, wSeen cI cZ aS S, wShelf cI cL 8 aU laU U, wShelf cI cL 2 aK laK K] rr.1 [wBL bl (aTx 0) (aD 0) fc (aP 0) (aNw 0) (aS 0) (aU 0) (aK 0), wText cI aTx Tx, wPlan cI aD D, wFc fc (aP 0) (aNw 0) (aGs 0) (aTr 0) (aO 0), wPlan cI aP P, wLine cI aNw Nw, wPlan cI aGs Gs, wLine cI aTr (rr.2.1, rr.2.2.1, rr.2.2.2.1, rr.2.2.2.2.1, rr.2.2.2.2.2.1, rr.2.2.2.2.2.2.1, rr.2.2.2.2.2.2.2.1, rr.2.2.2.2.2.2.2.2.1, rr.2.2.2.2.2.2.2.2.2), wOrd cI aO O, wSeen cI cZ aS S, wShelf cI cL 8 aU laU U, wShelf cI cL 2 aK laK K] := by
  refine ct_body (fun A => qI G rr.1 [wBL bl (aTx 0) (aD 0) fc (aP 0) (aNw 0) (aS 0) (aU 0) (aK 0), wText cI aTx Tx, wPlan cI aD D, wFc fc (aP 0) (aNw 0) (aGs 0) (aTr 0) (aO 0), wPlan cI aP P, wLine cI aNw Nw, wPlan cI aGs Gs, wLine cI aTr (rr.2.1, rr.2.2.1, rr.2.2.2.1, rr.2.2.2.2.1, rr.2.2.2.2.2.1, rr.2.2.2.2.2.2.1, rr.2.2.2.2.2.2.2.1, rr.2.2.2.2.2.2.2.2.1, rr.2.2.2.2.2.2.2.2.2), wOrd cI aO O, wSeen cI cZ aS S, wShelf cI cL 8 aU laU U, wShelf cI cL 2 aK laK K] A) (by decide) (Nat.le_of_ble_eq_true rfl) (fun p e s m below meth c A ls X hW hl => ?_)
  have hx := X.1
  have hb := X.2.1
  have hts := X.2.2.2.2.2.1
  have hown := X.2.2.2.2.2.2.1
  have hl : lv_has ls 2 [(0, .ref bl), (1, .int p1)] := hl
  unfold MX7_besides at hM
  refine lv_aload_n hx hb dX7_besides_0 rfl (lv_at hl 0 rfl) ?_
  refine lv_iload_n hx hb dX7_besides_1 rfl (lv_at hl 1 rfl) ?_
  refine lv_iconst (v := (1 : Int32)) hx hb dX7_besides_2 (by decide) ?_
  obtain ⟨u3, hu3, hM⟩ := bind_some hM
  refine g_callVi (rest := []) (gr := []) X hl.1 hW (c_X7_whenOf l G cI cZ cL N bl aTx aD fc aP aNw aGs aTr aO aS aU laU aK laK Tx D P Nw Gs Tr O S U K p1 (1 : Int32) u3 hu3) q_610 q_607 q_609 q_12 q_54 hd_X7_whenOf rfl ⟨Nat.le_of_ble_eq_true rfl, Nat.le_of_ble_eq_true rfl⟩ ⟨Nat.zero_le _, Nat.zero_le _⟩ [0, 1, 2, 3, 4, 5, 6, 7, 8, 9, 10, 11] [] [wBL bl (aTx 0) (aD 0) fc (aP 0) (aNw 0) (aS 0) (aU 0) (aK 0), wText cI aTx Tx, wPlan cI aD D, wFc fc (aP 0) (aNw 0) (aGs 0) (aTr 0) (aO 0), wPlan cI aP P, wLine cI aNw Nw, wPlan cI aGs Gs, wLine cI aTr (u3.2.1, u3.2.2.1, u3.2.2.2.1, u3.2.2.2.2.1, u3.2.2.2.2.2.1, u3.2.2.2.2.2.2.1, u3.2.2.2.2.2.2.2.1, u3.2.2.2.2.2.2.2.2.1, u3.2.2.2.2.2.2.2.2.2), wOrd cI aO O, wSeen cI cZ aS S, wShelf cI cL 8 aU laU U, wShelf cI cL 2 aK laK K] ⟨pm_12_0_1_2_3_4_5_6_7_8_9_10_11, rfl, rfl, rfl⟩ ⟨pm_12_0_1_2_3_4_5_6_7_8_9_10_11, rfl, rfl, rfl⟩ (q0 := 0) rfl rfl rfl (Nat.le_of_ble_eq_true rfl) dX7_besides_3 (fun H locs hW => ?_)
  obtain rfl := Option.some.inj hM
  exact g_reti X hW rfl rfl dX7_besides_6

def MX7_family (N : Nat) (P : PlanV) (Nw : LineV) (Gs : PlanV) (Tr : LineV) (O : OrdV) (p1 : Int32) (p2 : Int32) : Option (Int32 × (Nat → Int32) × (Nat → Int32) × (Nat → Int32) × Int32 × Int32 × Int32 × Int32 × (Nat → Int32) × (Nat → Int32) × (Nat → Int32) × (Nat → Int32) × (Nat → Int32) × Int32 × Int32 × Int32 × Int32 × (Nat → Int32) × (Nat → Int32) × Int32) :=
  if p1 < (1 : Int32) then some ((-1 : Int32), Gs.1, Gs.2.1, Gs.2.2.1, Gs.2.2.2.1, Gs.2.2.2.2.1, Gs.2.2.2.2.2.1, Gs.2.2.2.2.2.2, Tr.1, Tr.2.1, Tr.2.2.1, Tr.2.2.2.1, Tr.2.2.2.2.1, Tr.2.2.2.2.2.1, Tr.2.2.2.2.2.2.1, Tr.2.2.2.2.2.2.2.1, Tr.2.2.2.2.2.2.2.2, O.1, O.2.1, O.2.2) else (if (4 : Int32) < p1 then some ((-1 : Int32), Gs.1, Gs.2.1, Gs.2.2.1, Gs.2.2.2.1, Gs.2.2.2.2.1, Gs.2.2.2.2.2.1, Gs.2.2.2.2.2.2, Tr.1, Tr.2.1, Tr.2.2.1, Tr.2.2.2.1, Tr.2.2.2.2.1, Tr.2.2.2.2.2.1, Tr.2.2.2.2.2.2.1, Tr.2.2.2.2.2.2.2.1, Tr.2.2.2.2.2.2.2.2, O.1, O.2.1, O.2.2) else (if p2 < 0 then some ((-1 : Int32), Gs.1, Gs.2.1, Gs.2.2.1, Gs.2.2.2.1, Gs.2.2.2.2.1, Gs.2.2.2.2.2.1, Gs.2.2.2.2.2.2, Tr.1, Tr.2.1, Tr.2.2.1, Tr.2.2.2.1, Tr.2.2.2.2.1, Tr.2.2.2.2.2.1, Tr.2.2.2.2.2.2.1, Tr.2.2.2.2.2.2.2.1, Tr.2.2.2.2.2.2.2.2, O.1, O.2.1, O.2.2) else (if p2 ≤ (5 : Int32) then ((MX2_gather N O P Nw p1).bind (fun u37 => if u37.1 = 0 then some ((-2 : Int32), Gs.1, Gs.2.1, Gs.2.2.1, Gs.2.2.2.1, Gs.2.2.2.2.1, Gs.2.2.2.2.2.1, Gs.2.2.2.2.2.2, Tr.1, Tr.2.1, Tr.2.2.1, Tr.2.2.2.1, Tr.2.2.2.2.1, Tr.2.2.2.2.2.1, Tr.2.2.2.2.2.2.1, Tr.2.2.2.2.2.2.2.1, Tr.2.2.2.2.2.2.2.2, u37.2.1, O.2.1, u37.2.2) else (if p2 ≤ u37.2.2 then ((MX0_bestOrder N P Nw Gs Tr (u37.2.1, O.2.1, u37.2.2)).bind (fun u67 => if p2 = 0 then some (u67.1, u67.2.1, u67.2.2.1, u67.2.2.2.1, u67.2.2.2.2.1, u67.2.2.2.2.2.1, u67.2.2.2.2.2.2.1, u67.2.2.2.2.2.2.2.1, u67.2.2.2.2.2.2.2.2.1, u67.2.2.2.2.2.2.2.2.2.1, u67.2.2.2.2.2.2.2.2.2.2.1, u67.2.2.2.2.2.2.2.2.2.2.2.1, u67.2.2.2.2.2.2.2.2.2.2.2.2.1, u67.2.2.2.2.2.2.2.2.2.2.2.2.2.1, u67.2.2.2.2.2.2.2.2.2.2.2.2.2.2.1, u67.2.2.2.2.2.2.2.2.2.2.2.2.2.2.2.1, u67.2.2.2.2.2.2.2.2.2.2.2.2.2.2.2.2.1, u67.2.2.2.2.2.2.2.2.2.2.2.2.2.2.2.2.2.1, u67.2.2.2.2.2.2.2.2.2.2.2.2.2.2.2.2.2.2, u37.2.2) else ((MX2_bestAt N (u67.2.2.2.2.2.2.2.2.2.2.2.2.2.2.2.2.2.1, u67.2.2.2.2.2.2.2.2.2.2.2.2.2.2.2.2.2.2, u37.2.2) (p2 - (1 : Int32))).bind (fun u89 => some (u89, u67.2.1, u67.2.2.1, u67.2.2.2.1, u67.2.2.2.2.1, u67.2.2.2.2.2.1, u67.2.2.2.2.2.2.1, u67.2.2.2.2.2.2.2.1, u67.2.2.2.2.2.2.2.2.1, u67.2.2.2.2.2.2.2.2.2.1, u67.2.2.2.2.2.2.2.2.2.2.1, u67.2.2.2.2.2.2.2.2.2.2.2.1, u67.2.2.2.2.2.2.2.2.2.2.2.2.1, u67.2.2.2.2.2.2.2.2.2.2.2.2.2.1, u67.2.2.2.2.2.2.2.2.2.2.2.2.2.2.1, u67.2.2.2.2.2.2.2.2.2.2.2.2.2.2.2.1, u67.2.2.2.2.2.2.2.2.2.2.2.2.2.2.2.2.1, u67.2.2.2.2.2.2.2.2.2.2.2.2.2.2.2.2.2.1, u67.2.2.2.2.2.2.2.2.2.2.2.2.2.2.2.2.2.2, u37.2.2))))) else some ((-4 : Int32), Gs.1, Gs.2.1, Gs.2.2.1, Gs.2.2.2.1, Gs.2.2.2.2.1, Gs.2.2.2.2.2.1, Gs.2.2.2.2.2.2, Tr.1, Tr.2.1, Tr.2.2.1, Tr.2.2.2.1, Tr.2.2.2.2.1, Tr.2.2.2.2.2.1, Tr.2.2.2.2.2.2.1, Tr.2.2.2.2.2.2.2.1, Tr.2.2.2.2.2.2.2.2, u37.2.1, O.2.1, u37.2.2)))) else some ((-1 : Int32), Gs.1, Gs.2.1, Gs.2.2.1, Gs.2.2.2.1, Gs.2.2.2.2.1, Gs.2.2.2.2.2.1, Gs.2.2.2.2.2.2, Tr.1, Tr.2.1, Tr.2.2.1, Tr.2.2.2.1, Tr.2.2.2.2.1, Tr.2.2.2.2.2.1, Tr.2.2.2.2.2.2.1, Tr.2.2.2.2.2.2.2.1, Tr.2.2.2.2.2.2.2.2, O.1, O.2.1, O.2.2))))
set_option maxHeartbeats 4000000 in
set_option maxRecDepth 100000 in
theorem c_X7_family (l : Launch) (G : va_G) (cI cZ cL : ClassId) (N : Nat) (bl : Nat) (aTx : Nat → Nat) (aD : Nat → Nat) (fc : Nat) (aP : Nat → Nat) (aNw : Nat → Nat) (aGs : Nat → Nat) (aTr : Nat → Nat) (aO : Nat → Nat) (aS : Nat → Nat) (aU : Nat → Nat) (laU : Nat → Nat → Nat) (aK : Nat → Nat) (laK : Nat → Nat → Nat) (Tx : TextV) (D : PlanV) (P : PlanV) (Nw : LineV) (Gs : PlanV) (Tr : LineV) (O : OrdV) (S : SeenV) (U : ShelfV) (K : ShelfV) (p1 : Int32) (p2 : Int32) (rr : Int32 × (Nat → Int32) × (Nat → Int32) × (Nat → Int32) × Int32 × Int32 × Int32 × Int32 × (Nat → Int32) × (Nat → Int32) × (Nat → Int32) × (Nat → Int32) × (Nat → Int32) × Int32 × Int32 × Int32 × Int32 × (Nat → Int32) × (Nat → Int32) × Int32) (hM : MX7_family N P Nw Gs Tr O p1 p2 = some rr) : CtI l yX7_family cX7_family 4 .int 6 136 G cI cZ cL [.ref bl, .int p1, .int p2] [wBL bl (aTx 0) (aD 0) fc (aP 0) (aNw 0) (aS 0) (aU 0) (aK 0), wText cI aTx Tx, wPlan cI aD D, wFc fc (aP 0) (aNw 0) (aGs 0) (aTr 0) (aO 0), wPlan cI aP P, wLine cI aNw Nw, wPlan cI aGs Gs, wLine cI aTr Tr, wOrd cI aO O, wSeen cI cZ aS S, wShelf cI cL 8 aU laU U, wShelf cI cL 2 aK laK K] rr.1 [wBL bl (aTx 0) (aD 0) fc (aP 0) (aNw 0) (aS 0) (aU 0) (aK 0), wText cI aTx Tx, wPlan cI aD D, wFc fc (aP 0) (aNw 0) (aGs 0) (aTr 0) (aO 0), wPlan cI aP P, wLine cI aNw Nw, wPlan cI aGs (rr.2.1, rr.2.2.1, rr.2.2.2.1, rr.2.2.2.2.1, rr.2.2.2.2.2.1, rr.2.2.2.2.2.2.1, rr.2.2.2.2.2.2.2.1), wLine cI aTr (rr.2.2.2.2.2.2.2.2.1, rr.2.2.2.2.2.2.2.2.2.1, rr.2.2.2.2.2.2.2.2.2.2.1, rr.2.2.2.2.2.2.2.2.2.2.2.1, rr.2.2.2.2.2.2.2.2.2.2.2.2.1, rr.2.2.2.2.2.2.2.2.2.2.2.2.2.1, rr.2.2.2.2.2.2.2.2.2.2.2.2.2.2.1, rr.2.2.2.2.2.2.2.2.2.2.2.2.2.2.2.1, rr.2.2.2.2.2.2.2.2.2.2.2.2.2.2.2.2.1), wOrd cI aO (rr.2.2.2.2.2.2.2.2.2.2.2.2.2.2.2.2.2.1, rr.2.2.2.2.2.2.2.2.2.2.2.2.2.2.2.2.2.2.1, rr.2.2.2.2.2.2.2.2.2.2.2.2.2.2.2.2.2.2.2), wSeen cI cZ aS S, wShelf cI cL 8 aU laU U, wShelf cI cL 2 aK laK K] := by
  refine ct_body (fun A => qI G rr.1 [wBL bl (aTx 0) (aD 0) fc (aP 0) (aNw 0) (aS 0) (aU 0) (aK 0), wText cI aTx Tx, wPlan cI aD D, wFc fc (aP 0) (aNw 0) (aGs 0) (aTr 0) (aO 0), wPlan cI aP P, wLine cI aNw Nw, wPlan cI aGs (rr.2.1, rr.2.2.1, rr.2.2.2.1, rr.2.2.2.2.1, rr.2.2.2.2.2.1, rr.2.2.2.2.2.2.1, rr.2.2.2.2.2.2.2.1), wLine cI aTr (rr.2.2.2.2.2.2.2.2.1, rr.2.2.2.2.2.2.2.2.2.1, rr.2.2.2.2.2.2.2.2.2.2.1, rr.2.2.2.2.2.2.2.2.2.2.2.1, rr.2.2.2.2.2.2.2.2.2.2.2.2.1, rr.2.2.2.2.2.2.2.2.2.2.2.2.2.1, rr.2.2.2.2.2.2.2.2.2.2.2.2.2.2.1, rr.2.2.2.2.2.2.2.2.2.2.2.2.2.2.2.1, rr.2.2.2.2.2.2.2.2.2.2.2.2.2.2.2.2.1), wOrd cI aO (rr.2.2.2.2.2.2.2.2.2.2.2.2.2.2.2.2.2.1, rr.2.2.2.2.2.2.2.2.2.2.2.2.2.2.2.2.2.2.1, rr.2.2.2.2.2.2.2.2.2.2.2.2.2.2.2.2.2.2.2), wSeen cI cZ aS S, wShelf cI cL 8 aU laU U, wShelf cI cL 2 aK laK K] A) (by decide) (Nat.le_of_ble_eq_true rfl) (fun p e s m below meth c A ls X hW hl => ?_)
  have hx := X.1
  have hb := X.2.1
  have hts := X.2.2.2.2.2.1
  have hown := X.2.2.2.2.2.2.1
  have hl : lv_has ls 4 [(0, .ref bl), (1, .int p1), (2, .int p2)] := hl
  unfold MX7_family at hM
  refine lv_iload_n hx hb dX7_family_0 rfl (lv_at hl 1 rfl) ?_
  refine lv_iconst (v := (1 : Int32)) hx hb dX7_family_1 (by decide) ?_
  refine lv_icmp_lt (tgt := 19) hx hb dX7_family_2 (by decide) (fun hc => ?_) (fun hc => ?_)
  · have hM := (if_pos hc).symm.trans hM
    refine lv_iconst (v := (-1 : Int32)) hx hb dX7_family_19 (by decide) ?_
    obtain rfl := Option.some.inj hM
    exact g_reti X hW rfl rfl dX7_family_20
  · have hM := (if_neg hc).symm.trans hM
    refine lv_iload_n hx hb dX7_family_5 rfl (lv_at hl 1 rfl) ?_
    refine lv_iconst (v := (4 : Int32)) hx hb dX7_family_6 (by decide) ?_
    refine lv_icmp_gt (tgt := 19) hx hb dX7_family_7 (by decide) (fun hc => ?_) (fun hc => ?_)
    · have hM := (if_pos hc).symm.trans hM
      refine lv_iconst (v := (-1 : Int32)) hx hb dX7_family_19 (by decide) ?_
      obtain rfl := Option.some.inj hM
      exact g_reti X hW rfl rfl dX7_family_20
    · have hM := (if_neg hc).symm.trans hM
      refine lv_iload_n hx hb dX7_family_10 rfl (lv_at hl 2 rfl) ?_
      refine lv_if_lt (tgt := 19) hx hb dX7_family_11 (by decide) (fun hc => ?_) (fun hc => ?_)
      · have hM := (if_pos hc).symm.trans hM
        refine lv_iconst (v := (-1 : Int32)) hx hb dX7_family_19 (by decide) ?_
        obtain rfl := Option.some.inj hM
        exact g_reti X hW rfl rfl dX7_family_20
      · have hM := (if_neg hc).symm.trans hM
        refine lv_iload_n hx hb dX7_family_14 rfl (lv_at hl 2 rfl) ?_
        refine lv_iconst (v := (5 : Int32)) hx hb dX7_family_15 (by decide) ?_
        refine lv_icmp_le (tgt := 21) hx hb dX7_family_16 (by decide) (fun hc => ?_) (fun hc => ?_)
        · have hM := (if_pos hc).symm.trans hM
          refine lv_aload_n hx hb dX7_family_21 rfl (lv_at hl 0 rfl) ?_
          refine g_get X hW 0 rfl rfl inX7 2 (by decide) q_368 rfl dX7_family_22 ?_
          refine g_getN X hW 8 rfl rfl inX0 4 (by decide) nt_23 rfl dX7_family_25 ?_
          refine lv_aload_n hx hb dX7_family_28 rfl (lv_at hl 0 rfl) ?_
          refine g_get X hW 0 rfl rfl inX7 3 (by decide) q_369 rfl dX7_family_29 ?_
          refine lv_aload_n hx hb dX7_family_32 rfl (lv_at hl 0 rfl) ?_
          refine g_get X hW 0 rfl rfl inX7 4 (by decide) q_370 rfl dX7_family_33 ?_
          refine lv_iload_n hx hb dX7_family_36 rfl (lv_at hl 1 rfl) ?_
          obtain ⟨u37, hu37, hM⟩ := bind_some hM
          refine g_callVi (rest := []) (gr := [wBL bl (aTx 0) (aD 0) fc (aP 0) (aNw 0) (aS 0) (aU 0) (aK 0), wText cI aTx Tx, wPlan cI aD D, wFc fc (aP 0) (aNw 0) (aGs 0) (aTr 0) (aO 0), wPlan cI aGs Gs, wLine cI aTr Tr, wSeen cI cZ aS S, wShelf cI cL 8 aU laU U, wShelf cI cL 2 aK laK K]) X hl.1 hW (c_X2_gather l G cI cZ cL N aO aP aNw O P Nw p1 u37 hu37) q_650 q_647 q_648 q_649 q_59 hd_X2_gather rfl ⟨Nat.le_of_ble_eq_true rfl, Nat.le_of_ble_eq_true rfl⟩ ⟨Nat.zero_le _, Nat.zero_le _⟩ [8, 4, 5] [0, 1, 2, 3, 6, 7, 9, 10, 11] [wBL bl (aTx 0) (aD 0) fc (aP 0) (aNw 0) (aS 0) (aU 0) (aK 0), wText cI aTx Tx, wPlan cI aD D, wFc fc (aP 0) (aNw 0) (aGs 0) (aTr 0) (aO 0), wPlan cI aP P, wLine cI aNw Nw, wPlan cI aGs Gs, wLine cI aTr Tr, wOrd cI aO (u37.2.1, O.2.1, u37.2.2), wSeen cI cZ aS S, wShelf cI cL 8 aU laU U, wShelf cI cL 2 aK laK K] ⟨pm_12_8_4_5, rfl, rfl, rfl⟩ ⟨pm_12_8_4_5, rfl, rfl, rfl⟩ (q0 := 29) rfl rfl rfl (Nat.le_of_ble_eq_true rfl) dX7_family_37 (fun H locs hW => ?_)
          refine lv_if_ne (tgt := 46) hx hb dX7_family_40 (by decide) (fun hc => ?_) (fun hc => ?_)
          · have hM := (if_neg hc).symm.trans hM
            refine lv_iload_n hx hb dX7_family_46 rfl (lv_at hl 2 rfl) ?_
            refine lv_aload_n hx hb dX7_family_47 rfl (lv_at hl 0 rfl) ?_
            refine g_get X hW 0 rfl rfl inX7 2 (by decide) q_368 rfl dX7_family_48 ?_
            refine g_getN X hW 8 rfl rfl inX0 4 (by decide) nt_23 rfl dX7_family_51 ?_
            refine g_getN X hW 29 rfl rfl inX2 2 (by decide) nt_20 rfl dX7_family_54 ?_
            refine lv_icmp_le (tgt := 63) hx hb dX7_family_57 (by decide) (fun hc => ?_) (fun hc => ?_)
            · have hM := (if_pos hc).symm.trans hM
              refine lv_aload_n hx hb dX7_family_63 rfl (lv_at hl 0 rfl) ?_
              refine g_get X hW 0 rfl rfl inX7 2 (by decide) q_368 rfl dX7_family_64 ?_
              obtain ⟨u67, hu67, hM⟩ := bind_some hM
              refine g_callVi (rest := []) (gr := [wBL bl (aTx 0) (aD 0) fc (aP 0) (aNw 0) (aS 0) (aU 0) (aK 0), wText cI aTx Tx, wPlan cI aD D, wSeen cI cZ aS S, wShelf cI cL 8 aU laU U, wShelf cI cL 2 aK laK K]) X hl.1 hW (c_X0_bestOrder l G cI cZ cL N fc aP aNw aGs aTr aO P Nw Gs Tr (u37.2.1, O.2.1, u37.2.2) u67 hu67) q_656 q_653 q_654 q_655 q_57 hd_X0_bestOrder rfl ⟨Nat.le_of_ble_eq_true rfl, Nat.le_of_ble_eq_true rfl⟩ ⟨Nat.zero_le _, Nat.zero_le _⟩ [3, 4, 5, 6, 7, 8] [0, 1, 2, 9, 10, 11] [wBL bl (aTx 0) (aD 0) fc (aP 0) (aNw 0) (aS 0) (aU 0) (aK 0), wText cI aTx Tx, wPlan cI aD D, wFc fc (aP 0) (aNw 0) (aGs 0) (aTr 0) (aO 0), wPlan cI aP P, wLine cI aNw Nw, wPlan cI aGs (u67.2.1, u67.2.2.1, u67.2.2.2.1, u67.2.2.2.2.1, u67.2.2.2.2.2.1, u67.2.2.2.2.2.2.1, u67.2.2.2.2.2.2.2.1), wLine cI aTr (u67.2.2.2.2.2.2.2.2.1, u67.2.2.2.2.2.2.2.2.2.1, u67.2.2.2.2.2.2.2.2.2.2.1, u67.2.2.2.2.2.2.2.2.2.2.2.1, u67.2.2.2.2.2.2.2.2.2.2.2.2.1, u67.2.2.2.2.2.2.2.2.2.2.2.2.2.1, u67.2.2.2.2.2.2.2.2.2.2.2.2.2.2.1, u67.2.2.2.2.2.2.2.2.2.2.2.2.2.2.2.1, u67.2.2.2.2.2.2.2.2.2.2.2.2.2.2.2.2.1), wOrd cI aO (u67.2.2.2.2.2.2.2.2.2.2.2.2.2.2.2.2.2.1, u67.2.2.2.2.2.2.2.2.2.2.2.2.2.2.2.2.2.2, u37.2.2), wSeen cI cZ aS S, wShelf cI cL 8 aU laU U, wShelf cI cL 2 aK laK K] ⟨pm_12_3_4_5_6_7_8, rfl, rfl, rfl⟩ ⟨pm_12_3_4_5_6_7_8, rfl, rfl, rfl⟩ (q0 := 8) rfl rfl rfl (Nat.le_of_ble_eq_true rfl) dX7_family_67 (fun H locs hW => ?_)
              refine lv_istore_n (lv' := [(3, .int u67.1), (0, .ref bl), (1, .int p1), (2, .int p2)]) hx hb dX7_family_70 rfl hl (by decide) rfl (fun ls hl => ?_)
              refine lv_iload_n hx hb dX7_family_71 rfl (lv_at hl 3 rfl) ?_
              refine lv_if_ne (tgt := 79) hx hb dX7_family_72 (by decide) (fun hc => ?_) (fun hc => ?_)
              · have hM := (if_neg hc).symm.trans hM
                refine lv_aload_n hx hb dX7_family_79 rfl (lv_at hl 1 rfl) ?_
                refine g_get X hW 0 rfl rfl inX7 2 (by decide) q_368 rfl dX7_family_80 ?_
                refine g_getN X hW 8 rfl rfl inX0 4 (by decide) nt_23 rfl dX7_family_83 ?_
                refine lv_iload_n hx hb dX7_family_86 rfl (lv_at hl 3 rfl) ?_
                refine lv_iconst (v := (1 : Int32)) hx hb dX7_family_87 (by decide) ?_
                refine lv_isub hx hb dX7_family_88 ?_
                obtain ⟨u89, hu89, hM⟩ := bind_some hM
                refine g_callVi (rest := []) (gr := [wBL bl (aTx 0) (aD 0) fc (aP 0) (aNw 0) (aS 0) (aU 0) (aK 0), wText cI aTx Tx, wPlan cI aD D, wFc fc (aP 0) (aNw 0) (aGs 0) (aTr 0) (aO 0), wPlan cI aP P, wLine cI aNw Nw, wPlan cI aGs (u67.2.1, u67.2.2.1, u67.2.2.2.1, u67.2.2.2.2.1, u67.2.2.2.2.2.1, u67.2.2.2.2.2.2.1, u67.2.2.2.2.2.2.2.1), wLine cI aTr (u67.2.2.2.2.2.2.2.2.1, u67.2.2.2.2.2.2.2.2.2.1, u67.2.2.2.2.2.2.2.2.2.2.1, u67.2.2.2.2.2.2.2.2.2.2.2.1, u67.2.2.2.2.2.2.2.2.2.2.2.2.1, u67.2.2.2.2.2.2.2.2.2.2.2.2.2.1, u67.2.2.2.2.2.2.2.2.2.2.2.2.2.2.1, u67.2.2.2.2.2.2.2.2.2.2.2.2.2.2.2.1, u67.2.2.2.2.2.2.2.2.2.2.2.2.2.2.2.2.1), wSeen cI cZ aS S, wShelf cI cL 8 aU laU U, wShelf cI cL 2 aK laK K]) X hl.1 hW (c_X2_bestAt l G cI cZ cL N aO (u67.2.2.2.2.2.2.2.2.2.2.2.2.2.2.2.2.2.1, u67.2.2.2.2.2.2.2.2.2.2.2.2.2.2.2.2.2.2, u37.2.2) (p2 - (1 : Int32)) u89 hu89) q_696 q_693 q_694 q_695 q_59 hd_X2_bestAt rfl ⟨Nat.le_of_ble_eq_true rfl, Nat.le_of_ble_eq_true rfl⟩ ⟨Nat.zero_le _, Nat.zero_le _⟩ [8] [0, 1, 2, 3, 4, 5, 6, 7, 9, 10, 11] [wBL bl (aTx 0) (aD 0) fc (aP 0) (aNw 0) (aS 0) (aU 0) (aK 0), wText cI aTx Tx, wPlan cI aD D, wFc fc (aP 0) (aNw 0) (aGs 0) (aTr 0) (aO 0), wPlan cI aP P, wLine cI aNw Nw, wPlan cI aGs (u67.2.1, u67.2.2.1, u67.2.2.2.1, u67.2.2.2.2.1, u67.2.2.2.2.2.1, u67.2.2.2.2.2.2.1, u67.2.2.2.2.2.2.2.1), wLine cI aTr (u67.2.2.2.2.2.2.2.2.1, u67.2.2.2.2.2.2.2.2.2.1, u67.2.2.2.2.2.2.2.2.2.2.1, u67.2.2.2.2.2.2.2.2.2.2.2.1, u67.2.2.2.2.2.2.2.2.2.2.2.2.1, u67.2.2.2.2.2.2.2.2.2.2.2.2.2.1, u67.2.2.2.2.2.2.2.2.2.2.2.2.2.2.1, u67.2.2.2.2.2.2.2.2.2.2.2.2.2.2.2.1, u67.2.2.2.2.2.2.2.2.2.2.2.2.2.2.2.2.1), wOrd cI aO (u67.2.2.2.2.2.2.2.2.2.2.2.2.2.2.2.2.2.1, u67.2.2.2.2.2.2.2.2.2.2.2.2.2.2.2.2.2.2, u37.2.2), wSeen cI cZ aS S, wShelf cI cL 8 aU laU U, wShelf cI cL 2 aK laK K] ⟨pm_12_8, rfl, rfl, rfl⟩ ⟨pm_12_8, rfl, rfl, rfl⟩ (q0 := 29) rfl rfl rfl (Nat.le_of_ble_eq_true rfl) dX7_family_89 (fun H locs hW => ?_)
                obtain rfl := Option.some.inj hM
                exact g_reti X hW rfl rfl dX7_family_92
              · have hM := (if_pos hc).symm.trans hM
                refine lv_iload_n hx hb dX7_family_75 rfl (lv_at hl 0 rfl) ?_
                refine lv_goto (tgt := 92) hx hb dX7_family_76 (by decide) ?_
                obtain rfl := Option.some.inj hM
                exact g_reti X hW rfl rfl dX7_family_92
            · have hM := (if_neg hc).symm.trans hM
              refine lv_bipush (v := (-4 : Int32)) hx hb dX7_family_60 (by decide) ?_
              obtain rfl := Option.some.inj hM
              exact g_reti X hW rfl rfl dX7_family_62
          · have hM := (if_pos hc).symm.trans hM
            refine lv_bipush (v := (-2 : Int32)) hx hb dX7_family_43 (by decide) ?_
            obtain rfl := Option.some.inj hM
            exact g_reti X hW rfl rfl dX7_family_45
        · have hM := (if_neg hc).symm.trans hM
          refine lv_iconst (v := (-1 : Int32)) hx hb dX7_family_19 (by decide) ?_
          obtain rfl := Option.some.inj hM
          exact g_reti X hW rfl rfl dX7_family_20

def MX7_warmth (N : Nat) (P : PlanV) (Nw : LineV) (Tr : LineV) (p1 : Int32) : Option (Int32 × (Nat → Int32) × (Nat → Int32) × (Nat → Int32) × (Nat → Int32) × (Nat → Int32) × Int32 × Int32 × Int32 × Int32) :=
  if p1 < 0 then some ((-1 : Int32), Tr.1, Tr.2.1, Tr.2.2.1, Tr.2.2.2.1, Tr.2.2.2.2.1, Tr.2.2.2.2.2.1, Tr.2.2.2.2.2.2.1, Tr.2.2.2.2.2.2.2.1, Tr.2.2.2.2.2.2.2.2) else (if p1 ≤ (60 : Int32) then ((MX0_lineBehind N P Nw Tr p1).bind (fun u17 => some (u17.2.2.2.2.2.2.2.2 - Nw.2.2.2.2.2.2.2.2, u17.1, u17.2.1, u17.2.2.1, u17.2.2.2.1, u17.2.2.2.2.1, u17.2.2.2.2.2.1, u17.2.2.2.2.2.2.1, u17.2.2.2.2.2.2.2.1, u17.2.2.2.2.2.2.2.2))) else some ((-1 : Int32), Tr.1, Tr.2.1, Tr.2.2.1, Tr.2.2.2.1, Tr.2.2.2.2.1, Tr.2.2.2.2.2.1, Tr.2.2.2.2.2.2.1, Tr.2.2.2.2.2.2.2.1, Tr.2.2.2.2.2.2.2.2))
set_option maxHeartbeats 4000000 in
set_option maxRecDepth 100000 in
theorem c_X7_warmth (l : Launch) (G : va_G) (cI cZ cL : ClassId) (N : Nat) (bl : Nat) (aTx : Nat → Nat) (aD : Nat → Nat) (fc : Nat) (aP : Nat → Nat) (aNw : Nat → Nat) (aGs : Nat → Nat) (aTr : Nat → Nat) (aO : Nat → Nat) (aS : Nat → Nat) (aU : Nat → Nat) (laU : Nat → Nat → Nat) (aK : Nat → Nat) (laK : Nat → Nat → Nat) (Tx : TextV) (D : PlanV) (P : PlanV) (Nw : LineV) (Gs : PlanV) (Tr : LineV) (O : OrdV) (S : SeenV) (U : ShelfV) (K : ShelfV) (p1 : Int32) (rr : Int32 × (Nat → Int32) × (Nat → Int32) × (Nat → Int32) × (Nat → Int32) × (Nat → Int32) × Int32 × Int32 × Int32 × Int32) (hM : MX7_warmth N P Nw Tr p1 = some rr) : CtI l yX7_warmth cX7_warmth 2 .int 6 136 G cI cZ cL [.ref bl, .int p1] [wBL bl (aTx 0) (aD 0) fc (aP 0) (aNw 0) (aS 0) (aU 0) (aK 0), wText cI aTx Tx, wPlan cI aD D, wFc fc (aP 0) (aNw 0) (aGs 0) (aTr 0) (aO 0), wPlan cI aP P, wLine cI aNw Nw, wPlan cI aGs Gs, wLine cI aTr Tr, wOrd cI aO O, wSeen cI cZ aS S, wShelf cI cL 8 aU laU U, wShelf cI cL 2 aK laK K] rr.1 [wBL bl (aTx 0) (aD 0) fc (aP 0) (aNw 0) (aS 0) (aU 0) (aK 0), wText cI aTx Tx, wPlan cI aD D, wFc fc (aP 0) (aNw 0) (aGs 0) (aTr 0) (aO 0), wPlan cI aP P, wLine cI aNw Nw, wPlan cI aGs Gs, wLine cI aTr (rr.2.1, rr.2.2.1, rr.2.2.2.1, rr.2.2.2.2.1, rr.2.2.2.2.2.1, rr.2.2.2.2.2.2.1, rr.2.2.2.2.2.2.2.1, rr.2.2.2.2.2.2.2.2.1, rr.2.2.2.2.2.2.2.2.2), wOrd cI aO O, wSeen cI cZ aS S, wShelf cI cL 8 aU laU U, wShelf cI cL 2 aK laK K] := by
  refine ct_body (fun A => qI G rr.1 [wBL bl (aTx 0) (aD 0) fc (aP 0) (aNw 0) (aS 0) (aU 0) (aK 0), wText cI aTx Tx, wPlan cI aD D, wFc fc (aP 0) (aNw 0) (aGs 0) (aTr 0) (aO 0), wPlan cI aP P, wLine cI aNw Nw, wPlan cI aGs Gs, wLine cI aTr (rr.2.1, rr.2.2.1, rr.2.2.2.1, rr.2.2.2.2.1, rr.2.2.2.2.2.1, rr.2.2.2.2.2.2.1, rr.2.2.2.2.2.2.2.1, rr.2.2.2.2.2.2.2.2.1, rr.2.2.2.2.2.2.2.2.2), wOrd cI aO O, wSeen cI cZ aS S, wShelf cI cL 8 aU laU U, wShelf cI cL 2 aK laK K] A) (by decide) (Nat.le_of_ble_eq_true rfl) (fun p e s m below meth c A ls X hW hl => ?_)
  have hx := X.1
  have hb := X.2.1
  have hts := X.2.2.2.2.2.1
  have hown := X.2.2.2.2.2.2.1
  have hl : lv_has ls 2 [(0, .ref bl), (1, .int p1)] := hl
  unfold MX7_warmth at hM
  refine lv_iload_n hx hb dX7_warmth_0 rfl (lv_at hl 1 rfl) ?_
  refine lv_if_lt (tgt := 10) hx hb dX7_warmth_1 (by decide) (fun hc => ?_) (fun hc => ?_)
  · have hM := (if_pos hc).symm.trans hM
    refine lv_iconst (v := (-1 : Int32)) hx hb dX7_warmth_10 (by decide) ?_
    obtain rfl := Option.some.inj hM
    exact g_reti X hW rfl rfl dX7_warmth_11
  · have hM := (if_neg hc).symm.trans hM
    refine lv_iload_n hx hb dX7_warmth_4 rfl (lv_at hl 1 rfl) ?_
    refine lv_bipush (v := (60 : Int32)) hx hb dX7_warmth_5 (by decide) ?_
    refine lv_icmp_le (tgt := 12) hx hb dX7_warmth_7 (by decide) (fun hc => ?_) (fun hc => ?_)
    · have hM := (if_pos hc).symm.trans hM
      refine lv_aload_n hx hb dX7_warmth_12 rfl (lv_at hl 0 rfl) ?_
      refine g_get X hW 0 rfl rfl inX7 2 (by decide) q_368 rfl dX7_warmth_13 ?_
      refine lv_iload_n hx hb dX7_warmth_16 rfl (lv_at hl 1 rfl) ?_
      obtain ⟨u17, hu17, hM⟩ := bind_some hM
      refine g_callVr (rest := []) (gr := [wBL bl (aTx 0) (aD 0) fc (aP 0) (aNw 0) (aS 0) (aU 0) (aK 0), wText cI aTx Tx, wPlan cI aD D, wSeen cI cZ aS S, wShelf cI cL 8 aU laU U, wShelf cI cL 2 aK laK K]) X hl.1 hW (c_X0_lineBehind l G cI cZ cL N fc aP aNw aGs aTr aO P Nw Gs Tr O p1 u17 hu17) q_596 q_593 q_594 q_595 q_57 hd_X0_lineBehind rfl ⟨Nat.le_of_ble_eq_true rfl, Nat.le_of_ble_eq_true rfl⟩ ⟨Nat.zero_le _, Nat.zero_le _⟩ [3, 4, 5, 6, 7, 8] [0, 1, 2, 9, 10, 11] [wBL bl (aTx 0) (aD 0) fc (aP 0) (aNw 0) (aS 0) (aU 0) (aK 0), wText cI aTx Tx, wPlan cI aD D, wFc fc (aP 0) (aNw 0) (aGs 0) (aTr 0) (aO 0), wPlan cI aP P, wLine cI aNw Nw, wPlan cI aGs Gs, wLine cI aTr u17, wOrd cI aO O, wSeen cI cZ aS S, wShelf cI cL 8 aU laU U, wShelf cI cL 2 aK laK K] ⟨pm_12_3_4_5_6_7_8, rfl, rfl, rfl⟩ ⟨pm_12_3_4_5_6_7_8, rfl, rfl, rfl⟩ (q0 := 8) rfl rfl rfl (Nat.le_of_ble_eq_true rfl) dX7_warmth_17 (fun H locs hW => ?_)
      refine g_getN X hW 23 rfl rfl inX1 8 (by decide) nt_18 rfl dX7_warmth_20 ?_
      refine lv_aload_n hx hb dX7_warmth_23 rfl (lv_at hl 0 rfl) ?_
      refine g_get X hW 0 rfl rfl inX7 4 (by decide) q_370 rfl dX7_warmth_24 ?_
      refine g_getN X hW 13 rfl rfl inX1 8 (by decide) nt_18 rfl dX7_warmth_27 ?_
      refine lv_isub hx hb dX7_warmth_30 ?_
      obtain rfl := Option.some.inj hM
      exact g_reti X hW rfl rfl dX7_warmth_31
    · have hM := (if_neg hc).symm.trans hM
      refine lv_iconst (v := (-1 : Int32)) hx hb dX7_warmth_10 (by decide) ?_
      obtain rfl := Option.some.inj hM
      exact g_reti X hW rfl rfl dX7_warmth_11

def MX7_see (N : Nat) (P : PlanV) (S : SeenV) (p1 : Int32) (p2 : Int32) (p3 : Int32) : Option (Int32 × (Nat → Int32) × (Nat → Int32) × (Nat → Int32) × Int32) :=
  (MX3_has N P p1).bind (fun u5 => if u5 = 0 then some ((-1 : Int32), S.1, S.2.1, S.2.2.1, S.2.2.2) else (if p2 < (1 : Int32) then some ((-1 : Int32), S.1, S.2.1, S.2.2.1, S.2.2.2) else (if p2 ≤ (60 : Int32) then ((MX4_add N S p1 p2 p3).bind (fun u31 => if u31.1 = 0 then some ((-3 : Int32), u31.2.1, u31.2.2.1, u31.2.2.2.1, u31.2.2.2.2) else some (u31.2.2.2.2, u31.2.1, u31.2.2.1, u31.2.2.2.1, u31.2.2.2.2))) else some ((-1 : Int32), S.1, S.2.1, S.2.2.1, S.2.2.2))))
set_option maxHeartbeats 4000000 in
set_option maxRecDepth 100000 in
theorem c_X7_see (l : Launch) (G : va_G) (cI cZ cL : ClassId) (N : Nat) (bl : Nat) (aTx : Nat → Nat) (aD : Nat → Nat) (fc : Nat) (aP : Nat → Nat) (aNw : Nat → Nat) (aGs : Nat → Nat) (aTr : Nat → Nat) (aO : Nat → Nat) (aS : Nat → Nat) (aU : Nat → Nat) (laU : Nat → Nat → Nat) (aK : Nat → Nat) (laK : Nat → Nat → Nat) (Tx : TextV) (D : PlanV) (P : PlanV) (Nw : LineV) (Gs : PlanV) (Tr : LineV) (O : OrdV) (S : SeenV) (U : ShelfV) (K : ShelfV) (p1 : Int32) (p2 : Int32) (p3 : Int32) (rr : Int32 × (Nat → Int32) × (Nat → Int32) × (Nat → Int32) × Int32) (hM : MX7_see N P S p1 p2 p3 = some rr) : CtI l yX7_see cX7_see 4 .int 1 23 G cI cZ cL [.ref bl, .int p1, .int p2, .int p3] [wBL bl (aTx 0) (aD 0) fc (aP 0) (aNw 0) (aS 0) (aU 0) (aK 0), wText cI aTx Tx, wPlan cI aD D, wFc fc (aP 0) (aNw 0) (aGs 0) (aTr 0) (aO 0), wPlan cI aP P, wLine cI aNw Nw, wPlan cI aGs Gs, wLine cI aTr Tr, wOrd cI aO O, wSeen cI cZ aS S, wShelf cI cL 8 aU laU U, wShelf cI cL 2 aK laK K] rr.1 [wBL bl (aTx 0) (aD 0) fc (aP 0) (aNw 0) (aS 0) (aU 0) (aK 0), wText cI aTx Tx, wPlan cI aD D, wFc fc (aP 0) (aNw 0) (aGs 0) (aTr 0) (aO 0), wPlan cI aP P, wLine cI aNw Nw, wPlan cI aGs Gs, wLine cI aTr Tr, wOrd cI aO O, wSeen cI cZ aS (rr.2.1, rr.2.2.1, rr.2.2.2.1, rr.2.2.2.2), wShelf cI cL 8 aU laU U, wShelf cI cL 2 aK laK K] := by
  refine ct_body (fun A => qI G rr.1 [wBL bl (aTx 0) (aD 0) fc (aP 0) (aNw 0) (aS 0) (aU 0) (aK 0), wText cI aTx Tx, wPlan cI aD D, wFc fc (aP 0) (aNw 0) (aGs 0) (aTr 0) (aO 0), wPlan cI aP P, wLine cI aNw Nw, wPlan cI aGs Gs, wLine cI aTr Tr, wOrd cI aO O, wSeen cI cZ aS (rr.2.1, rr.2.2.1, rr.2.2.2.1, rr.2.2.2.2), wShelf cI cL 8 aU laU U, wShelf cI cL 2 aK laK K] A) (by decide) (Nat.le_of_ble_eq_true rfl) (fun p e s m below meth c A ls X hW hl => ?_)
  have hx := X.1
  have hb := X.2.1
  have hts := X.2.2.2.2.2.1
  have hown := X.2.2.2.2.2.2.1
  have hl : lv_has ls 4 [(0, .ref bl), (1, .int p1), (2, .int p2), (3, .int p3)] := hl
  unfold MX7_see at hM
  refine lv_aload_n hx hb dX7_see_0 rfl (lv_at hl 0 rfl) ?_
  refine g_get X hW 0 rfl rfl inX7 3 (by decide) q_369 rfl dX7_see_1 ?_
  refine lv_iload_n hx hb dX7_see_4 rfl (lv_at hl 1 rfl) ?_
  obtain ⟨u5, hu5, hM⟩ := bind_some hM
  refine g_callVi (rest := []) (gr := [wBL bl (aTx 0) (aD 0) fc (aP 0) (aNw 0) (aS 0) (aU 0) (aK 0), wText cI aTx Tx, wPlan cI aD D, wFc fc (aP 0) (aNw 0) (aGs 0) (aTr 0) (aO 0), wLine cI aNw Nw, wPlan cI aGs Gs, wLine cI aTr Tr, wOrd cI aO O, wSeen cI cZ aS S, wShelf cI cL 8 aU laU U, wShelf cI cL 2 aK laK K]) X hl.1 hW (c_X3_has l G cI cZ cL N aP P p1 u5 hu5) q_434 q_431 q_432 q_433 q_56 hd_X3_has rfl ⟨Nat.le_of_ble_eq_true rfl, Nat.le_of_ble_eq_true rfl⟩ ⟨Nat.zero_le _, Nat.zero_le _⟩ [4] [0, 1, 2, 3, 5, 6, 7, 8, 9, 10, 11] [wBL bl (aTx 0) (aD 0) fc (aP 0) (aNw 0) (aS 0) (aU 0) (aK 0), wText cI aTx Tx, wPlan cI aD D, wFc fc (aP 0) (aNw 0) (aGs 0) (aTr 0) (aO 0), wPlan cI aP P, wLine cI aNw Nw, wPlan cI aGs Gs, wLine cI aTr Tr, wOrd cI aO O, wSeen cI cZ aS S, wShelf cI cL 8 aU laU U, wShelf cI cL 2 aK laK K] ⟨pm_12_4, rfl, rfl, rfl⟩ ⟨pm_12_4, rfl, rfl, rfl⟩ (q0 := 9) rfl rfl rfl (Nat.le_of_ble_eq_true rfl) dX7_see_5 (fun H locs hW => ?_)
  refine lv_if_eq (tgt := 22) hx hb dX7_see_8 (by decide) (fun hc => ?_) (fun hc => ?_)
  · have hM := (if_pos hc).symm.trans hM
    refine lv_iconst (v := (-1 : Int32)) hx hb dX7_see_22 (by decide) ?_
    obtain rfl := Option.some.inj hM
    exact g_reti X hW rfl rfl dX7_see_23
  · have hM := (if_neg hc).symm.trans hM
    refine lv_iload_n hx hb dX7_see_11 rfl (lv_at hl 2 rfl) ?_
    refine lv_iconst (v := (1 : Int32)) hx hb dX7_see_12 (by decide) ?_
    refine lv_icmp_lt (tgt := 22) hx hb dX7_see_13 (by decide) (fun hc => ?_) (fun hc => ?_)
    · have hM := (if_pos hc).symm.trans hM
      refine lv_iconst (v := (-1 : Int32)) hx hb dX7_see_22 (by decide) ?_
      obtain rfl := Option.some.inj hM
      exact g_reti X hW rfl rfl dX7_see_23
    · have hM := (if_neg hc).symm.trans hM
      refine lv_iload_n hx hb dX7_see_16 rfl (lv_at hl 2 rfl) ?_
      refine lv_bipush (v := (60 : Int32)) hx hb dX7_see_17 (by decide) ?_
      refine lv_icmp_le (tgt := 24) hx hb dX7_see_19 (by decide) (fun hc => ?_) (fun hc => ?_)
      · have hM := (if_pos hc).symm.trans hM
        refine lv_aload_n hx hb dX7_see_24 rfl (lv_at hl 0 rfl) ?_
        refine g_get X hW 0 rfl rfl inX7 5 (by decide) q_371 rfl dX7_see_25 ?_
        refine lv_iload_n hx hb dX7_see_28 rfl (lv_at hl 1 rfl) ?_
        refine lv_iload_n hx hb dX7_see_29 rfl (lv_at hl 2 rfl) ?_
        refine lv_iload_n hx hb dX7_see_30 rfl (lv_at hl 3 rfl) ?_
        obtain ⟨u31, hu31, hM⟩ := bind_some hM
        refine g_callVi (rest := []) (gr := [wBL bl (aTx 0) (aD 0) fc (aP 0) (aNw 0) (aS 0) (aU 0) (aK 0), wText cI aTx Tx, wPlan cI aD D, wFc fc (aP 0) (aNw 0) (aGs 0) (aTr 0) (aO 0), wPlan cI aP P, wLine cI aNw Nw, wPlan cI aGs Gs, wLine cI aTr Tr, wOrd cI aO O, wShelf cI cL 8 aU laU U, wShelf cI cL 2 aK laK K]) X hl.1 hW (c_X4_add l G cI cZ cL N aS S p1 p2 p3 u31 hu31) q_708 q_705 q_706 q_707 q_60 hd_X4_add rfl ⟨Nat.le_of_ble_eq_true rfl, Nat.le_of_ble_eq_true rfl⟩ ⟨Nat.zero_le _, Nat.zero_le _⟩ [9] [0, 1, 2, 3, 4, 5, 6, 7, 8, 10, 11] [wBL bl (aTx 0) (aD 0) fc (aP 0) (aNw 0) (aS 0) (aU 0) (aK 0), wText cI aTx Tx, wPlan cI aD D, wFc fc (aP 0) (aNw 0) (aGs 0) (aTr 0) (aO 0), wPlan cI aP P, wLine cI aNw Nw, wPlan cI aGs Gs, wLine cI aTr Tr, wOrd cI aO O, wSeen cI cZ aS (u31.2.1, u31.2.2.1, u31.2.2.2.1, u31.2.2.2.2), wShelf cI cL 8 aU laU U, wShelf cI cL 2 aK laK K] ⟨pm_12_9, rfl, rfl, rfl⟩ ⟨pm_12_9, rfl, rfl, rfl⟩ (q0 := 32) rfl rfl rfl (Nat.le_of_ble_eq_true rfl) dX7_see_31 (fun H locs hW => ?_)
        refine lv_if_eq (tgt := 47) hx hb dX7_see_34 (by decide) (fun hc => ?_) (fun hc => ?_)
        · have hM := (if_pos hc).symm.trans hM
          refine lv_bipush (v := (-3 : Int32)) hx hb dX7_see_47 (by decide) ?_
          obtain rfl := Option.some.inj hM
          exact g_reti X hW rfl rfl dX7_see_49
        · have hM := (if_neg hc).symm.trans hM
          refine lv_aload_n hx hb dX7_see_37 rfl (lv_at hl 0 rfl) ?_
          refine g_get X hW 0 rfl rfl inX7 5 (by decide) q_371 rfl dX7_see_38 ?_
          refine g_getN X hW 32 rfl rfl inX4 3 (by decide) nt_25 rfl dX7_see_41 ?_
          refine lv_goto (tgt := 49) hx hb dX7_see_44 (by decide) ?_
          obtain rfl := Option.some.inj hM
          exact g_reti X hW rfl rfl dX7_see_49
      · have hM := (if_neg hc).symm.trans hM
        refine lv_iconst (v := (-1 : Int32)) hx hb dX7_see_22 (by decide) ?_
        obtain rfl := Option.some.inj hM
        exact g_reti X hW rfl rfl dX7_see_23

def MX7_forget (N : Nat) (S : SeenV) : Option (Int32 × Int32) :=
  (MX4_empty N).bind (fun u12 => some (S.2.2.2, u12))
set_option maxHeartbeats 4000000 in
set_option maxRecDepth 100000 in
theorem c_X7_forget (l : Launch) (G : va_G) (cI cZ cL : ClassId) (N : Nat) (bl : Nat) (aTx : Nat → Nat) (aD : Nat → Nat) (fc : Nat) (aP : Nat → Nat) (aNw : Nat → Nat) (aGs : Nat → Nat) (aTr : Nat → Nat) (aO : Nat → Nat) (aS : Nat → Nat) (aU : Nat → Nat) (laU : Nat → Nat → Nat) (aK : Nat → Nat) (laK : Nat → Nat → Nat) (Tx : TextV) (D : PlanV) (P : PlanV) (Nw : LineV) (Gs : PlanV) (Tr : LineV) (O : OrdV) (S : SeenV) (U : ShelfV) (K : ShelfV) (rr : Int32 × Int32) (hM : MX7_forget N S = some rr) : CtI l yX7_forget cX7_forget 2 .int 1 20 G cI cZ cL [.ref bl] [wBL bl (aTx 0) (aD 0) fc (aP 0) (aNw 0) (aS 0) (aU 0) (aK 0), wText cI aTx Tx, wPlan cI aD D, wFc fc (aP 0) (aNw 0) (aGs 0) (aTr 0) (aO 0), wPlan cI aP P, wLine cI aNw Nw, wPlan cI aGs Gs, wLine cI aTr Tr, wOrd cI aO O, wSeen cI cZ aS S, wShelf cI cL 8 aU laU U, wShelf cI cL 2 aK laK K] rr.1 [wBL bl (aTx 0) (aD 0) fc (aP 0) (aNw 0) (aS 0) (aU 0) (aK 0), wText cI aTx Tx, wPlan cI aD D, wFc fc (aP 0) (aNw 0) (aGs 0) (aTr 0) (aO 0), wPlan cI aP P, wLine cI aNw Nw, wPlan cI aGs Gs, wLine cI aTr Tr, wOrd cI aO O, wSeen cI cZ aS (S.1, S.2.1, S.2.2.1, rr.2), wShelf cI cL 8 aU laU U, wShelf cI cL 2 aK laK K] := by
  refine ct_body (fun A => qI G rr.1 [wBL bl (aTx 0) (aD 0) fc (aP 0) (aNw 0) (aS 0) (aU 0) (aK 0), wText cI aTx Tx, wPlan cI aD D, wFc fc (aP 0) (aNw 0) (aGs 0) (aTr 0) (aO 0), wPlan cI aP P, wLine cI aNw Nw, wPlan cI aGs Gs, wLine cI aTr Tr, wOrd cI aO O, wSeen cI cZ aS (S.1, S.2.1, S.2.2.1, rr.2), wShelf cI cL 8 aU laU U, wShelf cI cL 2 aK laK K] A) (by decide) (Nat.le_of_ble_eq_true rfl) (fun p e s m below meth c A ls X hW hl => ?_)
  have hx := X.1
  have hb := X.2.1
  have hts := X.2.2.2.2.2.1
  have hown := X.2.2.2.2.2.2.1
  have hl : lv_has ls 2 [(0, .ref bl)] := hl
  unfold MX7_forget at hM
  refine lv_aload_n hx hb dX7_forget_0 rfl (lv_at hl 0 rfl) ?_
  refine g_get X hW 0 rfl rfl inX7 5 (by decide) q_371 rfl dX7_forget_1 ?_
  refine g_getN X hW 32 rfl rfl inX4 3 (by decide) nt_25 rfl dX7_forget_4 ?_
  refine lv_istore_n (lv' := [(1, .int S.2.2.2), (0, .ref bl)]) hx hb dX7_forget_7 rfl hl (by decide) rfl (fun ls hl => ?_)
  refine lv_aload_n hx hb dX7_forget_8 rfl (lv_at hl 1 rfl) ?_
  refine g_get X hW 0 rfl rfl inX7 5 (by decide) q_371 rfl dX7_forget_9 ?_
  obtain ⟨u12, hu12, hM⟩ := bind_some hM
  refine g_callVv (rest := []) (gr := [wBL bl (aTx 0) (aD 0) fc (aP 0) (aNw 0) (aS 0) (aU 0) (aK 0), wText cI aTx Tx, wPlan cI aD D, wFc fc (aP 0) (aNw 0) (aGs 0) (aTr 0) (aO 0), wPlan cI aP P, wLine cI aNw Nw, wPlan cI aGs Gs, wLine cI aTr Tr, wOrd cI aO O, wShelf cI cL 8 aU laU U, wShelf cI cL 2 aK laK K]) X hl.1 hW (c_X4_empty l G cI cZ cL N aS S u12 hu12) q_422 q_419 q_420 q_421 q_60 hd_X4_empty rfl ⟨Nat.le_of_ble_eq_true rfl, Nat.le_of_ble_eq_true rfl⟩ ⟨Nat.zero_le _, Nat.zero_le _⟩ [9] [0, 1, 2, 3, 4, 5, 6, 7, 8, 10, 11] [wBL bl (aTx 0) (aD 0) fc (aP 0) (aNw 0) (aS 0) (aU 0) (aK 0), wText cI aTx Tx, wPlan cI aD D, wFc fc (aP 0) (aNw 0) (aGs 0) (aTr 0) (aO 0), wPlan cI aP P, wLine cI aNw Nw, wPlan cI aGs Gs, wLine cI aTr Tr, wOrd cI aO O, wSeen cI cZ aS (S.1, S.2.1, S.2.2.1, u12), wShelf cI cL 8 aU laU U, wShelf cI cL 2 aK laK K] ⟨pm_12_9, rfl, rfl, rfl⟩ ⟨pm_12_9, rfl, rfl, rfl⟩ (q0 := 32) rfl rfl rfl (Nat.le_of_ble_eq_true rfl) dX7_forget_12 (fun H locs hW => ?_)
  refine lv_iload_n hx hb dX7_forget_15 rfl (lv_at hl 0 rfl) ?_
  obtain rfl := Option.some.inj hM
  exact g_reti X hW rfl rfl dX7_forget_16

def MX7_sneezed (N : Nat) (P : PlanV) (Nw : LineV) (Tr : LineV) (S : SeenV) : Option (Int32 × (Nat → Int32) × (Nat → Int32) × (Nat → Int32) × (Nat → Int32) × (Nat → Int32) × Int32 × Int32 × Int32 × Int32) :=
  (MX0_whoSneezed N P Nw Tr S).bind (fun u8 => some (u8.1, u8.2.1, u8.2.2.1, u8.2.2.2.1, u8.2.2.2.2.1, u8.2.2.2.2.2.1, u8.2.2.2.2.2.2.1, u8.2.2.2.2.2.2.2.1, u8.2.2.2.2.2.2.2.2.1, u8.2.2.2.2.2.2.2.2.2))
set_option maxHeartbeats 4000000 in
set_option maxRecDepth 100000 in
theorem c_X7_sneezed (l : Launch) (G : va_G) (cI cZ cL : ClassId) (N : Nat) (bl : Nat) (aTx : Nat → Nat) (aD : Nat → Nat) (fc : Nat) (aP : Nat → Nat) (aNw : Nat → Nat) (aGs : Nat → Nat) (aTr : Nat → Nat) (aO : Nat → Nat) (aS : Nat → Nat) (aU : Nat → Nat) (laU : Nat → Nat → Nat) (aK : Nat → Nat) (laK : Nat → Nat → Nat) (Tx : TextV) (D : PlanV) (P : PlanV) (Nw : LineV) (Gs : PlanV) (Tr : LineV) (O : OrdV) (S : SeenV) (U : ShelfV) (K : ShelfV) (rr : Int32 × (Nat → Int32) × (Nat → Int32) × (Nat → Int32) × (Nat → Int32) × (Nat → Int32) × Int32 × Int32 × Int32 × Int32) (hM : MX7_sneezed N P Nw Tr S = some rr) : CtI l yX7_sneezed cX7_sneezed 1 .int 6 141 G cI cZ cL [.ref bl] [wBL bl (aTx 0) (aD 0) fc (aP 0) (aNw 0) (aS 0) (aU 0) (aK 0), wText cI aTx Tx, wPlan cI aD D, wFc fc (aP 0) (aNw 0) (aGs 0) (aTr 0) (aO 0), wPlan cI aP P, wLine cI aNw Nw, wPlan cI aGs Gs, wLine cI aTr Tr, wOrd cI aO O, wSeen cI cZ aS S, wShelf cI cL 8 aU laU U, wShelf cI cL 2 aK laK K] rr.1 [wBL bl (aTx 0) (aD 0) fc (aP 0) (aNw 0) (aS 0) (aU 0) (aK 0), wText cI aTx Tx, wPlan cI aD D, wFc fc (aP 0) (aNw 0) (aGs 0) (aTr 0) (aO 0), wPlan cI aP P, wLine cI aNw Nw, wPlan cI aGs Gs, wLine cI aTr (rr.2.1, rr.2.2.1, rr.2.2.2.1, rr.2.2.2.2.1, rr.2.2.2.2.2.1, rr.2.2.2.2.2.2.1, rr.2.2.2.2.2.2.2.1, rr.2.2.2.2.2.2.2.2.1, rr.2.2.2.2.2.2.2.2.2), wOrd cI aO O, wSeen cI cZ aS S, wShelf cI cL 8 aU laU U, wShelf cI cL 2 aK laK K] := by
  refine ct_body (fun A => qI G rr.1 [wBL bl (aTx 0) (aD 0) fc (aP 0) (aNw 0) (aS 0) (aU 0) (aK 0), wText cI aTx Tx, wPlan cI aD D, wFc fc (aP 0) (aNw 0) (aGs 0) (aTr 0) (aO 0), wPlan cI aP P, wLine cI aNw Nw, wPlan cI aGs Gs, wLine cI aTr (rr.2.1, rr.2.2.1, rr.2.2.2.1, rr.2.2.2.2.1, rr.2.2.2.2.2.1, rr.2.2.2.2.2.2.1, rr.2.2.2.2.2.2.2.1, rr.2.2.2.2.2.2.2.2.1, rr.2.2.2.2.2.2.2.2.2), wOrd cI aO O, wSeen cI cZ aS S, wShelf cI cL 8 aU laU U, wShelf cI cL 2 aK laK K] A) (by decide) (Nat.le_of_ble_eq_true rfl) (fun p e s m below meth c A ls X hW hl => ?_)
  have hx := X.1
  have hb := X.2.1
  have hts := X.2.2.2.2.2.1
  have hown := X.2.2.2.2.2.2.1
  have hl : lv_has ls 1 [(0, .ref bl)] := hl
  unfold MX7_sneezed at hM
  refine lv_aload_n hx hb dX7_sneezed_0 rfl (lv_at hl 0 rfl) ?_
  refine g_get X hW 0 rfl rfl inX7 2 (by decide) q_368 rfl dX7_sneezed_1 ?_
  refine lv_aload_n hx hb dX7_sneezed_4 rfl (lv_at hl 0 rfl) ?_
  refine g_get X hW 0 rfl rfl inX7 5 (by decide) q_371 rfl dX7_sneezed_5 ?_
  obtain ⟨u8, hu8, hM⟩ := bind_some hM
  refine g_callVi (rest := []) (gr := [wBL bl (aTx 0) (aD 0) fc (aP 0) (aNw 0) (aS 0) (aU 0) (aK 0), wText cI aTx Tx, wPlan cI aD D, wShelf cI cL 8 aU laU U, wShelf cI cL 2 aK laK K]) X hl.1 hW (c_X0_whoSneezed l G cI cZ cL N fc aP aNw aGs aTr aO aS P Nw Gs Tr O S u8 hu8) q_720 q_717 q_718 q_719 q_57 hd_X0_whoSneezed rfl ⟨Nat.le_of_ble_eq_true rfl, Nat.le_of_ble_eq_true rfl⟩ ⟨Nat.zero_le _, Nat.zero_le _⟩ [3, 4, 5, 6, 7, 8, 9] [0, 1, 2, 10, 11] [wBL bl (aTx 0) (aD 0) fc (aP 0) (aNw 0) (aS 0) (aU 0) (aK 0), wText cI aTx Tx, wPlan cI aD D, wFc fc (aP 0) (aNw 0) (aGs 0) (aTr 0) (aO 0), wPlan cI aP P, wLine cI aNw Nw, wPlan cI aGs Gs, wLine cI aTr (u8.2.1, u8.2.2.1, u8.2.2.2.1, u8.2.2.2.2.1, u8.2.2.2.2.2.1, u8.2.2.2.2.2.2.1, u8.2.2.2.2.2.2.2.1, u8.2.2.2.2.2.2.2.2.1, u8.2.2.2.2.2.2.2.2.2), wOrd cI aO O, wSeen cI cZ aS S, wShelf cI cL 8 aU laU U, wShelf cI cL 2 aK laK K] ⟨pm_12_3_4_5_6_7_8_9, rfl, rfl, rfl⟩ ⟨pm_12_3_4_5_6_7_8_9, rfl, rfl, rfl⟩ (q0 := 8) rfl rfl rfl (Nat.le_of_ble_eq_true rfl) dX7_sneezed_8 (fun H locs hW => ?_)
  obtain rfl := Option.some.inj hM
  exact g_reti X hW rfl rfl dX7_sneezed_11

def MX7_kinds (N : Nat) (P : PlanV) (Nw : LineV) (Gs : PlanV) (Tr : LineV) (S : SeenV) (p1 : Int32) : Option (Int32 × (Nat → Int32) × (Nat → Int32) × (Nat → Int32) × Int32 × Int32 × Int32 × Int32 × (Nat → Int32) × (Nat → Int32) × (Nat → Int32) × (Nat → Int32) × (Nat → Int32) × Int32 × Int32 × Int32 × Int32) :=
  (MX3_has N P p1).bind (fun u5 => if u5 = 0 then some ((-1 : Int32), Gs.1, Gs.2.1, Gs.2.2.1, Gs.2.2.2.1, Gs.2.2.2.2.1, Gs.2.2.2.2.2.1, Gs.2.2.2.2.2.2, Tr.1, Tr.2.1, Tr.2.2.1, Tr.2.2.2.1, Tr.2.2.2.2.1, Tr.2.2.2.2.2.1, Tr.2.2.2.2.2.2.1, Tr.2.2.2.2.2.2.2.1, Tr.2.2.2.2.2.2.2.2) else ((MX0_whichKinds N P Nw Gs Tr S p1).bind (fun u20 => some (u20.1, u20.2.1, u20.2.2.1, u20.2.2.2.1, u20.2.2.2.2.1, u20.2.2.2.2.2.1, u20.2.2.2.2.2.2.1, u20.2.2.2.2.2.2.2.1, u20.2.2.2.2.2.2.2.2.1, u20.2.2.2.2.2.2.2.2.2.1, u20.2.2.2.2.2.2.2.2.2.2.1, u20.2.2.2.2.2.2.2.2.2.2.2.1, u20.2.2.2.2.2.2.2.2.2.2.2.2.1, u20.2.2.2.2.2.2.2.2.2.2.2.2.2.1, u20.2.2.2.2.2.2.2.2.2.2.2.2.2.2.1, u20.2.2.2.2.2.2.2.2.2.2.2.2.2.2.2.1, u20.2.2.2.2.2.2.2.2.2.2.2.2.2.2.2.2))))
set_option maxHeartbeats 4000000 in
set_option maxRecDepth 100000 in
theorem c_X7_kinds (l : Launch) (G : va_G) (cI cZ cL : ClassId) (N : Nat) (bl : Nat) (aTx : Nat → Nat) (aD : Nat → Nat) (fc : Nat) (aP : Nat → Nat) (aNw : Nat → Nat) (aGs : Nat → Nat) (aTr : Nat → Nat) (aO : Nat → Nat) (aS : Nat → Nat) (aU : Nat → Nat) (laU : Nat → Nat → Nat) (aK : Nat → Nat) (laK : Nat → Nat → Nat) (Tx : TextV) (D : PlanV) (P : PlanV) (Nw : LineV) (Gs : PlanV) (Tr : LineV) (O : OrdV) (S : SeenV) (U : ShelfV) (K : ShelfV) (p1 : Int32) (rr : Int32 × (Nat → Int32) × (Nat → Int32) × (Nat → Int32) × Int32 × Int32 × Int32 × Int32 × (Nat → Int32) × (Nat → Int32) × (Nat → Int32) × (Nat → Int32) × (Nat → Int32) × Int32 × Int32 × Int32 × Int32) (hM : MX7_kinds N P Nw Gs Tr S p1 = some rr) : CtI l yX7_kinds cX7_kinds 2 .int 6 142 G cI cZ cL [.ref bl, .int p1] [wBL bl (aTx 0) (aD 0) fc (aP 0) (aNw 0) (aS 0) (aU 0) (aK 0), wText cI aTx Tx, wPlan cI aD D, wFc fc (aP 0) (aNw 0) (aGs 0) (aTr 0) (aO 0), wPlan cI aP P, wLine cI aNw Nw, wPlan cI aGs Gs, wLine cI aTr Tr, wOrd cI aO O, wSeen cI cZ aS S, wShelf cI cL 8 aU laU U, wShelf cI cL 2 aK laK K] rr.1 [wBL bl (aTx 0) (aD 0) fc (aP 0) (aNw 0) (aS 0) (aU 0) (aK 0), wText cI aTx Tx, wPlan cI aD D, wFc fc (aP 0) (aNw 0) (aGs 0) (aTr 0) (aO 0), wPlan cI aP P, wLine cI aNw Nw, wPlan cI aGs (rr.2.1, rr.2.2.1, rr.2.2.2.1, rr.2.2.2.2.1, rr.2.2.2.2.2.1, rr.2.2.2.2.2.2.1, rr.2.2.2.2.2.2.2.1), wLine cI aTr (rr.2.2.2.2.2.2.2.2.1, rr.2.2.2.2.2.2.2.2.2.1, rr.2.2.2.2.2.2.2.2.2.2.1, rr.2.2.2.2.2.2.2.2.2.2.2.1, rr.2.2.2.2.2.2.2.2.2.2.2.2.1, rr.2.2.2.2.2.2.2.2.2.2.2.2.2.1, rr.2.2.2.2.2.2.2.2.2.2.2.2.2.2.1, rr.2.2.2.2.2.2.2.2.2.2.2.2.2.2.2.1, rr.2.2.2.2.2.2.2.2.2.2.2.2.2.2.2.2), wOrd cI aO O, wSeen cI cZ aS S, wShelf cI cL 8 aU laU U, wShelf cI cL 2 aK laK K] := by
  refine ct_body (fun A => qI G rr.1 [wBL bl (aTx 0) (aD 0) fc (aP 0) (aNw 0) (aS 0) (aU 0) (aK 0), wText cI aTx Tx, wPlan cI aD D, wFc fc (aP 0) (aNw 0) (aGs 0) (aTr 0) (aO 0), wPlan cI aP P, wLine cI aNw Nw, wPlan cI aGs (rr.2.1, rr.2.2.1, rr.2.2.2.1, rr.2.2.2.2.1, rr.2.2.2.2.2.1, rr.2.2.2.2.2.2.1, rr.2.2.2.2.2.2.2.1), wLine cI aTr (rr.2.2.2.2.2.2.2.2.1, rr.2.2.2.2.2.2.2.2.2.1, rr.2.2.2.2.2.2.2.2.2.2.1, rr.2.2.2.2.2.2.2.2.2.2.2.1, rr.2.2.2.2.2.2.2.2.2.2.2.2.1, rr.2.2.2.2.2.2.2.2.2.2.2.2.2.1, rr.2.2.2.2.2.2.2.2.2.2.2.2.2.2.1, rr.2.2.2.2.2.2.2.2.2.2.2.2.2.2.2.1, rr.2.2.2.2.2.2.2.2.2.2.2.2.2.2.2.2), wOrd cI aO O, wSeen cI cZ aS S, wShelf cI cL 8 aU laU U, wShelf cI cL 2 aK laK K] A) (by decide) (Nat.le_of_ble_eq_true rfl) (fun p e s m below meth c A ls X hW hl => ?_)
  have hx := X.1
  have hb := X.2.1
  have hts := X.2.2.2.2.2.1
  have hown := X.2.2.2.2.2.2.1
  have hl : lv_has ls 2 [(0, .ref bl), (1, .int p1)] := hl
  unfold MX7_kinds at hM
  refine lv_aload_n hx hb dX7_kinds_0 rfl (lv_at hl 0 rfl) ?_
  refine g_get X hW 0 rfl rfl inX7 3 (by decide) q_369 rfl dX7_kinds_1 ?_
  refine lv_iload_n hx hb dX7_kinds_4 rfl (lv_at hl 1 rfl) ?_
  obtain ⟨u5, hu5, hM⟩ := bind_some hM
  refine g_callVi (rest := []) (gr := [wBL bl (aTx 0) (aD 0) fc (aP 0) (aNw 0) (aS 0) (aU 0) (aK 0), wText cI aTx Tx, wPlan cI aD D, wFc fc (aP 0) (aNw 0) (aGs 0) (aTr 0) (aO 0), wLine cI aNw Nw, wPlan cI aGs Gs, wLine cI aTr Tr, wOrd cI aO O, wSeen cI cZ aS S, wShelf cI cL 8 aU laU U, wShelf cI cL 2 aK laK K]) X hl.1 hW (c_X3_has l G cI cZ cL N aP P p1 u5 hu5) q_434 q_431 q_432 q_433 q_56 hd_X3_has rfl ⟨Nat.le_of_ble_eq_true rfl, Nat.le_of_ble_eq_true rfl⟩ ⟨Nat.zero_le _, Nat.zero_le _⟩ [4] [0, 1, 2, 3, 5, 6, 7, 8, 9, 10, 11] [wBL bl (aTx 0) (aD 0) fc (aP 0) (aNw 0) (aS 0) (aU 0) (aK 0), wText cI aTx Tx, wPlan cI aD D, wFc fc (aP 0) (aNw 0) (aGs 0) (aTr 0) (aO 0), wPlan cI aP P, wLine cI aNw Nw, wPlan cI aGs Gs, wLine cI aTr Tr, wOrd cI aO O, wSeen cI cZ aS S, wShelf cI cL 8 aU laU U, wShelf cI cL 2 aK laK K] ⟨pm_12_4, rfl, rfl, rfl⟩ ⟨pm_12_4, rfl, rfl, rfl⟩ (q0 := 9) rfl rfl rfl (Nat.le_of_ble_eq_true rfl) dX7_kinds_5 (fun H locs hW => ?_)
  refine lv_if_eq (tgt := 26) hx hb dX7_kinds_8 (by decide) (fun hc => ?_) (fun hc => ?_)
  · have hM := (if_pos hc).symm.trans hM
    refine lv_iconst (v := (-1 : Int32)) hx hb dX7_kinds_26 (by decide) ?_
    obtain rfl := Option.some.inj hM
    exact g_reti X hW rfl rfl dX7_kinds_27
  · have hM := (if_neg hc).symm.trans hM
    refine lv_aload_n hx hb dX7_kinds_11 rfl (lv_at hl 0 rfl) ?_
    refine g_get X hW 0 rfl rfl inX7 2 (by decide) q_368 rfl dX7_kinds_12 ?_
    refine lv_aload_n hx hb dX7_kinds_15 rfl (lv_at hl 0 rfl) ?_
    refine g_get X hW 0 rfl rfl inX7 5 (by decide) q_371 rfl dX7_kinds_16 ?_
    refine lv_iload_n hx hb dX7_kinds_19 rfl (lv_at hl 1 rfl) ?_
    obtain ⟨u20, hu20, hM⟩ := bind_some hM
    refine g_callVi (rest := []) (gr := [wBL bl (aTx 0) (aD 0) fc (aP 0) (aNw 0) (aS 0) (aU 0) (aK 0), wText cI aTx Tx, wPlan cI aD D, wShelf cI cL 8 aU laU U, wShelf cI cL 2 aK laK K]) X hl.1 hW (c_X0_whichKinds l G cI cZ cL N fc aP aNw aGs aTr aO aS P Nw Gs Tr O S p1 u20 hu20) q_741 q_738 q_739 q_740 q_57 hd_X0_whichKinds rfl ⟨Nat.le_of_ble_eq_true rfl, Nat.le_of_ble_eq_true rfl⟩ ⟨Nat.zero_le _, Nat.zero_le _⟩ [3, 4, 5, 6, 7, 8, 9] [0, 1, 2, 10, 11] [wBL bl (aTx 0) (aD 0) fc (aP 0) (aNw 0) (aS 0) (aU 0) (aK 0), wText cI aTx Tx, wPlan cI aD D, wFc fc (aP 0) (aNw 0) (aGs 0) (aTr 0) (aO 0), wPlan cI aP P, wLine cI aNw Nw, wPlan cI aGs (u20.2.1, u20.2.2.1, u20.2.2.2.1, u20.2.2.2.2.1, u20.2.2.2.2.2.1, u20.2.2.2.2.2.2.1, u20.2.2.2.2.2.2.2.1), wLine cI aTr (u20.2.2.2.2.2.2.2.2.1, u20.2.2.2.2.2.2.2.2.2.1, u20.2.2.2.2.2.2.2.2.2.2.1, u20.2.2.2.2.2.2.2.2.2.2.2.1, u20.2.2.2.2.2.2.2.2.2.2.2.2.1, u20.2.2.2.2.2.2.2.2.2.2.2.2.2.1, u20.2.2.2.2.2.2.2.2.2.2.2.2.2.2.1, u20.2.2.2.2.2.2.2.2.2.2.2.2.2.2.2.1, u20.2.2.2.2.2.2.2.2.2.2.2.2.2.2.2.2), wOrd cI aO O, wSeen cI cZ aS S, wShelf cI cL 8 aU laU U, wShelf cI cL 2 aK laK K] ⟨pm_12_3_4_5_6_7_8_9, rfl, rfl, rfl⟩ ⟨pm_12_3_4_5_6_7_8_9, rfl, rfl, rfl⟩ (q0 := 8) rfl rfl rfl (Nat.le_of_ble_eq_true rfl) dX7_kinds_20 (fun H locs hW => ?_)
    refine lv_goto (tgt := 27) hx hb dX7_kinds_23 (by decide) ?_
    obtain rfl := Option.some.inj hM
    exact g_reti X hW rfl rfl dX7_kinds_27

def MX7_rumours (N : Nat) (P : PlanV) (Nw : LineV) (Tr : LineV) (p1 : Int32) (p2 : Int32) (p3 : Int32) (p4 : Int32) : Option (Int32 × (Nat → Int32) × (Nat → Int32) × (Nat → Int32) × (Nat → Int32) × (Nat → Int32) × Int32 × Int32 × Int32 × Int32) :=
  (MX3_has N P p1).bind (fun u5 => if u5 = 0 then some ((-1 : Int32), Tr.1, Tr.2.1, Tr.2.2.1, Tr.2.2.2.1, Tr.2.2.2.2.1, Tr.2.2.2.2.2.1, Tr.2.2.2.2.2.2.1, Tr.2.2.2.2.2.2.2.1, Tr.2.2.2.2.2.2.2.2) else (if p2 < 0 then some ((-1 : Int32), Tr.1, Tr.2.1, Tr.2.2.1, Tr.2.2.2.1, Tr.2.2.2.2.1, Tr.2.2.2.2.2.1, Tr.2.2.2.2.2.2.1, Tr.2.2.2.2.2.2.2.1, Tr.2.2.2.2.2.2.2.2) else (if (8 : Int32) < p2 then some ((-1 : Int32), Tr.1, Tr.2.1, Tr.2.2.1, Tr.2.2.2.1, Tr.2.2.2.2.1, Tr.2.2.2.2.2.1, Tr.2.2.2.2.2.2.1, Tr.2.2.2.2.2.2.2.1, Tr.2.2.2.2.2.2.2.2) else (if p3 < 0 then some ((-1 : Int32), Tr.1, Tr.2.1, Tr.2.2.1, Tr.2.2.2.1, Tr.2.2.2.2.1, Tr.2.2.2.2.2.1, Tr.2.2.2.2.2.2.1, Tr.2.2.2.2.2.2.2.1, Tr.2.2.2.2.2.2.2.2) else (if (10 : Int32) < p3 then some ((-1 : Int32), Tr.1, Tr.2.1, Tr.2.2.1, Tr.2.2.2.1, Tr.2.2.2.2.1, Tr.2.2.2.2.2.1, Tr.2.2.2.2.2.2.1, Tr.2.2.2.2.2.2.2.1, Tr.2.2.2.2.2.2.2.2) else (if p4 < 0 then some ((-1 : Int32), Tr.1, Tr.2.1, Tr.2.2.1, Tr.2.2.2.1, Tr.2.2.2.2.1, Tr.2.2.2.2.2.1, Tr.2.2.2.2.2.2.1, Tr.2.2.2.2.2.2.2.1, Tr.2.2.2.2.2.2.2.2) else (if p4 ≤ (1 : Int32) then ((MX0_chanceOfTenths N P Nw Tr p1 p2 p3).bind (fun u51 => (MX7_power N (10 : Int32) p2).bind (fun u59 => (MX7_greatestDivisor N u51.1 u59).bind (fun u68 => if (1 : Int32) ≤ u68 then (if p4 = 0 then MD u68 (some (u51.1 / u68, u51.2.1, u51.2.2.1, u51.2.2.2.1, u51.2.2.2.2.1, u51.2.2.2.2.2.1, u51.2.2.2.2.2.2.1, u51.2.2.2.2.2.2.2.1, u51.2.2.2.2.2.2.2.2.1, u51.2.2.2.2.2.2.2.2.2)) else MD u68 (some (u59 / u68, u51.2.1, u51.2.2.1, u51.2.2.2.1, u51.2.2.2.2.1, u51.2.2.2.2.2.1, u51.2.2.2.2.2.2.1, u51.2.2.2.2.2.2.2.1, u51.2.2.2.2.2.2.2.2.1, u51.2.2.2.2.2.2.2.2.2))) else some ((-1 : Int32), u51.2.1, u51.2.2.1, u51.2.2.2.1, u51.2.2.2.2.1, u51.2.2.2.2.2.1, u51.2.2.2.2.2.2.1, u51.2.2.2.2.2.2.2.1, u51.2.2.2.2.2.2.2.2.1, u51.2.2.2.2.2.2.2.2.2))))) else some ((-1 : Int32), Tr.1, Tr.2.1, Tr.2.2.1, Tr.2.2.2.1, Tr.2.2.2.2.1, Tr.2.2.2.2.2.1, Tr.2.2.2.2.2.2.1, Tr.2.2.2.2.2.2.2.1, Tr.2.2.2.2.2.2.2.2))))))))
set_option maxHeartbeats 4000000 in
set_option maxRecDepth 100000 in
theorem c_X7_rumours (l : Launch) (G : va_G) (cI cZ cL : ClassId) (N : Nat) (bl : Nat) (aTx : Nat → Nat) (aD : Nat → Nat) (fc : Nat) (aP : Nat → Nat) (aNw : Nat → Nat) (aGs : Nat → Nat) (aTr : Nat → Nat) (aO : Nat → Nat) (aS : Nat → Nat) (aU : Nat → Nat) (laU : Nat → Nat → Nat) (aK : Nat → Nat) (laK : Nat → Nat → Nat) (Tx : TextV) (D : PlanV) (P : PlanV) (Nw : LineV) (Gs : PlanV) (Tr : LineV) (O : OrdV) (S : SeenV) (U : ShelfV) (K : ShelfV) (p1 : Int32) (p2 : Int32) (p3 : Int32) (p4 : Int32) (rr : Int32 × (Nat → Int32) × (Nat → Int32) × (Nat → Int32) × (Nat → Int32) × (Nat → Int32) × Int32 × Int32 × Int32 × Int32) (hM : MX7_rumours N P Nw Tr p1 p2 p3 p4 = some rr) : CtI l yX7_rumours cX7_rumours 8 .int 6 143 G cI cZ cL [.ref bl, .int p1, .int p2, .int p3, .int p4] [wBL bl (aTx 0) (aD 0) fc (aP 0) (aNw 0) (aS 0) (aU 0) (aK 0), wText cI aTx Tx, wPlan cI aD D, wFc fc (aP 0) (aNw 0) (aGs 0) (aTr 0) (aO 0), wPlan cI aP P, wLine cI aNw Nw, wPlan cI aGs Gs, wLine cI aTr Tr, wOrd cI aO O, wSeen cI cZ aS S, wShelf cI cL 8 aU laU U, wShelf cI cL 2 aK laK K] rr.1 [wBL bl (aTx 0) (aD 0) fc (aP 0) (aNw 0) (aS 0) (aU 0) (aK 0), wText cI aTx Tx, wPlan cI aD D, wFc fc (aP 0) (aNw 0) (aGs 0) (aTr 0) (aO 0), wPlan cI aP P, wLine cI aNw Nw, wPlan cI aGs Gs, wLine cI aTr (rr.2.1, rr.2.2.1, rr.2.2.2.1, rr.2.2.2.2.1, rr.2.2.2.2.2.1, rr.2.2.2.2.2.2.1, rr.2.2.2.2.2.2.2.1, rr.2.2.2.2.2.2.2.2.1, rr.2.2.2.2.2.2.2.2.2), wOrd cI aO O, wSeen cI cZ aS S, wShelf cI cL 8 aU laU U, wShelf cI cL 2 aK laK K] := by
  refine ct_body (fun A => qI G rr.1 [wBL bl (aTx 0) (aD 0) fc (aP 0) (aNw 0) (aS 0) (aU 0) (aK 0), wText cI aTx Tx, wPlan cI aD D, wFc fc (aP 0) (aNw 0) (aGs 0) (aTr 0) (aO 0), wPlan cI aP P, wLine cI aNw Nw, wPlan cI aGs Gs, wLine cI aTr (rr.2.1, rr.2.2.1, rr.2.2.2.1, rr.2.2.2.2.1, rr.2.2.2.2.2.1, rr.2.2.2.2.2.2.1, rr.2.2.2.2.2.2.2.1, rr.2.2.2.2.2.2.2.2.1, rr.2.2.2.2.2.2.2.2.2), wOrd cI aO O, wSeen cI cZ aS S, wShelf cI cL 8 aU laU U, wShelf cI cL 2 aK laK K] A) (by decide) (Nat.le_of_ble_eq_true rfl) (fun p e s m below meth c A ls X hW hl => ?_)
  have hx := X.1
  have hb := X.2.1
  have hts := X.2.2.2.2.2.1
  have hown := X.2.2.2.2.2.2.1
  have hl : lv_has ls 8 [(0, .ref bl), (1, .int p1), (2, .int p2), (3, .int p3), (4, .int p4)] := hl
  unfold MX7_rumours at hM
  refine lv_aload_n hx hb dX7_rumours_0 rfl (lv_at hl 0 rfl) ?_
  refine g_get X hW 0 rfl rfl inX7 3 (by decide) q_369 rfl dX7_rumours_1 ?_
  refine lv_iload_n hx hb dX7_rumours_4 rfl (lv_at hl 1 rfl) ?_
  obtain ⟨u5, hu5, hM⟩ := bind_some hM
  refine g_callVi (rest := []) (gr := [wBL bl (aTx 0) (aD 0) fc (aP 0) (aNw 0) (aS 0) (aU 0) (aK 0), wText cI aTx Tx, wPlan cI aD D, wFc fc (aP 0) (aNw 0) (aGs 0) (aTr 0) (aO 0), wLine cI aNw Nw, wPlan cI aGs Gs, wLine cI aTr Tr, wOrd cI aO O, wSeen cI cZ aS S, wShelf cI cL 8 aU laU U, wShelf cI cL 2 aK laK K]) X hl.1 hW (c_X3_has l G cI cZ cL N aP P p1 u5 hu5) q_434 q_431 q_432 q_433 q_56 hd_X3_has rfl ⟨Nat.le_of_ble_eq_true rfl, Nat.le_of_ble_eq_true rfl⟩ ⟨Nat.zero_le _, Nat.zero_le _⟩ [4] [0, 1, 2, 3, 5, 6, 7, 8, 9, 10, 11] [wBL bl (aTx 0) (aD 0) fc (aP 0) (aNw 0) (aS 0) (aU 0) (aK 0), wText cI aTx Tx, wPlan cI aD D, wFc fc (aP 0) (aNw 0) (aGs 0) (aTr 0) (aO 0), wPlan cI aP P, wLine cI aNw Nw, wPlan cI aGs Gs, wLine cI aTr Tr, wOrd cI aO O, wSeen cI cZ aS S, wShelf cI cL 8 aU laU U, wShelf cI cL 2 aK laK K] ⟨pm_12_4, rfl, rfl, rfl⟩ ⟨pm_12_4, rfl, rfl, rfl⟩ (q0 := 9) rfl rfl rfl (Nat.le_of_ble_eq_true rfl) dX7_rumours_5 (fun H locs hW => ?_)
  refine lv_if_eq (tgt := 42) hx hb dX7_rumours_8 (by decide) (fun hc => ?_) (fun hc => ?_)
  · have hM := (if_pos hc).symm.trans hM
    refine lv_iconst (v := (-1 : Int32)) hx hb dX7_rumours_42 (by decide) ?_
    obtain rfl := Option.some.inj hM
    exact g_reti X hW rfl rfl dX7_rumours_43
  · have hM := (if_neg hc).symm.trans hM
    refine lv_iload_n hx hb dX7_rumours_11 rfl (lv_at hl 2 rfl) ?_
    refine lv_if_lt (tgt := 42) hx hb dX7_rumours_12 (by decide) (fun hc => ?_) (fun hc => ?_)
    · have hM := (if_pos hc).symm.trans hM
      refine lv_iconst (v := (-1 : Int32)) hx hb dX7_rumours_42 (by decide) ?_
      obtain rfl := Option.some.inj hM
      exact g_reti X hW rfl rfl dX7_rumours_43
    · have hM := (if_neg hc).symm.trans hM
      refine lv_iload_n hx hb dX7_rumours_15 rfl (lv_at hl 2 rfl) ?_
      refine lv_bipush (v := (8 : Int32)) hx hb dX7_rumours_16 (by decide) ?_
      refine lv_icmp_gt (tgt := 42) hx hb dX7_rumours_18 (by decide) (fun hc => ?_) (fun hc => ?_)
      · have hM := (if_pos hc).symm.trans hM
        refine lv_iconst (v := (-1 : Int32)) hx hb dX7_rumours_42 (by decide) ?_
        obtain rfl := Option.some.inj hM
        exact g_reti X hW rfl rfl dX7_rumours_43
      · have hM := (if_neg hc).symm.trans hM
        refine lv_iload_n hx hb dX7_rumours_21 rfl (lv_at hl 3 rfl) ?_
        refine lv_if_lt (tgt := 42) hx hb dX7_rumours_22 (by decide) (fun hc => ?_) (fun hc => ?_)
        · have hM := (if_pos hc).symm.trans hM
          refine lv_iconst (v := (-1 : Int32)) hx hb dX7_rumours_42 (by decide) ?_
          obtain rfl := Option.some.inj hM
          exact g_reti X hW rfl rfl dX7_rumours_43
        · have hM := (if_neg hc).symm.trans hM
          refine lv_iload_n hx hb dX7_rumours_25 rfl (lv_at hl 3 rfl) ?_
          refine lv_bipush (v := (10 : Int32)) hx hb dX7_rumours_26 (by decide) ?_
          refine lv_icmp_gt (tgt := 42) hx hb dX7_rumours_28 (by decide) (fun hc => ?_) (fun hc => ?_)
          · have hM := (if_pos hc).symm.trans hM
            refine lv_iconst (v := (-1 : Int32)) hx hb dX7_rumours_42 (by decide) ?_
            obtain rfl := Option.some.inj hM
            exact g_reti X hW rfl rfl dX7_rumours_43
          · have hM := (if_neg hc).symm.trans hM
            refine lv_iload hx hb dX7_rumours_31 (lv_at hl 4 rfl) ?_
            refine lv_if_lt (tgt := 42) hx hb dX7_rumours_33 (by decide) (fun hc => ?_) (fun hc => ?_)
            · have hM := (if_pos hc).symm.trans hM
              refine lv_iconst (v := (-1 : Int32)) hx hb dX7_rumours_42 (by decide) ?_
              obtain rfl := Option.some.inj hM
              exact g_reti X hW rfl rfl dX7_rumours_43
            · have hM := (if_neg hc).symm.trans hM
              refine lv_iload hx hb dX7_rumours_36 (lv_at hl 4 rfl) ?_
              refine lv_iconst (v := (1 : Int32)) hx hb dX7_rumours_38 (by decide) ?_
              refine lv_icmp_le (tgt := 44) hx hb dX7_rumours_39 (by decide) (fun hc => ?_) (fun hc => ?_)
              · have hM := (if_pos hc).symm.trans hM
                refine lv_aload_n hx hb dX7_rumours_44 rfl (lv_at hl 0 rfl) ?_
                refine g_get X hW 0 rfl rfl inX7 2 (by decide) q_368 rfl dX7_rumours_45 ?_
                refine lv_iload_n hx hb dX7_rumours_48 rfl (lv_at hl 1 rfl) ?_
                refine lv_iload_n hx hb dX7_rumours_49 rfl (lv_at hl 2 rfl) ?_
                refine lv_iload_n hx hb dX7_rumours_50 rfl (lv_at hl 3 rfl) ?_
                obtain ⟨u51, hu51, hM⟩ := bind_some hM
                refine g_callVi (rest := []) (gr := [wBL bl (aTx 0) (aD 0) fc (aP 0) (aNw 0) (aS 0) (aU 0) (aK 0), wText cI aTx Tx, wPlan cI aD D, wSeen cI cZ aS S, wShelf cI cL 8 aU laU U, wShelf cI cL 2 aK laK K]) X hl.1 hW (c_X0_chanceOfTenths l G cI cZ cL N fc aP aNw aGs aTr aO P Nw Gs Tr O p1 p2 p3 u51 hu51) q_753 q_750 q_751 q_752 q_57 hd_X0_chanceOfTenths rfl ⟨Nat.le_of_ble_eq_true rfl, Nat.le_of_ble_eq_true rfl⟩ ⟨Nat.zero_le _, Nat.zero_le _⟩ [3, 4, 5, 6, 7, 8] [0, 1, 2, 9, 10, 11] [wBL bl (aTx 0) (aD 0) fc (aP 0) (aNw 0) (aS 0) (aU 0) (aK 0), wText cI aTx Tx, wPlan cI aD D, wFc fc (aP 0) (aNw 0) (aGs 0) (aTr 0) (aO 0), wPlan cI aP P, wLine cI aNw Nw, wPlan cI aGs Gs, wLine cI aTr (u51.2.1, u51.2.2.1, u51.2.2.2.1, u51.2.2.2.2.1, u51.2.2.2.2.2.1, u51.2.2.2.2.2.2.1, u51.2.2.2.2.2.2.2.1, u51.2.2.2.2.2.2.2.2.1, u51.2.2.2.2.2.2.2.2.2), wOrd cI aO O, wSeen cI cZ aS S, wShelf cI cL 8 aU laU U, wShelf cI cL 2 aK laK K] ⟨pm_12_3_4_5_6_7_8, rfl, rfl, rfl⟩ ⟨pm_12_3_4_5_6_7_8, rfl, rfl, rfl⟩ (q0 := 8) rfl rfl rfl (Nat.le_of_ble_eq_true rfl) dX7_rumours_51 (fun H locs hW => ?_)
                refine lv_istore (lv' := [(5, .int u51.1), (0, .ref bl), (1, .int p1), (2, .int p2), (3, .int p3), (4, .int p4)]) hx hb dX7_rumours_54 hl (by decide) rfl (fun ls hl => ?_)
                refine lv_bipush (v := (10 : Int32)) hx hb dX7_rumours_56 (by decide) ?_
                refine lv_iload_n hx hb dX7_rumours_58 rfl (lv_at hl 3 rfl) ?_
                obtain ⟨u59, hu59, hM⟩ := bind_some hM
                refine g_callSi (rest := []) X hl.1 hW (c_X7_power l G cI cZ cL N (10 : Int32) p2 u59 hu59) q_762 q_767 q_761 q_54 hd_X7_power rfl ⟨Nat.le_of_ble_eq_true rfl, Nat.le_of_ble_eq_true rfl⟩ ⟨Nat.zero_le _, Nat.zero_le _⟩ rfl (Nat.le_of_ble_eq_true rfl) dX7_rumours_59 (fun H locs hW => ?_)
                refine lv_istore (lv' := [(6, .int u59), (5, .int u51.1), (0, .ref bl), (1, .int p1), (2, .int p2), (3, .int p3), (4, .int p4)]) hx hb dX7_rumours_62 hl (by decide) rfl (fun ls hl => ?_)
                refine lv_iload hx hb dX7_rumours_64 (lv_at hl 1 rfl) ?_
                refine lv_iload hx hb dX7_rumours_66 (lv_at hl 0 rfl) ?_
                obtain ⟨u68, hu68, hM⟩ := bind_some hM
                refine g_callSi (rest := []) X hl.1 hW (c_X7_greatestDivisor l G cI cZ cL N u51.1 u59 u68 hu68) q_770 q_768 q_769 q_54 hd_X7_greatestDivisor rfl ⟨Nat.le_of_ble_eq_true rfl, Nat.le_of_ble_eq_true rfl⟩ ⟨Nat.zero_le _, Nat.zero_le _⟩ rfl (Nat.le_of_ble_eq_true rfl) dX7_rumours_68 (fun H locs hW => ?_)
                refine lv_istore (lv' := [(7, .int u68), (6, .int u59), (5, .int u51.1), (0, .ref bl), (1, .int p1), (2, .int p2), (3, .int p3), (4, .int p4)]) hx hb dX7_rumours_71 hl (by decide) rfl (fun ls hl => ?_)
                refine lv_iload hx hb dX7_rumours_73 (lv_at hl 0 rfl) ?_
                refine lv_iconst (v := (1 : Int32)) hx hb dX7_rumours_75 (by decide) ?_
                refine lv_icmp_ge (tgt := 81) hx hb dX7_rumours_76 (by decide) (fun hc => ?_) (fun hc => ?_)
                · have hM := (if_pos hc).symm.trans hM
                  refine lv_iload hx hb dX7_rumours_81 (lv_at hl 7 rfl) ?_
                  refine lv_if_ne (tgt := 91) hx hb dX7_rumours_83 (by decide) (fun hc => ?_) (fun hc => ?_)
                  · have hM := (if_neg hc).symm.trans hM
                    refine lv_iload hx hb dX7_rumours_91 (lv_at hl 1 rfl) ?_
                    refine lv_iload hx hb dX7_rumours_93 (lv_at hl 0 rfl) ?_
                    obtain ⟨hz95, hM⟩ := MD_some hM
                    refine lv_idiv hx hb dX7_rumours_95 hz95 ?_
                    obtain rfl := Option.some.inj hM
                    exact g_reti X hW rfl rfl dX7_rumours_96
                  · have hM := (if_pos hc).symm.trans hM
                    refine lv_iload hx hb dX7_rumours_86 (lv_at hl 2 rfl) ?_
                    refine lv_goto (tgt := 93) hx hb dX7_rumours_88 (by decide) ?_
                    refine lv_iload hx hb dX7_rumours_93 (lv_at hl 0 rfl) ?_
                    obtain ⟨hz95, hM⟩ := MD_some hM
                    refine lv_idiv hx hb dX7_rumours_95 hz95 ?_
                    obtain rfl := Option.some.inj hM
                    exact g_reti X hW rfl rfl dX7_rumours_96
                · have hM := (if_neg hc).symm.trans hM
                  refine lv_iconst (v := (-1 : Int32)) hx hb dX7_rumours_79 (by decide) ?_
                  obtain rfl := Option.some.inj hM
                  exact g_reti X hW rfl rfl dX7_rumours_80
              · have hM := (if_neg hc).symm.trans hM
                refine lv_iconst (v := (-1 : Int32)) hx hb dX7_rumours_42 (by decide) ?_
                obtain rfl := Option.some.inj hM
                exact g_reti X hW rfl rfl dX7_rumours_43

def MX7_day (N : Nat) (P : PlanV) (Nw : LineV) (Tr : LineV) (p1 : Int32) (p2 : Int32) (p3 : Int32) : Option (Int32 × (Nat → Int32) × (Nat → Int32) × (Nat → Int32) × (Nat → Int32) × (Nat → Int32) × Int32 × Int32 × Int32 × Int32) :=
  if p1 < 0 then some ((-1 : Int32), Tr.1, Tr.2.1, Tr.2.2.1, Tr.2.2.2.1, Tr.2.2.2.2.1, Tr.2.2.2.2.2.1, Tr.2.2.2.2.2.2.1, Tr.2.2.2.2.2.2.2.1, Tr.2.2.2.2.2.2.2.2) else (if (9999 : Int32) < p1 then some ((-1 : Int32), Tr.1, Tr.2.1, Tr.2.2.1, Tr.2.2.2.1, Tr.2.2.2.2.1, Tr.2.2.2.2.2.1, Tr.2.2.2.2.2.2.1, Tr.2.2.2.2.2.2.2.1, Tr.2.2.2.2.2.2.2.2) else (if p2 < (1 : Int32) then some ((-1 : Int32), Tr.1, Tr.2.1, Tr.2.2.1, Tr.2.2.2.1, Tr.2.2.2.2.1, Tr.2.2.2.2.2.1, Tr.2.2.2.2.2.2.1, Tr.2.2.2.2.2.2.2.1, Tr.2.2.2.2.2.2.2.2) else (if (60 : Int32) < p2 then some ((-1 : Int32), Tr.1, Tr.2.1, Tr.2.2.1, Tr.2.2.2.1, Tr.2.2.2.2.1, Tr.2.2.2.2.2.1, Tr.2.2.2.2.2.2.1, Tr.2.2.2.2.2.2.2.1, Tr.2.2.2.2.2.2.2.2) else (if p3 < 0 then some ((-1 : Int32), Tr.1, Tr.2.1, Tr.2.2.1, Tr.2.2.2.1, Tr.2.2.2.2.1, Tr.2.2.2.2.2.1, Tr.2.2.2.2.2.2.1, Tr.2.2.2.2.2.2.2.1, Tr.2.2.2.2.2.2.2.2) else (if p3 ≤ (1 : Int32) then ((MX0_lineBehindDay N P Nw Tr p1 p2).bind (fun u39 => if p3 = 0 then ((MX1_howMany N u39 (3 : Int32)).bind (fun u51 => some (u51, u39.1, u39.2.1, u39.2.2.1, u39.2.2.2.1, u39.2.2.2.2.1, u39.2.2.2.2.2.1, u39.2.2.2.2.2.2.1, u39.2.2.2.2.2.2.2.1, u39.2.2.2.2.2.2.2.2))) else some (u39.2.2.2.2.2.2.2.2 - Nw.2.2.2.2.2.2.2.2, u39.1, u39.2.1, u39.2.2.1, u39.2.2.2.1, u39.2.2.2.2.1, u39.2.2.2.2.2.1, u39.2.2.2.2.2.2.1, u39.2.2.2.2.2.2.2.1, u39.2.2.2.2.2.2.2.2))) else some ((-1 : Int32), Tr.1, Tr.2.1, Tr.2.2.1, Tr.2.2.2.1, Tr.2.2.2.2.1, Tr.2.2.2.2.2.1, Tr.2.2.2.2.2.2.1, Tr.2.2.2.2.2.2.2.1, Tr.2.2.2.2.2.2.2.2))))))
set_option maxHeartbeats 4000000 in
set_option maxRecDepth 100000 in
theorem c_X7_day (l : Launch) (G : va_G) (cI cZ cL : ClassId) (N : Nat) (bl : Nat) (aTx : Nat → Nat) (aD : Nat → Nat) (fc : Nat) (aP : Nat → Nat) (aNw : Nat → Nat) (aGs : Nat → Nat) (aTr : Nat → Nat) (aO : Nat → Nat) (aS : Nat → Nat) (aU : Nat → Nat) (laU : Nat → Nat → Nat) (aK : Nat → Nat) (laK : Nat → Nat → Nat) (Tx : TextV) (D : PlanV) (P : PlanV) (Nw : LineV) (Gs : PlanV) (Tr : LineV) (O : OrdV) (S : SeenV) (U : ShelfV) (K : ShelfV) (p1 : Int32) (p2 : Int32) (p3 : Int32) (rr : Int32 × (Nat → Int32) × (Nat → Int32) × (Nat → Int32) × (Nat → Int32) × (Nat → Int32) × Int32 × Int32 × Int32 × Int32) (hM : MX7_day N P Nw Tr p1 p2 p3 = some rr) : CtI l yX7_day cX7_day 5 .int 5 116 G cI cZ cL [.ref bl, .int p1, .int p2, .int p3] [wBL bl (aTx 0) (aD 0) fc (aP 0) (aNw 0) (aS 0) (aU 0) (aK 0), wText cI aTx Tx, wPlan cI aD D, wFc fc (aP 0) (aNw 0) (aGs 0) (aTr 0) (aO 0), wPlan cI aP P, wLine cI aNw Nw, wPlan cI aGs Gs, wLine cI aTr Tr, wOrd cI aO O, wSeen cI cZ aS S, wShelf cI cL 8 aU laU U, wShelf cI cL 2 aK laK K] rr.1 [wBL bl (aTx 0) (aD 0) fc (aP 0) (aNw 0) (aS 0) (aU 0) (aK 0), wText cI aTx Tx, wPlan cI aD D, wFc fc (aP 0) (aNw 0) (aGs 0) (aTr 0) (aO 0), wPlan cI aP P, wLine cI aNw Nw, wPlan cI aGs Gs, wLine cI aTr (rr.2.1, rr.2.2.1, rr.2.2.2.1, rr.2.2.2.2.1, rr.2.2.2.2.2.1, rr.2.2.2.2.2.2.1, rr.2.2.2.2.2.2.2.1, rr.2.2.2.2.2.2.2.2.1, rr.2.2.2.2.2.2.2.2.2), wOrd cI aO O, wSeen cI cZ aS S, wShelf cI cL 8 aU laU U, wShelf cI cL 2 aK laK K] := by
  refine ct_body (fun A => qI G rr.1 [wBL bl (aTx 0) (aD 0) fc (aP 0) (aNw 0) (aS 0) (aU 0) (aK 0), wText cI aTx Tx, wPlan cI aD D, wFc fc (aP 0) (aNw 0) (aGs 0) (aTr 0) (aO 0), wPlan cI aP P, wLine cI aNw Nw, wPlan cI aGs Gs, wLine cI aTr (rr.2.1, rr.2.2.1, rr.2.2.2.1, rr.2.2.2.2.1, rr.2.2.2.2.2.1, rr.2.2.2.2.2.2.1, rr.2.2.2.2.2.2.2.1, rr.2.2.2.2.2.2.2.2.1, rr.2.2.2.2.2.2.2.2.2), wOrd cI aO O, wSeen cI cZ aS S, wShelf cI cL 8 aU laU U, wShelf cI cL 2 aK laK K] A) (by decide) (Nat.le_of_ble_eq_true rfl) (fun p e s m below meth c A ls X hW hl => ?_)
  have hx := X.1
  have hb := X.2.1
  have hts := X.2.2.2.2.2.1
  have hown := X.2.2.2.2.2.2.1
  have hl : lv_has ls 5 [(0, .ref bl), (1, .int p1), (2, .int p2), (3, .int p3)] := hl
  unfold MX7_day at hM
  refine lv_iload_n hx hb dX7_day_0 rfl (lv_at hl 1 rfl) ?_
  refine lv_if_lt (tgt := 31) hx hb dX7_day_1 (by decide) (fun hc => ?_) (fun hc => ?_)
  · have hM := (if_pos hc).symm.trans hM
    refine lv_iconst (v := (-1 : Int32)) hx hb dX7_day_31 (by decide) ?_
    obtain rfl := Option.some.inj hM
    exact g_reti X hW rfl rfl dX7_day_32
  · have hM := (if_neg hc).symm.trans hM
    refine lv_iload_n hx hb dX7_day_4 rfl (lv_at hl 1 rfl) ?_
    refine lv_sipush (v := (9999 : Int32)) hx hb dX7_day_5 (by decide) ?_
    refine lv_icmp_gt (tgt := 31) hx hb dX7_day_8 (by decide) (fun hc => ?_) (fun hc => ?_)
    · have hM := (if_pos hc).symm.trans hM
      refine lv_iconst (v := (-1 : Int32)) hx hb dX7_day_31 (by decide) ?_
      obtain rfl := Option.some.inj hM
      exact g_reti X hW rfl rfl dX7_day_32
    · have hM := (if_neg hc).symm.trans hM
      refine lv_iload_n hx hb dX7_day_11 rfl (lv_at hl 2 rfl) ?_
      refine lv_iconst (v := (1 : Int32)) hx hb dX7_day_12 (by decide) ?_
      refine lv_icmp_lt (tgt := 31) hx hb dX7_day_13 (by decide) (fun hc => ?_) (fun hc => ?_)
      · have hM := (if_pos hc).symm.trans hM
        refine lv_iconst (v := (-1 : Int32)) hx hb dX7_day_31 (by decide) ?_
        obtain rfl := Option.some.inj hM
        exact g_reti X hW rfl rfl dX7_day_32
      · have hM := (if_neg hc).symm.trans hM
        refine lv_iload_n hx hb dX7_day_16 rfl (lv_at hl 2 rfl) ?_
        refine lv_bipush (v := (60 : Int32)) hx hb dX7_day_17 (by decide) ?_
        refine lv_icmp_gt (tgt := 31) hx hb dX7_day_19 (by decide) (fun hc => ?_) (fun hc => ?_)
        · have hM := (if_pos hc).symm.trans hM
          refine lv_iconst (v := (-1 : Int32)) hx hb dX7_day_31 (by decide) ?_
          obtain rfl := Option.some.inj hM
          exact g_reti X hW rfl rfl dX7_day_32
        · have hM := (if_neg hc).symm.trans hM
          refine lv_iload_n hx hb dX7_day_22 rfl (lv_at hl 3 rfl) ?_
          refine lv_if_lt (tgt := 31) hx hb dX7_day_23 (by decide) (fun hc => ?_) (fun hc => ?_)
          · have hM := (if_pos hc).symm.trans hM
            refine lv_iconst (v := (-1 : Int32)) hx hb dX7_day_31 (by decide) ?_
            obtain rfl := Option.some.inj hM
            exact g_reti X hW rfl rfl dX7_day_32
          · have hM := (if_neg hc).symm.trans hM
            refine lv_iload_n hx hb dX7_day_26 rfl (lv_at hl 3 rfl) ?_
            refine lv_iconst (v := (1 : Int32)) hx hb dX7_day_27 (by decide) ?_
            refine lv_icmp_le (tgt := 33) hx hb dX7_day_28 (by decide) (fun hc => ?_) (fun hc => ?_)
            · have hM := (if_pos hc).symm.trans hM
              refine lv_aload_n hx hb dX7_day_33 rfl (lv_at hl 0 rfl) ?_
              refine g_get X hW 0 rfl rfl inX7 2 (by decide) q_368 rfl dX7_day_34 ?_
              refine lv_iload_n hx hb dX7_day_37 rfl (lv_at hl 1 rfl) ?_
              refine lv_iload_n hx hb dX7_day_38 rfl (lv_at hl 2 rfl) ?_
              obtain ⟨u39, hu39, hM⟩ := bind_some hM
              refine g_callVr (rest := []) (gr := [wBL bl (aTx 0) (aD 0) fc (aP 0) (aNw 0) (aS 0) (aU 0) (aK 0), wText cI aTx Tx, wPlan cI aD D, wSeen cI cZ aS S, wShelf cI cL 8 aU laU U, wShelf cI cL 2 aK laK K]) X hl.1 hW (c_X0_lineBehindDay l G cI cZ cL N fc aP aNw aGs aTr aO P Nw Gs Tr O p1 p2 u39 hu39) q_778 q_775 q_776 q_777 q_57 hd_X0_lineBehindDay rfl ⟨Nat.le_of_ble_eq_true rfl, Nat.le_of_ble_eq_true rfl⟩ ⟨Nat.zero_le _, Nat.zero_le _⟩ [3, 4, 5, 6, 7, 8] [0, 1, 2, 9, 10, 11] [wBL bl (aTx 0) (aD 0) fc (aP 0) (aNw 0) (aS 0) (aU 0) (aK 0), wText cI aTx Tx, wPlan cI aD D, wFc fc (aP 0) (aNw 0) (aGs 0) (aTr 0) (aO 0), wPlan cI aP P, wLine cI aNw Nw, wPlan cI aGs Gs, wLine cI aTr u39, wOrd cI aO O, wSeen cI cZ aS S, wShelf cI cL 8 aU laU U, wShelf cI cL 2 aK laK K] ⟨pm_12_3_4_5_6_7_8, rfl, rfl, rfl⟩ ⟨pm_12_3_4_5_6_7_8, rfl, rfl, rfl⟩ (q0 := 8) rfl rfl rfl (Nat.le_of_ble_eq_true rfl) dX7_day_39 (fun H locs hW => ?_)
              refine lv_astore (lv' := [(4, .ref (aTr 0)), (0, .ref bl), (1, .int p1), (2, .int p2), (3, .int p3)]) hx hb dX7_day_42 hl (by decide) rfl (fun ls hl => ?_)
              refine lv_iload_n hx hb dX7_day_44 rfl (lv_at hl 4 rfl) ?_
              refine lv_if_ne (tgt := 57) hx hb dX7_day_45 (by decide) (fun hc => ?_) (fun hc => ?_)
              · have hM := (if_neg hc).symm.trans hM
                refine lv_aload hx hb dX7_day_57 (lv_at hl 0 rfl) ?_
                refine g_getN X hW 23 rfl rfl inX1 8 (by decide) nt_18 rfl dX7_day_59 ?_
                refine lv_aload_n hx hb dX7_day_62 rfl (lv_at hl 1 rfl) ?_
                refine g_get X hW 0 rfl rfl inX7 4 (by decide) q_370 rfl dX7_day_63 ?_
                refine g_getN X hW 13 rfl rfl inX1 8 (by decide) nt_18 rfl dX7_day_66 ?_
                refine lv_isub hx hb dX7_day_69 ?_
                obtain rfl := Option.some.inj hM
                exact g_reti X hW rfl rfl dX7_day_70
              · have hM := (if_pos hc).symm.trans hM
                refine lv_aload hx hb dX7_day_48 (lv_at hl 0 rfl) ?_
                refine lv_iconst (v := (3 : Int32)) hx hb dX7_day_50 (by decide) ?_
                obtain ⟨u51, hu51, hM⟩ := bind_some hM
                refine g_callVi (rest := []) (gr := [wBL bl (aTx 0) (aD 0) fc (aP 0) (aNw 0) (aS 0) (aU 0) (aK 0), wText cI aTx Tx, wPlan cI aD D, wFc fc (aP 0) (aNw 0) (aGs 0) (aTr 0) (aO 0), wPlan cI aP P, wLine cI aNw Nw, wPlan cI aGs Gs, wOrd cI aO O, wSeen cI cZ aS S, wShelf cI cL 8 aU laU U, wShelf cI cL 2 aK laK K]) X hl.1 hW (c_X1_howMany l G cI cZ cL N aTr u39 (3 : Int32) u51 hu51) q_550 q_547 q_548 q_549 q_58 hd_X1_howMany rfl ⟨Nat.le_of_ble_eq_true rfl, Nat.le_of_ble_eq_true rfl⟩ ⟨Nat.zero_le _, Nat.zero_le _⟩ [7] [0, 1, 2, 3, 4, 5, 6, 8, 9, 10, 11] [wBL bl (aTx 0) (aD 0) fc (aP 0) (aNw 0) (aS 0) (aU 0) (aK 0), wText cI aTx Tx, wPlan cI aD D, wFc fc (aP 0) (aNw 0) (aGs 0) (aTr 0) (aO 0), wPlan cI aP P, wLine cI aNw Nw, wPlan cI aGs Gs, wLine cI aTr u39, wOrd cI aO O, wSeen cI cZ aS S, wShelf cI cL 8 aU laU U, wShelf cI cL 2 aK laK K] ⟨pm_12_7, rfl, rfl, rfl⟩ ⟨pm_12_7, rfl, rfl, rfl⟩ (q0 := 23) rfl rfl rfl (Nat.le_of_ble_eq_true rfl) dX7_day_51 (fun H locs hW => ?_)
                refine lv_goto (tgt := 70) hx hb dX7_day_54 (by decide) ?_
                obtain rfl := Option.some.inj hM
                exact g_reti X hW rfl rfl dX7_day_70
            · have hM := (if_neg hc).symm.trans hM
              refine lv_iconst (v := (-1 : Int32)) hx hb dX7_day_31 (by decide) ?_
              obtain rfl := Option.some.inj hM
              exact g_reti X hW rfl rfl dX7_day_32

def MX7_keep (N : Nat) (Nw : LineV) (K : ShelfV) : Option (Int32 × Int32 × Int32 × (Nat → LineV)) :=
  if K.2.1 < (2 : Int32) then ((MX5_push N K 2 Nw).bind (fun u22 => some (u22.2.1, u22.1, u22.2.1, u22.2.2))) else some ((-3 : Int32), K.1, K.2.1, K.2.2)
set_option maxHeartbeats 4000000 in
set_option maxRecDepth 100000 in
theorem c_X7_keep (l : Launch) (G : va_G) (cI cZ cL : ClassId) (N : Nat) (bl : Nat) (aTx : Nat → Nat) (aD : Nat → Nat) (fc : Nat) (aP : Nat → Nat) (aNw : Nat → Nat) (aGs : Nat → Nat) (aTr : Nat → Nat) (aO : Nat → Nat) (aS : Nat → Nat) (aU : Nat → Nat) (laU : Nat → Nat → Nat) (aK : Nat → Nat) (laK : Nat → Nat → Nat) (Tx : TextV) (D : PlanV) (P : PlanV) (Nw : LineV) (Gs : PlanV) (Tr : LineV) (O : OrdV) (S : SeenV) (U : ShelfV) (K : ShelfV) (rr : Int32 × Int32 × Int32 × (Nat → LineV)) (hM : MX7_keep N Nw K = some rr) : CtI l yX7_keep cX7_keep 1 .int 3 60 G cI cZ cL [.ref bl] [wBL bl (aTx 0) (aD 0) fc (aP 0) (aNw 0) (aS 0) (aU 0) (aK 0), wText cI aTx Tx, wPlan cI aD D, wFc fc (aP 0) (aNw 0) (aGs 0) (aTr 0) (aO 0), wPlan cI aP P, wLine cI aNw Nw, wPlan cI aGs Gs, wLine cI aTr Tr, wOrd cI aO O, wSeen cI cZ aS S, wShelf cI cL 8 aU laU U, wShelf cI cL 2 aK laK K] rr.1 [wBL bl (aTx 0) (aD 0) fc (aP 0) (aNw 0) (aS 0) (aU 0) (aK 0), wText cI aTx Tx, wPlan cI aD D, wFc fc (aP 0) (aNw 0) (aGs 0) (aTr 0) (aO 0), wPlan cI aP P, wLine cI aNw Nw, wPlan cI aGs Gs, wLine cI aTr Tr, wOrd cI aO O, wSeen cI cZ aS S, wShelf cI cL 8 aU laU U, wShelf cI cL 2 aK laK (rr.2.1, rr.2.2.1, rr.2.2.2)] := by
  refine ct_body (fun A => qI G rr.1 [wBL bl (aTx 0) (aD 0) fc (aP 0) (aNw 0) (aS 0) (aU 0) (aK 0), wText cI aTx Tx, wPlan cI aD D, wFc fc (aP 0) (aNw 0) (aGs 0) (aTr 0) (aO 0), wPlan cI aP P, wLine cI aNw Nw, wPlan cI aGs Gs, wLine cI aTr Tr, wOrd cI aO O, wSeen cI cZ aS S, wShelf cI cL 8 aU laU U, wShelf cI cL 2 aK laK (rr.2.1, rr.2.2.1, rr.2.2.2)] A) (by decide) (Nat.le_of_ble_eq_true rfl) (fun p e s m below meth c A ls X hW hl => ?_)
  have hx := X.1
  have hb := X.2.1
  have hts := X.2.2.2.2.2.1
  have hown := X.2.2.2.2.2.2.1
  have hl : lv_has ls 1 [(0, .ref bl)] := hl
  unfold MX7_keep at hM
  refine lv_aload_n hx hb dX7_keep_0 rfl (lv_at hl 0 rfl) ?_
  refine g_get X hW 0 rfl rfl inX7 7 (by decide) q_373 rfl dX7_keep_1 ?_
  refine g_getN X hW 86 rfl rfl inX5 2 (by decide) nt_27 rfl dX7_keep_4 ?_
  refine lv_iconst (v := (2 : Int32)) hx hb dX7_keep_7 (by decide) ?_
  refine lv_icmp_lt (tgt := 14) hx hb dX7_keep_8 (by decide) (fun hc => ?_) (fun hc => ?_)
  · have hM := (if_pos hc).symm.trans hM
    refine lv_aload_n hx hb dX7_keep_14 rfl (lv_at hl 0 rfl) ?_
    refine g_get X hW 0 rfl rfl inX7 7 (by decide) q_373 rfl dX7_keep_15 ?_
    refine lv_aload_n hx hb dX7_keep_18 rfl (lv_at hl 0 rfl) ?_
    refine g_get X hW 0 rfl rfl inX7 4 (by decide) q_370 rfl dX7_keep_19 ?_
    obtain ⟨u22, hu22, hM⟩ := bind_some hM
    refine g_callVv (rest := []) (gr := [wBL bl (aTx 0) (aD 0) fc (aP 0) (aNw 0) (aS 0) (aU 0) (aK 0), wText cI aTx Tx, wPlan cI aD D, wFc fc (aP 0) (aNw 0) (aGs 0) (aTr 0) (aO 0), wPlan cI aP P, wPlan cI aGs Gs, wLine cI aTr Tr, wOrd cI aO O, wSeen cI cZ aS S, wShelf cI cL 8 aU laU U]) X hl.1 hW (c_X5_push l G cI cZ cL N aK laK 2 aNw K Nw u22 hu22) q_482 q_479 q_480 q_481 q_61 hd_X5_push rfl ⟨Nat.le_of_ble_eq_true rfl, Nat.le_of_ble_eq_true rfl⟩ ⟨Nat.zero_le _, Nat.zero_le _⟩ [11, 5] [0, 1, 2, 3, 4, 6, 7, 8, 9, 10] [wBL bl (aTx 0) (aD 0) fc (aP 0) (aNw 0) (aS 0) (aU 0) (aK 0), wText cI aTx Tx, wPlan cI aD D, wFc fc (aP 0) (aNw 0) (aGs 0) (aTr 0) (aO 0), wPlan cI aP P, wLine cI aNw Nw, wPlan cI aGs Gs, wLine cI aTr Tr, wOrd cI aO O, wSeen cI cZ aS S, wShelf cI cL 8 aU laU U, wShelf cI cL 2 aK laK u22] ⟨pm_12_11_5, rfl, rfl, rfl⟩ ⟨pm_12_11_5, rfl, rfl, rfl⟩ (q0 := 86) rfl rfl rfl (Nat.le_of_ble_eq_true rfl) dX7_keep_22 (fun H locs hW => ?_)
    refine lv_aload_n hx hb dX7_keep_25 rfl (lv_at hl 0 rfl) ?_
    refine g_get X hW 0 rfl rfl inX7 7 (by decide) q_373 rfl dX7_keep_26 ?_
    refine g_getN X hW 86 rfl rfl inX5 2 (by decide) nt_27 rfl dX7_keep_29 ?_
    obtain rfl := Option.some.inj hM
    exact g_reti X hW rfl rfl dX7_keep_32
  · have hM := (if_neg hc).symm.trans hM
    refine lv_bipush (v := (-3 : Int32)) hx hb dX7_keep_11 (by decide) ?_
    obtain rfl := Option.some.inj hM
    exact g_reti X hW rfl rfl dX7_keep_13

def MX7_back (N : Nat) (Nw : LineV) (U : ShelfV) (K : ShelfV) : Option (Int32 × (Nat → Int32) × (Nat → Int32) × (Nat → Int32) × (Nat → Int32) × (Nat → Int32) × Int32 × Int32 × Int32 × Int32 × Int32 × Int32 × Int32) :=
  (MX5_popInto N K 2 Nw).bind (fun u8 => if u8.1 = 0 then some ((-2 : Int32), u8.2.2.2.1, u8.2.2.2.2.1, u8.2.2.2.2.2.1, u8.2.2.2.2.2.2.1, u8.2.2.2.2.2.2.2.1, u8.2.2.2.2.2.2.2.2.1, u8.2.2.2.2.2.2.2.2.2.1, u8.2.2.2.2.2.2.2.2.2.2.1, u8.2.2.2.2.2.2.2.2.2.2.2, U.2.1, u8.2.1, u8.2.2.1) else ((MX5_empty N).bind (fun u21 => some (u8.2.2.1, u8.2.2.2.1, u8.2.2.2.2.1, u8.2.2.2.2.2.1, u8.2.2.2.2.2.2.1, u8.2.2.2.2.2.2.2.1, u8.2.2.2.2.2.2.2.2.1, u8.2.2.2.2.2.2.2.2.2.1, u8.2.2.2.2.2.2.2.2.2.2.1, u8.2.2.2.2.2.2.2.2.2.2.2, u21, u8.2.1, u8.2.2.1))))
set_option maxHeartbeats 4000000 in
set_option maxRecDepth 100000 in
theorem c_X7_back (l : Launch) (G : va_G) (cI cZ cL : ClassId) (N : Nat) (bl : Nat) (aTx : Nat → Nat) (aD : Nat → Nat) (fc : Nat) (aP : Nat → Nat) (aNw : Nat → Nat) (aGs : Nat → Nat) (aTr : Nat → Nat) (aO : Nat → Nat) (aS : Nat → Nat) (aU : Nat → Nat) (laU : Nat → Nat → Nat) (aK : Nat → Nat) (laK : Nat → Nat → Nat) (Tx : TextV) (D : PlanV) (P : PlanV) (Nw : LineV) (Gs : PlanV) (Tr : LineV) (O : OrdV) (S : SeenV) (U : ShelfV) (K : ShelfV) (rr : Int32 × (Nat → Int32) × (Nat → Int32) × (Nat → Int32) × (Nat → Int32) × (Nat → Int32) × Int32 × Int32 × Int32 × Int32 × Int32 × Int32 × Int32) (hM : MX7_back N Nw U K = some rr) : CtI l yX7_back cX7_back 1 .int 3 61 G cI cZ cL [.ref bl] [wBL bl (aTx 0) (aD 0) fc (aP 0) (aNw 0) (aS 0) (aU 0) (aK 0), wText cI aTx Tx, wPlan cI aD D, wFc fc (aP 0) (aNw 0) (aGs 0) (aTr 0) (aO 0), wPlan cI aP P, wLine cI aNw Nw, wPlan cI aGs Gs, wLine cI aTr Tr, wOrd cI aO O, wSeen cI cZ aS S, wShelf cI cL 8 aU laU U, wShelf cI cL 2 aK laK K] rr.1 [wBL bl (aTx 0) (aD 0) fc (aP 0) (aNw 0) (aS 0) (aU 0) (aK 0), wText cI aTx Tx, wPlan cI aD D, wFc fc (aP 0) (aNw 0) (aGs 0) (aTr 0) (aO 0), wPlan cI aP P, wLine cI aNw (rr.2.1, rr.2.2.1, rr.2.2.2.1, rr.2.2.2.2.1, rr.2.2.2.2.2.1, rr.2.2.2.2.2.2.1, rr.2.2.2.2.2.2.2.1, rr.2.2.2.2.2.2.2.2.1, rr.2.2.2.2.2.2.2.2.2.1), wPlan cI aGs Gs, wLine cI aTr Tr, wOrd cI aO O, wSeen cI cZ aS S, wShelf cI cL 8 aU laU (U.1, rr.2.2.2.2.2.2.2.2.2.2.1, U.2.2), wShelf cI cL 2 aK laK (rr.2.2.2.2.2.2.2.2.2.2.2.1, rr.2.2.2.2.2.2.2.2.2.2.2.2, K.2.2)] := by
  refine ct_body (fun A => qI G rr.1 [wBL bl (aTx 0) (aD 0) fc (aP 0) (aNw 0) (aS 0) (aU 0) (aK 0), wText cI aTx Tx, wPlan cI aD D, wFc fc (aP 0) (aNw 0) (aGs 0) (aTr 0) (aO 0), wPlan cI aP P, wLine cI aNw (rr.2.1, rr.2.2.1, rr.2.2.2.1, rr.2.2.2.2.1, rr.2.2.2.2.2.1, rr.2.2.2.2.2.2.1, rr.2.2.2.2.2.2.2.1, rr.2.2.2.2.2.2.2.2.1, rr.2.2.2.2.2.2.2.2.2.1), wPlan cI aGs Gs, wLine cI aTr Tr, wOrd cI aO O, wSeen cI cZ aS S, wShelf cI cL 8 aU laU (U.1, rr.2.2.2.2.2.2.2.2.2.2.1, U.2.2), wShelf cI cL 2 aK laK (rr.2.2.2.2.2.2.2.2.2.2.2.1, rr.2.2.2.2.2.2.2.2.2.2.2.2, K.2.2)] A) (by decide) (Nat.le_of_ble_eq_true rfl) (fun p e s m below meth c A ls X hW hl => ?_)
  have hx := X.1
  have hb := X.2.1
  have hts := X.2.2.2.2.2.1
  have hown := X.2.2.2.2.2.2.1
  have hl : lv_has ls 1 [(0, .ref bl)] := hl
  unfold MX7_back at hM
  refine lv_aload_n hx hb dX7_back_0 rfl (lv_at hl 0 rfl) ?_
  refine g_get X hW 0 rfl rfl inX7 7 (by decide) q_373 rfl dX7_back_1 ?_
  refine lv_aload_n hx hb dX7_back_4 rfl (lv_at hl 0 rfl) ?_
  refine g_get X hW 0 rfl rfl inX7 4 (by decide) q_370 rfl dX7_back_5 ?_
  obtain ⟨u8, hu8, hM⟩ := bind_some hM
  refine g_callVi (rest := []) (gr := [wBL bl (aTx 0) (aD 0) fc (aP 0) (aNw 0) (aS 0) (aU 0) (aK 0), wText cI aTx Tx, wPlan cI aD D, wFc fc (aP 0) (aNw 0) (aGs 0) (aTr 0) (aO 0), wPlan cI aP P, wPlan cI aGs Gs, wLine cI aTr Tr, wOrd cI aO O, wSeen cI cZ aS S, wShelf cI cL 8 aU laU U]) X hl.1 hW (c_X5_popInto l G cI cZ cL N aK laK 2 aNw K Nw u8 hu8) q_588 q_585 q_586 q_587 q_61 hd_X5_popInto rfl ⟨Nat.le_of_ble_eq_true rfl, Nat.le_of_ble_eq_true rfl⟩ ⟨Nat.zero_le _, Nat.zero_le _⟩ [11, 5] [0, 1, 2, 3, 4, 6, 7, 8, 9, 10] [wBL bl (aTx 0) (aD 0) fc (aP 0) (aNw 0) (aS 0) (aU 0) (aK 0), wText cI aTx Tx, wPlan cI aD D, wFc fc (aP 0) (aNw 0) (aGs 0) (aTr 0) (aO 0), wPlan cI aP P, wLine cI aNw (u8.2.2.2.1, u8.2.2.2.2.1, u8.2.2.2.2.2.1, u8.2.2.2.2.2.2.1, u8.2.2.2.2.2.2.2.1, u8.2.2.2.2.2.2.2.2.1, u8.2.2.2.2.2.2.2.2.2.1, u8.2.2.2.2.2.2.2.2.2.2.1, u8.2.2.2.2.2.2.2.2.2.2.2), wPlan cI aGs Gs, wLine cI aTr Tr, wOrd cI aO O, wSeen cI cZ aS S, wShelf cI cL 8 aU laU U, wShelf cI cL 2 aK laK (u8.2.1, u8.2.2.1, K.2.2)] ⟨pm_12_11_5, rfl, rfl, rfl⟩ ⟨pm_12_11_5, rfl, rfl, rfl⟩ (q0 := 86) rfl rfl rfl (Nat.le_of_ble_eq_true rfl) dX7_back_8 (fun H locs hW => ?_)
  refine lv_if_ne (tgt := 17) hx hb dX7_back_11 (by decide) (fun hc => ?_) (fun hc => ?_)
  · have hM := (if_neg hc).symm.trans hM
    refine lv_aload_n hx hb dX7_back_17 rfl (lv_at hl 0 rfl) ?_
    refine g_get X hW 0 rfl rfl inX7 6 (by decide) q_372 rfl dX7_back_18 ?_
    obtain ⟨u21, hu21, hM⟩ := bind_some hM
    refine g_callVv (rest := []) (gr := [wBL bl (aTx 0) (aD 0) fc (aP 0) (aNw 0) (aS 0) (aU 0) (aK 0), wText cI aTx Tx, wPlan cI aD D, wFc fc (aP 0) (aNw 0) (aGs 0) (aTr 0) (aO 0), wPlan cI aP P, wLine cI aNw (u8.2.2.2.1, u8.2.2.2.2.1, u8.2.2.2.2.2.1, u8.2.2.2.2.2.2.1, u8.2.2.2.2.2.2.2.1, u8.2.2.2.2.2.2.2.2.1, u8.2.2.2.2.2.2.2.2.2.1, u8.2.2.2.2.2.2.2.2.2.2.1, u8.2.2.2.2.2.2.2.2.2.2.2), wPlan cI aGs Gs, wLine cI aTr Tr, wOrd cI aO O, wSeen cI cZ aS S, wShelf cI cL 2 aK laK (u8.2.1, u8.2.2.1, K.2.2)]) X hl.1 hW (c_X5_empty l G cI cZ cL N aU laU 8 U u21 hu21) q_426 q_423 q_424 q_425 q_61 hd_X5_empty rfl ⟨Nat.le_of_ble_eq_true rfl, Nat.le_of_ble_eq_true rfl⟩ ⟨Nat.zero_le _, Nat.zero_le _⟩ [10] [0, 1, 2, 3, 4, 5, 6, 7, 8, 9, 11] [wBL bl (aTx 0) (aD 0) fc (aP 0) (aNw 0) (aS 0) (aU 0) (aK 0), wText cI aTx Tx, wPlan cI aD D, wFc fc (aP 0) (aNw 0) (aGs 0) (aTr 0) (aO 0), wPlan cI aP P, wLine cI aNw (u8.2.2.2.1, u8.2.2.2.2.1, u8.2.2.2.2.2.1, u8.2.2.2.2.2.2.1, u8.2.2.2.2.2.2.2.1, u8.2.2.2.2.2.2.2.2.1, u8.2.2.2.2.2.2.2.2.2.1, u8.2.2.2.2.2.2.2.2.2.2.1, u8.2.2.2.2.2.2.2.2.2.2.2), wPlan cI aGs Gs, wLine cI aTr Tr, wOrd cI aO O, wSeen cI cZ aS S, wShelf cI cL 8 aU laU (U.1, u21, U.2.2), wShelf cI cL 2 aK laK (u8.2.1, u8.2.2.1, K.2.2)] ⟨pm_12_10, rfl, rfl, rfl⟩ ⟨pm_12_10, rfl, rfl, rfl⟩ (q0 := 36) rfl rfl rfl (Nat.le_of_ble_eq_true rfl) dX7_back_21 (fun H locs hW => ?_)
    refine lv_aload_n hx hb dX7_back_24 rfl (lv_at hl 0 rfl) ?_
    refine g_get X hW 0 rfl rfl inX7 7 (by decide) q_373 rfl dX7_back_25 ?_
    refine g_getN X hW 86 rfl rfl inX5 2 (by decide) nt_27 rfl dX7_back_28 ?_
    obtain rfl := Option.some.inj hM
    exact g_reti X hW rfl rfl dX7_back_31
  · have hM := (if_pos hc).symm.trans hM
    refine lv_bipush (v := (-2 : Int32)) hx hb dX7_back_14 (by decide) ?_
    obtain rfl := Option.some.inj hM
    exact g_reti X hW rfl rfl dX7_back_16

def MX7_count (N : Nat) (Tx : TextV) (P : PlanV) (Nw : LineV) (S : SeenV) (U : ShelfV) (K : ShelfV) (p1 : Int32) : Option (Int32) :=
  if p1 = (0 : Int32) then some (P.2.2.2.1) else if p1 = (1 : Int32) then some (Nw.2.2.2.2.2.2.1) else if p1 = (2 : Int32) then some (Nw.2.2.2.2.2.1) else if p1 = (3 : Int32) then ((MX1_howMany N Nw (2 : Int32)).bind (fun u85 => some (u85))) else if p1 = (4 : Int32) then ((MX1_howMany N Nw (3 : Int32)).bind (fun u94 => some (u94))) else if p1 = (5 : Int32) then some (Nw.2.2.2.2.2.2.2.1) else if p1 = (6 : Int32) then some (S.2.2.2) else if p1 = (7 : Int32) then some (U.2.1) else if p1 = (8 : Int32) then some (K.2.1) else if p1 = (9 : Int32) then some (Tx.2.2) else some ((-1 : Int32))
set_option maxHeartbeats 4000000 in
set_option maxRecDepth 100000 in
theorem c_X7_count (l : Launch) (G : va_G) (cI cZ cL : ClassId) (N : Nat) (bl : Nat) (aTx : Nat → Nat) (aD : Nat → Nat) (fc : Nat) (aP : Nat → Nat) (aNw : Nat → Nat) (aGs : Nat → Nat) (aTr : Nat → Nat) (aO : Nat → Nat) (aS : Nat → Nat) (aU : Nat → Nat) (laU : Nat → Nat → Nat) (aK : Nat → Nat) (laK : Nat → Nat → Nat) (Tx : TextV) (D : PlanV) (P : PlanV) (Nw : LineV) (Gs : PlanV) (Tr : LineV) (O : OrdV) (S : SeenV) (U : ShelfV) (K : ShelfV) (p1 : Int32) (rr : Int32) (hM : MX7_count N Tx P Nw S U K p1 = some rr) : CtI l yX7_count cX7_count 2 .int 1 23 G cI cZ cL [.ref bl, .int p1] [wBL bl (aTx 0) (aD 0) fc (aP 0) (aNw 0) (aS 0) (aU 0) (aK 0), wText cI aTx Tx, wPlan cI aD D, wFc fc (aP 0) (aNw 0) (aGs 0) (aTr 0) (aO 0), wPlan cI aP P, wLine cI aNw Nw, wPlan cI aGs Gs, wLine cI aTr Tr, wOrd cI aO O, wSeen cI cZ aS S, wShelf cI cL 8 aU laU U, wShelf cI cL 2 aK laK K] rr [wBL bl (aTx 0) (aD 0) fc (aP 0) (aNw 0) (aS 0) (aU 0) (aK 0), wText cI aTx Tx, wPlan cI aD D, wFc fc (aP 0) (aNw 0) (aGs 0) (aTr 0) (aO 0), wPlan cI aP P, wLine cI aNw Nw, wPlan cI aGs Gs, wLine cI aTr Tr, wOrd cI aO O, wSeen cI cZ aS S, wShelf cI cL 8 aU laU U, wShelf cI cL 2 aK laK K] := by
  refine ct_body (fun A => qI G rr [wBL bl (aTx 0) (aD 0) fc (aP 0) (aNw 0) (aS 0) (aU 0) (aK 0), wText cI aTx Tx, wPlan cI aD D, wFc fc (aP 0) (aNw 0) (aGs 0) (aTr 0) (aO 0), wPlan cI aP P, wLine cI aNw Nw, wPlan cI aGs Gs, wLine cI aTr Tr, wOrd cI aO O, wSeen cI cZ aS S, wShelf cI cL 8 aU laU U, wShelf cI cL 2 aK laK K] A) (by decide) (Nat.le_of_ble_eq_true rfl) (fun p e s m below meth c A ls X hW hl => ?_)
  have hx := X.1
  have hb := X.2.1
  have hts := X.2.2.2.2.2.1
  have hown := X.2.2.2.2.2.2.1
  have hl : lv_has ls 2 [(0, .ref bl), (1, .int p1)] := hl
  unfold MX7_count at hM
  refine lv_iload_n hx hb dX7_count_0 rfl (lv_at hl 1 rfl) ?_
  by_cases hs1_0 : p1 = (0 : Int32)
  · have hM := (if_pos hs1_0).symm.trans hM
    refine lv_tableIn (off := 55) (tgt := 56) hx hb dX7_count_1 (by rw [hs1_0]; decide) (by rw [hs1_0]; decide) (by rw [hs1_0]; rfl) (by decide) ?_
    refine lv_aload_n hx hb dX7_count_56 rfl (lv_at hl 0 rfl) ?_
    refine g_get X hW 0 rfl rfl inX7 3 (by decide) q_369 rfl dX7_count_57 ?_
    refine g_getN X hW 9 rfl rfl inX3 3 (by decide) nt_7 rfl dX7_count_60 ?_
    obtain rfl := Option.some.inj hM
    exact g_reti X hW rfl rfl dX7_count_63
  · have hM := (if_neg hs1_0).symm.trans hM
    by_cases hs1_1 : p1 = (1 : Int32)
    · have hM := (if_pos hs1_1).symm.trans hM
      refine lv_tableIn (off := 63) (tgt := 64) hx hb dX7_count_1 (by rw [hs1_1]; decide) (by rw [hs1_1]; decide) (by rw [hs1_1]; rfl) (by decide) ?_
      refine lv_aload_n hx hb dX7_count_64 rfl (lv_at hl 0 rfl) ?_
      refine g_get X hW 0 rfl rfl inX7 4 (by decide) q_370 rfl dX7_count_65 ?_
      refine g_getN X hW 13 rfl rfl inX1 6 (by decide) nt_16 rfl dX7_count_68 ?_
      obtain rfl := Option.some.inj hM
      exact g_reti X hW rfl rfl dX7_count_71
    · have hM := (if_neg hs1_1).symm.trans hM
      by_cases hs1_2 : p1 = (2 : Int32)
      · have hM := (if_pos hs1_2).symm.trans hM
        refine lv_tableIn (off := 71) (tgt := 72) hx hb dX7_count_1 (by rw [hs1_2]; decide) (by rw [hs1_2]; decide) (by rw [hs1_2]; rfl) (by decide) ?_
        refine lv_aload_n hx hb dX7_count_72 rfl (lv_at hl 0 rfl) ?_
        refine g_get X hW 0 rfl rfl inX7 4 (by decide) q_370 rfl dX7_count_73 ?_
        refine g_getN X hW 13 rfl rfl inX1 5 (by decide) nt_13 rfl dX7_count_76 ?_
        obtain rfl := Option.some.inj hM
        exact g_reti X hW rfl rfl dX7_count_79
      · have hM := (if_neg hs1_2).symm.trans hM
        by_cases hs1_3 : p1 = (3 : Int32)
        · have hM := (if_pos hs1_3).symm.trans hM
          refine lv_tableIn (off := 79) (tgt := 80) hx hb dX7_count_1 (by rw [hs1_3]; decide) (by rw [hs1_3]; decide) (by rw [hs1_3]; rfl) (by decide) ?_
          refine lv_aload_n hx hb dX7_count_80 rfl (lv_at hl 0 rfl) ?_
          refine g_get X hW 0 rfl rfl inX7 4 (by decide) q_370 rfl dX7_count_81 ?_
          refine lv_iconst (v := (2 : Int32)) hx hb dX7_count_84 (by decide) ?_
          obtain ⟨u85, hu85, hM⟩ := bind_some hM
          refine g_callVi (rest := []) (gr := [wBL bl (aTx 0) (aD 0) fc (aP 0) (aNw 0) (aS 0) (aU 0) (aK 0), wText cI aTx Tx, wPlan cI aD D, wFc fc (aP 0) (aNw 0) (aGs 0) (aTr 0) (aO 0), wPlan cI aP P, wPlan cI aGs Gs, wLine cI aTr Tr, wOrd cI aO O, wSeen cI cZ aS S, wShelf cI cL 8 aU laU U, wShelf cI cL 2 aK laK K]) X hl.1 hW (c_X1_howMany l G cI cZ cL N aNw Nw (2 : Int32) u85 hu85) q_550 q_547 q_548 q_549 q_58 hd_X1_howMany rfl ⟨Nat.le_of_ble_eq_true rfl, Nat.le_of_ble_eq_true rfl⟩ ⟨Nat.zero_le _, Nat.zero_le _⟩ [5] [0, 1, 2, 3, 4, 6, 7, 8, 9, 10, 11] [wBL bl (aTx 0) (aD 0) fc (aP 0) (aNw 0) (aS 0) (aU 0) (aK 0), wText cI aTx Tx, wPlan cI aD D, wFc fc (aP 0) (aNw 0) (aGs 0) (aTr 0) (aO 0), wPlan cI aP P, wLine cI aNw Nw, wPlan cI aGs Gs, wLine cI aTr Tr, wOrd cI aO O, wSeen cI cZ aS S, wShelf cI cL 8 aU laU U, wShelf cI cL 2 aK laK K] ⟨pm_12_5, rfl, rfl, rfl⟩ ⟨pm_12_5, rfl, rfl, rfl⟩ (q0 := 13) rfl rfl rfl (Nat.le_of_ble_eq_true rfl) dX7_count_85 (fun H locs hW => ?_)
          obtain rfl := Option.some.inj hM
          exact g_reti X hW rfl rfl dX7_count_88
        · have hM := (if_neg hs1_3).symm.trans hM
          by_cases hs1_4 : p1 = (4 : Int32)
          · have hM := (if_pos hs1_4).symm.trans hM
            refine lv_tableIn (off := 88) (tgt := 89) hx hb dX7_count_1 (by rw [hs1_4]; decide) (by rw [hs1_4]; decide) (by rw [hs1_4]; rfl) (by decide) ?_
            refine lv_aload_n hx hb dX7_count_89 rfl (lv_at hl 0 rfl) ?_
            refine g_get X hW 0 rfl rfl inX7 4 (by decide) q_370 rfl dX7_count_90 ?_
            refine lv_iconst (v := (3 : Int32)) hx hb dX7_count_93 (by decide) ?_
            obtain ⟨u94, hu94, hM⟩ := bind_some hM
            refine g_callVi (rest := []) (gr := [wBL bl (aTx 0) (aD 0) fc (aP 0) (aNw 0) (aS 0) (aU 0) (aK 0), wText cI aTx Tx, wPlan cI aD D, wFc fc (aP 0) (aNw 0) (aGs 0) (aTr 0) (aO 0), wPlan cI aP P, wPlan cI aGs Gs, wLine cI aTr Tr, wOrd cI aO O, wSeen cI cZ aS S, wShelf cI cL 8 aU laU U, wShelf cI cL 2 aK laK K]) X hl.1 hW (c_X1_howMany l G cI cZ cL N aNw Nw (3 : Int32) u94 hu94) q_550 q_547 q_548 q_549 q_58 hd_X1_howMany rfl ⟨Nat.le_of_ble_eq_true rfl, Nat.le_of_ble_eq_true rfl⟩ ⟨Nat.zero_le _, Nat.zero_le _⟩ [5] [0, 1, 2, 3, 4, 6, 7, 8, 9, 10, 11] [wBL bl (aTx 0) (aD 0) fc (aP 0) (aNw 0) (aS 0) (aU 0) (aK 0), wText cI aTx Tx, wPlan cI aD D, wFc fc (aP 0) (aNw 0) (aGs 0) (aTr 0) (aO 0), wPlan cI aP P, wLine cI aNw Nw, wPlan cI aGs Gs, wLine cI aTr Tr, wOrd cI aO O, wSeen cI cZ aS S, wShelf cI cL 8 aU laU U, wShelf cI cL 2 aK laK K] ⟨pm_12_5, rfl, rfl, rfl⟩ ⟨pm_12_5, rfl, rfl, rfl⟩ (q0 := 13) rfl rfl rfl (Nat.le_of_ble_eq_true rfl) dX7_count_94 (fun H locs hW => ?_)
            obtain rfl := Option.some.inj hM
            exact g_reti X hW rfl rfl dX7_count_97
          · have hM := (if_neg hs1_4).symm.trans hM
            by_cases hs1_5 : p1 = (5 : Int32)
            · have hM := (if_pos hs1_5).symm.trans hM
              refine lv_tableIn (off := 97) (tgt := 98) hx hb dX7_count_1 (by rw [hs1_5]; decide) (by rw [hs1_5]; decide) (by rw [hs1_5]; rfl) (by decide) ?_
              refine lv_aload_n hx hb dX7_count_98 rfl (lv_at hl 0 rfl) ?_
              refine g_get X hW 0 rfl rfl inX7 4 (by decide) q_370 rfl dX7_count_99 ?_
              refine g_getN X hW 13 rfl rfl inX1 7 (by decide) nt_17 rfl dX7_count_102 ?_
              obtain rfl := Option.some.inj hM
              exact g_reti X hW rfl rfl dX7_count_105
            · have hM := (if_neg hs1_5).symm.trans hM
              by_cases hs1_6 : p1 = (6 : Int32)
              · have hM := (if_pos hs1_6).symm.trans hM
                refine lv_tableIn (off := 105) (tgt := 106) hx hb dX7_count_1 (by rw [hs1_6]; decide) (by rw [hs1_6]; decide) (by rw [hs1_6]; rfl) (by decide) ?_
                refine lv_aload_n hx hb dX7_count_106 rfl (lv_at hl 0 rfl) ?_
                refine g_get X hW 0 rfl rfl inX7 5 (by decide) q_371 rfl dX7_count_107 ?_
                refine g_getN X hW 32 rfl rfl inX4 3 (by decide) nt_25 rfl dX7_count_110 ?_
                obtain rfl := Option.some.inj hM
                exact g_reti X hW rfl rfl dX7_count_113
              · have hM := (if_neg hs1_6).symm.trans hM
                by_cases hs1_7 : p1 = (7 : Int32)
                · have hM := (if_pos hs1_7).symm.trans hM
                  refine lv_tableIn (off := 113) (tgt := 114) hx hb dX7_count_1 (by rw [hs1_7]; decide) (by rw [hs1_7]; decide) (by rw [hs1_7]; rfl) (by decide) ?_
                  refine lv_aload_n hx hb dX7_count_114 rfl (lv_at hl 0 rfl) ?_
                  refine g_get X hW 0 rfl rfl inX7 6 (by decide) q_372 rfl dX7_count_115 ?_
                  refine g_getN X hW 36 rfl rfl inX5 2 (by decide) nt_27 rfl dX7_count_118 ?_
                  obtain rfl := Option.some.inj hM
                  exact g_reti X hW rfl rfl dX7_count_121
                · have hM := (if_neg hs1_7).symm.trans hM
                  by_cases hs1_8 : p1 = (8 : Int32)
                  · have hM := (if_pos hs1_8).symm.trans hM
                    refine lv_tableIn (off := 121) (tgt := 122) hx hb dX7_count_1 (by rw [hs1_8]; decide) (by rw [hs1_8]; decide) (by rw [hs1_8]; rfl) (by decide) ?_
                    refine lv_aload_n hx hb dX7_count_122 rfl (lv_at hl 0 rfl) ?_
                    refine g_get X hW 0 rfl rfl inX7 7 (by decide) q_373 rfl dX7_count_123 ?_
                    refine g_getN X hW 86 rfl rfl inX5 2 (by decide) nt_27 rfl dX7_count_126 ?_
                    obtain rfl := Option.some.inj hM
                    exact g_reti X hW rfl rfl dX7_count_129
                  · have hM := (if_neg hs1_8).symm.trans hM
                    by_cases hs1_9 : p1 = (9 : Int32)
                    · have hM := (if_pos hs1_9).symm.trans hM
                      refine lv_tableIn (off := 129) (tgt := 130) hx hb dX7_count_1 (by rw [hs1_9]; decide) (by rw [hs1_9]; decide) (by rw [hs1_9]; rfl) (by decide) ?_
                      refine lv_aload_n hx hb dX7_count_130 rfl (lv_at hl 0 rfl) ?_
                      refine g_get X hW 0 rfl rfl inX7 0 (by decide) q_366 rfl dX7_count_131 ?_
                      refine g_getN X hW 1 rfl rfl inX6 2 (by decide) nt_1 rfl dX7_count_134 ?_
                      obtain rfl := Option.some.inj hM
                      exact g_reti X hW rfl rfl dX7_count_137
                    · have hM := (if_neg hs1_9).symm.trans hM
                      refine lv_tableOut (tgt := 138) hx hb dX7_count_1 (sw_out 9 (fun j hj => by rcases sw_le9 hj with rfl | rfl | rfl | rfl | rfl | rfl | rfl | rfl | rfl | rfl <;> assumption)) (by decide) ?_
                      refine lv_iconst (v := (-1 : Int32)) hx hb dX7_count_138 (by decide) ?_
                      obtain rfl := Option.some.inj hM
                      exact g_reti X hW rfl rfl dX7_count_139
