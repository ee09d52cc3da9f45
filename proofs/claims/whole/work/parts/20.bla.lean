def MX7_write (N : Nat) (Tx : TextV) (p1 : Int32) : Option (Int32 × (Nat → Int32) × Int32) :=
  if p1 < (32 : Int32) then some ((-1 : Int32), Tx.1, Tx.2.2) else (if p1 ≤ (126 : Int32) then ((MX6_put N Tx p1).bind (fun u19 => if u19.1 = 0 then some ((-3 : Int32), u19.2.1, u19.2.2) else some (u19.2.2, u19.2.1, u19.2.2))) else some ((-1 : Int32), Tx.1, Tx.2.2))
set_option maxHeartbeats 4000000 in
set_option maxRecDepth 100000 in
theorem c_X7_write (l : Launch) (G : va_G) (cI cZ cL : ClassId) (N : Nat) (bl : Nat) (aTx : Nat → Nat) (aD : Nat → Nat) (fc : Nat) (aP : Nat → Nat) (aNw : Nat → Nat) (aGs : Nat → Nat) (aTr : Nat → Nat) (aO : Nat → Nat) (aS : Nat → Nat) (aU : Nat → Nat) (laU : Nat → Nat → Nat) (aK : Nat → Nat) (laK : Nat → Nat → Nat) (Tx : TextV) (D : PlanV) (P : PlanV) (Nw : LineV) (Gs : PlanV) (Tr : LineV) (O : OrdV) (S : SeenV) (U : ShelfV) (K : ShelfV) (p1 : Int32) (rr : Int32 × (Nat → Int32) × Int32) (hM : MX7_write N Tx p1 = some rr) : CtI l yX7_write cX7_write 2 .int 1 21 G cI cZ cL [.ref bl, .int p1] [wBL bl (aTx 0) (aD 0) fc (aP 0) (aNw 0) (aS 0) (aU 0) (aK 0), wText cI aTx Tx, wPlan cI aD D, wFc fc (aP 0) (aNw 0) (aGs 0) (aTr 0) (aO 0), wPlan cI aP P, wLine cI aNw Nw, wPlan cI aGs Gs, wLine cI aTr Tr, wOrd cI aO O, wSeen cI cZ aS S, wShelf cI cL 8 aU laU U, wShelf cI cL 2 aK laK K] rr.1 [wBL bl (aTx 0) (aD 0) fc (aP 0) (aNw 0) (aS 0) (aU 0) (aK 0), wText cI aTx (rr.2.1, Tx.2.1, rr.2.2), wPlan cI aD D, wFc fc (aP 0) (aNw 0) (aGs 0) (aTr 0) (aO 0), wPlan cI aP P, wLine cI aNw Nw, wPlan cI aGs Gs, wLine cI aTr Tr, wOrd cI aO O, wSeen cI cZ aS S, wShelf cI cL 8 aU laU U, wShelf cI cL 2 aK laK K] := by
  refine ct_body (fun A => qI G rr.1 [wBL bl (aTx 0) (aD 0) fc (aP 0) (aNw 0) (aS 0) (aU 0) (aK 0), wText cI aTx (rr.2.1, Tx.2.1, rr.2.2), wPlan cI aD D, wFc fc (aP 0) (aNw 0) (aGs 0) (aTr 0) (aO 0), wPlan cI aP P, wLine cI aNw Nw, wPlan cI aGs Gs, wLine cI aTr Tr, wOrd cI aO O, wSeen cI cZ aS S, wShelf cI cL 8 aU laU U, wShelf cI cL 2 aK laK K] A) (by decide) (Nat.le_of_ble_eq_true rfl) (fun p e s m below meth c A ls X hW hl => ?_)
  have hx := X.1
  have hb := X.2.1
  have hts := X.2.2.2.2.2.1
  have hown := X.2.2.2.2.2.2.1
  have hl : lv_has ls 2 [(0, .ref bl), (1, .int p1)] := hl
  unfold MX7_write at hM
  refine lv_iload_n hx hb dX7_write_0 rfl (lv_at hl 1 rfl) ?_
  refine lv_bipush (v := (32 : Int32)) hx hb dX7_write_1 (by decide) ?_
  refine lv_icmp_lt (tgt := 12) hx hb dX7_write_3 (by decide) (fun hc => ?_) (fun hc => ?_)
  · have hM := (if_pos hc).symm.trans hM
    refine lv_iconst (v := (-1 : Int32)) hx hb dX7_write_12 (by decide) ?_
    obtain rfl := Option.some.inj hM
    exact g_reti X hW rfl rfl dX7_write_13
  · have hM := (if_neg hc).symm.trans hM
    refine lv_iload_n hx hb dX7_write_6 rfl (lv_at hl 1 rfl) ?_
    refine lv_bipush (v := (126 : Int32)) hx hb dX7_write_7 (by decide) ?_
    refine lv_icmp_le (tgt := 14) hx hb dX7_write_9 (by decide) (fun hc => ?_) (fun hc => ?_)
    · have hM := (if_pos hc).symm.trans hM
      refine lv_aload_n hx hb dX7_write_14 rfl (lv_at hl 0 rfl) ?_
      refine g_get X hW 0 rfl rfl inX7 0 (by decide) q_366 rfl dX7_write_15 ?_
      refine lv_iload_n hx hb dX7_write_18 rfl (lv_at hl 1 rfl) ?_
      obtain ⟨u19, hu19, hM⟩ := bind_some hM
      refine g_callVi (rest := []) (gr := [wBL bl (aTx 0) (aD 0) fc (aP 0) (aNw 0) (aS 0) (aU 0) (aK 0), wPlan cI aD D, wFc fc (aP 0) (aNw 0) (aGs 0) (aTr 0) (aO 0), wPlan cI aP P, wLine cI aNw Nw, wPlan cI aGs Gs, wLine cI aTr Tr, wOrd cI aO O, wSeen cI cZ aS S, wShelf cI cL 8 aU laU U, wShelf cI cL 2 aK laK K]) X hl.1 hW (c_X6_put l G cI cZ cL N aTx Tx p1 u19 hu19) q_311 q_308 q_309 q_310 q_55 hd_X6_put rfl ⟨Nat.le_of_ble_eq_true rfl, Nat.le_of_ble_eq_true rfl⟩ ⟨Nat.zero_le _, Nat.zero_le _⟩ [1] [0, 2, 3, 4, 5, 6, 7, 8, 9, 10, 11] [wBL bl (aTx 0) (aD 0) fc (aP 0) (aNw 0) (aS 0) (aU 0) (aK 0), wText cI aTx (u19.2.1, Tx.2.1, u19.2.2), wPlan cI aD D, wFc fc (aP 0) (aNw 0) (aGs 0) (aTr 0) (aO 0), wPlan cI aP P, wLine cI aNw Nw, wPlan cI aGs Gs, wLine cI aTr Tr, wOrd cI aO O, wSeen cI cZ aS S, wShelf cI cL 8 aU laU U, wShelf cI cL 2 aK laK K] ⟨pm_12_1, rfl, rfl, rfl⟩ ⟨pm_12_1, rfl, rfl, rfl⟩ (q0 := 1) rfl rfl rfl (Nat.le_of_ble_eq_true rfl) dX7_write_19 (fun H locs hW => ?_)
      refine lv_if_eq (tgt := 35) hx hb dX7_write_22 (by decide) (fun hc => ?_) (fun hc => ?_)
      · have hM := (if_pos hc).symm.trans hM
        refine lv_bipush (v := (-3 : Int32)) hx hb dX7_write_35 (by decide) ?_
        obtain rfl := Option.some.inj hM
        exact g_reti X hW rfl rfl dX7_write_37
      · have hM := (if_neg hc).symm.trans hM
        refine lv_aload_n hx hb dX7_write_25 rfl (lv_at hl 0 rfl) ?_
        refine g_get X hW 0 rfl rfl inX7 0 (by decide) q_366 rfl dX7_write_26 ?_
        refine g_getN X hW 1 rfl rfl inX6 2 (by decide) nt_1 rfl dX7_write_29 ?_
        refine lv_goto (tgt := 37) hx hb dX7_write_32 (by decide) ?_
        obtain rfl := Option.some.inj hM
        exact g_reti X hW rfl rfl dX7_write_37
    · have hM := (if_neg hc).symm.trans hM
      refine lv_iconst (v := (-1 : Int32)) hx hb dX7_write_12 (by decide) ?_
      obtain rfl := Option.some.inj hM
      exact g_reti X hW rfl rfl dX7_write_13

def MX7_wipe (N : Nat) (Tx : TextV) : Option (Int32 × Int32) :=
  (MX6_empty N).bind (fun u12 => some (Tx.2.2, u12))
set_option maxHeartbeats 4000000 in
set_option maxRecDepth 100000 in
theorem c_X7_wipe (l : Launch) (G : va_G) (cI cZ cL : ClassId) (N : Nat) (bl : Nat) (aTx : Nat → Nat) (aD : Nat → Nat) (fc : Nat) (aP : Nat → Nat) (aNw : Nat → Nat) (aGs : Nat → Nat) (aTr : Nat → Nat) (aO : Nat → Nat) (aS : Nat → Nat) (aU : Nat → Nat) (laU : Nat → Nat → Nat) (aK : Nat → Nat) (laK : Nat → Nat → Nat) (Tx : TextV) (D : PlanV) (P : PlanV) (Nw : LineV) (Gs : PlanV) (Tr : LineV) (O : OrdV) (S : SeenV) (U : ShelfV) (K : ShelfV) (rr : Int32 × Int32) (hM : MX7_wipe N Tx = some rr) : CtI l yX7_wipe cX7_wipe 2 .int 1 20 G cI cZ cL [.ref bl] [wBL bl (aTx 0) (aD 0) fc (aP 0) (aNw 0) (aS 0) (aU 0) (aK 0), wText cI aTx Tx, wPlan cI aD D, wFc fc (aP 0) (aNw 0) (aGs 0) (aTr 0) (aO 0), wPlan cI aP P, wLine cI aNw Nw, wPlan cI aGs Gs, wLine cI aTr Tr, wOrd cI aO O, wSeen cI cZ aS S, wShelf cI cL 8 aU laU U, wShelf cI cL 2 aK laK K] rr.1 [wBL bl (aTx 0) (aD 0) fc (aP 0) (aNw 0) (aS 0) (aU 0) (aK 0), wText cI aTx (Tx.1, Tx.2.1, rr.2), wPlan cI aD D, wFc fc (aP 0) (aNw 0) (aGs 0) (aTr 0) (aO 0), wPlan cI aP P, wLine cI aNw Nw, wPlan cI aGs Gs, wLine cI aTr Tr, wOrd cI aO O, wSeen cI cZ aS S, wShelf cI cL 8 aU laU U, wShelf cI cL 2 aK laK K] := by
  refine ct_body (fun A => qI G rr.1 [wBL bl (aTx 0) (aD 0) fc (aP 0) (aNw 0) (aS 0) (aU 0) (aK 0), wText cI aTx (Tx.1, Tx.2.1, rr.2), wPlan cI aD D, wFc fc (aP 0) (aNw 0) (aGs 0) (aTr 0) (aO 0), wPlan cI aP P, wLine cI aNw Nw, wPlan cI aGs Gs, wLine cI aTr Tr, wOrd cI aO O, wSeen cI cZ aS S, wShelf cI cL 8 aU laU U, wShelf cI cL 2 aK laK K] A) (by decide) (Nat.le_of_ble_eq_true rfl) (fun p e s m below meth c A ls X hW hl => ?_)
  have hx := X.1
  have hb := X.2.1
  have hts := X.2.2.2.2.2.1
  have hown := X.2.2.2.2.2.2.1
  have hl : lv_has ls 2 [(0, .ref bl)] := hl
  unfold MX7_wipe at hM
  refine lv_aload_n hx hb dX7_wipe_0 rfl (lv_at hl 0 rfl) ?_
  refine g_get X hW 0 rfl rfl inX7 0 (by decide) q_366 rfl dX7_wipe_1 ?_
  refine g_getN X hW 1 rfl rfl inX6 2 (by decide) nt_1 rfl dX7_wipe_4 ?_
  refine lv_istore_n (lv' := [(1, .int Tx.2.2), (0, .ref bl)]) hx hb dX7_wipe_7 rfl hl (by decide) rfl (fun ls hl => ?_)
  refine lv_aload_n hx hb dX7_wipe_8 rfl (lv_at hl 1 rfl) ?_
  refine g_get X hW 0 rfl rfl inX7 0 (by decide) q_366 rfl dX7_wipe_9 ?_
  obtain ⟨u12, hu12, hM⟩ := bind_some hM
  refine g_callVv (rest := []) (gr := [wBL bl (aTx 0) (aD 0) fc (aP 0) (aNw 0) (aS 0) (aU 0) (aK 0), wPlan cI aD D, wFc fc (aP 0) (aNw 0) (aGs 0) (aTr 0) (aO 0), wPlan cI aP P, wLine cI aNw Nw, wPlan cI aGs Gs, wLine cI aTr Tr, wOrd cI aO O, wSeen cI cZ aS S, wShelf cI cL 8 aU laU U, wShelf cI cL 2 aK laK K]) X hl.1 hW (c_X6_empty l G cI cZ cL N aTx Tx u12 hu12) q_365 q_362 q_363 q_364 q_55 hd_X6_empty rfl ⟨Nat.le_of_ble_eq_true rfl, Nat.le_of_ble_eq_true rfl⟩ ⟨Nat.zero_le _, Nat.zero_le _⟩ [1] [0, 2, 3, 4, 5, 6, 7, 8, 9, 10, 11] [wBL bl (aTx 0) (aD 0) fc (aP 0) (aNw 0) (aS 0) (aU 0) (aK 0), wText cI aTx (Tx.1, Tx.2.1, u12), wPlan cI aD D, wFc fc (aP 0) (aNw 0) (aGs 0) (aTr 0) (aO 0), wPlan cI aP P, wLine cI aNw Nw, wPlan cI aGs Gs, wLine cI aTr Tr, wOrd cI aO O, wSeen cI cZ aS S, wShelf cI cL 8 aU laU U, wShelf cI cL 2 aK laK K] ⟨pm_12_1, rfl, rfl, rfl⟩ ⟨pm_12_1, rfl, rfl, rfl⟩ (q0 := 1) rfl rfl rfl (Nat.le_of_ble_eq_true rfl) dX7_wipe_12 (fun H locs hW => ?_)
  refine lv_iload_n hx hb dX7_wipe_15 rfl (lv_at hl 0 rfl) ?_
  obtain rfl := Option.some.inj hM
  exact g_reti X hW rfl rfl dX7_wipe_16

def MX7_fault (N : Nat) (Tx : TextV) (D : PlanV) : Option (Int32 × (Nat → Int32) × (Nat → Int32) × (Nat → Int32) × (Nat → Int32) × Int32 × Int32 × Int32 × Int32) :=
  (MX6_readInto N Tx D).bind (fun u8 => some (u8.1, u8.2.1, u8.2.2.1, u8.2.2.2.1, u8.2.2.2.2.1, u8.2.2.2.2.2.1, u8.2.2.2.2.2.2.1, u8.2.2.2.2.2.2.2.1, u8.2.2.2.2.2.2.2.2))
set_option maxHeartbeats 4000000 in
set_option maxRecDepth 100000 in
theorem c_X7_fault (l : Launch) (G : va_G) (cI cZ cL : ClassId) (N : Nat) (bl : Nat) (aTx : Nat → Nat) (aD : Nat → Nat) (fc : Nat) (aP : Nat → Nat) (aNw : Nat → Nat) (aGs : Nat → Nat) (aTr : Nat → Nat) (aO : Nat → Nat) (aS : Nat → Nat) (aU : Nat → Nat) (laU : Nat → Nat → Nat) (aK : Nat → Nat) (laK : Nat → Nat → Nat) (Tx : TextV) (D : PlanV) (P : PlanV) (Nw : LineV) (Gs : PlanV) (Tr : LineV) (O : OrdV) (S : SeenV) (U : ShelfV) (K : ShelfV) (rr : Int32 × (Nat → Int32) × (Nat → Int32) × (Nat → Int32) × (Nat → Int32) × Int32 × Int32 × Int32 × Int32) (hM : MX7_fault N Tx D = some rr) : CtI l yX7_fault cX7_fault 1 .int 5 119 G cI cZ cL [.ref bl] [wBL bl (aTx 0) (aD 0) fc (aP 0) (aNw 0) (aS 0) (aU 0) (aK 0), wText cI aTx Tx, wPlan cI aD D, wFc fc (aP 0) (aNw 0) (aGs 0) (aTr 0) (aO 0), wPlan cI aP P, wLine cI aNw Nw, wPlan cI aGs Gs, wLine cI aTr Tr, wOrd cI aO O, wSeen cI cZ aS S, wShelf cI cL 8 aU laU U, wShelf cI cL 2 aK laK K] rr.1 [wBL bl (aTx 0) (aD 0) fc (aP 0) (aNw 0) (aS 0) (aU 0) (aK 0), wText cI aTx (Tx.1, rr.2.1, Tx.2.2), wPlan cI aD (rr.2.2.1, rr.2.2.2.1, rr.2.2.2.2.1, rr.2.2.2.2.2.1, rr.2.2.2.2.2.2.1, rr.2.2.2.2.2.2.2.1, rr.2.2.2.2.2.2.2.2), wFc fc (aP 0) (aNw 0) (aGs 0) (aTr 0) (aO 0), wPlan cI aP P, wLine cI aNw Nw, wPlan cI aGs Gs, wLine cI aTr Tr, wOrd cI aO O, wSeen cI cZ aS S, wShelf cI cL 8 aU laU U, wShelf cI cL 2 aK laK K] := by
  refine ct_body (fun A => qI G rr.1 [wBL bl (aTx 0) (aD 0) fc (aP 0) (aNw 0) (aS 0) (aU 0) (aK 0), wText cI aTx (Tx.1, rr.2.1, Tx.2.2), wPlan cI aD (rr.2.2.1, rr.2.2.2.1, rr.2.2.2.2.1, rr.2.2.2.2.2.1, rr.2.2.2.2.2.2.1, rr.2.2.2.2.2.2.2.1, rr.2.2.2.2.2.2.2.2), wFc fc (aP 0) (aNw 0) (aGs 0) (aTr 0) (aO 0), wPlan cI aP P, wLine cI aNw Nw, wPlan cI aGs Gs, wLine cI aTr Tr, wOrd cI aO O, wSeen cI cZ aS S, wShelf cI cL 8 aU laU U, wShelf cI cL 2 aK laK K] A) (by decide) (Nat.le_of_ble_eq_true rfl) (fun p e s m below meth c A ls X hW hl => ?_)
  have hx := X.1
  have hb := X.2.1
  have hts := X.2.2.2.2.2.1
  have hown := X.2.2.2.2.2.2.1
  have hl : lv_has ls 1 [(0, .ref bl)] := hl
  unfold MX7_fault at hM
  refine lv_aload_n hx hb dX7_fault_0 rfl (lv_at hl 0 rfl) ?_
  refine g_get X hW 0 rfl rfl inX7 0 (by decide) q_366 rfl dX7_fault_1 ?_
  refine lv_aload_n hx hb dX7_fault_4 rfl (lv_at hl 0 rfl) ?_
  refine g_get X hW 0 rfl rfl inX7 1 (by decide) q_367 rfl dX7_fault_5 ?_
  obtain ⟨u8, hu8, hM⟩ := bind_some hM
  refine g_callVi (rest := []) (gr := [wBL bl (aTx 0) (aD 0) fc (aP 0) (aNw 0) (aS 0) (aU 0) (aK 0), wFc fc (aP 0) (aNw 0) (aGs 0) (aTr 0) (aO 0), wPlan cI aP P, wLine cI aNw Nw, wPlan cI aGs Gs, wLine cI aTr Tr, wOrd cI aO O, wSeen cI cZ aS S, wShelf cI cL 8 aU laU U, wShelf cI cL 2 aK laK K]) X hl.1 hW (c_X6_readInto l G cI cZ cL N aTx aD Tx D u8 hu8) q_315 q_312 q_313 q_314 q_55 hd_X6_readInto rfl ⟨Nat.le_of_ble_eq_true rfl, Nat.le_of_ble_eq_true rfl⟩ ⟨Nat.zero_le _, Nat.zero_le _⟩ [1, 2] [0, 3, 4, 5, 6, 7, 8, 9, 10, 11] [wBL bl (aTx 0) (aD 0) fc (aP 0) (aNw 0) (aS 0) (aU 0) (aK 0), wText cI aTx (Tx.1, u8.2.1, Tx.2.2), wPlan cI aD (u8.2.2.1, u8.2.2.2.1, u8.2.2.2.2.1, u8.2.2.2.2.2.1, u8.2.2.2.2.2.2.1, u8.2.2.2.2.2.2.2.1, u8.2.2.2.2.2.2.2.2), wFc fc (aP 0) (aNw 0) (aGs 0) (aTr 0) (aO 0), wPlan cI aP P, wLine cI aNw Nw, wPlan cI aGs Gs, wLine cI aTr Tr, wOrd cI aO O, wSeen cI cZ aS S, wShelf cI cL 8 aU laU U, wShelf cI cL 2 aK laK K] ⟨pm_12_1_2, rfl, rfl, rfl⟩ ⟨pm_12_1_2, rfl, rfl, rfl⟩ (q0 := 1) rfl rfl rfl (Nat.le_of_ble_eq_true rfl) dX7_fault_8 (fun H locs hW => ?_)
  obtain rfl := Option.some.inj hM
  exact g_reti X hW rfl rfl dX7_fault_11

def MX7_lay (N : Nat) (Tx : TextV) (D : PlanV) (P : PlanV) (Nw : LineV) (S : SeenV) (U : ShelfV) (K : ShelfV) : Option (Int32 × (Nat → Int32) × (Nat → Int32) × (Nat → Int32) × (Nat → Int32) × Int32 × Int32 × Int32 × Int32 × (Nat → Int32) × (Nat → Int32) × (Nat → Int32) × Int32 × Int32 × Int32 × Int32 × (Nat → Int32) × (Nat → Int32) × (Nat → Int32) × (Nat → Int32) × (Nat → Int32) × Int32 × Int32 × Int32 × Int32 × Int32 × Int32 × Int32) :=
  (MX6_readInto N Tx D).bind (fun u8 => if u8.1 = (-4 : Int32) then (if (1 : Int32) ≤ u8.2.2.2.2.2.1 then ((MX3_copyFrom N P (u8.2.2.1, u8.2.2.2.1, u8.2.2.2.2.1, u8.2.2.2.2.2.1, u8.2.2.2.2.2.2.1, u8.2.2.2.2.2.2.2.1, u8.2.2.2.2.2.2.2.2)).bind (fun u38 => (MX1_clear N Nw).bind (fun u45 => (MX4_empty N).bind (fun u52 => (MX5_empty N).bind (fun u59 => (MX5_empty N).bind (fun u66 => some (u38.2.2.2.1, u8.2.1, u8.2.2.1, u8.2.2.2.1, u8.2.2.2.2.1, u8.2.2.2.2.2.1, u8.2.2.2.2.2.2.1, u8.2.2.2.2.2.2.2.1, u8.2.2.2.2.2.2.2.2, u38.1, u38.2.1, u38.2.2.1, u38.2.2.2.1, u38.2.2.2.2.1, u38.2.2.2.2.2.1, u38.2.2.2.2.2.2, u45.1, u45.2.1, u45.2.2.1, u45.2.2.2.1, u45.2.2.2.2.1, u45.2.2.2.2.2.1, u45.2.2.2.2.2.2.1, u45.2.2.2.2.2.2.2.1, u45.2.2.2.2.2.2.2.2, u52, u59, u66))))))) else some ((-2 : Int32), u8.2.1, u8.2.2.1, u8.2.2.2.1, u8.2.2.2.2.1, u8.2.2.2.2.2.1, u8.2.2.2.2.2.2.1, u8.2.2.2.2.2.2.2.1, u8.2.2.2.2.2.2.2.2, P.1, P.2.1, P.2.2.1, P.2.2.2.1, P.2.2.2.2.1, P.2.2.2.2.2.1, P.2.2.2.2.2.2, Nw.1, Nw.2.1, Nw.2.2.1, Nw.2.2.2.1, Nw.2.2.2.2.1, Nw.2.2.2.2.2.1, Nw.2.2.2.2.2.2.1, Nw.2.2.2.2.2.2.2.1, Nw.2.2.2.2.2.2.2.2, S.2.2.2, U.2.1, K.2.1)) else some ((-2 : Int32), u8.2.1, u8.2.2.1, u8.2.2.2.1, u8.2.2.2.2.1, u8.2.2.2.2.2.1, u8.2.2.2.2.2.2.1, u8.2.2.2.2.2.2.2.1, u8.2.2.2.2.2.2.2.2, P.1, P.2.1, P.2.2.1, P.2.2.2.1, P.2.2.2.2.1, P.2.2.2.2.2.1, P.2.2.2.2.2.2, Nw.1, Nw.2.1, Nw.2.2.1, Nw.2.2.2.1, Nw.2.2.2.2.1, Nw.2.2.2.2.2.1, Nw.2.2.2.2.2.2.1, Nw.2.2.2.2.2.2.2.1, Nw.2.2.2.2.2.2.2.2, S.2.2.2, U.2.1, K.2.1))
set_option maxHeartbeats 4000000 in
set_option maxRecDepth 100000 in
theorem c_X7_lay (l : Launch) (G : va_G) (cI cZ cL : ClassId) (N : Nat) (bl : Nat) (aTx : Nat → Nat) (aD : Nat → Nat) (fc : Nat) (aP : Nat → Nat) (aNw : Nat → Nat) (aGs : Nat → Nat) (aTr : Nat → Nat) (aO : Nat → Nat) (aS : Nat → Nat) (aU : Nat → Nat) (laU : Nat → Nat → Nat) (aK : Nat → Nat) (laK : Nat → Nat → Nat) (Tx : TextV) (D : PlanV) (P : PlanV) (Nw : LineV) (Gs : PlanV) (Tr : LineV) (O : OrdV) (S : SeenV) (U : ShelfV) (K : ShelfV) (rr : Int32 × (Nat → Int32) × (Nat → Int32) × (Nat → Int32) × (Nat → Int32) × Int32 × Int32 × Int32 × Int32 × (Nat → Int32) × (Nat → Int32) × (Nat → Int32) × Int32 × Int32 × Int32 × Int32 × (Nat → Int32) × (Nat → Int32) × (Nat → Int32) × (Nat → Int32) × (Nat → Int32) × Int32 × Int32 × Int32 × Int32 × Int32 × Int32 × Int32) (hM : MX7_lay N Tx D P Nw S U K = some rr) : CtI l yX7_lay cX7_lay 1 .int 5 119 G cI cZ cL [.ref bl] [wBL bl (aTx 0) (aD 0) fc (aP 0) (aNw 0) (aS 0) (aU 0) (aK 0), wText cI aTx Tx, wPlan cI aD D, wFc fc (aP 0) (aNw 0) (aGs 0) (aTr 0) (aO 0), wPlan cI aP P, wLine cI aNw Nw, wPlan cI aGs Gs, wLine cI aTr Tr, wOrd cI aO O, wSeen cI cZ aS S, wShelf cI cL 8 aU laU U, wShelf cI cL 2 aK laK K] rr.1 [wBL bl (aTx 0) (aD 0) fc (aP 0) (aNw 0) (aS 0) (aU 0) (aK 0), wText cI aTx (Tx.1, rr.2.1, Tx.2.2), wPlan cI aD (rr.2.2.1, rr.2.2.2.1, rr.2.2.2.2.1, rr.2.2.2.2.2.1, rr.2.2.2.2.2.2.1, rr.2.2.2.2.2.2.2.1, rr.2.2.2.2.2.2.2.2.1), wFc fc (aP 0) (aNw 0) (aGs 0) (aTr 0) (aO 0), wPlan cI aP (rr.2.2.2.2.2.2.2.2.2.1, rr.2.2.2.2.2.2.2.2.2.2.1, rr.2.2.2.2.2.2.2.2.2.2.2.1, rr.2.2.2.2.2.2.2.2.2.2.2.2.1, rr.2.2.2.2.2.2.2.2.2.2.2.2.2.1, rr.2.2.2.2.2.2.2.2.2.2.2.2.2.2.1, rr.2.2.2.2.2.2.2.2.2.2.2.2.2.2.2.1), wLine cI aNw (rr.2.2.2.2.2.2.2.2.2.2.2.2.2.2.2.2.1, rr.2.2.2.2.2.2.2.2.2.2.2.2.2.2.2.2.2.1, rr.2.2.2.2.2.2.2.2.2.2.2.2.2.2.2.2.2.2.1, rr.2.2.2.2.2.2.2.2.2.2.2.2.2.2.2.2.2.2.2.1, rr.2.2.2.2.2.2.2.2.2.2.2.2.2.2.2.2.2.2.2.2.1, rr.2.2.2.2.2.2.2.2.2.2.2.2.2.2.2.2.2.2.2.2.2.1, rr.2.2.2.2.2.2.2.2.2.2.2.2.2.2.2.2.2.2.2.2.2.2.1, rr.2.2.2.2.2.2.2.2.2.2.2.2.2.2.2.2.2.2.2.2.2.2.2.1, rr.2.2.2.2.2.2.2.2.2.2.2.2.2.2.2.2.2.2.2.2.2.2.2.2.1), wPlan cI aGs Gs, wLine cI aTr Tr, wOrd cI aO O, wSeen cI cZ aS (S.1, S.2.1, S.2.2.1, rr.2.2.2.2.2.2.2.2.2.2.2.2.2.2.2.2.2.2.2.2.2.2.2.2.2.1), wShelf cI cL 8 aU laU (U.1, rr.2.2.2.2.2.2.2.2.2.2.2.2.2.2.2.2.2.2.2.2.2.2.2.2.2.2.1, U.2.2), wShelf cI cL 2 aK laK (K.1, rr.2.2.2.2.2.2.2.2.2.2.2.2.2.2.2.2.2.2.2.2.2.2.2.2.2.2.2, K.2.2)] := by
  refine ct_body (fun A => qI G rr.1 [wBL bl (aTx 0) (aD 0) fc (aP 0) (aNw 0) (aS 0) (aU 0) (aK 0), wText cI aTx (Tx.1, rr.2.1, Tx.2.2), wPlan cI aD (rr.2.2.1, rr.2.2.2.1, rr.2.2.2.2.1, rr.2.2.2.2.2.1, rr.2.2.2.2.2.2.1, rr.2.2.2.2.2.2.2.1, rr.2.2.2.2.2.2.2.2.1), wFc fc (aP 0) (aNw 0) (aGs 0) (aTr 0) (aO 0), wPlan cI aP (rr.2.2.2.2.2.2.2.2.2.1, rr.2.2.2.2.2.2.2.2.2.2.1, rr.2.2.2.2.2.2.2.2.2.2.2.1, rr.2.2.2.2.2.2.2.2.2.2.2.2.1, rr.2.2.2.2.2.2.2.2.2.2.2.2.2.1, rr.2.2.2.2.2.2.2.2.2.2.2.2.2.2.1, rr.2.2.2.2.2.2.2.2.2.2.2.2.2.2.2.1), wLine cI aNw (rr.2.2.2.2.2.2.2.2.2.2.2.2.2.2.2.2.1, rr.2.2.2.2.2.2.2.2.2.2.2.2.2.2.2.2.2.1, rr.2.2.2.2.2.2.2.2.2.2.2.2.2.2.2.2.2.2.1, rr.2.2.2.2.2.2.2.2.2.2.2.2.2.2.2.2.2.2.2.1, rr.2.2.2.2.2.2.2.2.2.2.2.2.2.2.2.2.2.2.2.2.1, rr.2.2.2.2.2.2.2.2.2.2.2.2.2.2.2.2.2.2.2.2.2.1, rr.2.2.2.2.2.2.2.2.2.2.2.2.2.2.2.2.2.2.2.2.2.2.1, rr.2.2.2.2.2.2.2.2.2.2.2.2.2.2.2.2.2.2.2.2.2.2.2.1, rr.2.2.2.2.2.2.2.2.2.2.2.2.2.2.2.2.2.2.2.2.2.2.2.2.1), wPlan cI aGs Gs, wLine cI aTr Tr, wOrd cI aO O, wSeen cI cZ aS (S.1, S.2.1, S.2.2.1, rr.2.2.2.2.2.2.2.2.2.2.2.2.2.2.2.2.2.2.2.2.2.2.2.2.2.1), wShelf cI cL 8 aU laU (U.1, rr.2.2.2.2.2.2.2.2.2.2.2.2.2.2.2.2.2.2.2.2.2.2.2.2.2.2.1, U.2.2), wShelf cI cL 2 aK laK (K.1, rr.2.2.2.2.2.2.2.2.2.2.2.2.2.2.2.2.2.2.2.2.2.2.2.2.2.2.2, K.2.2)] A) (by decide) (Nat.le_of_ble_eq_true rfl) (fun p e s m below meth c A ls X hW hl => ?_)
  have hx := X.1
  have hb := X.2.1
  have hts := X.2.2.2.2.2.1
  have hown := X.2.2.2.2.2.2.1
  have hl : lv_has ls 1 [(0, .ref bl)] := hl
  unfold MX7_lay at hM
  refine lv_aload_n hx hb dX7_lay_0 rfl (lv_at hl 0 rfl) ?_
  refine g_get X hW 0 rfl rfl inX7 0 (by decide) q_366 rfl dX7_lay_1 ?_
  refine lv_aload_n hx hb dX7_lay_4 rfl (lv_at hl 0 rfl) ?_
  refine g_get X hW 0 rfl rfl inX7 1 (by decide) q_367 rfl dX7_lay_5 ?_
  obtain ⟨u8, hu8, hM⟩ := bind_some hM
  refine g_callVi (rest := []) (gr := [wBL bl (aTx 0) (aD 0) fc (aP 0) (aNw 0) (aS 0) (aU 0) (aK 0), wFc fc (aP 0) (aNw 0) (aGs 0) (aTr 0) (aO 0), wPlan cI aP P, wLine cI aNw Nw, wPlan cI aGs Gs, wLine cI aTr Tr, wOrd cI aO O, wSeen cI cZ aS S, wShelf cI cL 8 aU laU U, wShelf cI cL 2 aK laK K]) X hl.1 hW (c_X6_readInto l G cI cZ cL N aTx aD Tx D u8 hu8) q_315 q_312 q_313 q_314 q_55 hd_X6_readInto rfl ⟨Nat.le_of_ble_eq_true rfl, Nat.le_of_ble_eq_true rfl⟩ ⟨Nat.zero_le _, Nat.zero_le _⟩ [1, 2] [0, 3, 4, 5, 6, 7, 8, 9, 10, 11] [wBL bl (aTx 0) (aD 0) fc (aP 0) (aNw 0) (aS 0) (aU 0) (aK 0), wText cI aTx (Tx.1, u8.2.1, Tx.2.2), wPlan cI aD (u8.2.2.1, u8.2.2.2.1, u8.2.2.2.2.1, u8.2.2.2.2.2.1, u8.2.2.2.2.2.2.1, u8.2.2.2.2.2.2.2.1, u8.2.2.2.2.2.2.2.2), wFc fc (aP 0) (aNw 0) (aGs 0) (aTr 0) (aO 0), wPlan cI aP P, wLine cI aNw Nw, wPlan cI aGs Gs, wLine cI aTr Tr, wOrd cI aO O, wSeen cI cZ aS S, wShelf cI cL 8 aU laU U, wShelf cI cL 2 aK laK K] ⟨pm_12_1_2, rfl, rfl, rfl⟩ ⟨pm_12_1_2, rfl, rfl, rfl⟩ (q0 := 1) rfl rfl rfl (Nat.le_of_ble_eq_true rfl) dX7_lay_8 (fun H locs hW => ?_)
  refine lv_bipush (v := (-4 : Int32)) hx hb dX7_lay_11 (by decide) ?_
  refine lv_icmp_ne (tgt := 27) hx hb dX7_lay_13 (by decide) (fun hc => ?_) (fun hc => ?_)
  · have hM := (if_neg hc).symm.trans hM
    refine lv_bipush (v := (-2 : Int32)) hx hb dX7_lay_27 (by decide) ?_
    obtain rfl := Option.some.inj hM
    exact g_reti X hW rfl rfl dX7_lay_29
  · have hM := (if_pos hc).symm.trans hM
    refine lv_aload_n hx hb dX7_lay_16 rfl (lv_at hl 0 rfl) ?_
    refine g_get X hW 0 rfl rfl inX7 1 (by decide) q_367 rfl dX7_lay_17 ?_
    refine g_getN X hW 4 rfl rfl inX3 3 (by decide) nt_7 rfl dX7_lay_20 ?_
    refine lv_iconst (v := (1 : Int32)) hx hb dX7_lay_23 (by decide) ?_
    refine lv_icmp_ge (tgt := 30) hx hb dX7_lay_24 (by decide) (fun hc => ?_) (fun hc => ?_)
    · have hM := (if_pos hc).symm.trans hM
      refine lv_aload_n hx hb dX7_lay_30 rfl (lv_at hl 0 rfl) ?_
      refine g_get X hW 0 rfl rfl inX7 3 (by decide) q_369 rfl dX7_lay_31 ?_
      refine lv_aload_n hx hb dX7_lay_34 rfl (lv_at hl 0 rfl) ?_
      refine g_get X hW 0 rfl rfl inX7 1 (by decide) q_367 rfl dX7_lay_35 ?_
      obtain ⟨u38, hu38, hM⟩ := bind_some hM
      refine g_callVv (rest := []) (gr := [wBL bl (aTx 0) (aD 0) fc (aP 0) (aNw 0) (aS 0) (aU 0) (aK 0), wText cI aTx (Tx.1, u8.2.1, Tx.2.2), wFc fc (aP 0) (aNw 0) (aGs 0) (aTr 0) (aO 0), wLine cI aNw Nw, wPlan cI aGs Gs, wLine cI aTr Tr, wOrd cI aO O, wSeen cI cZ aS S, wShelf cI cL 8 aU laU U, wShelf cI cL 2 aK laK K]) X hl.1 hW (c_X3_copyFrom l G cI cZ cL N aP aD P (u8.2.2.1, u8.2.2.2.1, u8.2.2.2.2.1, u8.2.2.2.2.2.1, u8.2.2.2.2.2.2.1, u8.2.2.2.2.2.2.2.1, u8.2.2.2.2.2.2.2.2) u38 hu38) q_411 q_408 q_409 q_410 q_56 hd_X3_copyFrom rfl ⟨Nat.le_of_ble_eq_true rfl, Nat.le_of_ble_eq_true rfl⟩ ⟨Nat.zero_le _, Nat.zero_le _⟩ [4, 2] [0, 1, 3, 5, 6, 7, 8, 9, 10, 11] [wBL bl (aTx 0) (aD 0) fc (aP 0) (aNw 0) (aS 0) (aU 0) (aK 0), wText cI aTx (Tx.1, u8.2.1, Tx.2.2), wPlan cI aD (u8.2.2.1, u8.2.2.2.1, u8.2.2.2.2.1, u8.2.2.2.2.2.1, u8.2.2.2.2.2.2.1, u8.2.2.2.2.2.2.2.1, u8.2.2.2.2.2.2.2.2), wFc fc (aP 0) (aNw 0) (aGs 0) (aTr 0) (aO 0), wPlan cI aP u38, wLine cI aNw Nw, wPlan cI aGs Gs, wLine cI aTr Tr, wOrd cI aO O, wSeen cI cZ aS S, wShelf cI cL 8 aU laU U, wShelf cI cL 2 aK laK K] ⟨pm_12_4_2, rfl, rfl, rfl⟩ ⟨pm_12_4_2, rfl, rfl, rfl⟩ (q0 := 9) rfl rfl rfl (Nat.le_of_ble_eq_true rfl) dX7_lay_38 (fun H locs hW => ?_)
      refine lv_aload_n hx hb dX7_lay_41 rfl (lv_at hl 0 rfl) ?_
      refine g_get X hW 0 rfl rfl inX7 4 (by decide) q_370 rfl dX7_lay_42 ?_
      obtain ⟨u45, hu45, hM⟩ := bind_some hM
      refine g_callVv (rest := []) (gr := [wBL bl (aTx 0) (aD 0) fc (aP 0) (aNw 0) (aS 0) (aU 0) (aK 0), wText cI aTx (Tx.1, u8.2.1, Tx.2.2), wPlan cI aD (u8.2.2.1, u8.2.2.2.1, u8.2.2.2.2.1, u8.2.2.2.2.2.1, u8.2.2.2.2.2.2.1, u8.2.2.2.2.2.2.2.1, u8.2.2.2.2.2.2.2.2), wFc fc (aP 0) (aNw 0) (aGs 0) (aTr 0) (aO 0), wPlan cI aP u38, wPlan cI aGs Gs, wLine cI aTr Tr, wOrd cI aO O, wSeen cI cZ aS S, wShelf cI cL 8 aU laU U, wShelf cI cL 2 aK laK K]) X hl.1 hW (c_X1_clear l G cI cZ cL N aNw Nw u45 hu45) q_418 q_415 q_416 q_417 q_58 hd_X1_clear rfl ⟨Nat.le_of_ble_eq_true rfl, Nat.le_of_ble_eq_true rfl⟩ ⟨Nat.zero_le _, Nat.zero_le _⟩ [5] [0, 1, 2, 3, 4, 6, 7, 8, 9, 10, 11] [wBL bl (aTx 0) (aD 0) fc (aP 0) (aNw 0) (aS 0) (aU 0) (aK 0), wText cI aTx (Tx.1, u8.2.1, Tx.2.2), wPlan cI aD (u8.2.2.1, u8.2.2.2.1, u8.2.2.2.2.1, u8.2.2.2.2.2.1, u8.2.2.2.2.2.2.1, u8.2.2.2.2.2.2.2.1, u8.2.2.2.2.2.2.2.2), wFc fc (aP 0) (aNw 0) (aGs 0) (aTr 0) (aO 0), wPlan cI aP u38, wLine cI aNw u45, wPlan cI aGs Gs, wLine cI aTr Tr, wOrd cI aO O, wSeen cI cZ aS S, wShelf cI cL 8 aU laU U, wShelf cI cL 2 aK laK K] ⟨pm_12_5, rfl, rfl, rfl⟩ ⟨pm_12_5, rfl, rfl, rfl⟩ (q0 := 13) rfl rfl rfl (Nat.le_of_ble_eq_true rfl) dX7_lay_45 (fun H locs hW => ?_)
      refine lv_aload_n hx hb dX7_lay_48 rfl (lv_at hl 0 rfl) ?_
      refine g_get X hW 0 rfl rfl inX7 5 (by decide) q_371 rfl dX7_lay_49 ?_
      obtain ⟨u52, hu52, hM⟩ := bind_some hM
      refine g_callVv (rest := []) (gr := [wBL bl (aTx 0) (aD 0) fc (aP 0) (aNw 0) (aS 0) (aU 0) (aK 0), wText cI aTx (Tx.1, u8.2.1, Tx.2.2), wPlan cI aD (u8.2.2.1, u8.2.2.2.1, u8.2.2.2.2.1, u8.2.2.2.2.2.1, u8.2.2.2.2.2.2.1, u8.2.2.2.2.2.2.2.1, u8.2.2.2.2.2.2.2.2), wFc fc (aP 0) (aNw 0) (aGs 0) (aTr 0) (aO 0), wPlan cI aP u38, wLine cI aNw u45, wPlan cI aGs Gs, wLine cI aTr Tr, wOrd cI aO O, wShelf cI cL 8 aU laU U, wShelf cI cL 2 aK laK K]) X hl.1 hW (c_X4_empty l G cI cZ cL N aS S u52 hu52) q_422 q_419 q_420 q_421 q_60 hd_X4_empty rfl ⟨Nat.le_of_ble_eq_true rfl, Nat.le_of_ble_eq_true rfl⟩ ⟨Nat.zero_le _, Nat.zero_le _⟩ [9] [0, 1, 2, 3, 4, 5, 6, 7, 8, 10, 11] [wBL bl (aTx 0) (aD 0) fc (aP 0) (aNw 0) (aS 0) (aU 0) (aK 0), wText cI aTx (Tx.1, u8.2.1, Tx.2.2), wPlan cI aD (u8.2.2.1, u8.2.2.2.1, u8.2.2.2.2.1, u8.2.2.2.2.2.1, u8.2.2.2.2.2.2.1, u8.2.2.2.2.2.2.2.1, u8.2.2.2.2.2.2.2.2), wFc fc (aP 0) (aNw 0) (aGs 0) (aTr 0) (aO 0), wPlan cI aP u38, wLine cI aNw u45, wPlan cI aGs Gs, wLine cI aTr Tr, wOrd cI aO O, wSeen cI cZ aS (S.1, S.2.1, S.2.2.1, u52), wShelf cI cL 8 aU laU U, wShelf cI cL 2 aK laK K] ⟨pm_12_9, rfl, rfl, rfl⟩ ⟨pm_12_9, rfl, rfl, rfl⟩ (q0 := 32) rfl rfl rfl (Nat.le_of_ble_eq_true rfl) dX7_lay_52 (fun H locs hW => ?_)
      refine lv_aload_n hx hb dX7_lay_55 rfl (lv_at hl 0 rfl) ?_
      refine g_get X hW 0 rfl rfl inX7 6 (by decide) q_372 rfl dX7_lay_56 ?_
      obtain ⟨u59, hu59, hM⟩ := bind_some hM
      refine g_callVv (rest := []) (gr := [wBL bl (aTx 0) (aD 0) fc (aP 0) (aNw 0) (aS 0) (aU 0) (aK 0), wText cI aTx (Tx.1, u8.2.1, Tx.2.2), wPlan cI aD (u8.2.2.1, u8.2.2.2.1, u8.2.2.2.2.1, u8.2.2.2.2.2.1, u8.2.2.2.2.2.2.1, u8.2.2.2.2.2.2.2.1, u8.2.2.2.2.2.2.2.2), wFc fc (aP 0) (aNw 0) (aGs 0) (aTr 0) (aO 0), wPlan cI aP u38, wLine cI aNw u45, wPlan cI aGs Gs, wLine cI aTr Tr, wOrd cI aO O, wSeen cI cZ aS (S.1, S.2.1, S.2.2.1, u52), wShelf cI cL 2 aK laK K]) X hl.1 hW (c_X5_empty l G cI cZ cL N aU laU 8 U u59 hu59) q_426 q_423 q_424 q_425 q_61 hd_X5_empty rfl ⟨Nat.le_of_ble_eq_true rfl, Nat.le_of_ble_eq_true rfl⟩ ⟨Nat.zero_le _, Nat.zero_le _⟩ [10] [0, 1, 2, 3, 4, 5, 6, 7, 8, 9, 11] [wBL bl (aTx 0) (aD 0) fc (aP 0) (aNw 0) (aS 0) (aU 0) (aK 0), wText cI aTx (Tx.1, u8.2.1, Tx.2.2), wPlan cI aD (u8.2.2.1, u8.2.2.2.1, u8.2.2.2.2.1, u8.2.2.2.2.2.1, u8.2.2.2.2.2.2.1, u8.2.2.2.2.2.2.2.1, u8.2.2.2.2.2.2.2.2), wFc fc (aP 0) (aNw 0) (aGs 0) (aTr 0) (aO 0), wPlan cI aP u38, wLine cI aNw u45, wPlan cI aGs Gs, wLine cI aTr Tr, wOrd cI aO O, wSeen cI cZ aS (S.1, S.2.1, S.2.2.1, u52), wShelf cI cL 8 aU laU (U.1, u59, U.2.2), wShelf cI cL 2 aK laK K] ⟨pm_12_10, rfl, rfl, rfl⟩ ⟨pm_12_10, rfl, rfl, rfl⟩ (q0 := 36) rfl rfl rfl (Nat.le_of_ble_eq_true rfl) dX7_lay_59 (fun H locs hW => ?_)
      refine lv_aload_n hx hb dX7_lay_62 rfl (lv_at hl 0 rfl) ?_
      refine g_get X hW 0 rfl rfl inX7 7 (by decide) q_373 rfl dX7_lay_63 ?_
      obtain ⟨u66, hu66, hM⟩ := bind_some hM
      refine g_callVv (rest := []) (gr := [wBL bl (aTx 0) (aD 0) fc (aP 0) (aNw 0) (aS 0) (aU 0) (aK 0), wText cI aTx (Tx.1, u8.2.1, Tx.2.2), wPlan cI aD (u8.2.2.1, u8.2.2.2.1, u8.2.2.2.2.1, u8.2.2.2.2.2.1, u8.2.2.2.2.2.2.1, u8.2.2.2.2.2.2.2.1, u8.2.2.2.2.2.2.2.2), wFc fc (aP 0) (aNw 0) (aGs 0) (aTr 0) (aO 0), wPlan cI aP u38, wLine cI aNw u45, wPlan cI aGs Gs, wLine cI aTr Tr, wOrd cI aO O, wSeen cI cZ aS (S.1, S.2.1, S.2.2.1, u52), wShelf cI cL 8 aU laU (U.1, u59, U.2.2)]) X hl.1 hW (c_X5_empty l G cI cZ cL N aK laK 2 K u66 hu66) q_426 q_423 q_424 q_425 q_61 hd_X5_empty rfl ⟨Nat.le_of_ble_eq_true rfl, Nat.le_of_ble_eq_true rfl⟩ ⟨Nat.zero_le _, Nat.zero_le _⟩ [11] [0, 1, 2, 3, 4, 5, 6, 7, 8, 9, 10] [wBL bl (aTx 0) (aD 0) fc (aP 0) (aNw 0) (aS 0) (aU 0) (aK 0), wText cI aTx (Tx.1, u8.2.1, Tx.2.2), wPlan cI aD (u8.2.2.1, u8.2.2.2.1, u8.2.2.2.2.1, u8.2.2.2.2.2.1, u8.2.2.2.2.2.2.1, u8.2.2.2.2.2.2.2.1, u8.2.2.2.2.2.2.2.2), wFc fc (aP 0) (aNw 0) (aGs 0) (aTr 0) (aO 0), wPlan cI aP u38, wLine cI aNw u45, wPlan cI aGs Gs, wLine cI aTr Tr, wOrd cI aO O, wSeen cI cZ aS (S.1, S.2.1, S.2.2.1, u52), wShelf cI cL 8 aU laU (U.1, u59, U.2.2), wShelf cI cL 2 aK laK (K.1, u66, K.2.2)] ⟨pm_12_11, rfl, rfl, rfl⟩ ⟨pm_12_11, rfl, rfl, rfl⟩ (q0 := 86) rfl rfl rfl (Nat.le_of_ble_eq_true rfl) dX7_lay_66 (fun H locs hW => ?_)
      refine lv_aload_n hx hb dX7_lay_69 rfl (lv_at hl 0 rfl) ?_
      refine g_get X hW 0 rfl rfl inX7 3 (by decide) q_369 rfl dX7_lay_70 ?_
      refine g_getN X hW 9 rfl rfl inX3 3 (by decide) nt_7 rfl dX7_lay_73 ?_
      obtain rfl := Option.some.inj hM
      exact g_reti X hW rfl rfl dX7_lay_76
    · have hM := (if_neg hc).symm.trans hM
      refine lv_bipush (v := (-2 : Int32)) hx hb dX7_lay_27 (by decide) ?_
      obtain rfl := Option.some.inj hM
      exact g_reti X hW rfl rfl dX7_lay_29

def MX7_person (N : Nat) (P : PlanV) (Nw : LineV) (p1 : Int32) (p2 : Int32) : Option (Int32) :=
  (MX3_has N P p1).bind (fun u5 => if u5 = 0 then some ((-1 : Int32)) else (if p2 = (0 : Int32) then ((MX3_kindOf N P p1).bind (fun u65 => some (u65))) else if p2 = (1 : Int32) then ((MX3_comingOf N P p1).bind (fun u74 => some (u74))) else if p2 = (2 : Int32) then ((MX3_kinOf N P p1).bind (fun u83 => some (u83))) else if p2 = (3 : Int32) then ((MX1_whereIs N Nw p1).bind (fun u92 => some (u92))) else if p2 = (4 : Int32) then ((MX1_placeOf N Nw p1).bind (fun u101 => some (u101))) else if p2 = (5 : Int32) then ((MX1_stoodOf N Nw p1).bind (fun u110 => some (u110))) else if p2 = (6 : Int32) then ((MX1_ateInOf N Nw p1).bind (fun u119 => some (u119))) else if p2 = (7 : Int32) then ((MX1_warmOf N Nw p1).bind (fun u128 => some (u128))) else some ((-1 : Int32))))
set_option maxHeartbeats 4000000 in
set_option maxRecDepth 100000 in
theorem c_X7_person (l : Launch) (G : va_G) (cI cZ cL : ClassId) (N : Nat) (bl : Nat) (aTx : Nat → Nat) (aD : Nat → Nat) (fc : Nat) (aP : Nat → Nat) (aNw : Nat → Nat) (aGs : Nat → Nat) (aTr : Nat → Nat) (aO : Nat → Nat) (aS : Nat → Nat) (aU : Nat → Nat) (laU : Nat → Nat → Nat) (aK : Nat → Nat) (laK : Nat → Nat → Nat) (Tx : TextV) (D : PlanV) (P : PlanV) (Nw : LineV) (Gs : PlanV) (Tr : LineV) (O : OrdV) (S : SeenV) (U : ShelfV) (K : ShelfV) (p1 : Int32) (p2 : Int32) (rr : Int32) (hM : MX7_person N P Nw p1 p2 = some rr) : CtI l yX7_person cX7_person 3 .int 1 22 G cI cZ cL [.ref bl, .int p1, .int p2] [wBL bl (aTx 0) (aD 0) fc (aP 0) (aNw 0) (aS 0) (aU 0) (aK 0), wText cI aTx Tx, wPlan cI aD D, wFc fc (aP 0) (aNw 0) (aGs 0) (aTr 0) (aO 0), wPlan cI aP P, wLine cI aNw Nw, wPlan cI aGs Gs, wLine cI aTr Tr, wOrd cI aO O, wSeen cI cZ aS S, wShelf cI cL 8 aU laU U, wShelf cI cL 2 aK laK K] rr [wBL bl (aTx 0) (aD 0) fc (aP 0) (aNw 0) (aS 0) (aU 0) (aK 0), wText cI aTx Tx, wPlan cI aD D, wFc fc (aP 0) (aNw 0) (aGs 0) (aTr 0) (aO 0), wPlan cI aP P, wLine cI aNw Nw, wPlan cI aGs Gs, wLine cI aTr Tr, wOrd cI aO O, wSeen cI cZ aS S, wShelf cI cL 8 aU laU U, wShelf cI cL 2 aK laK K] := by
  refine ct_body (fun A => qI G rr [wBL bl (aTx 0) (aD 0) fc (aP 0) (aNw 0) (aS 0) (aU 0) (aK 0), wText cI aTx Tx, wPlan cI aD D, wFc fc (aP 0) (aNw 0) (aGs 0) (aTr 0) (aO 0), wPlan cI aP P, wLine cI aNw Nw, wPlan cI aGs Gs, wLine cI aTr Tr, wOrd cI aO O, wSeen cI cZ aS S, wShelf cI cL 8 aU laU U, wShelf cI cL 2 aK laK K] A) (by decide) (Nat.le_of_ble_eq_true rfl) (fun p e s m below meth c A ls X hW hl => ?_)
  have hx := X.1
  have hb := X.2.1
  have hts := X.2.2.2.2.2.1
  have hown := X.2.2.2.2.2.2.1
  have hl : lv_has ls 3 [(0, .ref bl), (1, .int p1), (2, .int p2)] := hl
  unfold MX7_person at hM
  refine lv_aload_n hx hb dX7_person_0 rfl (lv_at hl 0 rfl) ?_
  refine g_get X hW 0 rfl rfl inX7 3 (by decide) q_369 rfl dX7_person_1 ?_
  refine lv_iload_n hx hb dX7_person_4 rfl (lv_at hl 1 rfl) ?_
  obtain ⟨u5, hu5, hM⟩ := bind_some hM
  refine g_callVi (rest := []) (gr := [wBL bl (aTx 0) (aD 0) fc (aP 0) (aNw 0) (aS 0) (aU 0) (aK 0), wText cI aTx Tx, wPlan cI aD D, wFc fc (aP 0) (aNw 0) (aGs 0) (aTr 0) (aO 0), wLine cI aNw Nw, wPlan cI aGs Gs, wLine cI aTr Tr, wOrd cI aO O, wSeen cI cZ aS S, wShelf cI cL 8 aU laU U, wShelf cI cL 2 aK laK K]) X hl.1 hW (c_X3_has l G cI cZ cL N aP P p1 u5 hu5) q_434 q_431 q_432 q_433 q_56 hd_X3_has rfl ⟨Nat.le_of_ble_eq_true rfl, Nat.le_of_ble_eq_true rfl⟩ ⟨Nat.zero_le _, Nat.zero_le _⟩ [4] [0, 1, 2, 3, 5, 6, 7, 8, 9, 10, 11] [wBL bl (aTx 0) (aD 0) fc (aP 0) (aNw 0) (aS 0) (aU 0) (aK 0), wText cI aTx Tx, wPlan cI aD D, wFc fc (aP 0) (aNw 0) (aGs 0) (aTr 0) (aO 0), wPlan cI aP P, wLine cI aNw Nw, wPlan cI aGs Gs, wLine cI aTr Tr, wOrd cI aO O, wSeen cI cZ aS S, wShelf cI cL 8 aU laU U, wShelf cI cL 2 aK laK K] ⟨pm_12_4, rfl, rfl, rfl⟩ ⟨pm_12_4, rfl, rfl, rfl⟩ (q0 := 9) rfl rfl rfl (Nat.le_of_ble_eq_true rfl) dX7_person_5 (fun H locs hW => ?_)
  refine lv_if_ne (tgt := 13) hx hb dX7_person_8 (by decide) (fun hc => ?_) (fun hc => ?_)
  · have hM := (if_neg hc).symm.trans hM
    refine lv_iload_n hx hb dX7_person_13 rfl (lv_at hl 2 rfl) ?_
    by_cases hs14_0 : p2 = (0 : Int32)
    · have hM := (if_pos hs14_0).symm.trans hM
      refine lv_tableIn (off := 46) (tgt := 60) hx hb dX7_person_14 (by rw [hs14_0]; decide) (by rw [hs14_0]; decide) (by rw [hs14_0]; rfl) (by decide) ?_
      refine lv_aload_n hx hb dX7_person_60 rfl (lv_at hl 0 rfl) ?_
      refine g_get X hW 0 rfl rfl inX7 3 (by decide) q_369 rfl dX7_person_61 ?_
      refine lv_iload_n hx hb dX7_person_64 rfl (lv_at hl 1 rfl) ?_
      obtain ⟨u65, hu65, hM⟩ := bind_some hM
      refine g_callVi (rest := []) (gr := [wBL bl (aTx 0) (aD 0) fc (aP 0) (aNw 0) (aS 0) (aU 0) (aK 0), wText cI aTx Tx, wPlan cI aD D, wFc fc (aP 0) (aNw 0) (aGs 0) (aTr 0) (aO 0), wLine cI aNw Nw, wPlan cI aGs Gs, wLine cI aTr Tr, wOrd cI aO O, wSeen cI cZ aS S, wShelf cI cL 8 aU laU U, wShelf cI cL 2 aK laK K]) X hl.1 hW (c_X3_kindOf l G cI cZ cL N aP P p1 u65 hu65) q_438 q_435 q_436 q_437 q_56 hd_X3_kindOf rfl ⟨Nat.le_of_ble_eq_true rfl, Nat.le_of_ble_eq_true rfl⟩ ⟨Nat.zero_le _, Nat.zero_le _⟩ [4] [0, 1, 2, 3, 5, 6, 7, 8, 9, 10, 11] [wBL bl (aTx 0) (aD 0) fc (aP 0) (aNw 0) (aS 0) (aU 0) (aK 0), wText cI aTx Tx, wPlan cI aD D, wFc fc (aP 0) (aNw 0) (aGs 0) (aTr 0) (aO 0), wPlan cI aP P, wLine cI aNw Nw, wPlan cI aGs Gs, wLine cI aTr Tr, wOrd cI aO O, wSeen cI cZ aS S, wShelf cI cL 8 aU laU U, wShelf cI cL 2 aK laK K] ⟨pm_12_4, rfl, rfl, rfl⟩ ⟨pm_12_4, rfl, rfl, rfl⟩ (q0 := 9) rfl rfl rfl (Nat.le_of_ble_eq_true rfl) dX7_person_65 (fun H locs hW => ?_)
      obtain rfl := Option.some.inj hM
      exact g_reti X hW rfl rfl dX7_person_68
    · have hM := (if_neg hs14_0).symm.trans hM
      by_cases hs14_1 : p2 = (1 : Int32)
      · have hM := (if_pos hs14_1).symm.trans hM
        refine lv_tableIn (off := 55) (tgt := 69) hx hb dX7_person_14 (by rw [hs14_1]; decide) (by rw [hs14_1]; decide) (by rw [hs14_1]; rfl) (by decide) ?_
        refine lv_aload_n hx hb dX7_person_69 rfl (lv_at hl 0 rfl) ?_
        refine g_get X hW 0 rfl rfl inX7 3 (by decide) q_369 rfl dX7_person_70 ?_
        refine lv_iload_n hx hb dX7_person_73 rfl (lv_at hl 1 rfl) ?_
        obtain ⟨u74, hu74, hM⟩ := bind_some hM
        refine g_callVi (rest := []) (gr := [wBL bl (aTx 0) (aD 0) fc (aP 0) (aNw 0) (aS 0) (aU 0) (aK 0), wText cI aTx Tx, wPlan cI aD D, wFc fc (aP 0) (aNw 0) (aGs 0) (aTr 0) (aO 0), wLine cI aNw Nw, wPlan cI aGs Gs, wLine cI aTr Tr, wOrd cI aO O, wSeen cI cZ aS S, wShelf cI cL 8 aU laU U, wShelf cI cL 2 aK laK K]) X hl.1 hW (c_X3_comingOf l G cI cZ cL N aP P p1 u74 hu74) q_442 q_439 q_440 q_441 q_56 hd_X3_comingOf rfl ⟨Nat.le_of_ble_eq_true rfl, Nat.le_of_ble_eq_true rfl⟩ ⟨Nat.zero_le _, Nat.zero_le _⟩ [4] [0, 1, 2, 3, 5, 6, 7, 8, 9, 10, 11] [wBL bl (aTx 0) (aD 0) fc (aP 0) (aNw 0) (aS 0) (aU 0) (aK 0), wText cI aTx Tx, wPlan cI aD D, wFc fc (aP 0) (aNw 0) (aGs 0) (aTr 0) (aO 0), wPlan cI aP P, wLine cI aNw Nw, wPlan cI aGs Gs, wLine cI aTr Tr, wOrd cI aO O, wSeen cI cZ aS S, wShelf cI cL 8 aU laU U, wShelf cI cL 2 aK laK K] ⟨pm_12_4, rfl, rfl, rfl⟩ ⟨pm_12_4, rfl, rfl, rfl⟩ (q0 := 9) rfl rfl rfl (Nat.le_of_ble_eq_true rfl) dX7_person_74 (fun H locs hW => ?_)
        obtain rfl := Option.some.inj hM
        exact g_reti X hW rfl rfl dX7_person_77
      · have hM := (if_neg hs14_1).symm.trans hM
        by_cases hs14_2 : p2 = (2 : Int32)
        · have hM := (if_pos hs14_2).symm.trans hM
          refine lv_tableIn (off := 64) (tgt := 78) hx hb dX7_person_14 (by rw [hs14_2]; decide) (by rw [hs14_2]; decide) (by rw [hs14_2]; rfl) (by decide) ?_
          refine lv_aload_n hx hb dX7_person_78 rfl (lv_at hl 0 rfl) ?_
          refine g_get X hW 0 rfl rfl inX7 3 (by decide) q_369 rfl dX7_person_79 ?_
          refine lv_iload_n hx hb dX7_person_82 rfl (lv_at hl 1 rfl) ?_
          obtain ⟨u83, hu83, hM⟩ := bind_some hM
          refine g_callVi (rest := []) (gr := [wBL bl (aTx 0) (aD 0) fc (aP 0) (aNw 0) (aS 0) (aU 0) (aK 0), wText cI aTx Tx, wPlan cI aD D, wFc fc (aP 0) (aNw 0) (aGs 0) (aTr 0) (aO 0), wLine cI aNw Nw, wPlan cI aGs Gs, wLine cI aTr Tr, wOrd cI aO O, wSeen cI cZ aS S, wShelf cI cL 8 aU laU U, wShelf cI cL 2 aK laK K]) X hl.1 hW (c_X3_kinOf l G cI cZ cL N aP P p1 u83 hu83) q_446 q_443 q_444 q_445 q_56 hd_X3_kinOf rfl ⟨Nat.le_of_ble_eq_true rfl, Nat.le_of_ble_eq_true rfl⟩ ⟨Nat.zero_le _, Nat.zero_le _⟩ [4] [0, 1, 2, 3, 5, 6, 7, 8, 9, 10, 11] [wBL bl (aTx 0) (aD 0) fc (aP 0) (aNw 0) (aS 0) (aU 0) (aK 0), wText cI aTx Tx, wPlan cI aD D, wFc fc (aP 0) (aNw 0) (aGs 0) (aTr 0) (aO 0), wPlan cI aP P, wLine cI aNw Nw, wPlan cI aGs Gs, wLine cI aTr Tr, wOrd cI aO O, wSeen cI cZ aS S, wShelf cI cL 8 aU laU U, wShelf cI cL 2 aK laK K] ⟨pm_12_4, rfl, rfl, rfl⟩ ⟨pm_12_4, rfl, rfl, rfl⟩ (q0 := 9) rfl rfl rfl (Nat.le_of_ble_eq_true rfl) dX7_person_83 (fun H locs hW => ?_)
          obtain rfl := Option.some.inj hM
          exact g_reti X hW rfl rfl dX7_person_86
        · have hM := (if_neg hs14_2).symm.trans hM
          by_cases hs14_3 : p2 = (3 : Int32)
          · have hM := (if_pos hs14_3).symm.trans hM
            refine lv_tableIn (off := 73) (tgt := 87) hx hb dX7_person_14 (by rw [hs14_3]; decide) (by rw [hs14_3]; decide) (by rw [hs14_3]; rfl) (by decide) ?_
            refine lv_aload_n hx hb dX7_person_87 rfl (lv_at hl 0 rfl) ?_
            refine g_get X hW 0 rfl rfl inX7 4 (by decide) q_370 rfl dX7_person_88 ?_
            refine lv_iload_n hx hb dX7_person_91 rfl (lv_at hl 1 rfl) ?_
            obtain ⟨u92, hu92, hM⟩ := bind_some hM
            refine g_callVi (rest := []) (gr := [wBL bl (aTx 0) (aD 0) fc (aP 0) (aNw 0) (aS 0) (aU 0) (aK 0), wText cI aTx Tx, wPlan cI aD D, wFc fc (aP 0) (aNw 0) (aGs 0) (aTr 0) (aO 0), wPlan cI aP P, wPlan cI aGs Gs, wLine cI aTr Tr, wOrd cI aO O, wSeen cI cZ aS S, wShelf cI cL 8 aU laU U, wShelf cI cL 2 aK laK K]) X hl.1 hW (c_X1_whereIs l G cI cZ cL N aNw Nw p1 u92 hu92) q_450 q_447 q_448 q_449 q_58 hd_X1_whereIs rfl ⟨Nat.le_of_ble_eq_true rfl, Nat.le_of_ble_eq_true rfl⟩ ⟨Nat.zero_le _, Nat.zero_le _⟩ [5] [0, 1, 2, 3, 4, 6, 7, 8, 9, 10, 11] [wBL bl (aTx 0) (aD 0) fc (aP 0) (aNw 0) (aS 0) (aU 0) (aK 0), wText cI aTx Tx, wPlan cI aD D, wFc fc (aP 0) (aNw 0) (aGs 0) (aTr 0) (aO 0), wPlan cI aP P, wLine cI aNw Nw, wPlan cI aGs Gs, wLine cI aTr Tr, wOrd cI aO O, wSeen cI cZ aS S, wShelf cI cL 8 aU laU U, wShelf cI cL 2 aK laK K] ⟨pm_12_5, rfl, rfl, rfl⟩ ⟨pm_12_5, rfl, rfl, rfl⟩ (q0 := 13) rfl rfl rfl (Nat.le_of_ble_eq_true rfl) dX7_person_92 (fun H locs hW => ?_)
            obtain rfl := Option.some.inj hM
            exact g_reti X hW rfl rfl dX7_person_95
          · have hM := (if_neg hs14_3).symm.trans hM
            by_cases hs14_4 : p2 = (4 : Int32)
            · have hM := (if_pos hs14_4).symm.trans hM
              refine lv_tableIn (off := 82) (tgt := 96) hx hb dX7_person_14 (by rw [hs14_4]; decide) (by rw [hs14_4]; decide) (by rw [hs14_4]; rfl) (by decide) ?_
              refine lv_aload_n hx hb dX7_person_96 rfl (lv_at hl 0 rfl) ?_
              refine g_get X hW 0 rfl rfl inX7 4 (by decide) q_370 rfl dX7_person_97 ?_
              refine lv_iload_n hx hb dX7_person_100 rfl (lv_at hl 1 rfl) ?_
              obtain ⟨u101, hu101, hM⟩ := bind_some hM
              refine g_callVi (rest := []) (gr := [wBL bl (aTx 0) (aD 0) fc (aP 0) (aNw 0) (aS 0) (aU 0) (aK 0), wText cI aTx Tx, wPlan cI aD D, wFc fc (aP 0) (aNw 0) (aGs 0) (aTr 0) (aO 0), wPlan cI aP P, wPlan cI aGs Gs, wLine cI aTr Tr, wOrd cI aO O, wSeen cI cZ aS S, wShelf cI cL 8 aU laU U, wShelf cI cL 2 aK laK K]) X hl.1 hW (c_X1_placeOf l G cI cZ cL N aNw Nw p1 u101 hu101) q_454 q_451 q_452 q_453 q_58 hd_X1_placeOf rfl ⟨Nat.le_of_ble_eq_true rfl, Nat.le_of_ble_eq_true rfl⟩ ⟨Nat.zero_le _, Nat.zero_le _⟩ [5] [0, 1, 2, 3, 4, 6, 7, 8, 9, 10, 11] [wBL bl (aTx 0) (aD 0) fc (aP 0) (aNw 0) (aS 0) (aU 0) (aK 0), wText cI aTx Tx, wPlan cI aD D, wFc fc (aP 0) (aNw 0) (aGs 0) (aTr 0) (aO 0), wPlan cI aP P, wLine cI aNw Nw, wPlan cI aGs Gs, wLine cI aTr Tr, wOrd cI aO O, wSeen cI cZ aS S, wShelf cI cL 8 aU laU U, wShelf cI cL 2 aK laK K] ⟨pm_12_5, rfl, rfl, rfl⟩ ⟨pm_12_5, rfl, rfl, rfl⟩ (q0 := 13) rfl rfl rfl (Nat.le_of_ble_eq_true rfl) dX7_person_101 (fun H locs hW => ?_)
              obtain rfl := Option.some.inj hM
              exact g_reti X hW rfl rfl dX7_person_104
            · have hM := (if_neg hs14_4).symm.trans hM
              by_cases hs14_5 : p2 = (5 : Int32)
              · have hM := (if_pos hs14_5).symm.trans hM
                refine lv_tableIn (off := 91) (tgt := 105) hx hb dX7_person_14 (by rw [hs14_5]; decide) (by rw [hs14_5]; decide) (by rw [hs14_5]; rfl) (by decide) ?_
                refine lv_aload_n hx hb dX7_person_105 rfl (lv_at hl 0 rfl) ?_
                refine g_get X hW 0 rfl rfl inX7 4 (by decide) q_370 rfl dX7_person_106 ?_
                refine lv_iload_n hx hb dX7_person_109 rfl (lv_at hl 1 rfl) ?_
                obtain ⟨u110, hu110, hM⟩ := bind_some hM
                refine g_callVi (rest := []) (gr := [wBL bl (aTx 0) (aD 0) fc (aP 0) (aNw 0) (aS 0) (aU 0) (aK 0), wText cI aTx Tx, wPlan cI aD D, wFc fc (aP 0) (aNw 0) (aGs 0) (aTr 0) (aO 0), wPlan cI aP P, wPlan cI aGs Gs, wLine cI aTr Tr, wOrd cI aO O, wSeen cI cZ aS S, wShelf cI cL 8 aU laU U, wShelf cI cL 2 aK laK K]) X hl.1 hW (c_X1_stoodOf l G cI cZ cL N aNw Nw p1 u110 hu110) q_458 q_455 q_456 q_457 q_58 hd_X1_stoodOf rfl ⟨Nat.le_of_ble_eq_true rfl, Nat.le_of_ble_eq_true rfl⟩ ⟨Nat.zero_le _, Nat.zero_le _⟩ [5] [0, 1, 2, 3, 4, 6, 7, 8, 9, 10, 11] [wBL bl (aTx 0) (aD 0) fc (aP 0) (aNw 0) (aS 0) (aU 0) (aK 0), wText cI aTx Tx, wPlan cI aD D, wFc fc (aP 0) (aNw 0) (aGs 0) (aTr 0) (aO 0), wPlan cI aP P, wLine cI aNw Nw, wPlan cI aGs Gs, wLine cI aTr Tr, wOrd cI aO O, wSeen cI cZ aS S, wShelf cI cL 8 aU laU U, wShelf cI cL 2 aK laK K] ⟨pm_12_5, rfl, rfl, rfl⟩ ⟨pm_12_5, rfl, rfl, rfl⟩ (q0 := 13) rfl rfl rfl (Nat.le_of_ble_eq_true rfl) dX7_person_110 (fun H locs hW => ?_)
                obtain rfl := Option.some.inj hM
                exact g_reti X hW rfl rfl dX7_person_113
              · have hM := (if_neg hs14_5).symm.trans hM
                by_cases hs14_6 : p2 = (6 : Int32)
                · have hM := (if_pos hs14_6).symm.trans hM
                  refine lv_tableIn (off := 100) (tgt := 114) hx hb dX7_person_14 (by rw [hs14_6]; decide) (by rw [hs14_6]; decide) (by rw [hs14_6]; rfl) (by decide) ?_
                  refine lv_aload_n hx hb dX7_person_114 rfl (lv_at hl 0 rfl) ?_
                  refine g_get X hW 0 rfl rfl inX7 4 (by decide) q_370 rfl dX7_person_115 ?_
                  refine lv_iload_n hx hb dX7_person_118 rfl (lv_at hl 1 rfl) ?_
                  obtain ⟨u119, hu119, hM⟩ := bind_some hM
                  refine g_callVi (rest := []) (gr := [wBL bl (aTx 0) (aD 0) fc (aP 0) (aNw 0) (aS 0) (aU 0) (aK 0), wText cI aTx Tx, wPlan cI aD D, wFc fc (aP 0) (aNw 0) (aGs 0) (aTr 0) (aO 0), wPlan cI aP P, wPlan cI aGs Gs, wLine cI aTr Tr, wOrd cI aO O, wSeen cI cZ aS S, wShelf cI cL 8 aU laU U, wShelf cI cL 2 aK laK K]) X hl.1 hW (c_X1_ateInOf l G cI cZ cL N aNw Nw p1 u119 hu119) q_462 q_459 q_460 q_461 q_58 hd_X1_ateInOf rfl ⟨Nat.le_of_ble_eq_true rfl, Nat.le_of_ble_eq_true rfl⟩ ⟨Nat.zero_le _, Nat.zero_le _⟩ [5] [0, 1, 2, 3, 4, 6, 7, 8, 9, 10, 11] [wBL bl (aTx 0) (aD 0) fc (aP 0) (aNw 0) (aS 0) (aU 0) (aK 0), wText cI aTx Tx, wPlan cI aD D, wFc fc (aP 0) (aNw 0) (aGs 0) (aTr 0) (aO 0), wPlan cI aP P, wLine cI aNw Nw, wPlan cI aGs Gs, wLine cI aTr Tr, wOrd cI aO O, wSeen cI cZ aS S, wShelf cI cL 8 aU laU U, wShelf cI cL 2 aK laK K] ⟨pm_12_5, rfl, rfl, rfl⟩ ⟨pm_12_5, rfl, rfl, rfl⟩ (q0 := 13) rfl rfl rfl (Nat.le_of_ble_eq_true rfl) dX7_person_119 (fun H locs hW => ?_)
                  obtain rfl := Option.some.inj hM
                  exact g_reti X hW rfl rfl dX7_person_122
                · have hM := (if_neg hs14_6).symm.trans hM
                  by_cases hs14_7 : p2 = (7 : Int32)
                  · have hM := (if_pos hs14_7).symm.trans hM
                    refine lv_tableIn (off := 109) (tgt := 123) hx hb dX7_person_14 (by rw [hs14_7]; decide) (by rw [hs14_7]; decide) (by rw [hs14_7]; rfl) (by decide) ?_
                    refine lv_aload_n hx hb dX7_person_123 rfl (lv_at hl 0 rfl) ?_
                    refine g_get X hW 0 rfl rfl inX7 4 (by decide) q_370 rfl dX7_person_124 ?_
                    refine lv_iload_n hx hb dX7_person_127 rfl (lv_at hl 1 rfl) ?_
                    obtain ⟨u128, hu128, hM⟩ := bind_some hM
                    refine g_callVi (rest := []) (gr := [wBL bl (aTx 0) (aD 0) fc (aP 0) (aNw 0) (aS 0) (aU 0) (aK 0), wText cI aTx Tx, wPlan cI aD D, wFc fc (aP 0) (aNw 0) (aGs 0) (aTr 0) (aO 0), wPlan cI aP P, wPlan cI aGs Gs, wLine cI aTr Tr, wOrd cI aO O, wSeen cI cZ aS S, wShelf cI cL 8 aU laU U, wShelf cI cL 2 aK laK K]) X hl.1 hW (c_X1_warmOf l G cI cZ cL N aNw Nw p1 u128 hu128) q_466 q_463 q_464 q_465 q_58 hd_X1_warmOf rfl ⟨Nat.le_of_ble_eq_true rfl, Nat.le_of_ble_eq_true rfl⟩ ⟨Nat.zero_le _, Nat.zero_le _⟩ [5] [0, 1, 2, 3, 4, 6, 7, 8, 9, 10, 11] [wBL bl (aTx 0) (aD 0) fc (aP 0) (aNw 0) (aS 0) (aU 0) (aK 0), wText cI aTx Tx, wPlan cI aD D, wFc fc (aP 0) (aNw 0) (aGs 0) (aTr 0) (aO 0), wPlan cI aP P, wLine cI aNw Nw, wPlan cI aGs Gs, wLine cI aTr Tr, wOrd cI aO O, wSeen cI cZ aS S, wShelf cI cL 8 aU laU U, wShelf cI cL 2 aK laK K] ⟨pm_12_5, rfl, rfl, rfl⟩ ⟨pm_12_5, rfl, rfl, rfl⟩ (q0 := 13) rfl rfl rfl (Nat.le_of_ble_eq_true rfl) dX7_person_128 (fun H locs hW => ?_)
                    obtain rfl := Option.some.inj hM
                    exact g_reti X hW rfl rfl dX7_person_131
                  · have hM := (if_neg hs14_7).symm.trans hM
                    refine lv_tableOut (tgt := 132) hx hb dX7_person_14 (sw_out 7 (fun j hj => by rcases sw_le7 hj with rfl | rfl | rfl | rfl | rfl | rfl | rfl | rfl <;> assumption)) (by decide) ?_
                    refine lv_iconst (v := (-1 : Int32)) hx hb dX7_person_132 (by decide) ?_
                    obtain rfl := Option.some.inj hM
                    exact g_reti X hW rfl rfl dX7_person_133
  · have hM := (if_pos hc).symm.trans hM
    refine lv_iconst (v := (-1 : Int32)) hx hb dX7_person_11 (by decide) ?_
    obtain rfl := Option.some.inj hM
    exact g_reti X hW rfl rfl dX7_person_12

def MX7_at (N : Nat) (Nw : LineV) (p1 : Int32) : Option (Int32) :=
  if 0 ≤ p1 then ((MX1_whoAt N Nw p1).bind (fun u13 => some (u13))) else some ((-1 : Int32))
set_option maxHeartbeats 4000000 in
set_option maxRecDepth 100000 in
theorem c_X7_at (l : Launch) (G : va_G) (cI cZ cL : ClassId) (N : Nat) (bl : Nat) (aTx : Nat → Nat) (aD : Nat → Nat) (fc : Nat) (aP : Nat → Nat) (aNw : Nat → Nat) (aGs : Nat → Nat) (aTr : Nat → Nat) (aO : Nat → Nat) (aS : Nat → Nat) (aU : Nat → Nat) (laU : Nat → Nat → Nat) (aK : Nat → Nat) (laK : Nat → Nat → Nat) (Tx : TextV) (D : PlanV) (P : PlanV) (Nw : LineV) (Gs : PlanV) (Tr : LineV) (O : OrdV) (S : SeenV) (U : ShelfV) (K : ShelfV) (p1 : Int32) (rr : Int32) (hM : MX7_at N Nw p1 = some rr) : CtI l yX7_at cX7_at 2 .int 1 21 G cI cZ cL [.ref bl, .int p1] [wBL bl (aTx 0) (aD 0) fc (aP 0) (aNw 0) (aS 0) (aU 0) (aK 0), wText cI aTx Tx, wPlan cI aD D, wFc fc (aP 0) (aNw 0) (aGs 0) (aTr 0) (aO 0), wPlan cI aP P, wLine cI aNw Nw, wPlan cI aGs Gs, wLine cI aTr Tr, wOrd cI aO O, wSeen cI cZ aS S, wShelf cI cL 8 aU laU U, wShelf cI cL 2 aK laK K] rr [wBL bl (aTx 0) (aD 0) fc (aP 0) (aNw 0) (aS 0) (aU 0) (aK 0), wText cI aTx Tx, wPlan cI aD D, wFc fc (aP 0) (aNw 0) (aGs 0) (aTr 0) (aO 0), wPlan cI aP P, wLine cI aNw Nw, wPlan cI aGs Gs, wLine cI aTr Tr, wOrd cI aO O, wSeen cI cZ aS S, wShelf cI cL 8 aU laU U, wShelf cI cL 2 aK laK K] := by
  refine ct_body (fun A => qI G rr [wBL bl (aTx 0) (aD 0) fc (aP 0) (aNw 0) (aS 0) (aU 0) (aK 0), wText cI aTx Tx, wPlan cI aD D, wFc fc (aP 0) (aNw 0) (aGs 0) (aTr 0) (aO 0), wPlan cI aP P, wLine cI aNw Nw, wPlan cI aGs Gs, wLine cI aTr Tr, wOrd cI aO O, wSeen cI cZ aS S, wShelf cI cL 8 aU laU U, wShelf cI cL 2 aK laK K] A) (by decide) (Nat.le_of_ble_eq_true rfl) (fun p e s m below meth c A ls X hW hl => ?_)
  have hx := X.1
  have hb := X.2.1
  have hts := X.2.2.2.2.2.1
  have hown := X.2.2.2.2.2.2.1
  have hl : lv_has ls 2 [(0, .ref bl), (1, .int p1)] := hl
  unfold MX7_at at hM
  refine lv_iload_n hx hb dX7_at_0 rfl (lv_at hl 1 rfl) ?_
  refine lv_if_ge (tgt := 8) hx hb dX7_at_1 (by decide) (fun hc => ?_) (fun hc => ?_)
  · have hM := (if_pos hc).symm.trans hM
    refine lv_aload_n hx hb dX7_at_8 rfl (lv_at hl 0 rfl) ?_
    refine g_get X hW 0 rfl rfl inX7 4 (by decide) q_370 rfl dX7_at_9 ?_
    refine lv_iload_n hx hb dX7_at_12 rfl (lv_at hl 1 rfl) ?_
    obtain ⟨u13, hu13, hM⟩ := bind_some hM
    refine g_callVi (rest := []) (gr := [wBL bl (aTx 0) (aD 0) fc (aP 0) (aNw 0) (aS 0) (aU 0) (aK 0), wText cI aTx Tx, wPlan cI aD D, wFc fc (aP 0) (aNw 0) (aGs 0) (aTr 0) (aO 0), wPlan cI aP P, wPlan cI aGs Gs, wLine cI aTr Tr, wOrd cI aO O, wSeen cI cZ aS S, wShelf cI cL 8 aU laU U, wShelf cI cL 2 aK laK K]) X hl.1 hW (c_X1_whoAt l G cI cZ cL N aNw Nw p1 u13 hu13) q_474 q_471 q_472 q_473 q_58 hd_X1_whoAt rfl ⟨Nat.le_of_ble_eq_true rfl, Nat.le_of_ble_eq_true rfl⟩ ⟨Nat.zero_le _, Nat.zero_le _⟩ [5] [0, 1, 2, 3, 4, 6, 7, 8, 9, 10, 11] [wBL bl (aTx 0) (aD 0) fc (aP 0) (aNw 0) (aS 0) (aU 0) (aK 0), wText cI aTx Tx, wPlan cI aD D, wFc fc (aP 0) (aNw 0) (aGs 0) (aTr 0) (aO 0), wPlan cI aP P, wLine cI aNw Nw, wPlan cI aGs Gs, wLine cI aTr Tr, wOrd cI aO O, wSeen cI cZ aS S, wShelf cI cL 8 aU laU U, wShelf cI cL 2 aK laK K] ⟨pm_12_5, rfl, rfl, rfl⟩ ⟨pm_12_5, rfl, rfl, rfl⟩ (q0 := 13) rfl rfl rfl (Nat.le_of_ble_eq_true rfl) dX7_at_13 (fun H locs hW => ?_)
    obtain rfl := Option.some.inj hM
    exact g_reti X hW rfl rfl dX7_at_16
  · have hM := (if_neg hc).symm.trans hM
    refine lv_iconst (v := (-1 : Int32)) hx hb dX7_at_4 (by decide) ?_
    refine lv_goto (tgt := 16) hx hb dX7_at_5 (by decide) ?_
    obtain rfl := Option.some.inj hM
    exact g_reti X hW rfl rfl dX7_at_16

def MX7_pass (N : Nat) (P : PlanV) (Nw : LineV) (U : ShelfV) (p1 : Int32) : Option (Int32 × (Nat → Int32) × (Nat → Int32) × (Nat → Int32) × (Nat → Int32) × (Nat → Int32) × Int32 × Int32 × Int32 × Int32 × Int32 × Int32 × (Nat → LineV)) :=
  if p1 < (1 : Int32) then some ((-1 : Int32), Nw.1, Nw.2.1, Nw.2.2.1, Nw.2.2.2.1, Nw.2.2.2.2.1, Nw.2.2.2.2.2.1, Nw.2.2.2.2.2.2.1, Nw.2.2.2.2.2.2.2.1, Nw.2.2.2.2.2.2.2.2, U.1, U.2.1, U.2.2) else (if p1 ≤ (30 : Int32) then ((MX5_push N U 8 Nw).bind (fun u21 => (MX1_run N Nw P p1).bind (fun u33 => (MX1_howMany N u33 (3 : Int32)).bind (fun u41 => some (u41, u33.1, u33.2.1, u33.2.2.1, u33.2.2.2.1, u33.2.2.2.2.1, u33.2.2.2.2.2.1, u33.2.2.2.2.2.2.1, u33.2.2.2.2.2.2.2.1, u33.2.2.2.2.2.2.2.2, u21.1, u21.2.1, u21.2.2))))) else some ((-1 : Int32), Nw.1, Nw.2.1, Nw.2.2.1, Nw.2.2.2.1, Nw.2.2.2.2.1, Nw.2.2.2.2.2.1, Nw.2.2.2.2.2.2.1, Nw.2.2.2.2.2.2.2.1, Nw.2.2.2.2.2.2.2.2, U.1, U.2.1, U.2.2))
set_option maxHeartbeats 4000000 in
set_option maxRecDepth 100000 in
theorem c_X7_pass (l : Launch) (G : va_G) (cI cZ cL : ClassId) (N : Nat) (bl : Nat) (aTx : Nat → Nat) (aD : Nat → Nat) (fc : Nat) (aP : Nat → Nat) (aNw : Nat → Nat) (aGs : Nat → Nat) (aTr : Nat → Nat) (aO : Nat → Nat) (aS : Nat → Nat) (aU : Nat → Nat) (laU : Nat → Nat → Nat) (aK : Nat → Nat) (laK : Nat → Nat → Nat) (Tx : TextV) (D : PlanV) (P : PlanV) (Nw : LineV) (Gs : PlanV) (Tr : LineV) (O : OrdV) (S : SeenV) (U : ShelfV) (K : ShelfV) (p1 : Int32) (rr : Int32 × (Nat → Int32) × (Nat → Int32) × (Nat → Int32) × (Nat → Int32) × (Nat → Int32) × Int32 × Int32 × Int32 × Int32 × Int32 × Int32 × (Nat → LineV)) (hM : MX7_pass N P Nw U p1 = some rr) : CtI l yX7_pass cX7_pass 2 .int 5 115 G cI cZ cL [.ref bl, .int p1] [wBL bl (aTx 0) (aD 0) fc (aP 0) (aNw 0) (aS 0) (aU 0) (aK 0), wText cI aTx Tx, wPlan cI aD D, wFc fc (aP 0) (aNw 0) (aGs 0) (aTr 0) (aO 0), wPlan cI aP P, wLine cI aNw Nw, wPlan cI aGs Gs, wLine cI aTr Tr, wOrd cI aO O, wSeen cI cZ aS S, wShelf cI cL 8 aU laU U, wShelf cI cL 2 aK laK K] rr.1 [wBL bl (aTx 0) (aD 0) fc (aP 0) (aNw 0) (aS 0) (aU 0) (aK 0), wText cI aTx Tx, wPlan cI aD D, wFc fc (aP 0) (aNw 0) (aGs 0) (aTr 0) (aO 0), wPlan cI aP P, wLine cI aNw (rr.2.1, rr.2.2.1, rr.2.2.2.1, rr.2.2.2.2.1, rr.2.2.2.2.2.1, rr.2.2.2.2.2.2.1, rr.2.2.2.2.2.2.2.1, rr.2.2.2.2.2.2.2.2.1, rr.2.2.2.2.2.2.2.2.2.1), wPlan cI aGs Gs, wLine cI aTr Tr, wOrd cI aO O, wSeen cI cZ aS S, wShelf cI cL 8 aU laU (rr.2.2.2.2.2.2.2.2.2.2.1, rr.2.2.2.2.2.2.2.2.2.2.2.1, rr.2.2.2.2.2.2.2.2.2.2.2.2), wShelf cI cL 2 aK laK K] := by
  refine ct_body (fun A => qI G rr.1 [wBL bl (aTx 0) (aD 0) fc (aP 0) (aNw 0) (aS 0) (aU 0) (aK 0), wText cI aTx Tx, wPlan cI aD D, wFc fc (aP 0) (aNw 0) (aGs 0) (aTr 0) (aO 0), wPlan cI aP P, wLine cI aNw (rr.2.1, rr.2.2.1, rr.2.2.2.1, rr.2.2.2.2.1, rr.2.2.2.2.2.1, rr.2.2.2.2.2.2.1, rr.2.2.2.2.2.2.2.1, rr.2.2.2.2.2.2.2.2.1, rr.2.2.2.2.2.2.2.2.2.1), wPlan cI aGs Gs, wLine cI aTr Tr, wOrd cI aO O, wSeen cI cZ aS S, wShelf cI cL 8 aU laU (rr.2.2.2.2.2.2.2.2.2.2.1, rr.2.2.2.2.2.2.2.2.2.2.2.1, rr.2.2.2.2.2.2.2.2.2.2.2.2), wShelf cI cL 2 aK laK K] A) (by decide) (Nat.le_of_ble_eq_true rfl) (fun p e s m below meth c A ls X hW hl => ?_)
  have hx := X.1
  have hb := X.2.1
  have hts := X.2.2.2.2.2.1
  have hown := X.2.2.2.2.2.2.1
  have hl : lv_has ls 2 [(0, .ref bl), (1, .int p1)] := hl
  unfold MX7_pass at hM
  refine lv_iload_n hx hb dX7_pass_0 rfl (lv_at hl 1 rfl) ?_
  refine lv_iconst (v := (1 : Int32)) hx hb dX7_pass_1 (by decide) ?_
  refine lv_icmp_lt (tgt := 11) hx hb dX7_pass_2 (by decide) (fun hc => ?_) (fun hc => ?_)
  · have hM := (if_pos hc).symm.trans hM
    refine lv_iconst (v := (-1 : Int32)) hx hb dX7_pass_11 (by decide) ?_
    obtain rfl := Option.some.inj hM
    exact g_reti X hW rfl rfl dX7_pass_12
  · have hM := (if_neg hc).symm.trans hM
    refine lv_iload_n hx hb dX7_pass_5 rfl (lv_at hl 1 rfl) ?_
    refine lv_bipush (v := (30 : Int32)) hx hb dX7_pass_6 (by decide) ?_
    refine lv_icmp_le (tgt := 13) hx hb dX7_pass_8 (by decide) (fun hc => ?_) (fun hc => ?_)
    · have hM := (if_pos hc).symm.trans hM
      refine lv_aload_n hx hb dX7_pass_13 rfl (lv_at hl 0 rfl) ?_
      refine g_get X hW 0 rfl rfl inX7 6 (by decide) q_372 rfl dX7_pass_14 ?_
      refine lv_aload_n hx hb dX7_pass_17 rfl (lv_at hl 0 rfl) ?_
      refine g_get X hW 0 rfl rfl inX7 4 (by decide) q_370 rfl dX7_pass_18 ?_
      obtain ⟨u21, hu21, hM⟩ := bind_some hM
      refine g_callVv (rest := []) (gr := [wBL bl (aTx 0) (aD 0) fc (aP 0) (aNw 0) (aS 0) (aU 0) (aK 0), wText cI aTx Tx, wPlan cI aD D, wFc fc (aP 0) (aNw 0) (aGs 0) (aTr 0) (aO 0), wPlan cI aP P, wPlan cI aGs Gs, wLine cI aTr Tr, wOrd cI aO O, wSeen cI cZ aS S, wShelf cI cL 2 aK laK K]) X hl.1 hW (c_X5_push l G cI cZ cL N aU laU 8 aNw U Nw u21 hu21) q_482 q_479 q_480 q_481 q_61 hd_X5_push rfl ⟨Nat.le_of_ble_eq_true rfl, Nat.le_of_ble_eq_true rfl⟩ ⟨Nat.zero_le _, Nat.zero_le _⟩ [10, 5] [0, 1, 2, 3, 4, 6, 7, 8, 9, 11] [wBL bl (aTx 0) (aD 0) fc (aP 0) (aNw 0) (aS 0) (aU 0) (aK 0), wText cI aTx Tx, wPlan cI aD D, wFc fc (aP 0) (aNw 0) (aGs 0) (aTr 0) (aO 0), wPlan cI aP P, wLine cI aNw Nw, wPlan cI aGs Gs, wLine cI aTr Tr, wOrd cI aO O, wSeen cI cZ aS S, wShelf cI cL 8 aU laU u21, wShelf cI cL 2 aK laK K] ⟨pm_12_10_5, rfl, rfl, rfl⟩ ⟨pm_12_10_5, rfl, rfl, rfl⟩ (q0 := 36) rfl rfl rfl (Nat.le_of_ble_eq_true rfl) dX7_pass_21 (fun H locs hW => ?_)
      refine lv_aload_n hx hb dX7_pass_24 rfl (lv_at hl 0 rfl) ?_
      refine g_get X hW 0 rfl rfl inX7 4 (by decide) q_370 rfl dX7_pass_25 ?_
      refine lv_aload_n hx hb dX7_pass_28 rfl (lv_at hl 0 rfl) ?_
      refine g_get X hW 0 rfl rfl inX7 3 (by decide) q_369 rfl dX7_pass_29 ?_
      refine lv_iload_n hx hb dX7_pass_32 rfl (lv_at hl 1 rfl) ?_
      obtain ⟨u33, hu33, hM⟩ := bind_some hM
      refine g_callVv (rest := []) (gr := [wBL bl (aTx 0) (aD 0) fc (aP 0) (aNw 0) (aS 0) (aU 0) (aK 0), wText cI aTx Tx, wPlan cI aD D, wFc fc (aP 0) (aNw 0) (aGs 0) (aTr 0) (aO 0), wPlan cI aGs Gs, wLine cI aTr Tr, wOrd cI aO O, wSeen cI cZ aS S, wShelf cI cL 8 aU laU u21, wShelf cI cL 2 aK laK K]) X hl.1 hW (c_X1_run l G cI cZ cL N aNw aP Nw P p1 u33 hu33) q_494 q_491 q_492 q_493 q_58 hd_X1_run rfl ⟨Nat.le_of_ble_eq_true rfl, Nat.le_of_ble_eq_true rfl⟩ ⟨Nat.zero_le _, Nat.zero_le _⟩ [5, 4] [0, 1, 2, 3, 6, 7, 8, 9, 10, 11] [wBL bl (aTx 0) (aD 0) fc (aP 0) (aNw 0) (aS 0) (aU 0) (aK 0), wText cI aTx Tx, wPlan cI aD D, wFc fc (aP 0) (aNw 0) (aGs 0) (aTr 0) (aO 0), wPlan cI aP P, wLine cI aNw u33, wPlan cI aGs Gs, wLine cI aTr Tr, wOrd cI aO O, wSeen cI cZ aS S, wShelf cI cL 8 aU laU u21, wShelf cI cL 2 aK laK K] ⟨pm_12_5_4, rfl, rfl, rfl⟩ ⟨pm_12_5_4, rfl, rfl, rfl⟩ (q0 := 13) rfl rfl rfl (Nat.le_of_ble_eq_true rfl) dX7_pass_33 (fun H locs hW => ?_)
      refine lv_aload_n hx hb dX7_pass_36 rfl (lv_at hl 0 rfl) ?_
      refine g_get X hW 0 rfl rfl inX7 4 (by decide) q_370 rfl dX7_pass_37 ?_
      refine lv_iconst (v := (3 : Int32)) hx hb dX7_pass_40 (by decide) ?_
      obtain ⟨u41, hu41, hM⟩ := bind_some hM
      refine g_callVi (rest := []) (gr := [wBL bl (aTx 0) (aD 0) fc (aP 0) (aNw 0) (aS 0) (aU 0) (aK 0), wText cI aTx Tx, wPlan cI aD D, wFc fc (aP 0) (aNw 0) (aGs 0) (aTr 0) (aO 0), wPlan cI aP P, wPlan cI aGs Gs, wLine cI aTr Tr, wOrd cI aO O, wSeen cI cZ aS S, wShelf cI cL 8 aU laU u21, wShelf cI cL 2 aK laK K]) X hl.1 hW (c_X1_howMany l G cI cZ cL N aNw u33 (3 : Int32) u41 hu41) q_550 q_547 q_548 q_549 q_58 hd_X1_howMany rfl ⟨Nat.le_of_ble_eq_true rfl, Nat.le_of_ble_eq_true rfl⟩ ⟨Nat.zero_le _, Nat.zero_le _⟩ [5] [0, 1, 2, 3, 4, 6, 7, 8, 9, 10, 11] [wBL bl (aTx 0) (aD 0) fc (aP 0) (aNw 0) (aS 0) (aU 0) (aK 0), wText cI aTx Tx, wPlan cI aD D, wFc fc (aP 0) (aNw 0) (aGs 0) (aTr 0) (aO 0), wPlan cI aP P, wLine cI aNw u33, wPlan cI aGs Gs, wLine cI aTr Tr, wOrd cI aO O, wSeen cI cZ aS S, wShelf cI cL 8 aU laU u21, wShelf cI cL 2 aK laK K] ⟨pm_12_5, rfl, rfl, rfl⟩ ⟨pm_12_5, rfl, rfl, rfl⟩ (q0 := 13) rfl rfl rfl (Nat.le_of_ble_eq_true rfl) dX7_pass_41 (fun H locs hW => ?_)
      obtain rfl := Option.some.inj hM
      exact g_reti X hW rfl rfl dX7_pass_44
    · have hM := (if_neg hc).symm.trans hM
      refine lv_iconst (v := (-1 : Int32)) hx hb dX7_pass_11 (by decide) ?_
      obtain rfl := Option.some.inj hM
      exact g_reti X hW rfl rfl dX7_pass_12

def MX7_giveUp (N : Nat) (P : PlanV) (Nw : LineV) (U : ShelfV) (p1 : Int32) : Option (Int32 × (Nat → Int32) × Int32 × Int32 × (Nat → LineV)) :=
  (MX3_has N P p1).bind (fun u5 => if u5 = 0 then some ((-1 : Int32), Nw.1, U.1, U.2.1, U.2.2) else ((MX1_canYield N Nw p1).bind (fun u18 => if u18 = 0 then some ((-2 : Int32), Nw.1, U.1, U.2.1, U.2.2) else ((MX5_push N U 8 Nw).bind (fun u35 => (MX1_yieldPlace N Nw p1).bind (fun u43 => (MX1_placeOf N (u43, Nw.2) p1).bind (fun u51 => some (u51, u43, u35.1, u35.2.1, u35.2.2))))))))
set_option maxHeartbeats 4000000 in
set_option maxRecDepth 100000 in
theorem c_X7_giveUp (l : Launch) (G : va_G) (cI cZ cL : ClassId) (N : Nat) (bl : Nat) (aTx : Nat → Nat) (aD : Nat → Nat) (fc : Nat) (aP : Nat → Nat) (aNw : Nat → Nat) (aGs : Nat → Nat) (aTr : Nat → Nat) (aO : Nat → Nat) (aS : Nat → Nat) (aU : Nat → Nat) (laU : Nat → Nat → Nat) (aK : Nat → Nat) (laK : Nat → Nat → Nat) (Tx : TextV) (D : PlanV) (P : PlanV) (Nw : LineV) (Gs : PlanV) (Tr : LineV) (O : OrdV) (S : SeenV) (U : ShelfV) (K : ShelfV) (p1 : Int32) (rr : Int32 × (Nat → Int32) × Int32 × Int32 × (Nat → LineV)) (hM : MX7_giveUp N P Nw U p1 = some rr) : CtI l yX7_giveUp cX7_giveUp 2 .int 3 60 G cI cZ cL [.ref bl, .int p1] [wBL bl (aTx 0) (aD 0) fc (aP 0) (aNw 0) (aS 0) (aU 0) (aK 0), wText cI aTx Tx, wPlan cI aD D, wFc fc (aP 0) (aNw 0) (aGs 0) (aTr 0) (aO 0), wPlan cI aP P, wLine cI aNw Nw, wPlan cI aGs Gs, wLine cI aTr Tr, wOrd cI aO O, wSeen cI cZ aS S, wShelf cI cL 8 aU laU U, wShelf cI cL 2 aK laK K] rr.1 [wBL bl (aTx 0) (aD 0) fc (aP 0) (aNw 0) (aS 0) (aU 0) (aK 0), wText cI aTx Tx, wPlan cI aD D, wFc fc (aP 0) (aNw 0) (aGs 0) (aTr 0) (aO 0), wPlan cI aP P, wLine cI aNw (rr.2.1, Nw.2), wPlan cI aGs Gs, wLine cI aTr Tr, wOrd cI aO O, wSeen cI cZ aS S, wShelf cI cL 8 aU laU (rr.2.2.1, rr.2.2.2.1, rr.2.2.2.2), wShelf cI cL 2 aK laK K] := by
  refine ct_body (fun A => qI G rr.1 [wBL bl (aTx 0) (aD 0) fc (aP 0) (aNw 0) (aS 0) (aU 0) (aK 0), wText cI aTx Tx, wPlan cI aD D, wFc fc (aP 0) (aNw 0) (aGs 0) (aTr 0) (aO 0), wPlan cI aP P, wLine cI aNw (rr.2.1, Nw.2), wPlan cI aGs Gs, wLine cI aTr Tr, wOrd cI aO O, wSeen cI cZ aS S, wShelf cI cL 8 aU laU (rr.2.2.1, rr.2.2.2.1, rr.2.2.2.2), wShelf cI cL 2 aK laK K] A) (by decide) (Nat.le_of_ble_eq_true rfl) (fun p e s m below meth c A ls X hW hl => ?_)
  have hx := X.1
  have hb := X.2.1
  have hts := X.2.2.2.2.2.1
  have hown := X.2.2.2.2.2.2.1
  have hl : lv_has ls 2 [(0, .ref bl), (1, .int p1)] := hl
  unfold MX7_giveUp at hM
  refine lv_aload_n hx hb dX7_giveUp_0 rfl (lv_at hl 0 rfl) ?_
  refine g_get X hW 0 rfl rfl inX7 3 (by decide) q_369 rfl dX7_giveUp_1 ?_
  refine lv_iload_n hx hb dX7_giveUp_4 rfl (lv_at hl 1 rfl) ?_
  obtain ⟨u5, hu5, hM⟩ := bind_some hM
  refine g_callVi (rest := []) (gr := [wBL bl (aTx 0) (aD 0) fc (aP 0) (aNw 0) (aS 0) (aU 0) (aK 0), wText cI aTx Tx, wPlan cI aD D, wFc fc (aP 0) (aNw 0) (aGs 0) (aTr 0) (aO 0), wLine cI aNw Nw, wPlan cI aGs Gs, wLine cI aTr Tr, wOrd cI aO O, wSeen cI cZ aS S, wShelf cI cL 8 aU laU U, wShelf cI cL 2 aK laK K]) X hl.1 hW (c_X3_has l G cI cZ cL N aP P p1 u5 hu5) q_434 q_431 q_432 q_433 q_56 hd_X3_has rfl ⟨Nat.le_of_ble_eq_true rfl, Nat.le_of_ble_eq_true rfl⟩ ⟨Nat.zero_le _, Nat.zero_le _⟩ [4] [0, 1, 2, 3, 5, 6, 7, 8, 9, 10, 11] [wBL bl (aTx 0) (aD 0) fc (aP 0) (aNw 0) (aS 0) (aU 0) (aK 0), wText cI aTx Tx, wPlan cI aD D, wFc fc (aP 0) (aNw 0) (aGs 0) (aTr 0) (aO 0), wPlan cI aP P, wLine cI aNw Nw, wPlan cI aGs Gs, wLine cI aTr Tr, wOrd cI aO O, wSeen cI cZ aS S, wShelf cI cL 8 aU laU U, wShelf cI cL 2 aK laK K] ⟨pm_12_4, rfl, rfl, rfl⟩ ⟨pm_12_4, rfl, rfl, rfl⟩ (q0 := 9) rfl rfl rfl (Nat.le_of_ble_eq_true rfl) dX7_giveUp_5 (fun H locs hW => ?_)
  refine lv_if_ne (tgt := 13) hx hb dX7_giveUp_8 (by decide) (fun hc => ?_) (fun hc => ?_)
  · have hM := (if_neg hc).symm.trans hM
    refine lv_aload_n hx hb dX7_giveUp_13 rfl (lv_at hl 0 rfl) ?_
    refine g_get X hW 0 rfl rfl inX7 4 (by decide) q_370 rfl dX7_giveUp_14 ?_
    refine lv_iload_n hx hb dX7_giveUp_17 rfl (lv_at hl 1 rfl) ?_
    obtain ⟨u18, hu18, hM⟩ := bind_some hM
    refine g_callVi (rest := []) (gr := [wBL bl (aTx 0) (aD 0) fc (aP 0) (aNw 0) (aS 0) (aU 0) (aK 0), wText cI aTx Tx, wPlan cI aD D, wFc fc (aP 0) (aNw 0) (aGs 0) (aTr 0) (aO 0), wPlan cI aP P, wPlan cI aGs Gs, wLine cI aTr Tr, wOrd cI aO O, wSeen cI cZ aS S, wShelf cI cL 8 aU laU U, wShelf cI cL 2 aK laK K]) X hl.1 hW (c_X1_canYield l G cI cZ cL N aNw Nw p1 u18 hu18) q_558 q_555 q_556 q_557 q_58 hd_X1_canYield rfl ⟨Nat.le_of_ble_eq_true rfl, Nat.le_of_ble_eq_true rfl⟩ ⟨Nat.zero_le _, Nat.zero_le _⟩ [5] [0, 1, 2, 3, 4, 6, 7, 8, 9, 10, 11] [wBL bl (aTx 0) (aD 0) fc (aP 0) (aNw 0) (aS 0) (aU 0) (aK 0), wText cI aTx Tx, wPlan cI aD D, wFc fc (aP 0) (aNw 0) (aGs 0) (aTr 0) (aO 0), wPlan cI aP P, wLine cI aNw Nw, wPlan cI aGs Gs, wLine cI aTr Tr, wOrd cI aO O, wSeen cI cZ aS S, wShelf cI cL 8 aU laU U, wShelf cI cL 2 aK laK K] ⟨pm_12_5, rfl, rfl, rfl⟩ ⟨pm_12_5, rfl, rfl, rfl⟩ (q0 := 13) rfl rfl rfl (Nat.le_of_ble_eq_true rfl) dX7_giveUp_18 (fun H locs hW => ?_)
    refine lv_if_ne (tgt := 27) hx hb dX7_giveUp_21 (by decide) (fun hc => ?_) (fun hc => ?_)
    · have hM := (if_neg hc).symm.trans hM
      refine lv_aload_n hx hb dX7_giveUp_27 rfl (lv_at hl 0 rfl) ?_
      refine g_get X hW 0 rfl rfl inX7 6 (by decide) q_372 rfl dX7_giveUp_28 ?_
      refine lv_aload_n hx hb dX7_giveUp_31 rfl (lv_at hl 0 rfl) ?_
      refine g_get X hW 0 rfl rfl inX7 4 (by decide) q_370 rfl dX7_giveUp_32 ?_
      obtain ⟨u35, hu35, hM⟩ := bind_some hM
      refine g_callVv (rest := []) (gr := [wBL bl (aTx 0) (aD 0) fc (aP 0) (aNw 0) (aS 0) (aU 0) (aK 0), wText cI aTx Tx, wPlan cI aD D, wFc fc (aP 0) (aNw 0) (aGs 0) (aTr 0) (aO 0), wPlan cI aP P, wPlan cI aGs Gs, wLine cI aTr Tr, wOrd cI aO O, wSeen cI cZ aS S, wShelf cI cL 2 aK laK K]) X hl.1 hW (c_X5_push l G cI cZ cL N aU laU 8 aNw U Nw u35 hu35) q_482 q_479 q_480 q_481 q_61 hd_X5_push rfl ⟨Nat.le_of_ble_eq_true rfl, Nat.le_of_ble_eq_true rfl⟩ ⟨Nat.zero_le _, Nat.zero_le _⟩ [10, 5] [0, 1, 2, 3, 4, 6, 7, 8, 9, 11] [wBL bl (aTx 0) (aD 0) fc (aP 0) (aNw 0) (aS 0) (aU 0) (aK 0), wText cI aTx Tx, wPlan cI aD D, wFc fc (aP 0) (aNw 0) (aGs 0) (aTr 0) (aO 0), wPlan cI aP P, wLine cI aNw Nw, wPlan cI aGs Gs, wLine cI aTr Tr, wOrd cI aO O, wSeen cI cZ aS S, wShelf cI cL 8 aU laU u35, wShelf cI cL 2 aK laK K] ⟨pm_12_10_5, rfl, rfl, rfl⟩ ⟨pm_12_10_5, rfl, rfl, rfl⟩ (q0 := 36) rfl rfl rfl (Nat.le_of_ble_eq_true rfl) dX7_giveUp_35 (fun H locs hW => ?_)
      refine lv_aload_n hx hb dX7_giveUp_38 rfl (lv_at hl 0 rfl) ?_
      refine g_get X hW 0 rfl rfl inX7 4 (by decide) q_370 rfl dX7_giveUp_39 ?_
      refine lv_iload_n hx hb dX7_giveUp_42 rfl (lv_at hl 1 rfl) ?_
      obtain ⟨u43, hu43, hM⟩ := bind_some hM
      refine g_callVv (rest := []) (gr := [wBL bl (aTx 0) (aD 0) fc (aP 0) (aNw 0) (aS 0) (aU 0) (aK 0), wText cI aTx Tx, wPlan cI aD D, wFc fc (aP 0) (aNw 0) (aGs 0) (aTr 0) (aO 0), wPlan cI aP P, wPlan cI aGs Gs, wLine cI aTr Tr, wOrd cI aO O, wSeen cI cZ aS S, wShelf cI cL 8 aU laU u35, wShelf cI cL 2 aK laK K]) X hl.1 hW (c_X1_yieldPlace l G cI cZ cL N aNw Nw p1 u43 hu43) q_562 q_559 q_560 q_561 q_58 hd_X1_yieldPlace rfl ⟨Nat.le_of_ble_eq_true rfl, Nat.le_of_ble_eq_true rfl⟩ ⟨Nat.zero_le _, Nat.zero_le _⟩ [5] [0, 1, 2, 3, 4, 6, 7, 8, 9, 10, 11] [wBL bl (aTx 0) (aD 0) fc (aP 0) (aNw 0) (aS 0) (aU 0) (aK 0), wText cI aTx Tx, wPlan cI aD D, wFc fc (aP 0) (aNw 0) (aGs 0) (aTr 0) (aO 0), wPlan cI aP P, wLine cI aNw (u43, Nw.2), wPlan cI aGs Gs, wLine cI aTr Tr, wOrd cI aO O, wSeen cI cZ aS S, wShelf cI cL 8 aU laU u35, wShelf cI cL 2 aK laK K] ⟨pm_12_5, rfl, rfl, rfl⟩ ⟨pm_12_5, rfl, rfl, rfl⟩ (q0 := 13) rfl rfl rfl (Nat.le_of_ble_eq_true rfl) dX7_giveUp_43 (fun H locs hW => ?_)
      refine lv_aload_n hx hb dX7_giveUp_46 rfl (lv_at hl 0 rfl) ?_
      refine g_get X hW 0 rfl rfl inX7 4 (by decide) q_370 rfl dX7_giveUp_47 ?_
      refine lv_iload_n hx hb dX7_giveUp_50 rfl (lv_at hl 1 rfl) ?_
      obtain ⟨u51, hu51, hM⟩ := bind_some hM
      refine g_callVi (rest := []) (gr := [wBL bl (aTx 0) (aD 0) fc (aP 0) (aNw 0) (aS 0) (aU 0) (aK 0), wText cI aTx Tx, wPlan cI aD D, wFc fc (aP 0) (aNw 0) (aGs 0) (aTr 0) (aO 0), wPlan cI aP P, wPlan cI aGs Gs, wLine cI aTr Tr, wOrd cI aO O, wSeen cI cZ aS S, wShelf cI cL 8 aU laU u35, wShelf cI cL 2 aK laK K]) X hl.1 hW (c_X1_placeOf l G cI cZ cL N aNw (u43, Nw.2) p1 u51 hu51) q_454 q_451 q_452 q_453 q_58 hd_X1_placeOf rfl ⟨Nat.le_of_ble_eq_true rfl, Nat.le_of_ble_eq_true rfl⟩ ⟨Nat.zero_le _, Nat.zero_le _⟩ [5] [0, 1, 2, 3, 4, 6, 7, 8, 9, 10, 11] [wBL bl (aTx 0) (aD 0) fc (aP 0) (aNw 0) (aS 0) (aU 0) (aK 0), wText cI aTx Tx, wPlan cI aD D, wFc fc (aP 0) (aNw 0) (aGs 0) (aTr 0) (aO 0), wPlan cI aP P, wLine cI aNw (u43, Nw.2), wPlan cI aGs Gs, wLine cI aTr Tr, wOrd cI aO O, wSeen cI cZ aS S, wShelf cI cL 8 aU laU u35, wShelf cI cL 2 aK laK K] ⟨pm_12_5, rfl, rfl, rfl⟩ ⟨pm_12_5, rfl, rfl, rfl⟩ (q0 := 13) rfl rfl rfl (Nat.le_of_ble_eq_true rfl) dX7_giveUp_51 (fun H locs hW => ?_)
      obtain rfl := Option.some.inj hM
      exact g_reti X hW rfl rfl dX7_giveUp_54
    · have hM := (if_pos hc).symm.trans hM
      refine lv_bipush (v := (-2 : Int32)) hx hb dX7_giveUp_24 (by decide) ?_
      obtain rfl := Option.some.inj hM
      exact g_reti X hW rfl rfl dX7_giveUp_26
  · have hM := (if_pos hc).symm.trans hM
    refine lv_iconst (v := (-1 : Int32)) hx hb dX7_giveUp_11 (by decide) ?_
    obtain rfl := Option.some.inj hM
    exact g_reti X hW rfl rfl dX7_giveUp_12

def MX7_sneeze (N : Nat) (P : PlanV) (Nw : LineV) (U : ShelfV) (p1 : Int32) : Option (Int32 × (Nat → Int32) × (Nat → Int32) × Int32 × Int32 × (Nat → LineV)) :=
  (MX3_has N P p1).bind (fun u5 => if u5 = 0 then some ((-1 : Int32), Nw.1, Nw.2.2.1, U.1, U.2.1, U.2.2) else ((MX1_whereIs N Nw p1).bind (fun u18 => if u18 = (1 : Int32) then ((MX5_push N U 8 Nw).bind (fun u36 => (MX1_goToHead N Nw p1).bind (fun u44 => some (Nw.2.2.2.2.2.1, u44.1, u44.2, u36.1, u36.2.1, u36.2.2)))) else some ((-2 : Int32), Nw.1, Nw.2.2.1, U.1, U.2.1, U.2.2))))
set_option maxHeartbeats 4000000 in
set_option maxRecDepth 100000 in
theorem c_X7_sneeze (l : Launch) (G : va_G) (cI cZ cL : ClassId) (N : Nat) (bl : Nat) (aTx : Nat → Nat) (aD : Nat → Nat) (fc : Nat) (aP : Nat → Nat) (aNw : Nat → Nat) (aGs : Nat → Nat) (aTr : Nat → Nat) (aO : Nat → Nat) (aS : Nat → Nat) (aU : Nat → Nat) (laU : Nat → Nat → Nat) (aK : Nat → Nat) (laK : Nat → Nat → Nat) (Tx : TextV) (D : PlanV) (P : PlanV) (Nw : LineV) (Gs : PlanV) (Tr : LineV) (O : OrdV) (S : SeenV) (U : ShelfV) (K : ShelfV) (p1 : Int32) (rr : Int32 × (Nat → Int32) × (Nat → Int32) × Int32 × Int32 × (Nat → LineV)) (hM : MX7_sneeze N P Nw U p1 = some rr) : CtI l yX7_sneeze cX7_sneeze 2 .int 3 60 G cI cZ cL [.ref bl, .int p1] [wBL bl (aTx 0) (aD 0) fc (aP 0) (aNw 0) (aS 0) (aU 0) (aK 0), wText cI aTx Tx, wPlan cI aD D, wFc fc (aP 0) (aNw 0) (aGs 0) (aTr 0) (aO 0), wPlan cI aP P, wLine cI aNw Nw, wPlan cI aGs Gs, wLine cI aTr Tr, wOrd cI aO O, wSeen cI cZ aS S, wShelf cI cL 8 aU laU U, wShelf cI cL 2 aK laK K] rr.1 [wBL bl (aTx 0) (aD 0) fc (aP 0) (aNw 0) (aS 0) (aU 0) (aK 0), wText cI aTx Tx, wPlan cI aD D, wFc fc (aP 0) (aNw 0) (aGs 0) (aTr 0) (aO 0), wPlan cI aP P, wLine cI aNw (rr.2.1, Nw.2.1, rr.2.2.1, Nw.2.2.2), wPlan cI aGs Gs, wLine cI aTr Tr, wOrd cI aO O, wSeen cI cZ aS S, wShelf cI cL 8 aU laU (rr.2.2.2.1, rr.2.2.2.2.1, rr.2.2.2.2.2), wShelf cI cL 2 aK laK K] := by
  refine ct_body (fun A => qI G rr.1 [wBL bl (aTx 0) (aD 0) fc (aP 0) (aNw 0) (aS 0) (aU 0) (aK 0), wText cI aTx Tx, wPlan cI aD D, wFc fc (aP 0) (aNw 0) (aGs 0) (aTr 0) (aO 0), wPlan cI aP P, wLine cI aNw (rr.2.1, Nw.2.1, rr.2.2.1, Nw.2.2.2), wPlan cI aGs Gs, wLine cI aTr Tr, wOrd cI aO O, wSeen cI cZ aS S, wShelf cI cL 8 aU laU (rr.2.2.2.1, rr.2.2.2.2.1, rr.2.2.2.2.2), wShelf cI cL 2 aK laK K] A) (by decide) (Nat.le_of_ble_eq_true rfl) (fun p e s m below meth c A ls X hW hl => ?_)
  have hx := X.1
  have hb := X.2.1
  have hts := X.2.2.2.2.2.1
  have hown := X.2.2.2.2.2.2.1
  have hl : lv_has ls 2 [(0, .ref bl), (1, .int p1)] := hl
  unfold MX7_sneeze at hM
  refine lv_aload_n hx hb dX7_sneeze_0 rfl (lv_at hl 0 rfl) ?_
  refine g_get X hW 0 rfl rfl inX7 3 (by decide) q_369 rfl dX7_sneeze_1 ?_
  refine lv_iload_n hx hb dX7_sneeze_4 rfl (lv_at hl 1 rfl) ?_
  obtain ⟨u5, hu5, hM⟩ := bind_some hM
  refine g_callVi (rest := []) (gr := [wBL bl (aTx 0) (aD 0) fc (aP 0) (aNw 0) (aS 0) (aU 0) (aK 0), wText cI aTx Tx, wPlan cI aD D, wFc fc (aP 0) (aNw 0) (aGs 0) (aTr 0) (aO 0), wLine cI aNw Nw, wPlan cI aGs Gs, wLine cI aTr Tr, wOrd cI aO O, wSeen cI cZ aS S, wShelf cI cL 8 aU laU U, wShelf cI cL 2 aK laK K]) X hl.1 hW (c_X3_has l G cI cZ cL N aP P p1 u5 hu5) q_434 q_431 q_432 q_433 q_56 hd_X3_has rfl ⟨Nat.le_of_ble_eq_true rfl, Nat.le_of_ble_eq_true rfl⟩ ⟨Nat.zero_le _, Nat.zero_le _⟩ [4] [0, 1, 2, 3, 5, 6, 7, 8, 9, 10, 11] [wBL bl (aTx 0) (aD 0) fc (aP 0) (aNw 0) (aS 0) (aU 0) (aK 0), wText cI aTx Tx, wPlan cI aD D, wFc fc (aP 0) (aNw 0) (aGs 0) (aTr 0) (aO 0), wPlan cI aP P, wLine cI aNw Nw, wPlan cI aGs Gs, wLine cI aTr Tr, wOrd cI aO O, wSeen cI cZ aS S, wShelf cI cL 8 aU laU U, wShelf cI cL 2 aK laK K] ⟨pm_12_4, rfl, rfl, rfl⟩ ⟨pm_12_4, rfl, rfl, rfl⟩ (q0 := 9) rfl rfl rfl (Nat.le_of_ble_eq_true rfl) dX7_sneeze_5 (fun H locs hW => ?_)
  refine lv_if_ne (tgt := 13) hx hb dX7_sneeze_8 (by decide) (fun hc => ?_) (fun hc => ?_)
  · have hM := (if_neg hc).symm.trans hM
    refine lv_aload_n hx hb dX7_sneeze_13 rfl (lv_at hl 0 rfl) ?_
    refine g_get X hW 0 rfl rfl inX7 4 (by decide) q_370 rfl dX7_sneeze_14 ?_
    refine lv_iload_n hx hb dX7_sneeze_17 rfl (lv_at hl 1 rfl) ?_
    obtain ⟨u18, hu18, hM⟩ := bind_some hM
    refine g_callVi (rest := []) (gr := [wBL bl (aTx 0) (aD 0) fc (aP 0) (aNw 0) (aS 0) (aU 0) (aK 0), wText cI aTx Tx, wPlan cI aD D, wFc fc (aP 0) (aNw 0) (aGs 0) (aTr 0) (aO 0), wPlan cI aP P, wPlan cI aGs Gs, wLine cI aTr Tr, wOrd cI aO O, wSeen cI cZ aS S, wShelf cI cL 8 aU laU U, wShelf cI cL 2 aK laK K]) X hl.1 hW (c_X1_whereIs l G cI cZ cL N aNw Nw p1 u18 hu18) q_450 q_447 q_448 q_449 q_58 hd_X1_whereIs rfl ⟨Nat.le_of_ble_eq_true rfl, Nat.le_of_ble_eq_true rfl⟩ ⟨Nat.zero_le _, Nat.zero_le _⟩ [5] [0, 1, 2, 3, 4, 6, 7, 8, 9, 10, 11] [wBL bl (aTx 0) (aD 0) fc (aP 0) (aNw 0) (aS 0) (aU 0) (aK 0), wText cI aTx Tx, wPlan cI aD D, wFc fc (aP 0) (aNw 0) (aGs 0) (aTr 0) (aO 0), wPlan cI aP P, wLine cI aNw Nw, wPlan cI aGs Gs, wLine cI aTr Tr, wOrd cI aO O, wSeen cI cZ aS S, wShelf cI cL 8 aU laU U, wShelf cI cL 2 aK laK K] ⟨pm_12_5, rfl, rfl, rfl⟩ ⟨pm_12_5, rfl, rfl, rfl⟩ (q0 := 13) rfl rfl rfl (Nat.le_of_ble_eq_true rfl) dX7_sneeze_18 (fun H locs hW => ?_)
    refine lv_iconst (v := (1 : Int32)) hx hb dX7_sneeze_21 (by decide) ?_
    refine lv_icmp_eq (tgt := 28) hx hb dX7_sneeze_22 (by decide) (fun hc => ?_) (fun hc => ?_)
    · have hM := (if_pos hc).symm.trans hM
      refine lv_aload_n hx hb dX7_sneeze_28 rfl (lv_at hl 0 rfl) ?_
      refine g_get X hW 0 rfl rfl inX7 6 (by decide) q_372 rfl dX7_sneeze_29 ?_
      refine lv_aload_n hx hb dX7_sneeze_32 rfl (lv_at hl 0 rfl) ?_
      refine g_get X hW 0 rfl rfl inX7 4 (by decide) q_370 rfl dX7_sneeze_33 ?_
      obtain ⟨u36, hu36, hM⟩ := bind_some hM
      refine g_callVv (rest := []) (gr := [wBL bl (aTx 0) (aD 0) fc (aP 0) (aNw 0) (aS 0) (aU 0) (aK 0), wText cI aTx Tx, wPlan cI aD D, wFc fc (aP 0) (aNw 0) (aGs 0) (aTr 0) (aO 0), wPlan cI aP P, wPlan cI aGs Gs, wLine cI aTr Tr, wOrd cI aO O, wSeen cI cZ aS S, wShelf cI cL 2 aK laK K]) X hl.1 hW (c_X5_push l G cI cZ cL N aU laU 8 aNw U Nw u36 hu36) q_482 q_479 q_480 q_481 q_61 hd_X5_push rfl ⟨Nat.le_of_ble_eq_true rfl, Nat.le_of_ble_eq_true rfl⟩ ⟨Nat.zero_le _, Nat.zero_le _⟩ [10, 5] [0, 1, 2, 3, 4, 6, 7, 8, 9, 11] [wBL bl (aTx 0) (aD 0) fc (aP 0) (aNw 0) (aS 0) (aU 0) (aK 0), wText cI aTx Tx, wPlan cI aD D, wFc fc (aP 0) (aNw 0) (aGs 0) (aTr 0) (aO 0), wPlan cI aP P, wLine cI aNw Nw, wPlan cI aGs Gs, wLine cI aTr Tr, wOrd cI aO O, wSeen cI cZ aS S, wShelf cI cL 8 aU laU u36, wShelf cI cL 2 aK laK K] ⟨pm_12_10_5, rfl, rfl, rfl⟩ ⟨pm_12_10_5, rfl, rfl, rfl⟩ (q0 := 36) rfl rfl rfl (Nat.le_of_ble_eq_true rfl) dX7_sneeze_36 (fun H locs hW => ?_)
      refine lv_aload_n hx hb dX7_sneeze_39 rfl (lv_at hl 0 rfl) ?_
      refine g_get X hW 0 rfl rfl inX7 4 (by decide) q_370 rfl dX7_sneeze_40 ?_
      refine lv_iload_n hx hb dX7_sneeze_43 rfl (lv_at hl 1 rfl) ?_
      obtain ⟨u44, hu44, hM⟩ := bind_some hM
      refine g_callVv (rest := []) (gr := [wBL bl (aTx 0) (aD 0) fc (aP 0) (aNw 0) (aS 0) (aU 0) (aK 0), wText cI aTx Tx, wPlan cI aD D, wFc fc (aP 0) (aNw 0) (aGs 0) (aTr 0) (aO 0), wPlan cI aP P, wPlan cI aGs Gs, wLine cI aTr Tr, wOrd cI aO O, wSeen cI cZ aS S, wShelf cI cL 8 aU laU u36, wShelf cI cL 2 aK laK K]) X hl.1 hW (c_X1_goToHead l G cI cZ cL N aNw Nw p1 u44 hu44) q_522 q_567 q_520 q_521 q_58 hd_X1_goToHead rfl ⟨Nat.le_of_ble_eq_true rfl, Nat.le_of_ble_eq_true rfl⟩ ⟨Nat.zero_le _, Nat.zero_le _⟩ [5] [0, 1, 2, 3, 4, 6, 7, 8, 9, 10, 11] [wBL bl (aTx 0) (aD 0) fc (aP 0) (aNw 0) (aS 0) (aU 0) (aK 0), wText cI aTx Tx, wPlan cI aD D, wFc fc (aP 0) (aNw 0) (aGs 0) (aTr 0) (aO 0), wPlan cI aP P, wLine cI aNw (u44.1, Nw.2.1, u44.2, Nw.2.2.2), wPlan cI aGs Gs, wLine cI aTr Tr, wOrd cI aO O, wSeen cI cZ aS S, wShelf cI cL 8 aU laU u36, wShelf cI cL 2 aK laK K] ⟨pm_12_5, rfl, rfl, rfl⟩ ⟨pm_12_5, rfl, rfl, rfl⟩ (q0 := 13) rfl rfl rfl (Nat.le_of_ble_eq_true rfl) dX7_sneeze_44 (fun H locs hW => ?_)
      refine lv_aload_n hx hb dX7_sneeze_47 rfl (lv_at hl 0 rfl) ?_
      refine g_get X hW 0 rfl rfl inX7 4 (by decide) q_370 rfl dX7_sneeze_48 ?_
      refine g_getN X hW 13 rfl rfl inX1 5 (by decide) nt_13 rfl dX7_sneeze_51 ?_
      obtain rfl := Option.some.inj hM
      exact g_reti X hW rfl rfl dX7_sneeze_54
    · have hM := (if_neg hc).symm.trans hM
      refine lv_bipush (v := (-2 : Int32)) hx hb dX7_sneeze_25 (by decide) ?_
      obtain rfl := Option.some.inj hM
      exact g_reti X hW rfl rfl dX7_sneeze_27
  · have hM := (if_pos hc).symm.trans hM
    refine lv_iconst (v := (-1 : Int32)) hx hb dX7_sneeze_11 (by decide) ?_
    obtain rfl := Option.some.inj hM
    exact g_reti X hW rfl rfl dX7_sneeze_12

def MX7_leave (N : Nat) (P : PlanV) (Nw : LineV) (U : ShelfV) (p1 : Int32) : Option (Int32 × (Nat → Int32) × (Nat → Int32) × Int32 × Int32 × Int32 × (Nat → LineV)) :=
  (MX3_has N P p1).bind (fun u5 => if u5 = 0 then some ((-1 : Int32), Nw.1, Nw.2.1, Nw.2.2.2.2.2.1, U.1, U.2.1, U.2.2) else ((MX1_whereIs N Nw p1).bind (fun u18 => if u18 = (1 : Int32) then ((MX5_push N U 8 Nw).bind (fun u36 => (MX1_goAway N Nw p1).bind (fun u44 => some (u44.2.2, u44.1, u44.2.1, u44.2.2, u36.1, u36.2.1, u36.2.2)))) else some ((-2 : Int32), Nw.1, Nw.2.1, Nw.2.2.2.2.2.1, U.1, U.2.1, U.2.2))))
set_option maxHeartbeats 4000000 in
set_option maxRecDepth 100000 in
theorem c_X7_leave (l : Launch) (G : va_G) (cI cZ cL : ClassId) (N : Nat) (bl : Nat) (aTx : Nat → Nat) (aD : Nat → Nat) (fc : Nat) (aP : Nat → Nat) (aNw : Nat → Nat) (aGs : Nat → Nat) (aTr : Nat → Nat) (aO : Nat → Nat) (aS : Nat → Nat) (aU : Nat → Nat) (laU : Nat → Nat → Nat) (aK : Nat → Nat) (laK : Nat → Nat → Nat) (Tx : TextV) (D : PlanV) (P : PlanV) (Nw : LineV) (Gs : PlanV) (Tr : LineV) (O : OrdV) (S : SeenV) (U : ShelfV) (K : ShelfV) (p1 : Int32) (rr : Int32 × (Nat → Int32) × (Nat → Int32) × Int32 × Int32 × Int32 × (Nat → LineV)) (hM : MX7_leave N P Nw U p1 = some rr) : CtI l yX7_leave cX7_leave 2 .int 3 60 G cI cZ cL [.ref bl, .int p1] [wBL bl (aTx 0) (aD 0) fc (aP 0) (aNw 0) (aS 0) (aU 0) (aK 0), wText cI aTx Tx, wPlan cI aD D, wFc fc (aP 0) (aNw 0) (aGs 0) (aTr 0) (aO 0), wPlan cI aP P, wLine cI aNw Nw, wPlan cI aGs Gs, wLine cI aTr Tr, wOrd cI aO O, wSeen cI cZ aS S, wShelf cI cL 8 aU laU U, wShelf cI cL 2 aK laK K] rr.1 [wBL bl (aTx 0) (aD 0) fc (aP 0) (aNw 0) (aS 0) (aU 0) (aK 0), wText cI aTx Tx, wPlan cI aD D, wFc fc (aP 0) (aNw 0) (aGs 0) (aTr 0) (aO 0), wPlan cI aP P, wLine cI aNw (rr.2.1, rr.2.2.1, Nw.2.2.1, Nw.2.2.2.1, Nw.2.2.2.2.1, rr.2.2.2.1, Nw.2.2.2.2.2.2), wPlan cI aGs Gs, wLine cI aTr Tr, wOrd cI aO O, wSeen cI cZ aS S, wShelf cI cL 8 aU laU (rr.2.2.2.2.1, rr.2.2.2.2.2.1, rr.2.2.2.2.2.2), wShelf cI cL 2 aK laK K] := by
  refine ct_body (fun A => qI G rr.1 [wBL bl (aTx 0) (aD 0) fc (aP 0) (aNw 0) (aS 0) (aU 0) (aK 0), wText cI aTx Tx, wPlan cI aD D, wFc fc (aP 0) (aNw 0) (aGs 0) (aTr 0) (aO 0), wPlan cI aP P, wLine cI aNw (rr.2.1, rr.2.2.1, Nw.2.2.1, Nw.2.2.2.1, Nw.2.2.2.2.1, rr.2.2.2.1, Nw.2.2.2.2.2.2), wPlan cI aGs Gs, wLine cI aTr Tr, wOrd cI aO O, wSeen cI cZ aS S, wShelf cI cL 8 aU laU (rr.2.2.2.2.1, rr.2.2.2.2.2.1, rr.2.2.2.2.2.2), wShelf cI cL 2 aK laK K] A) (by decide) (Nat.le_of_ble_eq_true rfl) (fun p e s m below meth c A ls X hW hl => ?_)
  have hx := X.1
  have hb := X.2.1
  have hts := X.2.2.2.2.2.1
  have hown := X.2.2.2.2.2.2.1
  have hl : lv_has ls 2 [(0, .ref bl), (1, .int p1)] := hl
  unfold MX7_leave at hM
  refine lv_aload_n hx hb dX7_leave_0 rfl (lv_at hl 0 rfl) ?_
  refine g_get X hW 0 rfl rfl inX7 3 (by decide) q_369 rfl dX7_leave_1 ?_
  refine lv_iload_n hx hb dX7_leave_4 rfl (lv_at hl 1 rfl) ?_
  obtain ⟨u5, hu5, hM⟩ := bind_some hM
  refine g_callVi (rest := []) (gr := [wBL bl (aTx 0) (aD 0) fc (aP 0) (aNw 0) (aS 0) (aU 0) (aK 0), wText cI aTx Tx, wPlan cI aD D, wFc fc (aP 0) (aNw 0) (aGs 0) (aTr 0) (aO 0), wLine cI aNw Nw, wPlan cI aGs Gs, wLine cI aTr Tr, wOrd cI aO O, wSeen cI cZ aS S, wShelf cI cL 8 aU laU U, wShelf cI cL 2 aK laK K]) X hl.1 hW (c_X3_has l G cI cZ cL N aP P p1 u5 hu5) q_434 q_431 q_432 q_433 q_56 hd_X3_has rfl ⟨Nat.le_of_ble_eq_true rfl, Nat.le_of_ble_eq_true rfl⟩ ⟨Nat.zero_le _, Nat.zero_le _⟩ [4] [0, 1, 2, 3, 5, 6, 7, 8, 9, 10, 11] [wBL bl (aTx 0) (aD 0) fc (aP 0) (aNw 0) (aS 0) (aU 0) (aK 0), wText cI aTx Tx, wPlan cI aD D, wFc fc (aP 0) (aNw 0) (aGs 0) (aTr 0) (aO 0), wPlan cI aP P, wLine cI aNw Nw, wPlan cI aGs Gs, wLine cI aTr Tr, wOrd cI aO O, wSeen cI cZ aS S, wShelf cI cL 8 aU laU U, wShelf cI cL 2 aK laK K] ⟨pm_12_4, rfl, rfl, rfl⟩ ⟨pm_12_4, rfl, rfl, rfl⟩ (q0 := 9) rfl rfl rfl (Nat.le_of_ble_eq_true rfl) dX7_leave_5 (fun H locs hW => ?_)
  refine lv_if_ne (tgt := 13) hx hb dX7_leave_8 (by decide) (fun hc => ?_) (fun hc => ?_)
  · have hM := (if_neg hc).symm.trans hM
    refine lv_aload_n hx hb dX7_leave_13 rfl (lv_at hl 0 rfl) ?_
    refine g_get X hW 0 rfl rfl inX7 4 (by decide) q_370 rfl dX7_leave_14 ?_
    refine lv_iload_n hx hb dX7_leave_17 rfl (lv_at hl 1 rfl) ?_
    obtain ⟨u18, hu18, hM⟩ := bind_some hM
    refine g_callVi (rest := []) (gr := [wBL bl (aTx 0) (aD 0) fc (aP 0) (aNw 0) (aS 0) (aU 0) (aK 0), wText cI aTx Tx, wPlan cI aD D, wFc fc (aP 0) (aNw 0) (aGs 0) (aTr 0) (aO 0), wPlan cI aP P, wPlan cI aGs Gs, wLine cI aTr Tr, wOrd cI aO O, wSeen cI cZ aS S, wShelf cI cL 8 aU laU U, wShelf cI cL 2 aK laK K]) X hl.1 hW (c_X1_whereIs l G cI cZ cL N aNw Nw p1 u18 hu18) q_450 q_447 q_448 q_449 q_58 hd_X1_whereIs rfl ⟨Nat.le_of_ble_eq_true rfl, Nat.le_of_ble_eq_true rfl⟩ ⟨Nat.zero_le _, Nat.zero_le _⟩ [5] [0, 1, 2, 3, 4, 6, 7, 8, 9, 10, 11] [wBL bl (aTx 0) (aD 0) fc (aP 0) (aNw 0) (aS 0) (aU 0) (aK 0), wText cI aTx Tx, wPlan cI aD D, wFc fc (aP 0) (aNw 0) (aGs 0) (aTr 0) (aO 0), wPlan cI aP P, wLine cI aNw Nw, wPlan cI aGs Gs, wLine cI aTr Tr, wOrd cI aO O, wSeen cI cZ aS S, wShelf cI cL 8 aU laU U, wShelf cI cL 2 aK laK K] ⟨pm_12_5, rfl, rfl, rfl⟩ ⟨pm_12_5, rfl, rfl, rfl⟩ (q0 := 13) rfl rfl rfl (Nat.le_of_ble_eq_true rfl) dX7_leave_18 (fun H locs hW => ?_)
    refine lv_iconst (v := (1 : Int32)) hx hb dX7_leave_21 (by decide) ?_
    refine lv_icmp_eq (tgt := 28) hx hb dX7_leave_22 (by decide) (fun hc => ?_) (fun hc => ?_)
    · have hM := (if_pos hc).symm.trans hM
      refine lv_aload_n hx hb dX7_leave_28 rfl (lv_at hl 0 rfl) ?_
      refine g_get X hW 0 rfl rfl inX7 6 (by decide) q_372 rfl dX7_leave_29 ?_
      refine lv_aload_n hx hb dX7_leave_32 rfl (lv_at hl 0 rfl) ?_
      refine g_get X hW 0 rfl rfl inX7 4 (by decide) q_370 rfl dX7_leave_33 ?_
      obtain ⟨u36, hu36, hM⟩ := bind_some hM
      refine g_callVv (rest := []) (gr := [wBL bl (aTx 0) (aD 0) fc (aP 0) (aNw 0) (aS 0) (aU 0) (aK 0), wText cI aTx Tx, wPlan cI aD D, wFc fc (aP 0) (aNw 0) (aGs 0) (aTr 0) (aO 0), wPlan cI aP P, wPlan cI aGs Gs, wLine cI aTr Tr, wOrd cI aO O, wSeen cI cZ aS S, wShelf cI cL 2 aK laK K]) X hl.1 hW (c_X5_push l G cI cZ cL N aU laU 8 aNw U Nw u36 hu36) q_482 q_479 q_480 q_481 q_61 hd_X5_push rfl ⟨Nat.le_of_ble_eq_true rfl, Nat.le_of_ble_eq_true rfl⟩ ⟨Nat.zero_le _, Nat.zero_le _⟩ [10, 5] [0, 1, 2, 3, 4, 6, 7, 8, 9, 11] [wBL bl (aTx 0) (aD 0) fc (aP 0) (aNw 0) (aS 0) (aU 0) (aK 0), wText cI aTx Tx, wPlan cI aD D, wFc fc (aP 0) (aNw 0) (aGs 0) (aTr 0) (aO 0), wPlan cI aP P, wLine cI aNw Nw, wPlan cI aGs Gs, wLine cI aTr Tr, wOrd cI aO O, wSeen cI cZ aS S, wShelf cI cL 8 aU laU u36, wShelf cI cL 2 aK laK K] ⟨pm_12_10_5, rfl, rfl, rfl⟩ ⟨pm_12_10_5, rfl, rfl, rfl⟩ (q0 := 36) rfl rfl rfl (Nat.le_of_ble_eq_true rfl) dX7_leave_36 (fun H locs hW => ?_)
      refine lv_aload_n hx hb dX7_leave_39 rfl (lv_at hl 0 rfl) ?_
      refine g_get X hW 0 rfl rfl inX7 4 (by decide) q_370 rfl dX7_leave_40 ?_
      refine lv_iload_n hx hb dX7_leave_43 rfl (lv_at hl 1 rfl) ?_
      obtain ⟨u44, hu44, hM⟩ := bind_some hM
      refine g_callVv (rest := []) (gr := [wBL bl (aTx 0) (aD 0) fc (aP 0) (aNw 0) (aS 0) (aU 0) (aK 0), wText cI aTx Tx, wPlan cI aD D, wFc fc (aP 0) (aNw 0) (aGs 0) (aTr 0) (aO 0), wPlan cI aP P, wPlan cI aGs Gs, wLine cI aTr Tr, wOrd cI aO O, wSeen cI cZ aS S, wShelf cI cL 8 aU laU u36, wShelf cI cL 2 aK laK K]) X hl.1 hW (c_X1_goAway l G cI cZ cL N aNw Nw p1 u44 hu44) q_575 q_572 q_573 q_574 q_58 hd_X1_goAway rfl ⟨Nat.le_of_ble_eq_true rfl, Nat.le_of_ble_eq_true rfl⟩ ⟨Nat.zero_le _, Nat.zero_le _⟩ [5] [0, 1, 2, 3, 4, 6, 7, 8, 9, 10, 11] [wBL bl (aTx 0) (aD 0) fc (aP 0) (aNw 0) (aS 0) (aU 0) (aK 0), wText cI aTx Tx, wPlan cI aD D, wFc fc (aP 0) (aNw 0) (aGs 0) (aTr 0) (aO 0), wPlan cI aP P, wLine cI aNw (u44.1, u44.2.1, Nw.2.2.1, Nw.2.2.2.1, Nw.2.2.2.2.1, u44.2.2, Nw.2.2.2.2.2.2), wPlan cI aGs Gs, wLine cI aTr Tr, wOrd cI aO O, wSeen cI cZ aS S, wShelf cI cL 8 aU laU u36, wShelf cI cL 2 aK laK K] ⟨pm_12_5, rfl, rfl, rfl⟩ ⟨pm_12_5, rfl, rfl, rfl⟩ (q0 := 13) rfl rfl rfl (Nat.le_of_ble_eq_true rfl) dX7_leave_44 (fun H locs hW => ?_)
      refine lv_aload_n hx hb dX7_leave_47 rfl (lv_at hl 0 rfl) ?_
      refine g_get X hW 0 rfl rfl inX7 4 (by decide) q_370 rfl dX7_leave_48 ?_
      refine g_getN X hW 13 rfl rfl inX1 5 (by decide) nt_13 rfl dX7_leave_51 ?_
      obtain rfl := Option.some.inj hM
      exact g_reti X hW rfl rfl dX7_leave_54
    · have hM := (if_neg hc).symm.trans hM
      refine lv_bipush (v := (-2 : Int32)) hx hb dX7_leave_25 (by decide) ?_
      obtain rfl := Option.some.inj hM
      exact g_reti X hW rfl rfl dX7_leave_27
  · have hM := (if_pos hc).symm.trans hM
    refine lv_iconst (v := (-1 : Int32)) hx hb dX7_leave_11 (by decide) ?_
    obtain rfl := Option.some.inj hM
    exact g_reti X hW rfl rfl dX7_leave_12

def MX7_again (N : Nat) (P : PlanV) (Nw : LineV) (U : ShelfV) (p1 : Int32) : Option (Int32 × (Nat → Int32) × (Nat → Int32) × (Nat → Int32) × Int32 × Int32 × Int32 × (Nat → LineV)) :=
  (MX3_has N P p1).bind (fun u5 => if u5 = 0 then some ((-1 : Int32), Nw.1, Nw.2.1, Nw.2.2.1, Nw.2.2.2.2.2.1, U.1, U.2.1, U.2.2) else ((MX1_whereIs N Nw p1).bind (fun u18 => if u18 = (2 : Int32) then ((MX5_push N U 8 Nw).bind (fun u36 => (MX1_join N Nw P p1).bind (fun u48 => (MX1_placeOf N (u48.1, u48.2.1, u48.2.2.1, Nw.2.2.2.1, Nw.2.2.2.2.1, u48.2.2.2, Nw.2.2.2.2.2.2) p1).bind (fun u56 => some (u56, u48.1, u48.2.1, u48.2.2.1, u48.2.2.2, u36.1, u36.2.1, u36.2.2))))) else some ((-2 : Int32), Nw.1, Nw.2.1, Nw.2.2.1, Nw.2.2.2.2.2.1, U.1, U.2.1, U.2.2))))
set_option maxHeartbeats 4000000 in
set_option maxRecDepth 100000 in
theorem c_X7_again (l : Launch) (G : va_G) (cI cZ cL : ClassId) (N : Nat) (bl : Nat) (aTx : Nat → Nat) (aD : Nat → Nat) (fc : Nat) (aP : Nat → Nat) (aNw : Nat → Nat) (aGs : Nat → Nat) (aTr : Nat → Nat) (aO : Nat → Nat) (aS : Nat → Nat) (aU : Nat → Nat) (laU : Nat → Nat → Nat) (aK : Nat → Nat) (laK : Nat → Nat → Nat) (Tx : TextV) (D : PlanV) (P : PlanV) (Nw : LineV) (Gs : PlanV) (Tr : LineV) (O : OrdV) (S : SeenV) (U : ShelfV) (K : ShelfV) (p1 : Int32) (rr : Int32 × (Nat → Int32) × (Nat → Int32) × (Nat → Int32) × Int32 × Int32 × Int32 × (Nat → LineV)) (hM : MX7_again N P Nw U p1 = some rr) : CtI l yX7_again cX7_again 2 .int 3 60 G cI cZ cL [.ref bl, .int p1] [wBL bl (aTx 0) (aD 0) fc (aP 0) (aNw 0) (aS 0) (aU 0) (aK 0), wText cI aTx Tx, wPlan cI aD D, wFc fc (aP 0) (aNw 0) (aGs 0) (aTr 0) (aO 0), wPlan cI aP P, wLine cI aNw Nw, wPlan cI aGs Gs, wLine cI aTr Tr, wOrd cI aO O, wSeen cI cZ aS S, wShelf cI cL 8 aU laU U, wShelf cI cL 2 aK laK K] rr.1 [wBL bl (aTx 0) (aD 0) fc (aP 0) (aNw 0) (aS 0) (aU 0) (aK 0), wText cI aTx Tx, wPlan cI aD D, wFc fc (aP 0) (aNw 0) (aGs 0) (aTr 0) (aO 0), wPlan cI aP P, wLine cI aNw (rr.2.1, rr.2.2.1, rr.2.2.2.1, Nw.2.2.2.1, Nw.2.2.2.2.1, rr.2.2.2.2.1, Nw.2.2.2.2.2.2), wPlan cI aGs Gs, wLine cI aTr Tr, wOrd cI aO O, wSeen cI cZ aS S, wShelf cI cL 8 aU laU (rr.2.2.2.2.2.1, rr.2.2.2.2.2.2.1, rr.2.2.2.2.2.2.2), wShelf cI cL 2 aK laK K] := by
  refine ct_body (fun A => qI G rr.1 [wBL bl (aTx 0) (aD 0) fc (aP 0) (aNw 0) (aS 0) (aU 0) (aK 0), wText cI aTx Tx, wPlan cI aD D, wFc fc (aP 0) (aNw 0) (aGs 0) (aTr 0) (aO 0), wPlan cI aP P, wLine cI aNw (rr.2.1, rr.2.2.1, rr.2.2.2.1, Nw.2.2.2.1, Nw.2.2.2.2.1, rr.2.2.2.2.1, Nw.2.2.2.2.2.2), wPlan cI aGs Gs, wLine cI aTr Tr, wOrd cI aO O, wSeen cI cZ aS S, wShelf cI cL 8 aU laU (rr.2.2.2.2.2.1, rr.2.2.2.2.2.2.1, rr.2.2.2.2.2.2.2), wShelf cI cL 2 aK laK K] A) (by decide) (Nat.le_of_ble_eq_true rfl) (fun p e s m below meth c A ls X hW hl => ?_)
  have hx := X.1
  have hb := X.2.1
  have hts := X.2.2.2.2.2.1
  have hown := X.2.2.2.2.2.2.1
  have hl : lv_has ls 2 [(0, .ref bl), (1, .int p1)] := hl
  unfold MX7_again at hM
  refine lv_aload_n hx hb dX7_again_0 rfl (lv_at hl 0 rfl) ?_
  refine g_get X hW 0 rfl rfl inX7 3 (by decide) q_369 rfl dX7_again_1 ?_
  refine lv_iload_n hx hb dX7_again_4 rfl (lv_at hl 1 rfl) ?_
  obtain ⟨u5, hu5, hM⟩ := bind_some hM
  refine g_callVi (rest := []) (gr := [wBL bl (aTx 0) (aD 0) fc (aP 0) (aNw 0) (aS 0) (aU 0) (aK 0), wText cI aTx Tx, wPlan cI aD D, wFc fc (aP 0) (aNw 0) (aGs 0) (aTr 0) (aO 0), wLine cI aNw Nw, wPlan cI aGs Gs, wLine cI aTr Tr, wOrd cI aO O, wSeen cI cZ aS S, wShelf cI cL 8 aU laU U, wShelf cI cL 2 aK laK K]) X hl.1 hW (c_X3_has l G cI cZ cL N aP P p1 u5 hu5) q_434 q_431 q_432 q_433 q_56 hd_X3_has rfl ⟨Nat.le_of_ble_eq_true rfl, Nat.le_of_ble_eq_true rfl⟩ ⟨Nat.zero_le _, Nat.zero_le _⟩ [4] [0, 1, 2, 3, 5, 6, 7, 8, 9, 10, 11] [wBL bl (aTx 0) (aD 0) fc (aP 0) (aNw 0) (aS 0) (aU 0) (aK 0), wText cI aTx Tx, wPlan cI aD D, wFc fc (aP 0) (aNw 0) (aGs 0) (aTr 0) (aO 0), wPlan cI aP P, wLine cI aNw Nw, wPlan cI aGs Gs, wLine cI aTr Tr, wOrd cI aO O, wSeen cI cZ aS S, wShelf cI cL 8 aU laU U, wShelf cI cL 2 aK laK K] ⟨pm_12_4, rfl, rfl, rfl⟩ ⟨pm_12_4, rfl, rfl, rfl⟩ (q0 := 9) rfl rfl rfl (Nat.le_of_ble_eq_true rfl) dX7_again_5 (fun H locs hW => ?_)
  refine lv_if_ne (tgt := 13) hx hb dX7_again_8 (by decide) (fun hc => ?_) (fun hc => ?_)
  · have hM := (if_neg hc).symm.trans hM
    refine lv_aload_n hx hb dX7_again_13 rfl (lv_at hl 0 rfl) ?_
    refine g_get X hW 0 rfl rfl inX7 4 (by decide) q_370 rfl dX7_again_14 ?_
    refine lv_iload_n hx hb dX7_again_17 rfl (lv_at hl 1 rfl) ?_
    obtain ⟨u18, hu18, hM⟩ := bind_some hM
    refine g_callVi (rest := []) (gr := [wBL bl (aTx 0) (aD 0) fc (aP 0) (aNw 0) (aS 0) (aU 0) (aK 0), wText cI aTx Tx, wPlan cI aD D, wFc fc (aP 0) (aNw 0) (aGs 0) (aTr 0) (aO 0), wPlan cI aP P, wPlan cI aGs Gs, wLine cI aTr Tr, wOrd cI aO O, wSeen cI cZ aS S, wShelf cI cL 8 aU laU U, wShelf cI cL 2 aK laK K]) X hl.1 hW (c_X1_whereIs l G cI cZ cL N aNw Nw p1 u18 hu18) q_450 q_447 q_448 q_449 q_58 hd_X1_whereIs rfl ⟨Nat.le_of_ble_eq_true rfl, Nat.le_of_ble_eq_true rfl⟩ ⟨Nat.zero_le _, Nat.zero_le _⟩ [5] [0, 1, 2, 3, 4, 6, 7, 8, 9, 10, 11] [wBL bl (aTx 0) (aD 0) fc (aP 0) (aNw 0) (aS 0) (aU 0) (aK 0), wText cI aTx Tx, wPlan cI aD D, wFc fc (aP 0) (aNw 0) (aGs 0) (aTr 0) (aO 0), wPlan cI aP P, wLine cI aNw Nw, wPlan cI aGs Gs, wLine cI aTr Tr, wOrd cI aO O, wSeen cI cZ aS S, wShelf cI cL 8 aU laU U, wShelf cI cL 2 aK laK K] ⟨pm_12_5, rfl, rfl, rfl⟩ ⟨pm_12_5, rfl, rfl, rfl⟩ (q0 := 13) rfl rfl rfl (Nat.le_of_ble_eq_true rfl) dX7_again_18 (fun H locs hW => ?_)
    refine lv_iconst (v := (2 : Int32)) hx hb dX7_again_21 (by decide) ?_
    refine lv_icmp_eq (tgt := 28) hx hb dX7_again_22 (by decide) (fun hc => ?_) (fun hc => ?_)
    · have hM := (if_pos hc).symm.trans hM
      refine lv_aload_n hx hb dX7_again_28 rfl (lv_at hl 0 rfl) ?_
      refine g_get X hW 0 rfl rfl inX7 6 (by decide) q_372 rfl dX7_again_29 ?_
      refine lv_aload_n hx hb dX7_again_32 rfl (lv_at hl 0 rfl) ?_
      refine g_get X hW 0 rfl rfl inX7 4 (by decide) q_370 rfl dX7_again_33 ?_
      obtain ⟨u36, hu36, hM⟩ := bind_some hM
      refine g_callVv (rest := []) (gr := [wBL bl (aTx 0) (aD 0) fc (aP 0) (aNw 0) (aS 0) (aU 0) (aK 0), wText cI aTx Tx, wPlan cI aD D, wFc fc (aP 0) (aNw 0) (aGs 0) (aTr 0) (aO 0), wPlan cI aP P, wPlan cI aGs Gs, wLine cI aTr Tr, wOrd cI aO O, wSeen cI cZ aS S, wShelf cI cL 2 aK laK K]) X hl.1 hW (c_X5_push l G cI cZ cL N aU laU 8 aNw U Nw u36 hu36) q_482 q_479 q_480 q_481 q_61 hd_X5_push rfl ⟨Nat.le_of_ble_eq_true rfl, Nat.le_of_ble_eq_true rfl⟩ ⟨Nat.zero_le _, Nat.zero_le _⟩ [10, 5] [0, 1, 2, 3, 4, 6, 7, 8, 9, 11] [wBL bl (aTx 0) (aD 0) fc (aP 0) (aNw 0) (aS 0) (aU 0) (aK 0), wText cI aTx Tx, wPlan cI aD D, wFc fc (aP 0) (aNw 0) (aGs 0) (aTr 0) (aO 0), wPlan cI aP P, wLine cI aNw Nw, wPlan cI aGs Gs, wLine cI aTr Tr, wOrd cI aO O, wSeen cI cZ aS S, wShelf cI cL 8 aU laU u36, wShelf cI cL 2 aK laK K] ⟨pm_12_10_5, rfl, rfl, rfl⟩ ⟨pm_12_10_5, rfl, rfl, rfl⟩ (q0 := 36) rfl rfl rfl (Nat.le_of_ble_eq_true rfl) dX7_again_36 (fun H locs hW => ?_)
      refine lv_aload_n hx hb dX7_again_39 rfl (lv_at hl 0 rfl) ?_
      refine g_get X hW 0 rfl rfl inX7 4 (by decide) q_370 rfl dX7_again_40 ?_
      refine lv_aload_n hx hb dX7_again_43 rfl (lv_at hl 0 rfl) ?_
      refine g_get X hW 0 rfl rfl inX7 3 (by decide) q_369 rfl dX7_again_44 ?_
      refine lv_iload_n hx hb dX7_again_47 rfl (lv_at hl 1 rfl) ?_
      obtain ⟨u48, hu48, hM⟩ := bind_some hM
      refine g_callVv (rest := []) (gr := [wBL bl (aTx 0) (aD 0) fc (aP 0) (aNw 0) (aS 0) (aU 0) (aK 0), wText cI aTx Tx, wPlan cI aD D, wFc fc (aP 0) (aNw 0) (aGs 0) (aTr 0) (aO 0), wPlan cI aGs Gs, wLine cI aTr Tr, wOrd cI aO O, wSeen cI cZ aS S, wShelf cI cL 8 aU laU u36, wShelf cI cL 2 aK laK K]) X hl.1 hW (c_X1_join l G cI cZ cL N aNw aP Nw P p1 u48 hu48) q_510 q_580 q_508 q_509 q_58 hd_X1_join rfl ⟨Nat.le_of_ble_eq_true rfl, Nat.le_of_ble_eq_true rfl⟩ ⟨Nat.zero_le _, Nat.zero_le _⟩ [5, 4] [0, 1, 2, 3, 6, 7, 8, 9, 10, 11] [wBL bl (aTx 0) (aD 0) fc (aP 0) (aNw 0) (aS 0) (aU 0) (aK 0), wText cI aTx Tx, wPlan cI aD D, wFc fc (aP 0) (aNw 0) (aGs 0) (aTr 0) (aO 0), wPlan cI aP P, wLine cI aNw (u48.1, u48.2.1, u48.2.2.1, Nw.2.2.2.1, Nw.2.2.2.2.1, u48.2.2.2, Nw.2.2.2.2.2.2), wPlan cI aGs Gs, wLine cI aTr Tr, wOrd cI aO O, wSeen cI cZ aS S, wShelf cI cL 8 aU laU u36, wShelf cI cL 2 aK laK K] ⟨pm_12_5_4, rfl, rfl, rfl⟩ ⟨pm_12_5_4, rfl, rfl, rfl⟩ (q0 := 13) rfl rfl rfl (Nat.le_of_ble_eq_true rfl) dX7_again_48 (fun H locs hW => ?_)
      refine lv_aload_n hx hb dX7_again_51 rfl (lv_at hl 0 rfl) ?_
      refine g_get X hW 0 rfl rfl inX7 4 (by decide) q_370 rfl dX7_again_52 ?_
      refine lv_iload_n hx hb dX7_again_55 rfl (lv_at hl 1 rfl) ?_
      obtain ⟨u56, hu56, hM⟩ := bind_some hM
      refine g_callVi (rest := []) (gr := [wBL bl (aTx 0) (aD 0) fc (aP 0) (aNw 0) (aS 0) (aU 0) (aK 0), wText cI aTx Tx, wPlan cI aD D, wFc fc (aP 0) (aNw 0) (aGs 0) (aTr 0) (aO 0), wPlan cI aP P, wPlan cI aGs Gs, wLine cI aTr Tr, wOrd cI aO O, wSeen cI cZ aS S, wShelf cI cL 8 aU laU u36, wShelf cI cL 2 aK laK K]) X hl.1 hW (c_X1_placeOf l G cI cZ cL N aNw (u48.1, u48.2.1, u48.2.2.1, Nw.2.2.2.1, Nw.2.2.2.2.1, u48.2.2.2, Nw.2.2.2.2.2.2) p1 u56 hu56) q_454 q_451 q_452 q_453 q_58 hd_X1_placeOf rfl ⟨Nat.le_of_ble_eq_true rfl, Nat.le_of_ble_eq_true rfl⟩ ⟨Nat.zero_le _, Nat.zero_le _⟩ [5] [0, 1, 2, 3, 4, 6, 7, 8, 9, 10, 11] [wBL bl (aTx 0) (aD 0) fc (aP 0) (aNw 0) (aS 0) (aU 0) (aK 0), wText cI aTx Tx, wPlan cI aD D, wFc fc (aP 0) (aNw 0) (aGs 0) (aTr 0) (aO 0), wPlan cI aP P, wLine cI aNw (u48.1, u48.2.1, u48.2.2.1, Nw.2.2.2.1, Nw.2.2.2.2.1, u48.2.2.2, Nw.2.2.2.2.2.2), wPlan cI aGs Gs, wLine cI aTr Tr, wOrd cI aO O, wSeen cI cZ aS S, wShelf cI cL 8 aU laU u36, wShelf cI cL 2 aK laK K] ⟨pm_12_5, rfl, rfl, rfl⟩ ⟨pm_12_5, rfl, rfl, rfl⟩ (q0 := 13) rfl rfl rfl (Nat.le_of_ble_eq_true rfl) dX7_again_56 (fun H locs hW => ?_)
      obtain rfl := Option.some.inj hM
      exact g_reti X hW rfl rfl dX7_again_59
    · have hM := (if_neg hc).symm.trans hM
      refine lv_bipush (v := (-2 : Int32)) hx hb dX7_again_25 (by decide) ?_
      obtain rfl := Option.some.inj hM
      exact g_reti X hW rfl rfl dX7_again_27
  · have hM := (if_pos hc).symm.trans hM
    refine lv_iconst (v := (-1 : Int32)) hx hb dX7_again_11 (by decide) ?_
    obtain rfl := Option.some.inj hM
    exact g_reti X hW rfl rfl dX7_again_12

def MX7_undo (N : Nat) (Nw : LineV) (U : ShelfV) : Option (Int32 × (Nat → Int32) × (Nat → Int32) × (Nat → Int32) × (Nat → Int32) × (Nat → Int32) × Int32 × Int32 × Int32 × Int32 × Int32 × Int32) :=
  (MX5_popInto N U 8 Nw).bind (fun u8 => if u8.1 = 0 then some ((-2 : Int32), u8.2.2.2.1, u8.2.2.2.2.1, u8.2.2.2.2.2.1, u8.2.2.2.2.2.2.1, u8.2.2.2.2.2.2.2.1, u8.2.2.2.2.2.2.2.2.1, u8.2.2.2.2.2.2.2.2.2.1, u8.2.2.2.2.2.2.2.2.2.2.1, u8.2.2.2.2.2.2.2.2.2.2.2, u8.2.1, u8.2.2.1) else some (u8.2.2.1, u8.2.2.2.1, u8.2.2.2.2.1, u8.2.2.2.2.2.1, u8.2.2.2.2.2.2.1, u8.2.2.2.2.2.2.2.1, u8.2.2.2.2.2.2.2.2.1, u8.2.2.2.2.2.2.2.2.2.1, u8.2.2.2.2.2.2.2.2.2.2.1, u8.2.2.2.2.2.2.2.2.2.2.2, u8.2.1, u8.2.2.1))
set_option maxHeartbeats 4000000 in
set_option maxRecDepth 100000 in
theorem c_X7_undo (l : Launch) (G : va_G) (cI cZ cL : ClassId) (N : Nat) (bl : Nat) (aTx : Nat → Nat) (aD : Nat → Nat) (fc : Nat) (aP : Nat → Nat) (aNw : Nat → Nat) (aGs : Nat → Nat) (aTr : Nat → Nat) (aO : Nat → Nat) (aS : Nat → Nat) (aU : Nat → Nat) (laU : Nat → Nat → Nat) (aK : Nat → Nat) (laK : Nat → Nat → Nat) (Tx : TextV) (D : PlanV) (P : PlanV) (Nw : LineV) (Gs : PlanV) (Tr : LineV) (O : OrdV) (S : SeenV) (U : ShelfV) (K : ShelfV) (rr : Int32 × (Nat → Int32) × (Nat → Int32) × (Nat → Int32) × (Nat → Int32) × (Nat → Int32) × Int32 × Int32 × Int32 × Int32 × Int32 × Int32) (hM : MX7_undo N Nw U = some rr) : CtI l yX7_undo cX7_undo 1 .int 3 61 G cI cZ cL [.ref bl] [wBL bl (aTx 0) (aD 0) fc (aP 0) (aNw 0) (aS 0) (aU 0) (aK 0), wText cI aTx Tx, wPlan cI aD D, wFc fc (aP 0) (aNw 0) (aGs 0) (aTr 0) (aO 0), wPlan cI aP P, wLine cI aNw Nw, wPlan cI aGs Gs, wLine cI aTr Tr, wOrd cI aO O, wSeen cI cZ aS S, wShelf cI cL 8 aU laU U, wShelf cI cL 2 aK laK K] rr.1 [wBL bl (aTx 0) (aD 0) fc (aP 0) (aNw 0) (aS 0) (aU 0) (aK 0), wText cI aTx Tx, wPlan cI aD D, wFc fc (aP 0) (aNw 0) (aGs 0) (aTr 0) (aO 0), wPlan cI aP P, wLine cI aNw (rr.2.1, rr.2.2.1, rr.2.2.2.1, rr.2.2.2.2.1, rr.2.2.2.2.2.1, rr.2.2.2.2.2.2.1, rr.2.2.2.2.2.2.2.1, rr.2.2.2.2.2.2.2.2.1, rr.2.2.2.2.2.2.2.2.2.1), wPlan cI aGs Gs, wLine cI aTr Tr, wOrd cI aO O, wSeen cI cZ aS S, wShelf cI cL 8 aU laU (rr.2.2.2.2.2.2.2.2.2.2.1, rr.2.2.2.2.2.2.2.2.2.2.2, U.2.2), wShelf cI cL 2 aK laK K] := by
  refine ct_body (fun A => qI G rr.1 [wBL bl (aTx 0) (aD 0) fc (aP 0) (aNw 0) (aS 0) (aU 0) (aK 0), wText cI aTx Tx, wPlan cI aD D, wFc fc (aP 0) (aNw 0) (aGs 0) (aTr 0) (aO 0), wPlan cI aP P, wLine cI aNw (rr.2.1, rr.2.2.1, rr.2.2.2.1, rr.2.2.2.2.1, rr.2.2.2.2.2.1, rr.2.2.2.2.2.2.1, rr.2.2.2.2.2.2.2.1, rr.2.2.2.2.2.2.2.2.1, rr.2.2.2.2.2.2.2.2.2.1), wPlan cI aGs Gs, wLine cI aTr Tr, wOrd cI aO O, wSeen cI cZ aS S, wShelf cI cL 8 aU laU (rr.2.2.2.2.2.2.2.2.2.2.1, rr.2.2.2.2.2.2.2.2.2.2.2, U.2.2), wShelf cI cL 2 aK laK K] A) (by decide) (Nat.le_of_ble_eq_true rfl) (fun p e s m below meth c A ls X hW hl => ?_)
  have hx := X.1
  have hb := X.2.1
  have hts := X.2.2.2.2.2.1
  have hown := X.2.2.2.2.2.2.1
  have hl : lv_has ls 1 [(0, .ref bl)] := hl
  unfold MX7_undo at hM
  refine lv_aload_n hx hb dX7_undo_0 rfl (lv_at hl 0 rfl) ?_
  refine g_get X hW 0 rfl rfl inX7 6 (by decide) q_372 rfl dX7_undo_1 ?_
  refine lv_aload_n hx hb dX7_undo_4 rfl (lv_at hl 0 rfl) ?_
  refine g_get X hW 0 rfl rfl inX7 4 (by decide) q_370 rfl dX7_undo_5 ?_
  obtain ⟨u8, hu8, hM⟩ := bind_some hM
  refine g_callVi (rest := []) (gr := [wBL bl (aTx 0) (aD 0) fc (aP 0) (aNw 0) (aS 0) (aU 0) (aK 0), wText cI aTx Tx, wPlan cI aD D, wFc fc (aP 0) (aNw 0) (aGs 0) (aTr 0) (aO 0), wPlan cI aP P, wPlan cI aGs Gs, wLine cI aTr Tr, wOrd cI aO O, wSeen cI cZ aS S, wShelf cI cL 2 aK laK K]) X hl.1 hW (c_X5_popInto l G cI cZ cL N aU laU 8 aNw U Nw u8 hu8) q_588 q_585 q_586 q_587 q_61 hd_X5_popInto rfl ⟨Nat.le_of_ble_eq_true rfl, Nat.le_of_ble_eq_true rfl⟩ ⟨Nat.zero_le _, Nat.zero_le _⟩ [10, 5] [0, 1, 2, 3, 4, 6, 7, 8, 9, 11] [wBL bl (aTx 0) (aD 0) fc (aP 0) (aNw 0) (aS 0) (aU 0) (aK 0), wText cI aTx Tx, wPlan cI aD D, wFc fc (aP 0) (aNw 0) (aGs 0) (aTr 0) (aO 0), wPlan cI aP P, wLine cI aNw (u8.2.2.2.1, u8.2.2.2.2.1, u8.2.2.2.2.2.1, u8.2.2.2.2.2.2.1, u8.2.2.2.2.2.2.2.1, u8.2.2.2.2.2.2.2.2.1, u8.2.2.2.2.2.2.2.2.2.1, u8.2.2.2.2.2.2.2.2.2.2.1, u8.2.2.2.2.2.2.2.2.2.2.2), wPlan cI aGs Gs, wLine cI aTr Tr, wOrd cI aO O, wSeen cI cZ aS S, wShelf cI cL 8 aU laU (u8.2.1, u8.2.2.1, U.2.2), wShelf cI cL 2 aK laK K] ⟨pm_12_10_5, rfl, rfl, rfl⟩ ⟨pm_12_10_5, rfl, rfl, rfl⟩ (q0 := 36) rfl rfl rfl (Nat.le_of_ble_eq_true rfl) dX7_undo_8 (fun H locs hW => ?_)
  refine lv_if_eq (tgt := 24) hx hb dX7_undo_11 (by decide) (fun hc => ?_) (fun hc => ?_)
  · have hM := (if_pos hc).symm.trans hM
    refine lv_bipush (v := (-2 : Int32)) hx hb dX7_undo_24 (by decide) ?_
    obtain rfl := Option.some.inj hM
    exact g_reti X hW rfl rfl dX7_undo_26
  · have hM := (if_neg hc).symm.trans hM
    refine lv_aload_n hx hb dX7_undo_14 rfl (lv_at hl 0 rfl) ?_
    refine g_get X hW 0 rfl rfl inX7 6 (by decide) q_372 rfl dX7_undo_15 ?_
    refine g_getN X hW 36 rfl rfl inX5 2 (by decide) nt_27 rfl dX7_undo_18 ?_
    refine lv_goto (tgt := 26) hx hb dX7_undo_21 (by decide) ?_
    obtain rfl := Option.some.inj hM
    exact g_reti X hW rfl rfl dX7_undo_26
