def MX6_put (N : Nat) (Tx : TextV) (p1 : Int32) : Option (Int32 × (Nat → Int32) × Int32) :=
  if Tx.2.2 < 0 then some ((0 : Int32), Tx.1, Tx.2.2) else (if Tx.2.2 < (200 : Int32) then MG Tx.2.2 200 (some ((1 : Int32), (upd Tx.1 Tx.2.2.toNatClampNeg p1), (Tx.2.2 + (1 : Int32)))) else some ((0 : Int32), Tx.1, Tx.2.2))
set_option maxHeartbeats 4000000 in
set_option maxRecDepth 100000 in
theorem c_X6_put (l : Launch) (G : va_G) (cI cZ cL : ClassId) (N : Nat) (aTx : Nat → Nat) (Tx : TextV) (p1 : Int32) (rr : Int32 × (Nat → Int32) × Int32) (hM : MX6_put N Tx p1 = some rr) : CtI l yX6_put cX6_put 2 .boolean 0 0 G cI cZ cL [.ref (aTx 0), .int p1] [wText cI aTx Tx] rr.1 [wText cI aTx (rr.2.1, Tx.2.1, rr.2.2)] := by
  refine ct_body (fun A => qI G rr.1 [wText cI aTx (rr.2.1, Tx.2.1, rr.2.2)] A) (by decide) (Nat.le_of_ble_eq_true rfl) (fun p e s m below meth c A ls X hW hl => ?_)
  have hx := X.1
  have hb := X.2.1
  have hts := X.2.2.2.2.2.1
  have hown := X.2.2.2.2.2.2.1
  have hl : lv_has ls 2 [(0, .ref (aTx 0)), (1, .int p1)] := hl
  unfold MX6_put at hM
  refine lv_aload_n hx hb dX6_put_0 rfl (lv_at hl 0 rfl) ?_
  refine g_get X hW 0 rfl rfl inX6 2 (by decide) q_86 rfl dX6_put_1 ?_
  refine lv_if_lt (tgt := 19) hx hb dX6_put_4 (by decide) (fun hc => ?_) (fun hc => ?_)
  · have hM := (if_pos hc).symm.trans hM
    refine lv_iconst (v := (0 : Int32)) hx hb dX6_put_19 (by decide) ?_
    obtain rfl := Option.some.inj hM
    exact g_reti X hW rfl rfl dX6_put_20
  · have hM := (if_neg hc).symm.trans hM
    refine lv_aload_n hx hb dX6_put_7 rfl (lv_at hl 0 rfl) ?_
    refine g_get X hW 0 rfl rfl inX6 2 (by decide) q_86 rfl dX6_put_8 ?_
    refine lv_aload_n hx hb dX6_put_11 rfl (lv_at hl 0 rfl) ?_
    refine g_get X hW 0 rfl rfl inX6 0 (by decide) q_84 rfl dX6_put_12 ?_
    refine g_alen X hW 1 rfl (v := (200 : Int32)) (by decide) dX6_put_15 ?_
    refine lv_icmp_lt (tgt := 21) hx hb dX6_put_16 (by decide) (fun hc => ?_) (fun hc => ?_)
    · have hM := (if_pos hc).symm.trans hM
      refine lv_aload_n hx hb dX6_put_21 rfl (lv_at hl 0 rfl) ?_
      refine g_get X hW 0 rfl rfl inX6 0 (by decide) q_84 rfl dX6_put_22 ?_
      refine lv_aload_n hx hb dX6_put_25 rfl (lv_at hl 0 rfl) ?_
      refine g_get X hW 0 rfl rfl inX6 2 (by decide) q_86 rfl dX6_put_26 ?_
      refine lv_iload_n hx hb dX6_put_29 rfl (lv_at hl 1 rfl) ?_
      obtain ⟨hi30, hM⟩ := MG_some hM
      refine g_ast X hW 1 rfl hi30 [wText cI aTx ((upd Tx.1 Tx.2.2.toNatClampNeg p1), Tx.2)] rfl dX6_put_30 (fun H locs hW => ?_)
      refine lv_aload_n hx hb dX6_put_31 rfl (lv_at hl 0 rfl) ?_
      refine lv_dup hx hb dX6_put_32 rfl ?_
      refine g_get X hW 0 rfl rfl inX6 2 (by decide) q_86 rfl dX6_put_33 ?_
      refine lv_iconst (v := (1 : Int32)) hx hb dX6_put_36 (by decide) ?_
      refine lv_iadd hx hb dX6_put_37 ?_
      refine g_put X hW 0 rfl rfl inX6 tyX6 tyX6_ok nmX6 2 (by decide) q_86 rfl rfl (Nat.le_of_ble_eq_true rfl) [wText cI aTx ((upd Tx.1 Tx.2.2.toNatClampNeg p1), Tx.2.1, (Tx.2.2 + (1 : Int32)))] rfl dX6_put_38 (fun H locs hW => ?_)
      refine lv_iconst (v := (1 : Int32)) hx hb dX6_put_41 (by decide) ?_
      obtain rfl := Option.some.inj hM
      exact g_reti X hW rfl rfl dX6_put_42
    · have hM := (if_neg hc).symm.trans hM
      refine lv_iconst (v := (0 : Int32)) hx hb dX6_put_19 (by decide) ?_
      obtain rfl := Option.some.inj hM
      exact g_reti X hW rfl rfl dX6_put_20

def MX6_empty (N : Nat) : Option (Int32) :=
  some ((0 : Int32))
set_option maxHeartbeats 4000000 in
set_option maxRecDepth 100000 in
theorem c_X6_empty (l : Launch) (G : va_G) (cI cZ cL : ClassId) (N : Nat) (aTx : Nat → Nat) (Tx : TextV) (rr : Int32) (hM : MX6_empty N = some rr) : CtV l yX6_empty cX6_empty 1 0 0 G cI cZ cL [.ref (aTx 0)] [wText cI aTx Tx] [wText cI aTx (Tx.1, Tx.2.1, rr)] := by
  refine ct_body (fun A => qV G [wText cI aTx (Tx.1, Tx.2.1, rr)] A) (by decide) (Nat.le_of_ble_eq_true rfl) (fun p e s m below meth c A ls X hW hl => ?_)
  have hx := X.1
  have hb := X.2.1
  have hts := X.2.2.2.2.2.1
  have hown := X.2.2.2.2.2.2.1
  have hl : lv_has ls 1 [(0, .ref (aTx 0))] := hl
  unfold MX6_empty at hM
  refine lv_aload_n hx hb dX6_empty_0 rfl (lv_at hl 0 rfl) ?_
  refine lv_iconst (v := (0 : Int32)) hx hb dX6_empty_1 (by decide) ?_
  refine g_put X hW 0 rfl rfl inX6 tyX6 tyX6_ok nmX6 2 (by decide) q_86 rfl rfl (Nat.le_of_ble_eq_true rfl) [wText cI aTx (Tx.1, Tx.2.1, (0 : Int32))] rfl dX6_empty_2 (fun H locs hW => ?_)
  obtain rfl := Option.some.inj hM
  exact g_retv X hW dX6_empty_5

def MX6_isFigure_j16 : Option (Int32) :=
  some ((0 : Int32))
def MX6_isFigure (N : Nat) (p1 : Int32) : Option (Int32) :=
  if p1 < (48 : Int32) then (MX6_isFigure_j16) else (if (57 : Int32) < p1 then (MX6_isFigure_j16) else some ((1 : Int32)))
set_option maxHeartbeats 4000000 in
set_option maxRecDepth 100000 in
theorem c_X6_isFigure (l : Launch) (G : va_G) (cI cZ cL : ClassId) (N : Nat) (p1 : Int32) (rr : Int32) (hM : MX6_isFigure N p1 = some rr) : CtI l yX6_isFigure cX6_isFigure 1 .boolean 0 0 G cI cZ cL [.int p1] [] rr [] := by
  refine ct_body (fun A => qI G rr [] A) (by decide) (Nat.le_of_ble_eq_true rfl) (fun p e s m below meth c A ls X hW hl => ?_)
  have hx := X.1
  have hb := X.2.1
  have hts := X.2.2.2.2.2.1
  have hown := X.2.2.2.2.2.2.1
  have hl : lv_has ls 1 [(0, .int p1)] := hl
  unfold MX6_isFigure at hM
  refine lv_iload_n hx hb dX6_isFigure_0 rfl (lv_at hl 0 rfl) ?_
  refine lv_bipush (v := (48 : Int32)) hx hb dX6_isFigure_1 (by decide) ?_
  have j16 : ∀ (H : Heap) (locs : List Loc) (ls : Array Slot), Wd G A s [] H locs → lv_has ls 1 [] → MX6_isFigure_j16 = some rr → W p l e (rmO 0 0) s m ([.int p1] : List Value).toArray below meth c H locs 0 0 (MQ below (qI G rr [] A) ([.int p1] : List Value).toArray s 0 0 A) (F0 m 16 ls []) := by
    intro H locs ls hW hl hM
    unfold MX6_isFigure_j16 at hM
    refine lv_iconst (v := (0 : Int32)) hx hb dX6_isFigure_16 (by decide) ?_
    obtain rfl := Option.some.inj hM
    exact g_reti X hW rfl rfl dX6_isFigure_17
  refine lv_icmp_lt (tgt := 16) hx hb dX6_isFigure_3 (by decide) (fun hc => ?_) (fun hc => ?_)
  · have hM := (if_pos hc).symm.trans hM
    exact j16 _ _ _ hW (lv_sub hl [] rfl) hM
  · have hM := (if_neg hc).symm.trans hM
    refine lv_iload_n hx hb dX6_isFigure_6 rfl (lv_at hl 0 rfl) ?_
    refine lv_bipush (v := (57 : Int32)) hx hb dX6_isFigure_7 (by decide) ?_
    refine lv_icmp_gt (tgt := 16) hx hb dX6_isFigure_9 (by decide) (fun hc => ?_) (fun hc => ?_)
    · have hM := (if_pos hc).symm.trans hM
      exact j16 _ _ _ hW (lv_sub hl [] rfl) hM
    · have hM := (if_neg hc).symm.trans hM
      refine lv_iconst (v := (1 : Int32)) hx hb dX6_isFigure_12 (by decide) ?_
      refine lv_goto (tgt := 17) hx hb dX6_isFigure_13 (by decide) ?_
      obtain rfl := Option.some.inj hM
      exact g_reti X hW rfl rfl dX6_isFigure_17

def MX6_letterAt_j30 : Option (Int32) :=
  some ((-1 : Int32))
def MX6_letterAt (N : Nat) (Tx : TextV) (p1 : Int32) : Option (Int32) :=
  if p1 < 0 then (MX6_letterAt_j30) else (if Tx.2.2 ≤ p1 then (MX6_letterAt_j30) else (if (200 : Int32) ≤ p1 then (MX6_letterAt_j30) else MG p1 200 (some (Tx.1 p1.toNatClampNeg))))
set_option maxHeartbeats 4000000 in
set_option maxRecDepth 100000 in
theorem c_X6_letterAt (l : Launch) (G : va_G) (cI cZ cL : ClassId) (N : Nat) (aTx : Nat → Nat) (Tx : TextV) (p1 : Int32) (rr : Int32) (hM : MX6_letterAt N Tx p1 = some rr) : CtI l yX6_letterAt cX6_letterAt 2 .int 0 0 G cI cZ cL [.ref (aTx 0), .int p1] [wText cI aTx Tx] rr [wText cI aTx Tx] := by
  refine ct_body (fun A => qI G rr [wText cI aTx Tx] A) (by decide) (Nat.le_of_ble_eq_true rfl) (fun p e s m below meth c A ls X hW hl => ?_)
  have hx := X.1
  have hb := X.2.1
  have hts := X.2.2.2.2.2.1
  have hown := X.2.2.2.2.2.2.1
  have hl : lv_has ls 2 [(0, .ref (aTx 0)), (1, .int p1)] := hl
  unfold MX6_letterAt at hM
  refine lv_iload_n hx hb dX6_letterAt_0 rfl (lv_at hl 1 rfl) ?_
  have j30 : ∀ (H : Heap) (locs : List Loc) (ls : Array Slot), Wd G A s [wText cI aTx Tx] H locs → lv_has ls 2 [] → MX6_letterAt_j30 = some rr → W p l e (rmO 0 0) s m ([.ref (aTx 0), .int p1] : List Value).toArray below meth c H locs 0 0 (MQ below (qI G rr [wText cI aTx Tx] A) ([.ref (aTx 0), .int p1] : List Value).toArray s 0 0 A) (F0 m 30 ls []) := by
    intro H locs ls hW hl hM
    unfold MX6_letterAt_j30 at hM
    refine lv_iconst (v := (-1 : Int32)) hx hb dX6_letterAt_30 (by decide) ?_
    obtain rfl := Option.some.inj hM
    exact g_reti X hW rfl rfl dX6_letterAt_31
  refine lv_if_lt (tgt := 30) hx hb dX6_letterAt_1 (by decide) (fun hc => ?_) (fun hc => ?_)
  · have hM := (if_pos hc).symm.trans hM
    exact j30 _ _ _ hW (lv_sub hl [] rfl) hM
  · have hM := (if_neg hc).symm.trans hM
    refine lv_iload_n hx hb dX6_letterAt_4 rfl (lv_at hl 1 rfl) ?_
    refine lv_aload_n hx hb dX6_letterAt_5 rfl (lv_at hl 0 rfl) ?_
    refine g_get X hW 0 rfl rfl inX6 2 (by decide) q_86 rfl dX6_letterAt_6 ?_
    refine lv_icmp_ge (tgt := 30) hx hb dX6_letterAt_9 (by decide) (fun hc => ?_) (fun hc => ?_)
    · have hM := (if_pos hc).symm.trans hM
      exact j30 _ _ _ hW (lv_sub hl [] rfl) hM
    · have hM := (if_neg hc).symm.trans hM
      refine lv_iload_n hx hb dX6_letterAt_12 rfl (lv_at hl 1 rfl) ?_
      refine lv_aload_n hx hb dX6_letterAt_13 rfl (lv_at hl 0 rfl) ?_
      refine g_get X hW 0 rfl rfl inX6 0 (by decide) q_84 rfl dX6_letterAt_14 ?_
      refine g_alen X hW 1 rfl (v := (200 : Int32)) (by decide) dX6_letterAt_17 ?_
      refine lv_icmp_ge (tgt := 30) hx hb dX6_letterAt_18 (by decide) (fun hc => ?_) (fun hc => ?_)
      · have hM := (if_pos hc).symm.trans hM
        exact j30 _ _ _ hW (lv_sub hl [] rfl) hM
      · have hM := (if_neg hc).symm.trans hM
        refine lv_aload_n hx hb dX6_letterAt_21 rfl (lv_at hl 0 rfl) ?_
        refine g_get X hW 0 rfl rfl inX6 0 (by decide) q_84 rfl dX6_letterAt_22 ?_
        refine lv_iload_n hx hb dX6_letterAt_25 rfl (lv_at hl 1 rfl) ?_
        obtain ⟨hi26, hM⟩ := MG_some hM
        refine g_ald X hW 1 rfl hi26 dX6_letterAt_26 ?_
        refine lv_goto (tgt := 31) hx hb dX6_letterAt_27 (by decide) ?_
        obtain rfl := Option.some.inj hM
        exact g_reti X hW rfl rfl dX6_letterAt_31

def MX6_figuresFrom (N : Nat) (Tx : TextV) (p1 : Int32) : Option (Int32) :=
  (MX6_letterAt N Tx p1).bind (fun u2 => (MX6_isFigure N u2).bind (fun u5 => if u5 = 0 then some ((0 : Int32)) else ((MX6_letterAt N Tx (p1 + (1 : Int32))).bind (fun u17 => (MX6_isFigure N u17).bind (fun u20 => if u20 = 0 then some ((1 : Int32)) else some ((2 : Int32)))))))
set_option maxHeartbeats 4000000 in
set_option maxRecDepth 100000 in
theorem c_X6_figuresFrom (l : Launch) (G : va_G) (cI cZ cL : ClassId) (N : Nat) (aTx : Nat → Nat) (Tx : TextV) (p1 : Int32) (rr : Int32) (hM : MX6_figuresFrom N Tx p1 = some rr) : CtI l yX6_figuresFrom cX6_figuresFrom 2 .int 1 21 G cI cZ cL [.ref (aTx 0), .int p1] [wText cI aTx Tx] rr [wText cI aTx Tx] := by
  refine ct_body (fun A => qI G rr [wText cI aTx Tx] A) (by decide) (Nat.le_of_ble_eq_true rfl) (fun p e s m below meth c A ls X hW hl => ?_)
  have hx := X.1
  have hb := X.2.1
  have hts := X.2.2.2.2.2.1
  have hown := X.2.2.2.2.2.2.1
  have hl : lv_has ls 2 [(0, .ref (aTx 0)), (1, .int p1)] := hl
  unfold MX6_figuresFrom at hM
  refine lv_aload_n hx hb dX6_figuresFrom_0 rfl (lv_at hl 0 rfl) ?_
  refine lv_iload_n hx hb dX6_figuresFrom_1 rfl (lv_at hl 1 rfl) ?_
  obtain ⟨u2, hu2, hM⟩ := bind_some hM
  refine g_callVi (rest := []) (gr := []) X hl.1 hW (c_X6_letterAt l G cI cZ cL N aTx Tx p1 u2 hu2) q_327 q_324 q_326 q_1 q_55 hd_X6_letterAt rfl ⟨Nat.le_of_ble_eq_true rfl, Nat.le_of_ble_eq_true rfl⟩ ⟨Nat.zero_le _, Nat.zero_le _⟩ [0] [] [wText cI aTx Tx] ⟨pm_1_0, rfl, rfl, rfl⟩ ⟨pm_1_0, rfl, rfl, rfl⟩ (q0 := 0) rfl rfl rfl (Nat.le_of_ble_eq_true rfl) dX6_figuresFrom_2 (fun H locs hW => ?_)
  obtain ⟨u5, hu5, hM⟩ := bind_some hM
  refine g_callSi (rest := []) X hl.1 hW (c_X6_isFigure l G cI cZ cL N u2 u5 hu5) q_337 q_335 q_336 q_55 hd_X6_isFigure rfl ⟨Nat.le_of_ble_eq_true rfl, Nat.le_of_ble_eq_true rfl⟩ ⟨Nat.zero_le _, Nat.zero_le _⟩ rfl (Nat.le_of_ble_eq_true rfl) dX6_figuresFrom_5 (fun H locs hW => ?_)
  refine lv_if_ne (tgt := 13) hx hb dX6_figuresFrom_8 (by decide) (fun hc => ?_) (fun hc => ?_)
  · have hM := (if_neg hc).symm.trans hM
    refine lv_aload_n hx hb dX6_figuresFrom_13 rfl (lv_at hl 0 rfl) ?_
    refine lv_iload_n hx hb dX6_figuresFrom_14 rfl (lv_at hl 1 rfl) ?_
    refine lv_iconst (v := (1 : Int32)) hx hb dX6_figuresFrom_15 (by decide) ?_
    refine lv_iadd hx hb dX6_figuresFrom_16 ?_
    obtain ⟨u17, hu17, hM⟩ := bind_some hM
    refine g_callVi (rest := []) (gr := []) X hl.1 hW (c_X6_letterAt l G cI cZ cL N aTx Tx (p1 + (1 : Int32)) u17 hu17) q_327 q_324 q_326 q_1 q_55 hd_X6_letterAt rfl ⟨Nat.le_of_ble_eq_true rfl, Nat.le_of_ble_eq_true rfl⟩ ⟨Nat.zero_le _, Nat.zero_le _⟩ [0] [] [wText cI aTx Tx] ⟨pm_1_0, rfl, rfl, rfl⟩ ⟨pm_1_0, rfl, rfl, rfl⟩ (q0 := 0) rfl rfl rfl (Nat.le_of_ble_eq_true rfl) dX6_figuresFrom_17 (fun H locs hW => ?_)
    obtain ⟨u20, hu20, hM⟩ := bind_some hM
    refine g_callSi (rest := []) X hl.1 hW (c_X6_isFigure l G cI cZ cL N u17 u20 hu20) q_337 q_335 q_336 q_55 hd_X6_isFigure rfl ⟨Nat.le_of_ble_eq_true rfl, Nat.le_of_ble_eq_true rfl⟩ ⟨Nat.zero_le _, Nat.zero_le _⟩ rfl (Nat.le_of_ble_eq_true rfl) dX6_figuresFrom_20 (fun H locs hW => ?_)
    refine lv_if_eq (tgt := 30) hx hb dX6_figuresFrom_23 (by decide) (fun hc => ?_) (fun hc => ?_)
    · have hM := (if_pos hc).symm.trans hM
      refine lv_iconst (v := (1 : Int32)) hx hb dX6_figuresFrom_30 (by decide) ?_
      obtain rfl := Option.some.inj hM
      exact g_reti X hW rfl rfl dX6_figuresFrom_31
    · have hM := (if_neg hc).symm.trans hM
      refine lv_iconst (v := (2 : Int32)) hx hb dX6_figuresFrom_26 (by decide) ?_
      refine lv_goto (tgt := 31) hx hb dX6_figuresFrom_27 (by decide) ?_
      obtain rfl := Option.some.inj hM
      exact g_reti X hW rfl rfl dX6_figuresFrom_31
  · have hM := (if_pos hc).symm.trans hM
    refine lv_iconst (v := (0 : Int32)) hx hb dX6_figuresFrom_11 (by decide) ?_
    obtain rfl := Option.some.inj hM
    exact g_reti X hW rfl rfl dX6_figuresFrom_12

def MX6_valueOf (N : Nat) (Tx : TextV) (p1 : Int32) (p2 : Int32) : Option (Int32) :=
  (MX6_letterAt N Tx p1).bind (fun u2 => MLet (u2 - (48 : Int32)) (fun z8 => if p2 = (2 : Int32) then ((MX6_letterAt N Tx (p1 + (1 : Int32))).bind (fun u22 => some (((z8 * (10 : Int32)) + u22) - (48 : Int32)))) else some (z8)))
set_option maxHeartbeats 4000000 in
set_option maxRecDepth 100000 in
theorem c_X6_valueOf (l : Launch) (G : va_G) (cI cZ cL : ClassId) (N : Nat) (aTx : Nat → Nat) (Tx : TextV) (p1 : Int32) (p2 : Int32) (rr : Int32) (hM : MX6_valueOf N Tx p1 p2 = some rr) : CtI l yX6_valueOf cX6_valueOf 4 .int 1 21 G cI cZ cL [.ref (aTx 0), .int p1, .int p2] [wText cI aTx Tx] rr [wText cI aTx Tx] := by
  refine ct_body (fun A => qI G rr [wText cI aTx Tx] A) (by decide) (Nat.le_of_ble_eq_true rfl) (fun p e s m below meth c A ls X hW hl => ?_)
  have hx := X.1
  have hb := X.2.1
  have hts := X.2.2.2.2.2.1
  have hown := X.2.2.2.2.2.2.1
  have hl : lv_has ls 4 [(0, .ref (aTx 0)), (1, .int p1), (2, .int p2)] := hl
  unfold MX6_valueOf at hM
  refine lv_aload_n hx hb dX6_valueOf_0 rfl (lv_at hl 0 rfl) ?_
  refine lv_iload_n hx hb dX6_valueOf_1 rfl (lv_at hl 1 rfl) ?_
  obtain ⟨u2, hu2, hM⟩ := bind_some hM
  refine g_callVi (rest := []) (gr := []) X hl.1 hW (c_X6_letterAt l G cI cZ cL N aTx Tx p1 u2 hu2) q_327 q_324 q_326 q_1 q_55 hd_X6_letterAt rfl ⟨Nat.le_of_ble_eq_true rfl, Nat.le_of_ble_eq_true rfl⟩ ⟨Nat.zero_le _, Nat.zero_le _⟩ [0] [] [wText cI aTx Tx] ⟨pm_1_0, rfl, rfl, rfl⟩ ⟨pm_1_0, rfl, rfl, rfl⟩ (q0 := 0) rfl rfl rfl (Nat.le_of_ble_eq_true rfl) dX6_valueOf_2 (fun H locs hW => ?_)
  refine lv_bipush (v := (48 : Int32)) hx hb dX6_valueOf_5 (by decide) ?_
  refine lv_isub hx hb dX6_valueOf_7 ?_
  refine lv_topi (fun z8 ez8 => ?_)
  have hM := MLet_some hM z8 ez8
  refine lv_istore_n (lv' := [(3, .int z8), (0, .ref (aTx 0)), (1, .int p1), (2, .int p2)]) hx hb dX6_valueOf_8 rfl hl (by decide) rfl (fun ls hl => ?_)
  refine lv_iload_n hx hb dX6_valueOf_9 rfl (lv_at hl 3 rfl) ?_
  refine lv_iconst (v := (2 : Int32)) hx hb dX6_valueOf_10 (by decide) ?_
  refine lv_icmp_ne (tgt := 32) hx hb dX6_valueOf_11 (by decide) (fun hc => ?_) (fun hc => ?_)
  · have hM := (if_neg hc).symm.trans hM
    refine lv_iload_n hx hb dX6_valueOf_32 rfl (lv_at hl 0 rfl) ?_
    obtain rfl := Option.some.inj hM
    exact g_reti X hW rfl rfl dX6_valueOf_33
  · have hM := (if_pos hc).symm.trans hM
    refine lv_iload_n hx hb dX6_valueOf_14 rfl (lv_at hl 0 rfl) ?_
    refine lv_bipush (v := (10 : Int32)) hx hb dX6_valueOf_15 (by decide) ?_
    refine lv_imul hx hb dX6_valueOf_17 ?_
    refine lv_aload_n hx hb dX6_valueOf_18 rfl (lv_at hl 1 rfl) ?_
    refine lv_iload_n hx hb dX6_valueOf_19 rfl (lv_at hl 2 rfl) ?_
    refine lv_iconst (v := (1 : Int32)) hx hb dX6_valueOf_20 (by decide) ?_
    refine lv_iadd hx hb dX6_valueOf_21 ?_
    obtain ⟨u22, hu22, hM⟩ := bind_some hM
    refine g_callVi (rest := [.int (z8 * (10 : Int32))]) (gr := []) X hl.1 hW (c_X6_letterAt l G cI cZ cL N aTx Tx (p1 + (1 : Int32)) u22 hu22) q_327 q_324 q_326 q_1 q_55 hd_X6_letterAt rfl ⟨Nat.le_of_ble_eq_true rfl, Nat.le_of_ble_eq_true rfl⟩ ⟨Nat.zero_le _, Nat.zero_le _⟩ [0] [] [wText cI aTx Tx] ⟨pm_1_0, rfl, rfl, rfl⟩ ⟨pm_1_0, rfl, rfl, rfl⟩ (q0 := 0) rfl rfl rfl (Nat.le_of_ble_eq_true rfl) dX6_valueOf_22 (fun H locs hW => ?_)
    refine lv_iadd hx hb dX6_valueOf_25 ?_
    refine lv_bipush (v := (48 : Int32)) hx hb dX6_valueOf_26 (by decide) ?_
    refine lv_isub hx hb dX6_valueOf_28 ?_
    refine lv_goto (tgt := 33) hx hb dX6_valueOf_29 (by decide) ?_
    obtain rfl := Option.some.inj hM
    exact g_reti X hW rfl rfl dX6_valueOf_33

def MX6_numbersBehind (N : Nat) (p1 : Int32) : Option (Int32) :=
  if p1 = (98 : Int32) then some ((2 : Int32)) else if p1 = (112 : Int32) then some ((3 : Int32)) else if p1 = (114 : Int32) then some ((1 : Int32)) else some ((0 : Int32))
set_option maxHeartbeats 4000000 in
set_option maxRecDepth 100000 in
theorem c_X6_numbersBehind (l : Launch) (G : va_G) (cI cZ cL : ClassId) (N : Nat) (p1 : Int32) (rr : Int32) (hM : MX6_numbersBehind N p1 = some rr) : CtI l yX6_numbersBehind cX6_numbersBehind 1 .int 0 0 G cI cZ cL [.int p1] [] rr [] := by
  refine ct_body (fun A => qI G rr [] A) (by decide) (Nat.le_of_ble_eq_true rfl) (fun p e s m below meth c A ls X hW hl => ?_)
  have hx := X.1
  have hb := X.2.1
  have hts := X.2.2.2.2.2.1
  have hown := X.2.2.2.2.2.2.1
  have hl : lv_has ls 1 [(0, .int p1)] := hl
  unfold MX6_numbersBehind at hM
  refine lv_iload_n hx hb dX6_numbersBehind_0 rfl (lv_at hl 0 rfl) ?_
  by_cases hs1_98 : p1 = (98 : Int32)
  · have hM := (if_pos hs1_98).symm.trans hM
    refine lv_lookup (off := 37) (tgt := 38) hx hb dX6_numbersBehind_1 (by decide) (by rw [hs1_98]; rfl) (by decide) ?_
    refine lv_iconst (v := (2 : Int32)) hx hb dX6_numbersBehind_38 (by decide) ?_
    obtain rfl := Option.some.inj hM
    exact g_reti X hW rfl rfl dX6_numbersBehind_39
  · have hM := (if_neg hs1_98).symm.trans hM
    by_cases hs1_112 : p1 = (112 : Int32)
    · have hM := (if_pos hs1_112).symm.trans hM
      refine lv_lookup (off := 35) (tgt := 36) hx hb dX6_numbersBehind_1 (by decide) (by rw [hs1_112]; rfl) (by decide) ?_
      refine lv_iconst (v := (3 : Int32)) hx hb dX6_numbersBehind_36 (by decide) ?_
      obtain rfl := Option.some.inj hM
      exact g_reti X hW rfl rfl dX6_numbersBehind_37
    · have hM := (if_neg hs1_112).symm.trans hM
      by_cases hs1_114 : p1 = (114 : Int32)
      · have hM := (if_pos hs1_114).symm.trans hM
        refine lv_lookup (off := 39) (tgt := 40) hx hb dX6_numbersBehind_1 (by decide) (by rw [hs1_114]; rfl) (by decide) ?_
        refine lv_iconst (v := (1 : Int32)) hx hb dX6_numbersBehind_40 (by decide) ?_
        obtain rfl := Option.some.inj hM
        exact g_reti X hW rfl rfl dX6_numbersBehind_41
      · have hM := (if_neg hs1_114).symm.trans hM
        refine lv_lookup (off := 41) (tgt := 42) hx hb dX6_numbersBehind_1 (by decide) ((lv_osw (k := (98 : Int32)) (a := 98) hs1_98 rfl).trans ((lv_osw (k := (112 : Int32)) (a := 112) hs1_112 rfl).trans ((lv_osw (k := (114 : Int32)) (a := 114) hs1_114 rfl).trans (rfl)))) (by decide) ?_
        refine lv_iconst (v := (0 : Int32)) hx hb dX6_numbersBehind_42 (by decide) ?_
        obtain rfl := Option.some.inj hM
        exact g_reti X hW rfl rfl dX6_numbersBehind_43

def MX6_take (N : Nat) (Tx : TextV) (P : PlanV) (p2 : Int32) : Option (Int32 × (Nat → Int32) × (Nat → Int32) × (Nat → Int32) × Int32 × Int32 × Int32 × Int32) :=
  if p2 = (98 : Int32) then (MG (0 : Int32) 3 (MG (1 : Int32) 3 ((MX3_setBaker N P (Tx.2.1 (0 : Int32).toNatClampNeg) (Tx.2.1 (1 : Int32).toNatClampNeg)).bind (fun u72 => MB u72.1 (some (u72.1, P.1, P.2.1, P.2.2.1, P.2.2.2.1, u72.2.1, u72.2.2, P.2.2.2.2.2.2)))))) else if p2 = (112 : Int32) then (MG (0 : Int32) 3 (MG (1 : Int32) 3 (MG (2 : Int32) 3 ((MX3_addPerson N P (Tx.2.1 (0 : Int32).toNatClampNeg) (Tx.2.1 (1 : Int32).toNatClampNeg) (Tx.2.1 (2 : Int32).toNatClampNeg)).bind (fun u55 => MB u55.1 (some (u55.1, u55.2.1, u55.2.2.1, u55.2.2.2.1, u55.2.2.2.2, P.2.2.2.2.1, P.2.2.2.2.2.1, P.2.2.2.2.2.2))))))) else if p2 = (114 : Int32) then (MG (0 : Int32) 3 ((MX3_setRumour N P (Tx.2.1 (0 : Int32).toNatClampNeg)).bind (fun u83 => MB u83.1 (some (u83.1, P.1, P.2.1, P.2.2.1, P.2.2.2.1, P.2.2.2.2.1, P.2.2.2.2.2.1, u83.2))))) else some ((0 : Int32), P.1, P.2.1, P.2.2.1, P.2.2.2.1, P.2.2.2.2.1, P.2.2.2.2.2.1, P.2.2.2.2.2.2)
set_option maxHeartbeats 4000000 in
set_option maxRecDepth 100000 in
theorem c_X6_take (l : Launch) (G : va_G) (cI cZ cL : ClassId) (N : Nat) (aTx : Nat → Nat) (aP : Nat → Nat) (Tx : TextV) (P : PlanV) (p2 : Int32) (rr : Int32 × (Nat → Int32) × (Nat → Int32) × (Nat → Int32) × Int32 × Int32 × Int32 × Int32) (hM : MX6_take N Tx P p2 = some rr) : CtI l yX6_take cX6_take 3 .boolean 2 46 G cI cZ cL [.ref (aTx 0), .ref (aP 0), .int p2] [wText cI aTx Tx, wPlan cI aP P] rr.1 [wText cI aTx Tx, wPlan cI aP (rr.2.1, rr.2.2.1, rr.2.2.2.1, rr.2.2.2.2.1, rr.2.2.2.2.2.1, rr.2.2.2.2.2.2.1, rr.2.2.2.2.2.2.2)] := by
  refine ct_body (fun A => qI G rr.1 [wText cI aTx Tx, wPlan cI aP (rr.2.1, rr.2.2.1, rr.2.2.2.1, rr.2.2.2.2.1, rr.2.2.2.2.2.1, rr.2.2.2.2.2.2.1, rr.2.2.2.2.2.2.2)] A) (by decide) (Nat.le_of_ble_eq_true rfl) (fun p e s m below meth c A ls X hW hl => ?_)
  have hx := X.1
  have hb := X.2.1
  have hts := X.2.2.2.2.2.1
  have hown := X.2.2.2.2.2.2.1
  have hl : lv_has ls 3 [(0, .ref (aTx 0)), (1, .ref (aP 0)), (2, .int p2)] := hl
  unfold MX6_take at hM
  refine lv_iload_n hx hb dX6_take_0 rfl (lv_at hl 2 rfl) ?_
  by_cases hs1_98 : p2 = (98 : Int32)
  · have hM := (if_pos hs1_98).symm.trans hM
    refine lv_lookup (off := 58) (tgt := 59) hx hb dX6_take_1 (by decide) (by rw [hs1_98]; rfl) (by decide) ?_
    refine lv_aload_n hx hb dX6_take_59 rfl (lv_at hl 1 rfl) ?_
    refine lv_aload_n hx hb dX6_take_60 rfl (lv_at hl 0 rfl) ?_
    refine g_get X hW 0 rfl rfl inX6 1 (by decide) q_85 rfl dX6_take_61 ?_
    refine lv_iconst (v := (0 : Int32)) hx hb dX6_take_64 (by decide) ?_
    obtain ⟨hi65, hM⟩ := MG_some hM
    refine g_ald X hW 2 rfl hi65 dX6_take_65 ?_
    refine lv_aload_n hx hb dX6_take_66 rfl (lv_at hl 0 rfl) ?_
    refine g_get X hW 0 rfl rfl inX6 1 (by decide) q_85 rfl dX6_take_67 ?_
    refine lv_iconst (v := (1 : Int32)) hx hb dX6_take_70 (by decide) ?_
    obtain ⟨hi71, hM⟩ := MG_some hM
    refine g_ald X hW 2 rfl hi71 dX6_take_71 ?_
    obtain ⟨u72, hu72, hM⟩ := bind_some hM
    refine g_callVi (rest := []) (gr := [wText cI aTx Tx]) X hl.1 hW (c_X3_setBaker l G cI cZ cL N aP P (Tx.2.1 (0 : Int32).toNatClampNeg) (Tx.2.1 (1 : Int32).toNatClampNeg) u72 hu72) q_357 q_354 q_355 q_356 q_56 hd_X3_setBaker rfl ⟨Nat.le_of_ble_eq_true rfl, Nat.le_of_ble_eq_true rfl⟩ ⟨Nat.zero_le _, Nat.zero_le _⟩ [1] [0] [wText cI aTx Tx, wPlan cI aP (P.1, P.2.1, P.2.2.1, P.2.2.2.1, u72.2.1, u72.2.2, P.2.2.2.2.2.2)] ⟨pm_2_1, rfl, rfl, rfl⟩ ⟨pm_2_1, rfl, rfl, rfl⟩ (q0 := 3) rfl rfl rfl (Nat.le_of_ble_eq_true rfl) dX6_take_72 (fun H locs hW => ?_)
    obtain ⟨hn, hM⟩ := MB_some hM
    obtain rfl := Option.some.inj hM
    exact g_reti X hW rfl hn dX6_take_75
  · have hM := (if_neg hs1_98).symm.trans hM
    by_cases hs1_112 : p2 = (112 : Int32)
    · have hM := (if_pos hs1_112).symm.trans hM
      refine lv_lookup (off := 35) (tgt := 36) hx hb dX6_take_1 (by decide) (by rw [hs1_112]; rfl) (by decide) ?_
      refine lv_aload_n hx hb dX6_take_36 rfl (lv_at hl 1 rfl) ?_
      refine lv_aload_n hx hb dX6_take_37 rfl (lv_at hl 0 rfl) ?_
      refine g_get X hW 0 rfl rfl inX6 1 (by decide) q_85 rfl dX6_take_38 ?_
      refine lv_iconst (v := (0 : Int32)) hx hb dX6_take_41 (by decide) ?_
      obtain ⟨hi42, hM⟩ := MG_some hM
      refine g_ald X hW 2 rfl hi42 dX6_take_42 ?_
      refine lv_aload_n hx hb dX6_take_43 rfl (lv_at hl 0 rfl) ?_
      refine g_get X hW 0 rfl rfl inX6 1 (by decide) q_85 rfl dX6_take_44 ?_
      refine lv_iconst (v := (1 : Int32)) hx hb dX6_take_47 (by decide) ?_
      obtain ⟨hi48, hM⟩ := MG_some hM
      refine g_ald X hW 2 rfl hi48 dX6_take_48 ?_
      refine lv_aload_n hx hb dX6_take_49 rfl (lv_at hl 0 rfl) ?_
      refine g_get X hW 0 rfl rfl inX6 1 (by decide) q_85 rfl dX6_take_50 ?_
      refine lv_iconst (v := (2 : Int32)) hx hb dX6_take_53 (by decide) ?_
      obtain ⟨hi54, hM⟩ := MG_some hM
      refine g_ald X hW 2 rfl hi54 dX6_take_54 ?_
      obtain ⟨u55, hu55, hM⟩ := bind_some hM
      refine g_callVi (rest := []) (gr := [wText cI aTx Tx]) X hl.1 hW (c_X3_addPerson l G cI cZ cL N aP P (Tx.2.1 (0 : Int32).toNatClampNeg) (Tx.2.1 (1 : Int32).toNatClampNeg) (Tx.2.1 (2 : Int32).toNatClampNeg) u55 hu55) q_349 q_346 q_347 q_348 q_56 hd_X3_addPerson rfl ⟨Nat.le_of_ble_eq_true rfl, Nat.le_of_ble_eq_true rfl⟩ ⟨Nat.zero_le _, Nat.zero_le _⟩ [1] [0] [wText cI aTx Tx, wPlan cI aP (u55.2.1, u55.2.2.1, u55.2.2.2.1, u55.2.2.2.2, P.2.2.2.2)] ⟨pm_2_1, rfl, rfl, rfl⟩ ⟨pm_2_1, rfl, rfl, rfl⟩ (q0 := 3) rfl rfl rfl (Nat.le_of_ble_eq_true rfl) dX6_take_55 (fun H locs hW => ?_)
      obtain ⟨hn, hM⟩ := MB_some hM
      obtain rfl := Option.some.inj hM
      exact g_reti X hW rfl hn dX6_take_58
    · have hM := (if_neg hs1_112).symm.trans hM
      by_cases hs1_114 : p2 = (114 : Int32)
      · have hM := (if_pos hs1_114).symm.trans hM
        refine lv_lookup (off := 75) (tgt := 76) hx hb dX6_take_1 (by decide) (by rw [hs1_114]; rfl) (by decide) ?_
        refine lv_aload_n hx hb dX6_take_76 rfl (lv_at hl 1 rfl) ?_
        refine lv_aload_n hx hb dX6_take_77 rfl (lv_at hl 0 rfl) ?_
        refine g_get X hW 0 rfl rfl inX6 1 (by decide) q_85 rfl dX6_take_78 ?_
        refine lv_iconst (v := (0 : Int32)) hx hb dX6_take_81 (by decide) ?_
        obtain ⟨hi82, hM⟩ := MG_some hM
        refine g_ald X hW 2 rfl hi82 dX6_take_82 ?_
        obtain ⟨u83, hu83, hM⟩ := bind_some hM
        refine g_callVi (rest := []) (gr := [wText cI aTx Tx]) X hl.1 hW (c_X3_setRumour l G cI cZ cL N aP P (Tx.2.1 (0 : Int32).toNatClampNeg) u83 hu83) q_361 q_358 q_359 q_360 q_56 hd_X3_setRumour rfl ⟨Nat.le_of_ble_eq_true rfl, Nat.le_of_ble_eq_true rfl⟩ ⟨Nat.zero_le _, Nat.zero_le _⟩ [1] [0] [wText cI aTx Tx, wPlan cI aP (P.1, P.2.1, P.2.2.1, P.2.2.2.1, P.2.2.2.2.1, P.2.2.2.2.2.1, u83.2)] ⟨pm_2_1, rfl, rfl, rfl⟩ ⟨pm_2_1, rfl, rfl, rfl⟩ (q0 := 3) rfl rfl rfl (Nat.le_of_ble_eq_true rfl) dX6_take_83 (fun H locs hW => ?_)
        obtain ⟨hn, hM⟩ := MB_some hM
        obtain rfl := Option.some.inj hM
        exact g_reti X hW rfl hn dX6_take_86
      · have hM := (if_neg hs1_114).symm.trans hM
        refine lv_lookup (off := 86) (tgt := 87) hx hb dX6_take_1 (by decide) ((lv_osw (k := (98 : Int32)) (a := 98) hs1_98 rfl).trans ((lv_osw (k := (112 : Int32)) (a := 112) hs1_112 rfl).trans ((lv_osw (k := (114 : Int32)) (a := 114) hs1_114 rfl).trans (rfl)))) (by decide) ?_
        refine lv_iconst (v := (0 : Int32)) hx hb dX6_take_87 (by decide) ?_
        obtain rfl := Option.some.inj hM
        exact g_reti X hW rfl rfl dX6_take_88

def MX6_readItem_j110 (N : Nat) (Tx : TextV) (P : PlanV) (u2 : Int32) (x5_110 : Int32) (yTx1_110 : (Nat → Int32)) : Option (Int32 × (Nat → Int32) × (Nat → Int32) × (Nat → Int32) × (Nat → Int32) × Int32 × Int32 × Int32 × Int32) :=
  (MX6_take N (Tx.1, yTx1_110, Tx.2.2) P u2).bind (fun u113 => if u113.1 = 0 then some ((-1 : Int32), yTx1_110, u113.2.1, u113.2.2.1, u113.2.2.2.1, u113.2.2.2.2.1, u113.2.2.2.2.2.1, u113.2.2.2.2.2.2.1, u113.2.2.2.2.2.2.2) else some (x5_110, yTx1_110, u113.2.1, u113.2.2.1, u113.2.2.2.1, u113.2.2.2.2.1, u113.2.2.2.2.2.1, u113.2.2.2.2.2.2.1, u113.2.2.2.2.2.2.2))
def MX6_readItem_j96 (P : PlanV) (x6_20 : Int32) (yTx1_20 : (Nat → Int32)) (rc20 : (Int32 → Int32 → (Nat → Int32) → Option (Int32 × (Nat → Int32) × (Nat → Int32) × (Nat → Int32) × (Nat → Int32) × Int32 × Int32 × Int32 × Int32))) (u63 : Int32) (z72 : Int32) (u77 : Int32) (t1_96 : Int32) : Option (Int32 × (Nat → Int32) × (Nat → Int32) × (Nat → Int32) × (Nat → Int32) × Int32 × Int32 × Int32 × Int32) :=
  if u77 = t1_96 then (rc20 (z72 + (1 : Int32)) (x6_20 + (1 : Int32)) (upd yTx1_20 x6_20.toNatClampNeg u63)) else some ((-1 : Int32), (upd yTx1_20 x6_20.toNatClampNeg u63), P.1, P.2.1, P.2.2.1, P.2.2.2.1, P.2.2.2.2.1, P.2.2.2.2.2.1, P.2.2.2.2.2.2)
def MX6_readItem_l20 (N : Nat) (Tx : TextV) (P : PlanV) (u2 : Int32) (u7 : Int32) : Nat → Int32 → Int32 → (Nat → Int32) → Option (Int32 × (Nat → Int32) × (Nat → Int32) × (Nat → Int32) × (Nat → Int32) × Int32 × Int32 × Int32 × Int32)
  | 0, _, _, _ => none
  | n20 + 1, x5_20, x6_20, yTx1_20 =>
    if u7 ≤ x6_20 then (MX6_readItem_j110 N Tx P u2 x5_20 yTx1_20) else (if (3 : Int32) ≤ x6_20 then (MX6_readItem_j110 N Tx P u2 x5_20 yTx1_20) else ((MX6_figuresFrom N (Tx.1, yTx1_20, Tx.2.2) x5_20).bind (fun u40 => if u40 = 0 then some ((-1 : Int32), yTx1_20, P.1, P.2.1, P.2.2.1, P.2.2.2.1, P.2.2.2.2.1, P.2.2.2.2.2.1, P.2.2.2.2.2.2) else ((MX6_valueOf N (Tx.1, yTx1_20, Tx.2.2) x5_20 u40).bind (fun u63 => MG x6_20 3 (MLet (x5_20 + u40) (fun z72 => (MX6_letterAt N (Tx.1, (upd yTx1_20 x6_20.toNatClampNeg u63), Tx.2.2) z72).bind (fun u77 => if x6_20 = (u7 - (1 : Int32)) then (MX6_readItem_j96 P x6_20 yTx1_20 (MX6_readItem_l20 N Tx P u2 u7 n20) u63 z72 u77 (59 : Int32)) else (MX6_readItem_j96 P x6_20 yTx1_20 (MX6_readItem_l20 N Tx P u2 u7 n20) u63 z72 u77 (44 : Int32))))))))))
def MX6_readItem (N : Nat) (Tx : TextV) (P : PlanV) (p2 : Int32) : Option (Int32 × (Nat → Int32) × (Nat → Int32) × (Nat → Int32) × (Nat → Int32) × Int32 × Int32 × Int32 × Int32) :=
  (MX6_letterAt N Tx p2).bind (fun u2 => (MX6_numbersBehind N u2).bind (fun u7 => MLet (p2 + (1 : Int32)) (fun z15 => MX6_readItem_l20 N Tx P u2 u7 N z15 (0 : Int32) Tx.2.1)))
set_option maxHeartbeats 4000000 in
set_option maxRecDepth 100000 in
theorem c_X6_readItem (l : Launch) (G : va_G) (cI cZ cL : ClassId) (N : Nat) (aTx : Nat → Nat) (aP : Nat → Nat) (Tx : TextV) (P : PlanV) (p2 : Int32) (rr : Int32 × (Nat → Int32) × (Nat → Int32) × (Nat → Int32) × (Nat → Int32) × Int32 × Int32 × Int32 × Int32) (hM : MX6_readItem N Tx P p2 = some rr) : CtI l yX6_readItem cX6_readItem 8 .int 3 68 G cI cZ cL [.ref (aTx 0), .ref (aP 0), .int p2] [wText cI aTx Tx, wPlan cI aP P] rr.1 [wText cI aTx (Tx.1, rr.2.1, Tx.2.2), wPlan cI aP (rr.2.2.1, rr.2.2.2.1, rr.2.2.2.2.1, rr.2.2.2.2.2.1, rr.2.2.2.2.2.2.1, rr.2.2.2.2.2.2.2.1, rr.2.2.2.2.2.2.2.2)] := by
  refine ct_body (fun A => qI G rr.1 [wText cI aTx (Tx.1, rr.2.1, Tx.2.2), wPlan cI aP (rr.2.2.1, rr.2.2.2.1, rr.2.2.2.2.1, rr.2.2.2.2.2.1, rr.2.2.2.2.2.2.1, rr.2.2.2.2.2.2.2.1, rr.2.2.2.2.2.2.2.2)] A) (by decide) (Nat.le_of_ble_eq_true rfl) (fun p e s m below meth c A ls X hW hl => ?_)
  have hx := X.1
  have hb := X.2.1
  have hts := X.2.2.2.2.2.1
  have hown := X.2.2.2.2.2.2.1
  have hl : lv_has ls 8 [(0, .ref (aTx 0)), (1, .ref (aP 0)), (2, .int p2)] := hl
  unfold MX6_readItem at hM
  refine lv_aload_n hx hb dX6_readItem_0 rfl (lv_at hl 0 rfl) ?_
  refine lv_iload_n hx hb dX6_readItem_1 rfl (lv_at hl 2 rfl) ?_
  obtain ⟨u2, hu2, hM⟩ := bind_some hM
  refine g_callVi (rest := []) (gr := [wPlan cI aP P]) X hl.1 hW (c_X6_letterAt l G cI cZ cL N aTx Tx p2 u2 hu2) q_327 q_324 q_326 q_1 q_55 hd_X6_letterAt rfl ⟨Nat.le_of_ble_eq_true rfl, Nat.le_of_ble_eq_true rfl⟩ ⟨Nat.zero_le _, Nat.zero_le _⟩ [0] [1] [wText cI aTx Tx, wPlan cI aP P] ⟨pm_2_0, rfl, rfl, rfl⟩ ⟨pm_2_0, rfl, rfl, rfl⟩ (q0 := 0) rfl rfl rfl (Nat.le_of_ble_eq_true rfl) dX6_readItem_2 (fun H locs hW => ?_)
  refine lv_istore_n (lv' := [(3, .int u2), (0, .ref (aTx 0)), (1, .ref (aP 0)), (2, .int p2)]) hx hb dX6_readItem_5 rfl hl (by decide) rfl (fun ls hl => ?_)
  refine lv_iload_n hx hb dX6_readItem_6 rfl (lv_at hl 0 rfl) ?_
  obtain ⟨u7, hu7, hM⟩ := bind_some hM
  refine g_callSi (rest := []) X hl.1 hW (c_X6_numbersBehind l G cI cZ cL N u2 u7 hu7) q_330 q_328 q_329 q_55 hd_X6_numbersBehind rfl ⟨Nat.le_of_ble_eq_true rfl, Nat.le_of_ble_eq_true rfl⟩ ⟨Nat.zero_le _, Nat.zero_le _⟩ rfl (Nat.le_of_ble_eq_true rfl) dX6_readItem_7 (fun H locs hW => ?_)
  refine lv_istore (lv' := [(4, .int u7), (3, .int u2), (0, .ref (aTx 0)), (1, .ref (aP 0)), (2, .int p2)]) hx hb dX6_readItem_10 hl (by decide) rfl (fun ls hl => ?_)
  refine lv_iload_n hx hb dX6_readItem_12 rfl (lv_at hl 4 rfl) ?_
  refine lv_iconst (v := (1 : Int32)) hx hb dX6_readItem_13 (by decide) ?_
  refine lv_iadd hx hb dX6_readItem_14 ?_
  refine lv_topi (fun z15 ez15 => ?_)
  have hM := MLet_some hM z15 ez15
  refine lv_istore (lv' := [(5, .int z15), (4, .int u7), (3, .int u2), (0, .ref (aTx 0)), (1, .ref (aP 0)), (2, .int p2)]) hx hb dX6_readItem_15 hl (by decide) rfl (fun ls hl => ?_)
  refine lv_iconst (v := (0 : Int32)) hx hb dX6_readItem_17 (by decide) ?_
  refine lv_istore (lv' := [(6, .int (0 : Int32)), (5, .int z15), (4, .int u7), (3, .int u2), (0, .ref (aTx 0)), (1, .ref (aP 0)), (2, .int p2)]) hx hb dX6_readItem_18 hl (by decide) rfl (fun ls hl => ?_)
  have j110 : ∀ (x5_110 : Int32) (yTx1_110 : (Nat → Int32)) (H : Heap) (locs : List Loc) (ls : Array Slot), Wd G A s [wText cI aTx (Tx.1, yTx1_110, Tx.2.2), wPlan cI aP P] H locs → lv_has ls 8 [(0, .ref (aTx 0)), (1, .ref (aP 0)), (3, .int u2), (5, .int x5_110)] → MX6_readItem_j110 N Tx P u2 x5_110 yTx1_110 = some rr → W p l e (rmO 3 68) s m ([.ref (aTx 0), .ref (aP 0), .int p2] : List Value).toArray below meth c H locs 0 0 (MQ below (qI G rr.1 [wText cI aTx (Tx.1, rr.2.1, Tx.2.2), wPlan cI aP (rr.2.2.1, rr.2.2.2.1, rr.2.2.2.2.1, rr.2.2.2.2.2.1, rr.2.2.2.2.2.2.1, rr.2.2.2.2.2.2.2.1, rr.2.2.2.2.2.2.2.2)] A) ([.ref (aTx 0), .ref (aP 0), .int p2] : List Value).toArray s 0 0 A) (F0 m 110 ls []) := by
    intro x5_110 yTx1_110 H locs ls hW hl hM
    unfold MX6_readItem_j110 at hM
    refine lv_aload_n hx hb dX6_readItem_110 rfl (lv_at hl 0 rfl) ?_
    refine lv_aload_n hx hb dX6_readItem_111 rfl (lv_at hl 1 rfl) ?_
    refine lv_iload_n hx hb dX6_readItem_112 rfl (lv_at hl 2 rfl) ?_
    obtain ⟨u113, hu113, hM⟩ := bind_some hM
    refine g_callVi (rest := []) (gr := []) X hl.1 hW (c_X6_take l G cI cZ cL N aTx aP (Tx.1, yTx1_110, Tx.2.2) P u2 u113 hu113) q_345 q_342 q_344 q_4 q_55 hd_X6_take rfl ⟨Nat.le_of_ble_eq_true rfl, Nat.le_of_ble_eq_true rfl⟩ ⟨Nat.zero_le _, Nat.zero_le _⟩ [0, 1] [] [wText cI aTx (Tx.1, yTx1_110, Tx.2.2), wPlan cI aP (u113.2.1, u113.2.2.1, u113.2.2.2.1, u113.2.2.2.2.1, u113.2.2.2.2.2.1, u113.2.2.2.2.2.2.1, u113.2.2.2.2.2.2.2)] ⟨pm_2_0_1, rfl, rfl, rfl⟩ ⟨pm_2_0_1, rfl, rfl, rfl⟩ (q0 := 0) rfl rfl rfl (Nat.le_of_ble_eq_true rfl) dX6_readItem_113 (fun H locs hW => ?_)
    refine lv_if_eq (tgt := 124) hx hb dX6_readItem_116 (by decide) (fun hc => ?_) (fun hc => ?_)
    · have hM := (if_pos hc).symm.trans hM
      refine lv_iconst (v := (-1 : Int32)) hx hb dX6_readItem_124 (by decide) ?_
      obtain rfl := Option.some.inj hM
      exact g_reti X hW rfl rfl dX6_readItem_125
    · have hM := (if_neg hc).symm.trans hM
      refine lv_iload hx hb dX6_readItem_119 (lv_at hl 3 rfl) ?_
      refine lv_goto (tgt := 125) hx hb dX6_readItem_121 (by decide) ?_
      obtain rfl := Option.some.inj hM
      exact g_reti X hW rfl rfl dX6_readItem_125
  have lp20 : ∀ (n20 : Nat) (x5_20 : Int32) (x6_20 : Int32) (yTx1_20 : (Nat → Int32)) (H : Heap) (locs : List Loc) (ls : Array Slot), Wd G A s [wText cI aTx (Tx.1, yTx1_20, Tx.2.2), wPlan cI aP P] H locs → lv_has ls 8 [(0, .ref (aTx 0)), (1, .ref (aP 0)), (3, .int u2), (4, .int u7), (5, .int x5_20), (6, .int x6_20)] → MX6_readItem_l20 N Tx P u2 u7 n20 x5_20 x6_20 yTx1_20 = some rr → W p l e (rmO 3 68) s m ([.ref (aTx 0), .ref (aP 0), .int p2] : List Value).toArray below meth c H locs 0 0 (MQ below (qI G rr.1 [wText cI aTx (Tx.1, rr.2.1, Tx.2.2), wPlan cI aP (rr.2.2.1, rr.2.2.2.1, rr.2.2.2.2.1, rr.2.2.2.2.2.1, rr.2.2.2.2.2.2.1, rr.2.2.2.2.2.2.2.1, rr.2.2.2.2.2.2.2.2)] A) ([.ref (aTx 0), .ref (aP 0), .int p2] : List Value).toArray s 0 0 A) (F0 m 20 ls []) := by
    intro n20
    induction n20 with
    | zero =>
      intro x5_20 x6_20 yTx1_20 H locs ls hW hl hM
      rw [MX6_readItem_l20] at hM
      cases hM
    | succ n20 ih20 =>
      intro x5_20 x6_20 yTx1_20 H locs ls hW hl hM
      rw [MX6_readItem_l20] at hM
      refine lv_iload hx hb dX6_readItem_20 (lv_at hl 5 rfl) ?_
      refine lv_iload hx hb dX6_readItem_22 (lv_at hl 3 rfl) ?_
      refine lv_icmp_ge (tgt := 110) hx hb dX6_readItem_24 (by decide) (fun hc => ?_) (fun hc => ?_)
      · have hM := (if_pos hc).symm.trans hM
        exact j110 x5_20 yTx1_20 _ _ _ hW (lv_sub hl [0, 1, 2, 4] rfl) hM
      · have hM := (if_neg hc).symm.trans hM
        refine lv_iload hx hb dX6_readItem_27 (lv_at hl 5 rfl) ?_
        refine lv_aload_n hx hb dX6_readItem_29 rfl (lv_at hl 0 rfl) ?_
        refine g_get X hW 0 rfl rfl inX6 1 (by decide) q_85 rfl dX6_readItem_30 ?_
        refine g_alen X hW 2 rfl (v := (3 : Int32)) (by decide) dX6_readItem_33 ?_
        refine lv_icmp_ge (tgt := 110) hx hb dX6_readItem_34 (by decide) (fun hc => ?_) (fun hc => ?_)
        · have hM := (if_pos hc).symm.trans hM
          exact j110 x5_20 yTx1_20 _ _ _ hW (lv_sub hl [0, 1, 2, 4] rfl) hM
        · have hM := (if_neg hc).symm.trans hM
          refine lv_aload_n hx hb dX6_readItem_37 rfl (lv_at hl 0 rfl) ?_
          refine lv_iload hx hb dX6_readItem_38 (lv_at hl 4 rfl) ?_
          obtain ⟨u40, hu40, hM⟩ := bind_some hM
          refine g_callVi (rest := []) (gr := [wPlan cI aP P]) X hl.1 hW (c_X6_figuresFrom l G cI cZ cL N aTx (Tx.1, yTx1_20, Tx.2.2) x5_20 u40 hu40) q_334 q_331 q_333 q_2 q_55 hd_X6_figuresFrom rfl ⟨Nat.le_of_ble_eq_true rfl, Nat.le_of_ble_eq_true rfl⟩ ⟨Nat.zero_le _, Nat.zero_le _⟩ [0] [1] [wText cI aTx (Tx.1, yTx1_20, Tx.2.2), wPlan cI aP P] ⟨pm_2_0, rfl, rfl, rfl⟩ ⟨pm_2_0, rfl, rfl, rfl⟩ (q0 := 0) rfl rfl rfl (Nat.le_of_ble_eq_true rfl) dX6_readItem_40 (fun H locs hW => ?_)
          refine lv_istore (lv' := [(7, .int u40), (0, .ref (aTx 0)), (1, .ref (aP 0)), (3, .int u2), (4, .int u7), (5, .int x5_20), (6, .int x6_20)]) hx hb dX6_readItem_43 hl (by decide) rfl (fun ls hl => ?_)
          refine lv_iload hx hb dX6_readItem_45 (lv_at hl 0 rfl) ?_
          refine lv_if_ne (tgt := 52) hx hb dX6_readItem_47 (by decide) (fun hc => ?_) (fun hc => ?_)
          · have hM := (if_neg hc).symm.trans hM
            refine lv_aload_n hx hb dX6_readItem_52 rfl (lv_at hl 1 rfl) ?_
            refine g_get X hW 0 rfl rfl inX6 1 (by decide) q_85 rfl dX6_readItem_53 ?_
            refine lv_iload hx hb dX6_readItem_56 (lv_at hl 6 rfl) ?_
            refine lv_aload_n hx hb dX6_readItem_58 rfl (lv_at hl 1 rfl) ?_
            refine lv_iload hx hb dX6_readItem_59 (lv_at hl 5 rfl) ?_
            refine lv_iload hx hb dX6_readItem_61 (lv_at hl 0 rfl) ?_
            obtain ⟨u63, hu63, hM⟩ := bind_some hM
            refine g_callVi (rest := [.int x6_20, .ref (aTx 2)]) (gr := [wPlan cI aP P]) X hl.1 hW (c_X6_valueOf l G cI cZ cL N aTx (Tx.1, yTx1_20, Tx.2.2) x5_20 u40 u63 hu63) q_341 q_338 q_340 q_3 q_55 hd_X6_valueOf rfl ⟨Nat.le_of_ble_eq_true rfl, Nat.le_of_ble_eq_true rfl⟩ ⟨Nat.zero_le _, Nat.zero_le _⟩ [0] [1] [wText cI aTx (Tx.1, yTx1_20, Tx.2.2), wPlan cI aP P] ⟨pm_2_0, rfl, rfl, rfl⟩ ⟨pm_2_0, rfl, rfl, rfl⟩ (q0 := 0) rfl rfl rfl (Nat.le_of_ble_eq_true rfl) dX6_readItem_63 (fun H locs hW => ?_)
            obtain ⟨hi66, hM⟩ := MG_some hM
            refine g_ast X hW 2 rfl hi66 [wText cI aTx (Tx.1, (upd yTx1_20 x6_20.toNatClampNeg u63), Tx.2.2), wPlan cI aP P] rfl dX6_readItem_66 (fun H locs hW => ?_)
            refine lv_iload hx hb dX6_readItem_67 (lv_at hl 5 rfl) ?_
            refine lv_iload hx hb dX6_readItem_69 (lv_at hl 0 rfl) ?_
            refine lv_iadd hx hb dX6_readItem_71 ?_
            refine lv_topi (fun z72 ez72 => ?_)
            have hM := MLet_some hM z72 ez72
            refine lv_istore (lv' := [(5, .int z72), (7, .int u40), (0, .ref (aTx 0)), (1, .ref (aP 0)), (3, .int u2), (4, .int u7), (6, .int x6_20)]) hx hb dX6_readItem_72 hl (by decide) rfl (fun ls hl => ?_)
            refine lv_aload_n hx hb dX6_readItem_74 rfl (lv_at hl 2 rfl) ?_
            refine lv_iload hx hb dX6_readItem_75 (lv_at hl 0 rfl) ?_
            obtain ⟨u77, hu77, hM⟩ := bind_some hM
            refine g_callVi (rest := []) (gr := [wPlan cI aP P]) X hl.1 hW (c_X6_letterAt l G cI cZ cL N aTx (Tx.1, (upd yTx1_20 x6_20.toNatClampNeg u63), Tx.2.2) z72 u77 hu77) q_327 q_324 q_326 q_1 q_55 hd_X6_letterAt rfl ⟨Nat.le_of_ble_eq_true rfl, Nat.le_of_ble_eq_true rfl⟩ ⟨Nat.zero_le _, Nat.zero_le _⟩ [0] [1] [wText cI aTx (Tx.1, (upd yTx1_20 x6_20.toNatClampNeg u63), Tx.2.2), wPlan cI aP P] ⟨pm_2_0, rfl, rfl, rfl⟩ ⟨pm_2_0, rfl, rfl, rfl⟩ (q0 := 0) rfl rfl rfl (Nat.le_of_ble_eq_true rfl) dX6_readItem_77 (fun H locs hW => ?_)
            refine lv_iload hx hb dX6_readItem_80 (lv_at hl 6 rfl) ?_
            refine lv_iload hx hb dX6_readItem_82 (lv_at hl 5 rfl) ?_
            refine lv_iconst (v := (1 : Int32)) hx hb dX6_readItem_84 (by decide) ?_
            refine lv_isub hx hb dX6_readItem_85 ?_
            have j96 : ∀ (t1_96 : Int32) (H : Heap) (locs : List Loc) (ls : Array Slot), Wd G A s [wText cI aTx (Tx.1, (upd yTx1_20 x6_20.toNatClampNeg u63), Tx.2.2), wPlan cI aP P] H locs → lv_has ls 8 [(0, .ref (aTx 0)), (1, .ref (aP 0)), (3, .int u2), (4, .int u7), (5, .int z72), (6, .int x6_20)] → MX6_readItem_j96 P x6_20 yTx1_20 (MX6_readItem_l20 N Tx P u2 u7 n20) u63 z72 u77 t1_96 = some rr → W p l e (rmO 3 68) s m ([.ref (aTx 0), .ref (aP 0), .int p2] : List Value).toArray below meth c H locs 0 0 (MQ below (qI G rr.1 [wText cI aTx (Tx.1, rr.2.1, Tx.2.2), wPlan cI aP (rr.2.2.1, rr.2.2.2.1, rr.2.2.2.2.1, rr.2.2.2.2.2.1, rr.2.2.2.2.2.2.1, rr.2.2.2.2.2.2.2.1, rr.2.2.2.2.2.2.2.2)] A) ([.ref (aTx 0), .ref (aP 0), .int p2] : List Value).toArray s 0 0 A) (F0 m 96 ls [.int t1_96, .int u77]) := by
              intro t1_96 H locs ls hW hl hM
              unfold MX6_readItem_j96 at hM
              refine lv_icmp_eq (tgt := 101) hx hb dX6_readItem_96 (by decide) (fun hc => ?_) (fun hc => ?_)
              · have hM := (if_pos hc).symm.trans hM
                refine lv_iinc (v := z72 + (1 : Int32)) (lv' := [(5, .int (z72 + (1 : Int32))), (0, .ref (aTx 0)), (1, .ref (aP 0)), (3, .int u2), (4, .int u7), (6, .int x6_20)]) hx hb dX6_readItem_101 hl (k := 4) rfl rfl (by decide) rfl (fun ls hl => ?_)
                refine lv_iinc (v := x6_20 + (1 : Int32)) (lv' := [(6, .int (x6_20 + (1 : Int32))), (5, .int (z72 + (1 : Int32))), (0, .ref (aTx 0)), (1, .ref (aP 0)), (3, .int u2), (4, .int u7)]) hx hb dX6_readItem_104 hl (k := 5) rfl rfl (by decide) rfl (fun ls hl => ?_)
                refine lv_goto (tgt := 20) hx hb dX6_readItem_107 (by decide) ?_
                exact ih20 (z72 + (1 : Int32)) (x6_20 + (1 : Int32)) (upd yTx1_20 x6_20.toNatClampNeg u63) _ _ _ hW (lv_sub hl [2, 3, 4, 5, 1, 0] rfl) hM
              · have hM := (if_neg hc).symm.trans hM
                refine lv_iconst (v := (-1 : Int32)) hx hb dX6_readItem_99 (by decide) ?_
                obtain rfl := Option.some.inj hM
                exact g_reti X hW rfl rfl dX6_readItem_100
            refine lv_icmp_ne (tgt := 94) hx hb dX6_readItem_86 (by decide) (fun hc => ?_) (fun hc => ?_)
            · have hM := (if_neg hc).symm.trans hM
              refine lv_bipush (v := (44 : Int32)) hx hb dX6_readItem_94 (by decide) ?_
              exact j96 (44 : Int32) _ _ _ hW (lv_sub hl [2, 3, 4, 5, 0, 6] rfl) hM
            · have hM := (if_pos hc).symm.trans hM
              refine lv_bipush (v := (59 : Int32)) hx hb dX6_readItem_89 (by decide) ?_
              refine lv_goto (tgt := 96) hx hb dX6_readItem_91 (by decide) ?_
              exact j96 (59 : Int32) _ _ _ hW (lv_sub hl [2, 3, 4, 5, 0, 6] rfl) hM
          · have hM := (if_pos hc).symm.trans hM
            refine lv_iconst (v := (-1 : Int32)) hx hb dX6_readItem_50 (by decide) ?_
            obtain rfl := Option.some.inj hM
            exact g_reti X hW rfl rfl dX6_readItem_51
  exact lp20 N z15 (0 : Int32) Tx.2.1 _ _ _ hW (lv_sub hl [4, 5, 3, 2, 1, 0] rfl) hM

def MX6_readInto_j47 (yTx1_47 : (Nat → Int32)) (yP0_47 : (Nat → Int32)) (yP1_47 : (Nat → Int32)) (yP2_47 : (Nat → Int32)) (yP3_47 : Int32) (yP4_47 : Int32) (yP5_47 : Int32) (yP6_47 : Int32) : Option (Int32 × (Nat → Int32) × (Nat → Int32) × (Nat → Int32) × (Nat → Int32) × Int32 × Int32 × Int32 × Int32) :=
  some ((-4 : Int32), yTx1_47, yP0_47, yP1_47, yP2_47, yP3_47, yP4_47, yP5_47, yP6_47)
def MX6_readInto_l8 (N : Nat) (Tx : TextV) : Nat → Int32 → Int32 → (Nat → Int32) → (Nat → Int32) → (Nat → Int32) → (Nat → Int32) → Int32 → Int32 → Int32 → Int32 → Option (Int32 × (Nat → Int32) × (Nat → Int32) × (Nat → Int32) × (Nat → Int32) × Int32 × Int32 × Int32 × Int32)
  | 0, _, _, _, _, _, _, _, _, _, _ => none
  | n8 + 1, x2_8, x3_8, yTx1_8, yP0_8, yP1_8, yP2_8, yP3_8, yP4_8, yP5_8, yP6_8 =>
    if (200 : Int32) ≤ x3_8 then (MX6_readInto_j47 yTx1_8 yP0_8 yP1_8 yP2_8 yP3_8 yP4_8 yP5_8 yP6_8) else (if Tx.2.2 ≤ x2_8 then (MX6_readInto_j47 yTx1_8 yP0_8 yP1_8 yP2_8 yP3_8 yP4_8 yP5_8 yP6_8) else ((MX6_readItem N (Tx.1, yTx1_8, Tx.2.2) (yP0_8, yP1_8, yP2_8, yP3_8, yP4_8, yP5_8, yP6_8) x2_8).bind (fun u26 => if 0 ≤ u26.1 then ((MX6_readInto_l8 N Tx n8) u26.1 (x3_8 + (1 : Int32)) u26.2.1 u26.2.2.1 u26.2.2.2.1 u26.2.2.2.2.1 u26.2.2.2.2.2.1 u26.2.2.2.2.2.2.1 u26.2.2.2.2.2.2.2.1 u26.2.2.2.2.2.2.2.2) else some (x2_8, u26.2.1, u26.2.2.1, u26.2.2.2.1, u26.2.2.2.2.1, u26.2.2.2.2.2.1, u26.2.2.2.2.2.2.1, u26.2.2.2.2.2.2.2.1, u26.2.2.2.2.2.2.2.2))))
def MX6_readInto (N : Nat) (Tx : TextV) (P : PlanV) : Option (Int32 × (Nat → Int32) × (Nat → Int32) × (Nat → Int32) × (Nat → Int32) × Int32 × Int32 × Int32 × Int32) :=
  (MX3_clear N).bind (fun u1 => MX6_readInto_l8 N Tx N (0 : Int32) (0 : Int32) Tx.2.1 P.1 P.2.1 P.2.2.1 u1.1 u1.2.1 u1.2.2.1 u1.2.2.2)
set_option maxHeartbeats 4000000 in
set_option maxRecDepth 100000 in
theorem c_X6_readInto (l : Launch) (G : va_G) (cI cZ cL : ClassId) (N : Nat) (aTx : Nat → Nat) (aP : Nat → Nat) (Tx : TextV) (P : PlanV) (rr : Int32 × (Nat → Int32) × (Nat → Int32) × (Nat → Int32) × (Nat → Int32) × Int32 × Int32 × Int32 × Int32) (hM : MX6_readInto N Tx P = some rr) : CtI l yX6_readInto cX6_readInto 5 .int 4 95 G cI cZ cL [.ref (aTx 0), .ref (aP 0)] [wText cI aTx Tx, wPlan cI aP P] rr.1 [wText cI aTx (Tx.1, rr.2.1, Tx.2.2), wPlan cI aP (rr.2.2.1, rr.2.2.2.1, rr.2.2.2.2.1, rr.2.2.2.2.2.1, rr.2.2.2.2.2.2.1, rr.2.2.2.2.2.2.2.1, rr.2.2.2.2.2.2.2.2)] := by
  refine ct_body (fun A => qI G rr.1 [wText cI aTx (Tx.1, rr.2.1, Tx.2.2), wPlan cI aP (rr.2.2.1, rr.2.2.2.1, rr.2.2.2.2.1, rr.2.2.2.2.2.1, rr.2.2.2.2.2.2.1, rr.2.2.2.2.2.2.2.1, rr.2.2.2.2.2.2.2.2)] A) (by decide) (Nat.le_of_ble_eq_true rfl) (fun p e s m below meth c A ls X hW hl => ?_)
  have hx := X.1
  have hb := X.2.1
  have hts := X.2.2.2.2.2.1
  have hown := X.2.2.2.2.2.2.1
  have hl : lv_has ls 5 [(0, .ref (aTx 0)), (1, .ref (aP 0))] := hl
  unfold MX6_readInto at hM
  refine lv_aload_n hx hb dX6_readInto_0 rfl (lv_at hl 1 rfl) ?_
  obtain ⟨u1, hu1, hM⟩ := bind_some hM
  refine g_callVv (rest := []) (gr := [wText cI aTx Tx]) X hl.1 hW (c_X3_clear l G cI cZ cL N aP P u1 hu1) q_319 q_316 q_317 q_318 q_56 hd_X3_clear rfl ⟨Nat.le_of_ble_eq_true rfl, Nat.le_of_ble_eq_true rfl⟩ ⟨Nat.zero_le _, Nat.zero_le _⟩ [1] [0] [wText cI aTx Tx, wPlan cI aP (P.1, P.2.1, P.2.2.1, u1.1, u1.2.1, u1.2.2.1, u1.2.2.2)] ⟨pm_2_1, rfl, rfl, rfl⟩ ⟨pm_2_1, rfl, rfl, rfl⟩ (q0 := 3) rfl rfl rfl (Nat.le_of_ble_eq_true rfl) dX6_readInto_1 (fun H locs hW => ?_)
  refine lv_iconst (v := (0 : Int32)) hx hb dX6_readInto_4 (by decide) ?_
  refine lv_istore_n (lv' := [(2, .int (0 : Int32)), (0, .ref (aTx 0)), (1, .ref (aP 0))]) hx hb dX6_readInto_5 rfl hl (by decide) rfl (fun ls hl => ?_)
  refine lv_iconst (v := (0 : Int32)) hx hb dX6_readInto_6 (by decide) ?_
  refine lv_istore_n (lv' := [(3, .int (0 : Int32)), (2, .int (0 : Int32)), (0, .ref (aTx 0)), (1, .ref (aP 0))]) hx hb dX6_readInto_7 rfl hl (by decide) rfl (fun ls hl => ?_)
  have j47 : ∀ (yTx1_47 : (Nat → Int32)) (yP0_47 : (Nat → Int32)) (yP1_47 : (Nat → Int32)) (yP2_47 : (Nat → Int32)) (yP3_47 : Int32) (yP4_47 : Int32) (yP5_47 : Int32) (yP6_47 : Int32) (H : Heap) (locs : List Loc) (ls : Array Slot), Wd G A s [wText cI aTx (Tx.1, yTx1_47, Tx.2.2), wPlan cI aP (yP0_47, yP1_47, yP2_47, yP3_47, yP4_47, yP5_47, yP6_47)] H locs → lv_has ls 5 [] → MX6_readInto_j47 yTx1_47 yP0_47 yP1_47 yP2_47 yP3_47 yP4_47 yP5_47 yP6_47 = some rr → W p l e (rmO 4 95) s m ([.ref (aTx 0), .ref (aP 0)] : List Value).toArray below meth c H locs 0 0 (MQ below (qI G rr.1 [wText cI aTx (Tx.1, rr.2.1, Tx.2.2), wPlan cI aP (rr.2.2.1, rr.2.2.2.1, rr.2.2.2.2.1, rr.2.2.2.2.2.1, rr.2.2.2.2.2.2.1, rr.2.2.2.2.2.2.2.1, rr.2.2.2.2.2.2.2.2)] A) ([.ref (aTx 0), .ref (aP 0)] : List Value).toArray s 0 0 A) (F0 m 47 ls []) := by
    intro yTx1_47 yP0_47 yP1_47 yP2_47 yP3_47 yP4_47 yP5_47 yP6_47 H locs ls hW hl hM
    unfold MX6_readInto_j47 at hM
    refine lv_bipush (v := (-4 : Int32)) hx hb dX6_readInto_47 (by decide) ?_
    obtain rfl := Option.some.inj hM
    exact g_reti X hW rfl rfl dX6_readInto_49
  have lp8 : ∀ (n8 : Nat) (x2_8 : Int32) (x3_8 : Int32) (yTx1_8 : (Nat → Int32)) (yP0_8 : (Nat → Int32)) (yP1_8 : (Nat → Int32)) (yP2_8 : (Nat → Int32)) (yP3_8 : Int32) (yP4_8 : Int32) (yP5_8 : Int32) (yP6_8 : Int32) (H : Heap) (locs : List Loc) (ls : Array Slot), Wd G A s [wText cI aTx (Tx.1, yTx1_8, Tx.2.2), wPlan cI aP (yP0_8, yP1_8, yP2_8, yP3_8, yP4_8, yP5_8, yP6_8)] H locs → lv_has ls 5 [(0, .ref (aTx 0)), (1, .ref (aP 0)), (2, .int x2_8), (3, .int x3_8)] → MX6_readInto_l8 N Tx n8 x2_8 x3_8 yTx1_8 yP0_8 yP1_8 yP2_8 yP3_8 yP4_8 yP5_8 yP6_8 = some rr → W p l e (rmO 4 95) s m ([.ref (aTx 0), .ref (aP 0)] : List Value).toArray below meth c H locs 0 0 (MQ below (qI G rr.1 [wText cI aTx (Tx.1, rr.2.1, Tx.2.2), wPlan cI aP (rr.2.2.1, rr.2.2.2.1, rr.2.2.2.2.1, rr.2.2.2.2.2.1, rr.2.2.2.2.2.2.1, rr.2.2.2.2.2.2.2.1, rr.2.2.2.2.2.2.2.2)] A) ([.ref (aTx 0), .ref (aP 0)] : List Value).toArray s 0 0 A) (F0 m 8 ls []) := by
    intro n8
    induction n8 with
    | zero =>
      intro x2_8 x3_8 yTx1_8 yP0_8 yP1_8 yP2_8 yP3_8 yP4_8 yP5_8 yP6_8 H locs ls hW hl hM
      rw [MX6_readInto_l8] at hM
      cases hM
    | succ n8 ih8 =>
      intro x2_8 x3_8 yTx1_8 yP0_8 yP1_8 yP2_8 yP3_8 yP4_8 yP5_8 yP6_8 H locs ls hW hl hM
      rw [MX6_readInto_l8] at hM
      refine lv_iload_n hx hb dX6_readInto_8 rfl (lv_at hl 3 rfl) ?_
      refine lv_sipush (v := (200 : Int32)) hx hb dX6_readInto_9 (by decide) ?_
      refine lv_icmp_ge (tgt := 47) hx hb dX6_readInto_12 (by decide) (fun hc => ?_) (fun hc => ?_)
      · have hM := (if_pos hc).symm.trans hM
        exact j47 yTx1_8 yP0_8 yP1_8 yP2_8 yP3_8 yP4_8 yP5_8 yP6_8 _ _ _ hW (lv_sub hl [] rfl) hM
      · have hM := (if_neg hc).symm.trans hM
        refine lv_iload_n hx hb dX6_readInto_15 rfl (lv_at hl 2 rfl) ?_
        refine lv_aload_n hx hb dX6_readInto_16 rfl (lv_at hl 0 rfl) ?_
        refine g_get X hW 0 rfl rfl inX6 2 (by decide) q_86 rfl dX6_readInto_17 ?_
        refine lv_icmp_ge (tgt := 47) hx hb dX6_readInto_20 (by decide) (fun hc => ?_) (fun hc => ?_)
        · have hM := (if_pos hc).symm.trans hM
          exact j47 yTx1_8 yP0_8 yP1_8 yP2_8 yP3_8 yP4_8 yP5_8 yP6_8 _ _ _ hW (lv_sub hl [] rfl) hM
        · have hM := (if_neg hc).symm.trans hM
          refine lv_aload_n hx hb dX6_readInto_23 rfl (lv_at hl 0 rfl) ?_
          refine lv_aload_n hx hb dX6_readInto_24 rfl (lv_at hl 1 rfl) ?_
          refine lv_iload_n hx hb dX6_readInto_25 rfl (lv_at hl 2 rfl) ?_
          obtain ⟨u26, hu26, hM⟩ := bind_some hM
          refine g_callVi (rest := []) (gr := []) X hl.1 hW (c_X6_readItem l G cI cZ cL N aTx aP (Tx.1, yTx1_8, Tx.2.2) (yP0_8, yP1_8, yP2_8, yP3_8, yP4_8, yP5_8, yP6_8) x2_8 u26 hu26) q_323 q_320 q_322 q_0 q_55 hd_X6_readItem rfl ⟨Nat.le_of_ble_eq_true rfl, Nat.le_of_ble_eq_true rfl⟩ ⟨Nat.zero_le _, Nat.zero_le _⟩ [0, 1] [] [wText cI aTx (Tx.1, u26.2.1, Tx.2.2), wPlan cI aP (u26.2.2.1, u26.2.2.2.1, u26.2.2.2.2.1, u26.2.2.2.2.2.1, u26.2.2.2.2.2.2.1, u26.2.2.2.2.2.2.2.1, u26.2.2.2.2.2.2.2.2)] ⟨pm_2_0_1, rfl, rfl, rfl⟩ ⟨pm_2_0_1, rfl, rfl, rfl⟩ (q0 := 0) rfl rfl rfl (Nat.le_of_ble_eq_true rfl) dX6_readInto_26 (fun H locs hW => ?_)
          refine lv_istore (lv' := [(4, .int u26.1), (0, .ref (aTx 0)), (1, .ref (aP 0)), (2, .int x2_8), (3, .int x3_8)]) hx hb dX6_readInto_29 hl (by decide) rfl (fun ls hl => ?_)
          refine lv_iload hx hb dX6_readInto_31 (lv_at hl 0 rfl) ?_
          refine lv_if_ge (tgt := 38) hx hb dX6_readInto_33 (by decide) (fun hc => ?_) (fun hc => ?_)
          · have hM := (if_pos hc).symm.trans hM
            refine lv_iload hx hb dX6_readInto_38 (lv_at hl 0 rfl) ?_
            refine lv_istore_n (lv' := [(2, .int u26.1), (4, .int u26.1), (0, .ref (aTx 0)), (1, .ref (aP 0)), (3, .int x3_8)]) hx hb dX6_readInto_40 rfl hl (by decide) rfl (fun ls hl => ?_)
            refine lv_iinc (v := x3_8 + (1 : Int32)) (lv' := [(3, .int (x3_8 + (1 : Int32))), (2, .int u26.1), (4, .int u26.1), (0, .ref (aTx 0)), (1, .ref (aP 0))]) hx hb dX6_readInto_41 hl (k := 4) rfl rfl (by decide) rfl (fun ls hl => ?_)
            refine lv_goto (tgt := 8) hx hb dX6_readInto_44 (by decide) ?_
            exact ih8 u26.1 (x3_8 + (1 : Int32)) u26.2.1 u26.2.2.1 u26.2.2.2.1 u26.2.2.2.2.1 u26.2.2.2.2.2.1 u26.2.2.2.2.2.2.1 u26.2.2.2.2.2.2.2.1 u26.2.2.2.2.2.2.2.2 _ _ _ hW (lv_sub hl [3, 4, 1, 0] rfl) hM
          · have hM := (if_neg hc).symm.trans hM
            refine lv_iload_n hx hb dX6_readInto_36 rfl (lv_at hl 3 rfl) ?_
            obtain rfl := Option.some.inj hM
            exact g_reti X hW rfl rfl dX6_readInto_37
  exact lp8 N (0 : Int32) (0 : Int32) Tx.2.1 P.1 P.2.1 P.2.2.1 u1.1 u1.2.1 u1.2.2.1 u1.2.2.2 _ _ _ hW (lv_sub hl [2, 3, 1, 0] rfl) hM
