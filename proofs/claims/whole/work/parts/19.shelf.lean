def MX5_empty (N : Nat) : Option (Int32) :=
  some ((0 : Int32))
set_option maxHeartbeats 4000000 in
set_option maxRecDepth 100000 in
theorem c_X5_empty (l : Launch) (G : va_G) (cI cZ cL : ClassId) (N : Nat) (aSh : Nat → Nat) (laSh : Nat → Nat → Nat) (nSh : Nat) (Sh : ShelfV) (rr : Int32) (hM : MX5_empty N = some rr) : CtV l yX5_empty cX5_empty 1 0 0 G cI cZ cL [.ref (aSh 0)] [wShelf cI cL nSh aSh laSh Sh] [wShelf cI cL nSh aSh laSh (Sh.1, rr, Sh.2.2)] := by
  refine ct_body (fun A => qV G [wShelf cI cL nSh aSh laSh (Sh.1, rr, Sh.2.2)] A) (by decide) (Nat.le_of_ble_eq_true rfl) (fun p e s m below meth c A ls X hW hl => ?_)
  have hx := X.1
  have hb := X.2.1
  have hts := X.2.2.2.2.2.1
  have hown := X.2.2.2.2.2.2.1
  have hl : lv_has ls 1 [(0, .ref (aSh 0))] := hl
  unfold MX5_empty at hM
  refine lv_aload_n hx hb dX5_empty_0 rfl (lv_at hl 0 rfl) ?_
  refine lv_iconst (v := (0 : Int32)) hx hb dX5_empty_1 (by decide) ?_
  refine g_put X hW 0 rfl rfl inX5 tyX5 tyX5_ok nmX5 2 (by decide) q_250 rfl rfl (Nat.le_of_ble_eq_true rfl) [wShelf cI cL nSh aSh laSh (Sh.1, (0 : Int32), Sh.2.2)] rfl dX5_empty_2 (fun H locs hW => ?_)
  obtain rfl := Option.some.inj hM
  exact g_retv X hW dX5_empty_5

def MX5_push_j70 (nSh : Nat) (Sh : ShelfV) (u42 : (Nat → Int32) × (Nat → Int32) × (Nat → Int32) × (Nat → Int32) × (Nat → Int32) × Int32 × Int32 × Int32 × Int32) (t1_70 : Int32) : Option (Int32 × Int32 × (Nat → LineV)) :=
  some (t1_70, (if (Int32.ofNat nSh) < (Sh.2.1 + (1 : Int32)) then (Int32.ofNat nSh) else (Sh.2.1 + (1 : Int32))), (va_up Sh.2.2 Sh.1.toNatClampNeg u42))
def MX5_push (N : Nat) (Sh : ShelfV) (nSh : Nat) (L : LineV) : Option (Int32 × Int32 × (Nat → LineV)) :=
  if Sh.1 < 0 then some (Sh.1, Sh.2.1, Sh.2.2) else (if (Int32.ofNat nSh) ≤ Sh.1 then some (Sh.1, Sh.2.1, Sh.2.2) else MG Sh.1 nSh (MG Sh.1 nSh ((MX1_copyFrom N (Sh.2.2 Sh.1.toNatClampNeg) L).bind (fun u42 => if (Int32.ofNat nSh) ≤ (Sh.1 + (1 : Int32)) then MX5_push_j70 nSh Sh u42 (0 : Int32) else MX5_push_j70 nSh Sh u42 (Sh.1 + (1 : Int32))))))
set_option maxHeartbeats 4000000 in
set_option maxRecDepth 100000 in
theorem c_X5_push (l : Launch) (G : va_G) (cI cZ cL : ClassId) (N : Nat) (aSh : Nat → Nat) (laSh : Nat → Nat → Nat) (nSh : Nat) (aL : Nat → Nat) (Sh : ShelfV) (L : LineV) (rr : Int32 × Int32 × (Nat → LineV)) (hM : MX5_push N Sh nSh L = some rr) : CtV l yX5_push cX5_push 2 2 39 G cI cZ cL [.ref (aSh 0), .ref (aL 0)] [wShelf cI cL nSh aSh laSh Sh, wLine cI aL L] [wShelf cI cL nSh aSh laSh rr, wLine cI aL L] := by
  refine ct_body (fun A => qV G [wShelf cI cL nSh aSh laSh rr, wLine cI aL L] A) (by decide) (Nat.le_of_ble_eq_true rfl) (fun p e s m below meth c A ls X hW hl => ?_)
  have hx := X.1
  have hb := X.2.1
  have hts := X.2.2.2.2.2.1
  have hown := X.2.2.2.2.2.2.1
  have hl : lv_has ls 2 [(0, .ref (aSh 0)), (1, .ref (aL 0))] := hl
  unfold MX5_push at hM
  refine lv_aload_n hx hb dX5_push_0 rfl (lv_at hl 0 rfl) ?_
  refine g_get X hW 0 rfl rfl inX5 1 (by decide) q_249 rfl dX5_push_1 ?_
  refine lv_if_lt (tgt := 31) hx hb dX5_push_4 (by decide) (fun hc => ?_) (fun hc => ?_)
  · have hM := (if_pos hc).symm.trans hM
    obtain rfl := Option.some.inj hM
    exact g_retv X hW dX5_push_31
  · have hM := (if_neg hc).symm.trans hM
    refine lv_aload_n hx hb dX5_push_7 rfl (lv_at hl 0 rfl) ?_
    refine g_get X hW 0 rfl rfl inX5 1 (by decide) q_249 rfl dX5_push_8 ?_
    refine lv_aload_n hx hb dX5_push_11 rfl (lv_at hl 0 rfl) ?_
    refine g_get X hW 0 rfl rfl inX5 0 (by decide) q_248 rfl dX5_push_12 ?_
    refine g_alenq X hW 1 rfl (v := Int32.ofNat nSh) rfl dX5_push_15 ?_
    refine lv_icmp_ge (tgt := 31) hx hb dX5_push_16 (by decide) (fun hc => ?_) (fun hc => ?_)
    · have hM := (if_pos hc).symm.trans hM
      obtain rfl := Option.some.inj hM
      exact g_retv X hW dX5_push_31
    · have hM := (if_neg hc).symm.trans hM
      refine lv_aload_n hx hb dX5_push_19 rfl (lv_at hl 0 rfl) ?_
      refine g_get X hW 0 rfl rfl inX5 0 (by decide) q_248 rfl dX5_push_20 ?_
      refine lv_aload_n hx hb dX5_push_23 rfl (lv_at hl 0 rfl) ?_
      refine g_get X hW 0 rfl rfl inX5 1 (by decide) q_249 rfl dX5_push_24 ?_
      obtain ⟨hi27, hM⟩ := MG_some hM
      refine g_aldq X hW 1 rfl hi27 (b := laSh Sh.1.toNatClampNeg 0) (if_pos (vp_lt hi27)) dX5_push_27 ?_
      refine lv_ifnonnull (tgt := 32) hx hb dX5_push_28 (by decide) ?_
      refine lv_aload_n hx hb dX5_push_32 rfl (lv_at hl 0 rfl) ?_
      refine g_get X hW 0 rfl rfl inX5 0 (by decide) q_248 rfl dX5_push_33 ?_
      refine lv_aload_n hx hb dX5_push_36 rfl (lv_at hl 0 rfl) ?_
      refine g_get X hW 0 rfl rfl inX5 1 (by decide) q_249 rfl dX5_push_37 ?_
      obtain ⟨hi40, hM⟩ := MG_some hM
      refine g_aldq X hW 1 rfl hi40 (b := laSh Sh.1.toNatClampNeg 0) (if_pos (vp_lt hi40)) dX5_push_40 ?_
      refine lv_aload_n hx hb dX5_push_41 rfl (lv_at hl 1 rfl) ?_
      obtain ⟨u42, hu42, hM⟩ := bind_some hM
      have hW := sh_open (i := Sh.1.toNatClampNeg) (vp_lt hi40) hW
      refine g_callVv (rest := []) (gr := [wShHead cL nSh aSh laSh Sh.1 Sh.2.1, wShRest cI nSh laSh Sh.2.2 Sh.1.toNatClampNeg]) X hl.1 hW (c_X1_copyFrom l G cI cZ cL N (laSh Sh.1.toNatClampNeg) aL (Sh.2.2 Sh.1.toNatClampNeg) L u42 hu42) q_486 q_483 q_484 q_485 q_58 hd_X1_copyFrom rfl ⟨Nat.le_of_ble_eq_true rfl, Nat.le_of_ble_eq_true rfl⟩ ⟨Nat.zero_le _, Nat.zero_le _⟩ [1, 2] [0, 3] [wShHead cL nSh aSh laSh Sh.1 Sh.2.1, wLine cI (laSh Sh.1.toNatClampNeg) u42, wLine cI aL L, wShRest cI nSh laSh Sh.2.2 Sh.1.toNatClampNeg] ⟨pm_4_1_2, rfl, rfl, rfl⟩ ⟨pm_4_1_2, rfl, rfl, rfl⟩ (q0 := 2) rfl rfl rfl (Nat.le_of_ble_eq_true rfl) dX5_push_42 (fun H locs hW => ?_)
      have hW := sh_close (i := Sh.1.toNatClampNeg) (vp_lt hi40) hW
      have hW : Wd G A s [wShelf cI cL nSh aSh laSh (Sh.1, Sh.2.1, (va_up Sh.2.2 Sh.1.toNatClampNeg u42)), wLine cI aL L] H locs := hW
      refine lv_aload_n hx hb dX5_push_45 rfl (lv_at hl 0 rfl) ?_
      refine lv_aload_n hx hb dX5_push_46 rfl (lv_at hl 0 rfl) ?_
      refine g_get X hW 0 rfl rfl inX5 1 (by decide) q_249 rfl dX5_push_47 ?_
      refine lv_iconst (v := (1 : Int32)) hx hb dX5_push_50 (by decide) ?_
      refine lv_iadd hx hb dX5_push_51 ?_
      refine lv_aload_n hx hb dX5_push_52 rfl (lv_at hl 0 rfl) ?_
      refine g_get X hW 0 rfl rfl inX5 0 (by decide) q_248 rfl dX5_push_53 ?_
      refine g_alenq X hW 1 rfl (v := Int32.ofNat nSh) rfl dX5_push_56 ?_
      have j70 : ∀ (t1_70 : Int32) (H : Heap) (locs : List Loc) (ls : Array Slot), Wd G A s [wShelf cI cL nSh aSh laSh (Sh.1, Sh.2.1, (va_up Sh.2.2 Sh.1.toNatClampNeg u42)), wLine cI aL L] H locs → lv_has ls 2 [(0, .ref (aSh 0))] → MX5_push_j70 nSh Sh u42 t1_70 = some rr → W p l e (rmO 2 39) s m ([.ref (aSh 0), .ref (aL 0)] : List Value).toArray below meth c H locs 0 0 (MQ below (qV G [wShelf cI cL nSh aSh laSh rr, wLine cI aL L] A) ([.ref (aSh 0), .ref (aL 0)] : List Value).toArray s 0 0 A) (F0 m 70 ls [.int t1_70, .ref (aSh 0)]) := by
        intro t1_70 H locs ls hW hl hM
        unfold MX5_push_j70 at hM
        refine g_put X hW 0 rfl rfl inX5 tyX5 tyX5_ok nmX5 1 (by decide) q_249 rfl rfl (Nat.le_of_ble_eq_true rfl) [wShelf cI cL nSh aSh laSh (t1_70, Sh.2.1, (va_up Sh.2.2 Sh.1.toNatClampNeg u42)), wLine cI aL L] rfl dX5_push_70 (fun H locs hW => ?_)
        refine lv_aload_n hx hb dX5_push_73 rfl (lv_at hl 0 rfl) ?_
        refine lv_aload_n hx hb dX5_push_74 rfl (lv_at hl 0 rfl) ?_
        refine g_get X hW 0 rfl rfl inX5 2 (by decide) q_250 rfl dX5_push_75 ?_
        refine lv_iconst (v := (1 : Int32)) hx hb dX5_push_78 (by decide) ?_
        refine lv_iadd hx hb dX5_push_79 ?_
        refine lv_aload_n hx hb dX5_push_80 rfl (lv_at hl 0 rfl) ?_
        refine g_get X hW 0 rfl rfl inX5 0 (by decide) q_248 rfl dX5_push_81 ?_
        refine g_alenq X hW 1 rfl (v := Int32.ofNat nSh) rfl dX5_push_84 ?_
        refine g_min X hl.1 q_488 q_489 q_62 q_490 (Nat.le_of_ble_eq_true rfl) (Nat.le_of_ble_eq_true rfl) (Nat.zero_le _) (Nat.zero_le _) dX5_push_85 ?_
        refine g_put X hW 0 rfl rfl inX5 tyX5 tyX5_ok nmX5 2 (by decide) q_250 rfl rfl (Nat.le_of_ble_eq_true rfl) [wShelf cI cL nSh aSh laSh (t1_70, (if (Int32.ofNat nSh) < (Sh.2.1 + (1 : Int32)) then (Int32.ofNat nSh) else (Sh.2.1 + (1 : Int32))), (va_up Sh.2.2 Sh.1.toNatClampNeg u42)), wLine cI aL L] rfl dX5_push_88 (fun H locs hW => ?_)
        obtain rfl := Option.some.inj hM
        exact g_retv X hW dX5_push_91
      refine lv_icmp_ge (tgt := 69) hx hb dX5_push_57 (by decide) (fun hc => ?_) (fun hc => ?_)
      · have hM := (if_pos hc).symm.trans hM
        refine lv_iconst (v := (0 : Int32)) hx hb dX5_push_69 (by decide) ?_
        exact j70 (0 : Int32) _ _ _ hW (lv_sub hl [0] rfl) hM
      · have hM := (if_neg hc).symm.trans hM
        refine lv_aload_n hx hb dX5_push_60 rfl (lv_at hl 0 rfl) ?_
        refine g_get X hW 0 rfl rfl inX5 1 (by decide) q_249 rfl dX5_push_61 ?_
        refine lv_iconst (v := (1 : Int32)) hx hb dX5_push_64 (by decide) ?_
        refine lv_iadd hx hb dX5_push_65 ?_
        refine lv_goto (tgt := 70) hx hb dX5_push_66 (by decide) ?_
        exact j70 (Sh.1 + (1 : Int32)) _ _ _ hW (lv_sub hl [0] rfl) hM

def MX5_popInto_j33 (N : Nat) (nSh : Nat) (Sh : ShelfV) (L : LineV) (t0_33 : Int32) : Option (Int32 × Int32 × Int32 × (Nat → Int32) × (Nat → Int32) × (Nat → Int32) × (Nat → Int32) × (Nat → Int32) × Int32 × Int32 × Int32 × Int32) :=
  if t0_33 < 0 then some ((0 : Int32), Sh.1, Sh.2.1, L.1, L.2.1, L.2.2.1, L.2.2.2.1, L.2.2.2.2.1, L.2.2.2.2.2.1, L.2.2.2.2.2.2.1, L.2.2.2.2.2.2.2.1, L.2.2.2.2.2.2.2.2) else (if (Int32.ofNat nSh) ≤ t0_33 then some ((0 : Int32), Sh.1, Sh.2.1, L.1, L.2.1, L.2.2.1, L.2.2.2.1, L.2.2.2.2.1, L.2.2.2.2.2.1, L.2.2.2.2.2.2.1, L.2.2.2.2.2.2.2.1, L.2.2.2.2.2.2.2.2) else MG t0_33 nSh (MG t0_33 nSh ((MX1_copyFrom N L (Sh.2.2 t0_33.toNatClampNeg)).bind (fun u65 => some ((1 : Int32), t0_33, (Sh.2.1 - (1 : Int32)), u65.1, u65.2.1, u65.2.2.1, u65.2.2.2.1, u65.2.2.2.2.1, u65.2.2.2.2.2.1, u65.2.2.2.2.2.2.1, u65.2.2.2.2.2.2.2.1, u65.2.2.2.2.2.2.2.2)))))
def MX5_popInto (N : Nat) (Sh : ShelfV) (nSh : Nat) (L : LineV) : Option (Int32 × Int32 × Int32 × (Nat → Int32) × (Nat → Int32) × (Nat → Int32) × (Nat → Int32) × (Nat → Int32) × Int32 × Int32 × Int32 × Int32) :=
  if (1 : Int32) ≤ Sh.2.1 then (if Sh.1 ≤ 0 then MX5_popInto_j33 N nSh Sh L ((Int32.ofNat nSh) - (1 : Int32)) else MX5_popInto_j33 N nSh Sh L (Sh.1 - (1 : Int32))) else some ((0 : Int32), Sh.1, Sh.2.1, L.1, L.2.1, L.2.2.1, L.2.2.2.1, L.2.2.2.2.1, L.2.2.2.2.2.1, L.2.2.2.2.2.2.1, L.2.2.2.2.2.2.2.1, L.2.2.2.2.2.2.2.2)
set_option maxHeartbeats 4000000 in
set_option maxRecDepth 100000 in
theorem c_X5_popInto (l : Launch) (G : va_G) (cI cZ cL : ClassId) (N : Nat) (aSh : Nat → Nat) (laSh : Nat → Nat → Nat) (nSh : Nat) (aL : Nat → Nat) (Sh : ShelfV) (L : LineV) (rr : Int32 × Int32 × Int32 × (Nat → Int32) × (Nat → Int32) × (Nat → Int32) × (Nat → Int32) × (Nat → Int32) × Int32 × Int32 × Int32 × Int32) (hM : MX5_popInto N Sh nSh L = some rr) : CtI l yX5_popInto cX5_popInto 3 .boolean 2 39 G cI cZ cL [.ref (aSh 0), .ref (aL 0)] [wShelf cI cL nSh aSh laSh Sh, wLine cI aL L] rr.1 [wShelf cI cL nSh aSh laSh (rr.2.1, rr.2.2.1, Sh.2.2), wLine cI aL (rr.2.2.2.1, rr.2.2.2.2.1, rr.2.2.2.2.2.1, rr.2.2.2.2.2.2.1, rr.2.2.2.2.2.2.2.1, rr.2.2.2.2.2.2.2.2.1, rr.2.2.2.2.2.2.2.2.2.1, rr.2.2.2.2.2.2.2.2.2.2.1, rr.2.2.2.2.2.2.2.2.2.2.2)] := by
  refine ct_body (fun A => qI G rr.1 [wShelf cI cL nSh aSh laSh (rr.2.1, rr.2.2.1, Sh.2.2), wLine cI aL (rr.2.2.2.1, rr.2.2.2.2.1, rr.2.2.2.2.2.1, rr.2.2.2.2.2.2.1, rr.2.2.2.2.2.2.2.1, rr.2.2.2.2.2.2.2.2.1, rr.2.2.2.2.2.2.2.2.2.1, rr.2.2.2.2.2.2.2.2.2.2.1, rr.2.2.2.2.2.2.2.2.2.2.2)] A) (by decide) (Nat.le_of_ble_eq_true rfl) (fun p e s m below meth c A ls X hW hl => ?_)
  have hx := X.1
  have hb := X.2.1
  have hts := X.2.2.2.2.2.1
  have hown := X.2.2.2.2.2.2.1
  have hl : lv_has ls 3 [(0, .ref (aSh 0)), (1, .ref (aL 0))] := hl
  unfold MX5_popInto at hM
  refine lv_aload_n hx hb dX5_popInto_0 rfl (lv_at hl 0 rfl) ?_
  refine g_get X hW 0 rfl rfl inX5 2 (by decide) q_250 rfl dX5_popInto_1 ?_
  refine lv_iconst (v := (1 : Int32)) hx hb dX5_popInto_4 (by decide) ?_
  refine lv_icmp_ge (tgt := 10) hx hb dX5_popInto_5 (by decide) (fun hc => ?_) (fun hc => ?_)
  · have hM := (if_pos hc).symm.trans hM
    refine lv_aload_n hx hb dX5_popInto_10 rfl (lv_at hl 0 rfl) ?_
    refine g_get X hW 0 rfl rfl inX5 1 (by decide) q_249 rfl dX5_popInto_11 ?_
    have j33 : ∀ (t0_33 : Int32) (H : Heap) (locs : List Loc) (ls : Array Slot), Wd G A s [wShelf cI cL nSh aSh laSh Sh, wLine cI aL L] H locs → lv_has ls 3 [(0, .ref (aSh 0)), (1, .ref (aL 0))] → MX5_popInto_j33 N nSh Sh L t0_33 = some rr → W p l e (rmO 2 39) s m ([.ref (aSh 0), .ref (aL 0)] : List Value).toArray below meth c H locs 0 0 (MQ below (qI G rr.1 [wShelf cI cL nSh aSh laSh (rr.2.1, rr.2.2.1, Sh.2.2), wLine cI aL (rr.2.2.2.1, rr.2.2.2.2.1, rr.2.2.2.2.2.1, rr.2.2.2.2.2.2.1, rr.2.2.2.2.2.2.2.1, rr.2.2.2.2.2.2.2.2.1, rr.2.2.2.2.2.2.2.2.2.1, rr.2.2.2.2.2.2.2.2.2.2.1, rr.2.2.2.2.2.2.2.2.2.2.2)] A) ([.ref (aSh 0), .ref (aL 0)] : List Value).toArray s 0 0 A) (F0 m 33 ls [.int t0_33]) := by
      intro t0_33 H locs ls hW hl hM
      unfold MX5_popInto_j33 at hM
      refine lv_istore_n (lv' := [(2, .int t0_33), (0, .ref (aSh 0)), (1, .ref (aL 0))]) hx hb dX5_popInto_33 rfl hl (by decide) rfl (fun ls hl => ?_)
      refine lv_iload_n hx hb dX5_popInto_34 rfl (lv_at hl 0 rfl) ?_
      refine lv_if_lt (tgt := 56) hx hb dX5_popInto_35 (by decide) (fun hc => ?_) (fun hc => ?_)
      · have hM := (if_pos hc).symm.trans hM
        refine lv_iconst (v := (0 : Int32)) hx hb dX5_popInto_56 (by decide) ?_
        obtain rfl := Option.some.inj hM
        exact g_reti X hW rfl rfl dX5_popInto_57
      · have hM := (if_neg hc).symm.trans hM
        refine lv_iload_n hx hb dX5_popInto_38 rfl (lv_at hl 0 rfl) ?_
        refine lv_aload_n hx hb dX5_popInto_39 rfl (lv_at hl 1 rfl) ?_
        refine g_get X hW 0 rfl rfl inX5 0 (by decide) q_248 rfl dX5_popInto_40 ?_
        refine g_alenq X hW 1 rfl (v := Int32.ofNat nSh) rfl dX5_popInto_43 ?_
        refine lv_icmp_ge (tgt := 56) hx hb dX5_popInto_44 (by decide) (fun hc => ?_) (fun hc => ?_)
        · have hM := (if_pos hc).symm.trans hM
          refine lv_iconst (v := (0 : Int32)) hx hb dX5_popInto_56 (by decide) ?_
          obtain rfl := Option.some.inj hM
          exact g_reti X hW rfl rfl dX5_popInto_57
        · have hM := (if_neg hc).symm.trans hM
          refine lv_aload_n hx hb dX5_popInto_47 rfl (lv_at hl 1 rfl) ?_
          refine g_get X hW 0 rfl rfl inX5 0 (by decide) q_248 rfl dX5_popInto_48 ?_
          refine lv_iload_n hx hb dX5_popInto_51 rfl (lv_at hl 0 rfl) ?_
          obtain ⟨hi52, hM⟩ := MG_some hM
          refine g_aldq X hW 1 rfl hi52 (b := laSh t0_33.toNatClampNeg 0) (if_pos (vp_lt hi52)) dX5_popInto_52 ?_
          refine lv_ifnonnull (tgt := 58) hx hb dX5_popInto_53 (by decide) ?_
          refine lv_aload_n hx hb dX5_popInto_58 rfl (lv_at hl 2 rfl) ?_
          refine lv_aload_n hx hb dX5_popInto_59 rfl (lv_at hl 1 rfl) ?_
          refine g_get X hW 0 rfl rfl inX5 0 (by decide) q_248 rfl dX5_popInto_60 ?_
          refine lv_iload_n hx hb dX5_popInto_63 rfl (lv_at hl 0 rfl) ?_
          obtain ⟨hi64, hM⟩ := MG_some hM
          refine g_aldq X hW 1 rfl hi64 (b := laSh t0_33.toNatClampNeg 0) (if_pos (vp_lt hi64)) dX5_popInto_64 ?_
          obtain ⟨u65, hu65, hM⟩ := bind_some hM
          have hW := sh_open (i := t0_33.toNatClampNeg) (vp_lt hi64) hW
          refine g_callVv (rest := []) (gr := [wShHead cL nSh aSh laSh Sh.1 Sh.2.1, wShRest cI nSh laSh Sh.2.2 t0_33.toNatClampNeg]) X hl.1 hW (c_X1_copyFrom l G cI cZ cL N aL (laSh t0_33.toNatClampNeg) L (Sh.2.2 t0_33.toNatClampNeg) u65 hu65) q_486 q_483 q_484 q_485 q_58 hd_X1_copyFrom rfl ⟨Nat.le_of_ble_eq_true rfl, Nat.le_of_ble_eq_true rfl⟩ ⟨Nat.zero_le _, Nat.zero_le _⟩ [2, 1] [0, 3] [wShHead cL nSh aSh laSh Sh.1 Sh.2.1, wLine cI (laSh t0_33.toNatClampNeg) (Sh.2.2 t0_33.toNatClampNeg), wLine cI aL u65, wShRest cI nSh laSh Sh.2.2 t0_33.toNatClampNeg] ⟨pm_4_2_1, rfl, rfl, rfl⟩ ⟨pm_4_2_1, rfl, rfl, rfl⟩ (q0 := 8) rfl rfl rfl (Nat.le_of_ble_eq_true rfl) dX5_popInto_65 (fun H locs hW => ?_)
          have hW := sh_shut (i := t0_33.toNatClampNeg) (vp_lt hi64) hW
          have hW : Wd G A s [wShelf cI cL nSh aSh laSh Sh, wLine cI aL u65] H locs := hW
          refine lv_aload_n hx hb dX5_popInto_68 rfl (lv_at hl 1 rfl) ?_
          refine lv_iload_n hx hb dX5_popInto_69 rfl (lv_at hl 0 rfl) ?_
          refine g_put X hW 0 rfl rfl inX5 tyX5 tyX5_ok nmX5 1 (by decide) q_249 rfl rfl (Nat.le_of_ble_eq_true rfl) [wShelf cI cL nSh aSh laSh (t0_33, Sh.2), wLine cI aL u65] rfl dX5_popInto_70 (fun H locs hW => ?_)
          refine lv_aload_n hx hb dX5_popInto_73 rfl (lv_at hl 1 rfl) ?_
          refine lv_dup hx hb dX5_popInto_74 rfl ?_
          refine g_get X hW 0 rfl rfl inX5 2 (by decide) q_250 rfl dX5_popInto_75 ?_
          refine lv_iconst (v := (1 : Int32)) hx hb dX5_popInto_78 (by decide) ?_
          refine lv_isub hx hb dX5_popInto_79 ?_
          refine g_put X hW 0 rfl rfl inX5 tyX5 tyX5_ok nmX5 2 (by decide) q_250 rfl rfl (Nat.le_of_ble_eq_true rfl) [wShelf cI cL nSh aSh laSh (t0_33, (Sh.2.1 - (1 : Int32)), Sh.2.2), wLine cI aL u65] rfl dX5_popInto_80 (fun H locs hW => ?_)
          refine lv_iconst (v := (1 : Int32)) hx hb dX5_popInto_83 (by decide) ?_
          obtain rfl := Option.some.inj hM
          exact g_reti X hW rfl rfl dX5_popInto_84
    refine lv_if_le (tgt := 26) hx hb dX5_popInto_14 (by decide) (fun hc => ?_) (fun hc => ?_)
    · have hM := (if_pos hc).symm.trans hM
      refine lv_aload_n hx hb dX5_popInto_26 rfl (lv_at hl 0 rfl) ?_
      refine g_get X hW 0 rfl rfl inX5 0 (by decide) q_248 rfl dX5_popInto_27 ?_
      refine g_alenq X hW 1 rfl (v := Int32.ofNat nSh) rfl dX5_popInto_30 ?_
      refine lv_iconst (v := (1 : Int32)) hx hb dX5_popInto_31 (by decide) ?_
      refine lv_isub hx hb dX5_popInto_32 ?_
      exact j33 ((Int32.ofNat nSh) - (1 : Int32)) _ _ _ hW (lv_sub hl [0, 1] rfl) hM
    · have hM := (if_neg hc).symm.trans hM
      refine lv_aload_n hx hb dX5_popInto_17 rfl (lv_at hl 0 rfl) ?_
      refine g_get X hW 0 rfl rfl inX5 1 (by decide) q_249 rfl dX5_popInto_18 ?_
      refine lv_iconst (v := (1 : Int32)) hx hb dX5_popInto_21 (by decide) ?_
      refine lv_isub hx hb dX5_popInto_22 ?_
      refine lv_goto (tgt := 33) hx hb dX5_popInto_23 (by decide) ?_
      exact j33 (Sh.1 - (1 : Int32)) _ _ _ hW (lv_sub hl [0, 1] rfl) hM
  · have hM := (if_neg hc).symm.trans hM
    refine lv_iconst (v := (0 : Int32)) hx hb dX5_popInto_8 (by decide) ?_
    obtain rfl := Option.some.inj hM
    exact g_reti X hW rfl rfl dX5_popInto_9
