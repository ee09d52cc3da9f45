def adr (l : List Nat) : Nat → Nat := fun k => l.getD k 0
def zPlan : PlanV := ((fun _ => 0), (fun _ => 0), (fun _ => 0), 0, 0, 0, 0)
def zLine : LineV := ((fun _ => 0), (fun _ => 0), (fun _ => 0), (fun _ => 0), (fun _ => 0), 0, 0, 0, 0)
def zOrd : OrdV := ((fun _ => 0), (fun _ => 0), 0)
def zSeen : SeenV := ((fun _ => 0), (fun _ => 0), (fun _ => 0), 0)
def zText : TextV := ((fun _ => 0), (fun _ => 0), 0)
theorem hdN_X0 : yX0_init.cls ≠ "java/lang/invoke/MethodHandle" ∧ yX0_init.cls ≠ "java/lang/invoke/VarHandle" ∧ (parseMethodDescriptor yX0_init.desc).map (fun d => d.parameters.length) = some 0 := by decide +kernel
theorem hdN_X1 : yX1_init.cls ≠ "java/lang/invoke/MethodHandle" ∧ yX1_init.cls ≠ "java/lang/invoke/VarHandle" ∧ (parseMethodDescriptor yX1_init.desc).map (fun d => d.parameters.length) = some 0 := by decide +kernel
theorem hdN_X2 : yX2_init.cls ≠ "java/lang/invoke/MethodHandle" ∧ yX2_init.cls ≠ "java/lang/invoke/VarHandle" ∧ (parseMethodDescriptor yX2_init.desc).map (fun d => d.parameters.length) = some 0 := by decide +kernel
theorem hdN_X3 : yX3_init.cls ≠ "java/lang/invoke/MethodHandle" ∧ yX3_init.cls ≠ "java/lang/invoke/VarHandle" ∧ (parseMethodDescriptor yX3_init.desc).map (fun d => d.parameters.length) = some 0 := by decide +kernel
theorem hdN_X4 : yX4_init.cls ≠ "java/lang/invoke/MethodHandle" ∧ yX4_init.cls ≠ "java/lang/invoke/VarHandle" ∧ (parseMethodDescriptor yX4_init.desc).map (fun d => d.parameters.length) = some 0 := by decide +kernel
theorem hdN_X5 : yX5_init.cls ≠ "java/lang/invoke/MethodHandle" ∧ yX5_init.cls ≠ "java/lang/invoke/VarHandle" ∧ (parseMethodDescriptor yX5_init.desc).map (fun d => d.parameters.length) = some 1 := by decide +kernel
theorem hdN_X6 : yX6_init.cls ≠ "java/lang/invoke/MethodHandle" ∧ yX6_init.cls ≠ "java/lang/invoke/VarHandle" ∧ (parseMethodDescriptor yX6_init.desc).map (fun d => d.parameters.length) = some 0 := by decide +kernel
theorem hdN_X7 : yX7_init.cls ≠ "java/lang/invoke/MethodHandle" ∧ yX7_init.cls ≠ "java/lang/invoke/VarHandle" ∧ (parseMethodDescriptor yX7_init.desc).map (fun d => d.parameters.length) = some 0 := by decide +kernel
theorem hdN_X8 : yX8_init.cls ≠ "java/lang/invoke/MethodHandle" ∧ yX8_init.cls ≠ "java/lang/invoke/VarHandle" ∧ (parseMethodDescriptor yX8_init.desc).map (fun d => d.parameters.length) = some 0 := by decide +kernel
set_option maxHeartbeats 4000000 in
set_option maxRecDepth 100000 in
theorem n_X3_init (l : Launch) (G : va_G) (cI cZ cL : ClassId) (h0 : Nat) : CtN E0 l yX3_init cX3_init 1 1 12 3 27 G cI cZ cL [.ref h0] [[(h0, .inr (3, [.null, .null, .null, .int 0, .int 0, .int 0, .int 0]))]] (fun a : Nat → Nat => a 0 = h0) (fun a : Nat → Nat => [wPlan cI a zPlan]) := by
  refine ctE_body (fun A => qN G (fun a : Nat → Nat => a 0 = h0) (fun a : Nat → Nat => [wPlan cI a zPlan]) A) (by decide) (Nat.le_of_ble_eq_true rfl) (fun p e s m below meth c A ls X hin hW hE hl => ?_)
  have hx := X.1
  have hb := X.2.1
  have hl : lv_has ls 1 [(0, .ref h0)] := hl
  refine lv_aload_n hx hb dX3_init_0 rfl (lv_at hl 0 rfl) ?_
  refine g_obj X hl.1 q_101 q_76 q_77 (Nat.le_of_ble_eq_true rfl) (Nat.le_of_ble_eq_true rfl) dX3_init_1 ?_
  refine lv_aload_n hx hb dX3_init_4 rfl (lv_at hl 0 rfl) ?_
  refine lv_bipush (v := (9 : Int32)) hx hb dX3_init_5 (by decide) ?_
  refine g_newa X hW q_95 9 (by decide) (by decide) (by decide) (Nat.le_of_ble_eq_true rfl) (Nat.le_of_ble_eq_true rfl) dX3_init_7 (fun q7 H hV7 => ?_)
  have hW7 : Wd G A s [[(h0, .inr (3, [.null, .null, .null, .int 0, .int 0, .int 0, .int 0]))], [(q7, .inl (cI, 9, .inl (fun _ => 0)))]] H _ := hV7
  refine g_putF X hin hW7 0 rfl rfl inX3 tyX3 tyX3_ok nmX3 0 (by decide) q_102 rfl rfl rfl rfl (Nat.le_of_ble_eq_true rfl) [[(h0, .inr (3, [.ref q7, .null, .null, .int 0, .int 0, .int 0, .int 0]))], [(q7, .inl (cI, 9, .inl (fun _ => 0)))]] rfl dX3_init_9 (fun H _ hV9 => ?_)
  refine lv_aload_n hx hb dX3_init_12 rfl (lv_at hl 0 rfl) ?_
  refine lv_bipush (v := (9 : Int32)) hx hb dX3_init_13 (by decide) ?_
  refine g_newa X hV9 q_95 9 (by decide) (by decide) (by decide) (Nat.le_of_ble_eq_true rfl) (Nat.le_of_ble_eq_true rfl) dX3_init_15 (fun q15 H hV15 => ?_)
  have hW15 : Wd G A s [[(h0, .inr (3, [.ref q7, .null, .null, .int 0, .int 0, .int 0, .int 0]))], [(q7, .inl (cI, 9, .inl (fun _ => 0)))], [(q15, .inl (cI, 9, .inl (fun _ => 0)))]] H _ := hV15
  refine g_putF X hin hW15 0 rfl rfl inX3 tyX3 tyX3_ok nmX3 1 (by decide) q_104 rfl rfl rfl rfl (Nat.le_of_ble_eq_true rfl) [[(h0, .inr (3, [.ref q7, .ref q15, .null, .int 0, .int 0, .int 0, .int 0]))], [(q7, .inl (cI, 9, .inl (fun _ => 0)))], [(q15, .inl (cI, 9, .inl (fun _ => 0)))]] rfl dX3_init_17 (fun H _ hV17 => ?_)
  refine lv_aload_n hx hb dX3_init_20 rfl (lv_at hl 0 rfl) ?_
  refine lv_bipush (v := (9 : Int32)) hx hb dX3_init_21 (by decide) ?_
  refine g_newa X hV17 q_95 9 (by decide) (by decide) (by decide) (Nat.le_of_ble_eq_true rfl) (Nat.le_of_ble_eq_true rfl) dX3_init_23 (fun q23 H hV23 => ?_)
  have hW23 : Wd G A s [[(h0, .inr (3, [.ref q7, .ref q15, .null, .int 0, .int 0, .int 0, .int 0]))], [(q7, .inl (cI, 9, .inl (fun _ => 0)))], [(q15, .inl (cI, 9, .inl (fun _ => 0)))], [(q23, .inl (cI, 9, .inl (fun _ => 0)))]] H _ := hV23
  refine g_putF X hin hW23 0 rfl rfl inX3 tyX3 tyX3_ok nmX3 2 (by decide) q_106 rfl rfl rfl rfl (Nat.le_of_ble_eq_true rfl) [[(h0, .inr (3, [.ref q7, .ref q15, .ref q23, .int 0, .int 0, .int 0, .int 0]))], [(q7, .inl (cI, 9, .inl (fun _ => 0)))], [(q15, .inl (cI, 9, .inl (fun _ => 0)))], [(q23, .inl (cI, 9, .inl (fun _ => 0)))]] rfl dX3_init_25 (fun H _ hV25 => ?_)
  exact g_retN (adr [h0, q7, q15, q23]) X (hV25.as rfl) rfl dX3_init_28
set_option maxHeartbeats 4000000 in
set_option maxRecDepth 100000 in
theorem n_X1_init (l : Launch) (G : va_G) (cI cZ cL : ClassId) (h0 : Nat) : CtN E0 l yX1_init cX1_init 1 1 12 5 45 G cI cZ cL [.ref h0] [[(h0, .inr (1, [.null, .null, .null, .null, .null, .int 0, .int 0, .int 0, .int 0]))]] (fun a : Nat → Nat => a 0 = h0) (fun a : Nat → Nat => [wLine cI a zLine]) := by
  refine ctE_body (fun A => qN G (fun a : Nat → Nat => a 0 = h0) (fun a : Nat → Nat => [wLine cI a zLine]) A) (by decide) (Nat.le_of_ble_eq_true rfl) (fun p e s m below meth c A ls X hin hW hE hl => ?_)
  have hx := X.1
  have hb := X.2.1
  have hl : lv_has ls 1 [(0, .ref h0)] := hl
  refine lv_aload_n hx hb dX1_init_0 rfl (lv_at hl 0 rfl) ?_
  refine g_obj X hl.1 q_144 q_76 q_77 (Nat.le_of_ble_eq_true rfl) (Nat.le_of_ble_eq_true rfl) dX1_init_1 ?_
  refine lv_aload_n hx hb dX1_init_4 rfl (lv_at hl 0 rfl) ?_
  refine lv_bipush (v := (9 : Int32)) hx hb dX1_init_5 (by decide) ?_
  refine g_newa X hW q_95 9 (by decide) (by decide) (by decide) (Nat.le_of_ble_eq_true rfl) (Nat.le_of_ble_eq_true rfl) dX1_init_7 (fun q7 H hV7 => ?_)
  have hW7 : Wd G A s [[(h0, .inr (1, [.null, .null, .null, .null, .null, .int 0, .int 0, .int 0, .int 0]))], [(q7, .inl (cI, 9, .inl (fun _ => 0)))]] H _ := hV7
  refine g_putF X hin hW7 0 rfl rfl inX1 tyX1 tyX1_ok nmX1 0 (by decide) q_145 rfl rfl rfl rfl (Nat.le_of_ble_eq_true rfl) [[(h0, .inr (1, [.ref q7, .null, .null, .null, .null, .int 0, .int 0, .int 0, .int 0]))], [(q7, .inl (cI, 9, .inl (fun _ => 0)))]] rfl dX1_init_9 (fun H _ hV9 => ?_)
  refine lv_aload_n hx hb dX1_init_12 rfl (lv_at hl 0 rfl) ?_
  refine lv_bipush (v := (9 : Int32)) hx hb dX1_init_13 (by decide) ?_
  refine g_newa X hV9 q_95 9 (by decide) (by decide) (by decide) (Nat.le_of_ble_eq_true rfl) (Nat.le_of_ble_eq_true rfl) dX1_init_15 (fun q15 H hV15 => ?_)
  have hW15 : Wd G A s [[(h0, .inr (1, [.ref q7, .null, .null, .null, .null, .int 0, .int 0, .int 0, .int 0]))], [(q7, .inl (cI, 9, .inl (fun _ => 0)))], [(q15, .inl (cI, 9, .inl (fun _ => 0)))]] H _ := hV15
  refine g_putF X hin hW15 0 rfl rfl inX1 tyX1 tyX1_ok nmX1 1 (by decide) q_146 rfl rfl rfl rfl (Nat.le_of_ble_eq_true rfl) [[(h0, .inr (1, [.ref q7, .ref q15, .null, .null, .null, .int 0, .int 0, .int 0, .int 0]))], [(q7, .inl (cI, 9, .inl (fun _ => 0)))], [(q15, .inl (cI, 9, .inl (fun _ => 0)))]] rfl dX1_init_17 (fun H _ hV17 => ?_)
  refine lv_aload_n hx hb dX1_init_20 rfl (lv_at hl 0 rfl) ?_
  refine lv_bipush (v := (9 : Int32)) hx hb dX1_init_21 (by decide) ?_
  refine g_newa X hV17 q_95 9 (by decide) (by decide) (by decide) (Nat.le_of_ble_eq_true rfl) (Nat.le_of_ble_eq_true rfl) dX1_init_23 (fun q23 H hV23 => ?_)
  have hW23 : Wd G A s [[(h0, .inr (1, [.ref q7, .ref q15, .null, .null, .null, .int 0, .int 0, .int 0, .int 0]))], [(q7, .inl (cI, 9, .inl (fun _ => 0)))], [(q15, .inl (cI, 9, .inl (fun _ => 0)))], [(q23, .inl (cI, 9, .inl (fun _ => 0)))]] H _ := hV23
  refine g_putF X hin hW23 0 rfl rfl inX1 tyX1 tyX1_ok nmX1 2 (by decide) q_147 rfl rfl rfl rfl (Nat.le_of_ble_eq_true rfl) [[(h0, .inr (1, [.ref q7, .ref q15, .ref q23, .null, .null, .int 0, .int 0, .int 0, .int 0]))], [(q7, .inl (cI, 9, .inl (fun _ => 0)))], [(q15, .inl (cI, 9, .inl (fun _ => 0)))], [(q23, .inl (cI, 9, .inl (fun _ => 0)))]] rfl dX1_init_25 (fun H _ hV25 => ?_)
  refine lv_aload_n hx hb dX1_init_28 rfl (lv_at hl 0 rfl) ?_
  refine lv_bipush (v := (9 : Int32)) hx hb dX1_init_29 (by decide) ?_
  refine g_newa X hV25 q_95 9 (by decide) (by decide) (by decide) (Nat.le_of_ble_eq_true rfl) (Nat.le_of_ble_eq_true rfl) dX1_init_31 (fun q31 H hV31 => ?_)
  have hW31 : Wd G A s [[(h0, .inr (1, [.ref q7, .ref q15, .ref q23, .null, .null, .int 0, .int 0, .int 0, .int 0]))], [(q7, .inl (cI, 9, .inl (fun _ => 0)))], [(q15, .inl (cI, 9, .inl (fun _ => 0)))], [(q23, .inl (cI, 9, .inl (fun _ => 0)))], [(q31, .inl (cI, 9, .inl (fun _ => 0)))]] H _ := hV31
  refine g_putF X hin hW31 0 rfl rfl inX1 tyX1 tyX1_ok nmX1 3 (by decide) q_148 rfl rfl rfl rfl (Nat.le_of_ble_eq_true rfl) [[(h0, .inr (1, [.ref q7, .ref q15, .ref q23, .ref q31, .null, .int 0, .int 0, .int 0, .int 0]))], [(q7, .inl (cI, 9, .inl (fun _ => 0)))], [(q15, .inl (cI, 9, .inl (fun _ => 0)))], [(q23, .inl (cI, 9, .inl (fun _ => 0)))], [(q31, .inl (cI, 9, .inl (fun _ => 0)))]] rfl dX1_init_33 (fun H _ hV33 => ?_)
  refine lv_aload_n hx hb dX1_init_36 rfl (lv_at hl 0 rfl) ?_
  refine lv_bipush (v := (9 : Int32)) hx hb dX1_init_37 (by decide) ?_
  refine g_newa X hV33 q_95 9 (by decide) (by decide) (by decide) (Nat.le_of_ble_eq_true rfl) (Nat.le_of_ble_eq_true rfl) dX1_init_39 (fun q39 H hV39 => ?_)
  have hW39 : Wd G A s [[(h0, .inr (1, [.ref q7, .ref q15, .ref q23, .ref q31, .null, .int 0, .int 0, .int 0, .int 0]))], [(q7, .inl (cI, 9, .inl (fun _ => 0)))], [(q15, .inl (cI, 9, .inl (fun _ => 0)))], [(q23, .inl (cI, 9, .inl (fun _ => 0)))], [(q31, .inl (cI, 9, .inl (fun _ => 0)))], [(q39, .inl (cI, 9, .inl (fun _ => 0)))]] H _ := hV39
  refine g_putF X hin hW39 0 rfl rfl inX1 tyX1 tyX1_ok nmX1 4 (by decide) q_149 rfl rfl rfl rfl (Nat.le_of_ble_eq_true rfl) [[(h0, .inr (1, [.ref q7, .ref q15, .ref q23, .ref q31, .ref q39, .int 0, .int 0, .int 0, .int 0]))], [(q7, .inl (cI, 9, .inl (fun _ => 0)))], [(q15, .inl (cI, 9, .inl (fun _ => 0)))], [(q23, .inl (cI, 9, .inl (fun _ => 0)))], [(q31, .inl (cI, 9, .inl (fun _ => 0)))], [(q39, .inl (cI, 9, .inl (fun _ => 0)))]] rfl dX1_init_41 (fun H _ hV41 => ?_)
  exact g_retN (adr [h0, q7, q15, q23, q31, q39]) X (hV41.as rfl) rfl dX1_init_44
set_option maxHeartbeats 4000000 in
set_option maxRecDepth 100000 in
theorem n_X2_init (l : Launch) (G : va_G) (cI cZ cL : ClassId) (h0 : Nat) : CtN E0 l yX2_init cX2_init 1 1 12 2 10 G cI cZ cL [.ref h0] [[(h0, .inr (2, [.null, .null, .int 0]))]] (fun a : Nat → Nat => a 0 = h0) (fun a : Nat → Nat => [wOrd cI a zOrd]) := by
  refine ctE_body (fun A => qN G (fun a : Nat → Nat => a 0 = h0) (fun a : Nat → Nat => [wOrd cI a zOrd]) A) (by decide) (Nat.le_of_ble_eq_true rfl) (fun p e s m below meth c A ls X hin hW hE hl => ?_)
  have hx := X.1
  have hb := X.2.1
  have hl : lv_has ls 1 [(0, .ref h0)] := hl
  refine lv_aload_n hx hb dX2_init_0 rfl (lv_at hl 0 rfl) ?_
  refine g_obj X hl.1 q_184 q_76 q_77 (Nat.le_of_ble_eq_true rfl) (Nat.le_of_ble_eq_true rfl) dX2_init_1 ?_
  refine lv_aload_n hx hb dX2_init_4 rfl (lv_at hl 0 rfl) ?_
  refine lv_iconst (v := (5 : Int32)) hx hb dX2_init_5 (by decide) ?_
  refine g_newa X hW q_95 5 (by decide) (by decide) (by decide) (Nat.le_of_ble_eq_true rfl) (Nat.le_of_ble_eq_true rfl) dX2_init_6 (fun q6 H hV6 => ?_)
  have hW6 : Wd G A s [[(h0, .inr (2, [.null, .null, .int 0]))], [(q6, .inl (cI, 5, .inl (fun _ => 0)))]] H _ := hV6
  refine g_putF X hin hW6 0 rfl rfl inX2 tyX2 tyX2_ok nmX2 0 (by decide) q_185 rfl rfl rfl rfl (Nat.le_of_ble_eq_true rfl) [[(h0, .inr (2, [.ref q6, .null, .int 0]))], [(q6, .inl (cI, 5, .inl (fun _ => 0)))]] rfl dX2_init_8 (fun H _ hV8 => ?_)
  refine lv_aload_n hx hb dX2_init_11 rfl (lv_at hl 0 rfl) ?_
  refine lv_iconst (v := (5 : Int32)) hx hb dX2_init_12 (by decide) ?_
  refine g_newa X hV8 q_95 5 (by decide) (by decide) (by decide) (Nat.le_of_ble_eq_true rfl) (Nat.le_of_ble_eq_true rfl) dX2_init_13 (fun q13 H hV13 => ?_)
  have hW13 : Wd G A s [[(h0, .inr (2, [.ref q6, .null, .int 0]))], [(q6, .inl (cI, 5, .inl (fun _ => 0)))], [(q13, .inl (cI, 5, .inl (fun _ => 0)))]] H _ := hV13
  refine g_putF X hin hW13 0 rfl rfl inX2 tyX2 tyX2_ok nmX2 1 (by decide) q_186 rfl rfl rfl rfl (Nat.le_of_ble_eq_true rfl) [[(h0, .inr (2, [.ref q6, .ref q13, .int 0]))], [(q6, .inl (cI, 5, .inl (fun _ => 0)))], [(q13, .inl (cI, 5, .inl (fun _ => 0)))]] rfl dX2_init_15 (fun H _ hV15 => ?_)
  exact g_retN (adr [h0, q6, q13]) X (hV15.as rfl) rfl dX2_init_18
set_option maxHeartbeats 4000000 in
set_option maxRecDepth 100000 in
theorem n_X4_init (l : Launch) (G : va_G) (cI cZ cL : ClassId) (h0 : Nat) : CtN E0 l yX4_init cX4_init 1 1 12 3 18 G cI cZ cL [.ref h0] [[(h0, .inr (4, [.null, .null, .null, .int 0]))]] (fun a : Nat → Nat => a 0 = h0) (fun a : Nat → Nat => [wSeen cI cZ a zSeen]) := by
  refine ctE_body (fun A => qN G (fun a : Nat → Nat => a 0 = h0) (fun a : Nat → Nat => [wSeen cI cZ a zSeen]) A) (by decide) (Nat.le_of_ble_eq_true rfl) (fun p e s m below meth c A ls X hin hW hE hl => ?_)
  have hx := X.1
  have hb := X.2.1
  have hl : lv_has ls 1 [(0, .ref h0)] := hl
  refine lv_aload_n hx hb dX4_init_0 rfl (lv_at hl 0 rfl) ?_
  refine g_obj X hl.1 q_220 q_76 q_77 (Nat.le_of_ble_eq_true rfl) (Nat.le_of_ble_eq_true rfl) dX4_init_1 ?_
  refine lv_aload_n hx hb dX4_init_4 rfl (lv_at hl 0 rfl) ?_
  refine lv_bipush (v := (6 : Int32)) hx hb dX4_init_5 (by decide) ?_
  refine g_newa X hW q_95 6 (by decide) (by decide) (by decide) (Nat.le_of_ble_eq_true rfl) (Nat.le_of_ble_eq_true rfl) dX4_init_7 (fun q7 H hV7 => ?_)
  have hW7 : Wd G A s [[(h0, .inr (4, [.null, .null, .null, .int 0]))], [(q7, .inl (cI, 6, .inl (fun _ => 0)))]] H _ := hV7
  refine g_putF X hin hW7 0 rfl rfl inX4 tyX4 tyX4_ok nmX4 0 (by decide) q_221 rfl rfl rfl rfl (Nat.le_of_ble_eq_true rfl) [[(h0, .inr (4, [.ref q7, .null, .null, .int 0]))], [(q7, .inl (cI, 6, .inl (fun _ => 0)))]] rfl dX4_init_9 (fun H _ hV9 => ?_)
  refine lv_aload_n hx hb dX4_init_12 rfl (lv_at hl 0 rfl) ?_
  refine lv_bipush (v := (6 : Int32)) hx hb dX4_init_13 (by decide) ?_
  refine g_newa X hV9 q_95 6 (by decide) (by decide) (by decide) (Nat.le_of_ble_eq_true rfl) (Nat.le_of_ble_eq_true rfl) dX4_init_15 (fun q15 H hV15 => ?_)
  have hW15 : Wd G A s [[(h0, .inr (4, [.ref q7, .null, .null, .int 0]))], [(q7, .inl (cI, 6, .inl (fun _ => 0)))], [(q15, .inl (cI, 6, .inl (fun _ => 0)))]] H _ := hV15
  refine g_putF X hin hW15 0 rfl rfl inX4 tyX4 tyX4_ok nmX4 1 (by decide) q_222 rfl rfl rfl rfl (Nat.le_of_ble_eq_true rfl) [[(h0, .inr (4, [.ref q7, .ref q15, .null, .int 0]))], [(q7, .inl (cI, 6, .inl (fun _ => 0)))], [(q15, .inl (cI, 6, .inl (fun _ => 0)))]] rfl dX4_init_17 (fun H _ hV17 => ?_)
  refine lv_aload_n hx hb dX4_init_20 rfl (lv_at hl 0 rfl) ?_
  refine lv_bipush (v := (6 : Int32)) hx hb dX4_init_21 (by decide) ?_
  refine g_newz X hV17 q_235 6 (by decide) (by decide) (by decide) (Nat.le_of_ble_eq_true rfl) (Nat.le_of_ble_eq_true rfl) dX4_init_23 (fun q23 H hV23 => ?_)
  have hW23 : Wd G A s [[(h0, .inr (4, [.ref q7, .ref q15, .null, .int 0]))], [(q7, .inl (cI, 6, .inl (fun _ => 0)))], [(q15, .inl (cI, 6, .inl (fun _ => 0)))], [(q23, .inl (cZ, 6, .inl (fun _ => 0)))]] H _ := hV23
  refine g_putF X hin hW23 0 rfl rfl inX4 tyX4 tyX4_ok nmX4 2 (by decide) q_223 rfl rfl rfl rfl (Nat.le_of_ble_eq_true rfl) [[(h0, .inr (4, [.ref q7, .ref q15, .ref q23, .int 0]))], [(q7, .inl (cI, 6, .inl (fun _ => 0)))], [(q15, .inl (cI, 6, .inl (fun _ => 0)))], [(q23, .inl (cZ, 6, .inl (fun _ => 0)))]] rfl dX4_init_25 (fun H _ hV25 => ?_)
  exact g_retN (adr [h0, q7, q15, q23]) X (hV25.as rfl) rfl dX4_init_28
set_option maxHeartbeats 4000000 in
set_option maxRecDepth 100000 in
theorem n_X6_init (l : Launch) (G : va_G) (cI cZ cL : ClassId) (h0 : Nat) : CtN E0 l yX6_init cX6_init 1 1 12 2 203 G cI cZ cL [.ref h0] [[(h0, .inr (6, [.null, .null, .int 0]))]] (fun a : Nat → Nat => a 0 = h0) (fun a : Nat → Nat => [wText cI a zText]) := by
  refine ctE_body (fun A => qN G (fun a : Nat → Nat => a 0 = h0) (fun a : Nat → Nat => [wText cI a zText]) A) (by decide) (Nat.le_of_ble_eq_true rfl) (fun p e s m below meth c A ls X hin hW hE hl => ?_)
  have hx := X.1
  have hb := X.2.1
  have hl : lv_has ls 1 [(0, .ref h0)] := hl
  refine lv_aload_n hx hb dX6_init_0 rfl (lv_at hl 0 rfl) ?_
  refine g_obj X hl.1 q_83 q_76 q_77 (Nat.le_of_ble_eq_true rfl) (Nat.le_of_ble_eq_true rfl) dX6_init_1 ?_
  refine lv_aload_n hx hb dX6_init_4 rfl (lv_at hl 0 rfl) ?_
  refine lv_sipush (v := (200 : Int32)) hx hb dX6_init_5 (by decide) ?_
  refine g_newa X hW q_95 200 (by decide) (by decide) (by decide) (Nat.le_of_ble_eq_true rfl) (Nat.le_of_ble_eq_true rfl) dX6_init_8 (fun q8 H hV8 => ?_)
  have hW8 : Wd G A s [[(h0, .inr (6, [.null, .null, .int 0]))], [(q8, .inl (cI, 200, .inl (fun _ => 0)))]] H _ := hV8
  refine g_putF X hin hW8 0 rfl rfl inX6 tyX6 tyX6_ok nmX6 0 (by decide) q_84 rfl rfl rfl rfl (Nat.le_of_ble_eq_true rfl) [[(h0, .inr (6, [.ref q8, .null, .int 0]))], [(q8, .inl (cI, 200, .inl (fun _ => 0)))]] rfl dX6_init_10 (fun H _ hV10 => ?_)
  refine lv_aload_n hx hb dX6_init_13 rfl (lv_at hl 0 rfl) ?_
  refine lv_iconst (v := (3 : Int32)) hx hb dX6_init_14 (by decide) ?_
  refine g_newa X hV10 q_95 3 (by decide) (by decide) (by decide) (Nat.le_of_ble_eq_true rfl) (Nat.le_of_ble_eq_true rfl) dX6_init_15 (fun q15 H hV15 => ?_)
  have hW15 : Wd G A s [[(h0, .inr (6, [.ref q8, .null, .int 0]))], [(q8, .inl (cI, 200, .inl (fun _ => 0)))], [(q15, .inl (cI, 3, .inl (fun _ => 0)))]] H _ := hV15
  refine g_putF X hin hW15 0 rfl rfl inX6 tyX6 tyX6_ok nmX6 1 (by decide) q_85 rfl rfl rfl rfl (Nat.le_of_ble_eq_true rfl) [[(h0, .inr (6, [.ref q8, .ref q15, .int 0]))], [(q8, .inl (cI, 200, .inl (fun _ => 0)))], [(q15, .inl (cI, 3, .inl (fun _ => 0)))]] rfl dX6_init_17 (fun H _ hV17 => ?_)
  exact g_retN (adr [h0, q8, q15]) X (hV17.as rfl) rfl dX6_init_20
set_option maxHeartbeats 4000000 in
set_option maxRecDepth 100000 in
theorem n_X0_init (l : Launch) (G : va_G) (cI cZ cL : ClassId) (h0 : Nat) : CtN E0 l yX0_init cX0_init 1 2 32 23 189 G cI cZ cL [.ref h0] [[(h0, .inr (0, [.null, .null, .null, .null, .null]))]] (fun _ : Nat → Nat → Nat => True) (fun u : Nat → Nat → Nat => [wFc h0 (u 4 0) (u 5 0) (u 6 0) (u 7 0) (u 8 0), wPlan cI (u 4) zPlan, wLine cI (u 5) zLine, wPlan cI (u 6) zPlan, wLine cI (u 7) zLine, wOrd cI (u 8) zOrd]) := by
  refine ctE_body (fun A => qN G (fun _ : Nat → Nat → Nat => True) (fun u : Nat → Nat → Nat => [wFc h0 (u 4 0) (u 5 0) (u 6 0) (u 7 0) (u 8 0), wPlan cI (u 4) zPlan, wLine cI (u 5) zLine, wPlan cI (u 6) zPlan, wLine cI (u 7) zLine, wOrd cI (u 8) zOrd]) A) (by decide) (Nat.le_of_ble_eq_true rfl) (fun p e s m below meth c A ls X hin hW hE hl => ?_)
  have hx := X.1
  have hb := X.2.1
  have hl : lv_has ls 1 [(0, .ref h0)] := hl
  refine lv_aload_n hx hb dX0_init_0 rfl (lv_at hl 0 rfl) ?_
  refine g_obj X hl.1 q_136 q_76 q_77 (Nat.le_of_ble_eq_true rfl) (Nat.le_of_ble_eq_true rfl) dX0_init_1 ?_
  refine lv_aload_n hx hb dX0_init_4 rfl (lv_at hl 0 rfl) ?_
  refine g_new X hW (ci := 3) rfl inX3 tyX3 tyX3_ok q_137 q_97 q_56 [.null, .null, .null, .int 0, .int 0, .int 0, .int 0] (by decide) (Nat.le_of_ble_eq_true rfl) (Nat.le_of_ble_eq_true rfl) dX0_init_5 (fun q5 H hV5 => ?_)
  have hW5 : Wd G A s [[(h0, .inr (0, [.null, .null, .null, .null, .null]))], [(q5, .inr (3, [.null, .null, .null, .int 0, .int 0, .int 0, .int 0]))]] H _ := hV5
  refine lv_dup hx hb dX0_init_8 rfl ?_
  refine g_callN (rest := [.ref q5, .ref h0]) (gr := [[(h0, .inr (0, [.null, .null, .null, .null, .null]))]]) (gc := [[(q5, .inr (3, [.null, .null, .null, .int 0, .int 0, .int 0, .int 0]))]]) E0_ok X hl.1 hW5 (n_X3_init l G cI cZ cL q5) q_100 (Or.inr ⟨_, nt_11⟩) q_99 q_56 rfl hdN_X3 rfl ⟨(Nat.le_of_ble_eq_true rfl), (Nat.le_of_ble_eq_true rfl)⟩ ⟨(Nat.le_of_ble_eq_true rfl), (Nat.le_of_ble_eq_true rfl)⟩ (fun _ _ _ => trivial) rfl (Nat.le_of_ble_eq_true rfl) dX0_init_9 (fun a9 H _ ha9 hV9 => ?_)
  have hW9 : Wd G A s [[(h0, .inr (0, [.null, .null, .null, .null, .null]))], wPlan cI a9 zPlan] H _ := hV9
  obtain rfl : q5 = a9 0 := ha9.symm
  refine g_putF X hin hW9 0 rfl rfl inX0 tyX0 tyX0_ok nmX0 0 (by decide) q_196 rfl rfl rfl rfl (Nat.le_of_ble_eq_true rfl) [[(h0, .inr (0, [.ref (a9 0), .null, .null, .null, .null]))], wPlan cI a9 zPlan] rfl dX0_init_12 (fun H _ hV12 => ?_)
  refine lv_aload_n hx hb dX0_init_15 rfl (lv_at hl 0 rfl) ?_
  refine g_new X hV12 (ci := 1) rfl inX1 tyX1 tyX1_ok q_139 q_140 q_58 [.null, .null, .null, .null, .null, .int 0, .int 0, .int 0, .int 0] (by decide) (Nat.le_of_ble_eq_true rfl) (Nat.le_of_ble_eq_true rfl) dX0_init_16 (fun q16 H hV16 => ?_)
  have hW16 : Wd G A s [[(h0, .inr (0, [.ref (a9 0), .null, .null, .null, .null]))], wPlan cI a9 zPlan, [(q16, .inr (1, [.null, .null, .null, .null, .null, .int 0, .int 0, .int 0, .int 0]))]] H _ := hV16
  refine lv_dup hx hb dX0_init_19 rfl ?_
  refine g_callN (rest := [.ref q16, .ref h0]) (gr := [[(h0, .inr (0, [.ref (a9 0), .null, .null, .null, .null]))], wPlan cI a9 zPlan]) (gc := [[(q16, .inr (1, [.null, .null, .null, .null, .null, .int 0, .int 0, .int 0, .int 0]))]]) E0_ok X hl.1 hW16 (n_X1_init l G cI cZ cL q16) q_143 (Or.inr ⟨_, nt_12⟩) q_142 q_58 rfl hdN_X1 rfl ⟨(Nat.le_of_ble_eq_true rfl), (Nat.le_of_ble_eq_true rfl)⟩ ⟨(Nat.le_of_ble_eq_true rfl), (Nat.le_of_ble_eq_true rfl)⟩ (fun _ _ _ => trivial) rfl (Nat.le_of_ble_eq_true rfl) dX0_init_20 (fun a20 H _ ha20 hV20 => ?_)
  have hW20 : Wd G A s [[(h0, .inr (0, [.ref (a9 0), .null, .null, .null, .null]))], wPlan cI a9 zPlan, wLine cI a20 zLine] H _ := hV20
  obtain rfl : q16 = a20 0 := ha20.symm
  refine g_putF X hin hW20 0 rfl rfl inX0 tyX0 tyX0_ok nmX0 1 (by decide) q_198 rfl rfl rfl rfl (Nat.le_of_ble_eq_true rfl) [[(h0, .inr (0, [.ref (a9 0), .ref (a20 0), .null, .null, .null]))], wPlan cI a9 zPlan, wLine cI a20 zLine] rfl dX0_init_23 (fun H _ hV23 => ?_)
  refine lv_aload_n hx hb dX0_init_26 rfl (lv_at hl 0 rfl) ?_
  refine g_new X hV23 (ci := 3) rfl inX3 tyX3 tyX3_ok q_137 q_97 q_56 [.null, .null, .null, .int 0, .int 0, .int 0, .int 0] (by decide) (Nat.le_of_ble_eq_true rfl) (Nat.le_of_ble_eq_true rfl) dX0_init_27 (fun q27 H hV27 => ?_)
  have hW27 : Wd G A s [[(h0, .inr (0, [.ref (a9 0), .ref (a20 0), .null, .null, .null]))], wPlan cI a9 zPlan, wLine cI a20 zLine, [(q27, .inr (3, [.null, .null, .null, .int 0, .int 0, .int 0, .int 0]))]] H _ := hV27
  refine lv_dup hx hb dX0_init_30 rfl ?_
  refine g_callN (rest := [.ref q27, .ref h0]) (gr := [[(h0, .inr (0, [.ref (a9 0), .ref (a20 0), .null, .null, .null]))], wPlan cI a9 zPlan, wLine cI a20 zLine]) (gc := [[(q27, .inr (3, [.null, .null, .null, .int 0, .int 0, .int 0, .int 0]))]]) E0_ok X hl.1 hW27 (n_X3_init l G cI cZ cL q27) q_100 (Or.inr ⟨_, nt_11⟩) q_99 q_56 rfl hdN_X3 rfl ⟨(Nat.le_of_ble_eq_true rfl), (Nat.le_of_ble_eq_true rfl)⟩ ⟨(Nat.le_of_ble_eq_true rfl), (Nat.le_of_ble_eq_true rfl)⟩ (fun _ _ _ => trivial) rfl (Nat.le_of_ble_eq_true rfl) dX0_init_31 (fun a31 H _ ha31 hV31 => ?_)
  have hW31 : Wd G A s [[(h0, .inr (0, [.ref (a9 0), .ref (a20 0), .null, .null, .null]))], wPlan cI a9 zPlan, wLine cI a20 zLine, wPlan cI a31 zPlan] H _ := hV31
  obtain rfl : q27 = a31 0 := ha31.symm
  refine g_putF X hin hW31 0 rfl rfl inX0 tyX0 tyX0_ok nmX0 2 (by decide) q_200 rfl rfl rfl rfl (Nat.le_of_ble_eq_true rfl) [[(h0, .inr (0, [.ref (a9 0), .ref (a20 0), .ref (a31 0), .null, .null]))], wPlan cI a9 zPlan, wLine cI a20 zLine, wPlan cI a31 zPlan] rfl dX0_init_34 (fun H _ hV34 => ?_)
  refine lv_aload_n hx hb dX0_init_37 rfl (lv_at hl 0 rfl) ?_
  refine g_new X hV34 (ci := 1) rfl inX1 tyX1 tyX1_ok q_139 q_140 q_58 [.null, .null, .null, .null, .null, .int 0, .int 0, .int 0, .int 0] (by decide) (Nat.le_of_ble_eq_true rfl) (Nat.le_of_ble_eq_true rfl) dX0_init_38 (fun q38 H hV38 => ?_)
  have hW38 : Wd G A s [[(h0, .inr (0, [.ref (a9 0), .ref (a20 0), .ref (a31 0), .null, .null]))], wPlan cI a9 zPlan, wLine cI a20 zLine, wPlan cI a31 zPlan, [(q38, .inr (1, [.null, .null, .null, .null, .null, .int 0, .int 0, .int 0, .int 0]))]] H _ := hV38
  refine lv_dup hx hb dX0_init_41 rfl ?_
  refine g_callN (rest := [.ref q38, .ref h0]) (gr := [[(h0, .inr (0, [.ref (a9 0), .ref (a20 0), .ref (a31 0), .null, .null]))], wPlan cI a9 zPlan, wLine cI a20 zLine, wPlan cI a31 zPlan]) (gc := [[(q38, .inr (1, [.null, .null, .null, .null, .null, .int 0, .int 0, .int 0, .int 0]))]]) E0_ok X hl.1 hW38 (n_X1_init l G cI cZ cL q38) q_143 (Or.inr ⟨_, nt_12⟩) q_142 q_58 rfl hdN_X1 rfl ⟨(Nat.le_of_ble_eq_true rfl), (Nat.le_of_ble_eq_true rfl)⟩ ⟨(Nat.le_of_ble_eq_true rfl), (Nat.le_of_ble_eq_true rfl)⟩ (fun _ _ _ => trivial) rfl (Nat.le_of_ble_eq_true rfl) dX0_init_42 (fun a42 H _ ha42 hV42 => ?_)
  have hW42 : Wd G A s [[(h0, .inr (0, [.ref (a9 0), .ref (a20 0), .ref (a31 0), .null, .null]))], wPlan cI a9 zPlan, wLine cI a20 zLine, wPlan cI a31 zPlan, wLine cI a42 zLine] H _ := hV42
  obtain rfl : q38 = a42 0 := ha42.symm
  refine g_putF X hin hW42 0 rfl rfl inX0 tyX0 tyX0_ok nmX0 3 (by decide) q_201 rfl rfl rfl rfl (Nat.le_of_ble_eq_true rfl) [[(h0, .inr (0, [.ref (a9 0), .ref (a20 0), .ref (a31 0), .ref (a42 0), .null]))], wPlan cI a9 zPlan, wLine cI a20 zLine, wPlan cI a31 zPlan, wLine cI a42 zLine] rfl dX0_init_45 (fun H _ hV45 => ?_)
  refine lv_aload_n hx hb dX0_init_48 rfl (lv_at hl 0 rfl) ?_
  refine g_new X hV45 (ci := 2) rfl inX2 tyX2 tyX2_ok q_179 q_180 q_59 [.null, .null, .int 0] (by decide) (Nat.le_of_ble_eq_true rfl) (Nat.le_of_ble_eq_true rfl) dX0_init_49 (fun q49 H hV49 => ?_)
  have hW49 : Wd G A s [[(h0, .inr (0, [.ref (a9 0), .ref (a20 0), .ref (a31 0), .ref (a42 0), .null]))], wPlan cI a9 zPlan, wLine cI a20 zLine, wPlan cI a31 zPlan, wLine cI a42 zLine, [(q49, .inr (2, [.null, .null, .int 0]))]] H _ := hV49
  refine lv_dup hx hb dX0_init_52 rfl ?_
  refine g_callN (rest := [.ref q49, .ref h0]) (gr := [[(h0, .inr (0, [.ref (a9 0), .ref (a20 0), .ref (a31 0), .ref (a42 0), .null]))], wPlan cI a9 zPlan, wLine cI a20 zLine, wPlan cI a31 zPlan, wLine cI a42 zLine]) (gc := [[(q49, .inr (2, [.null, .null, .int 0]))]]) E0_ok X hl.1 hW49 (n_X2_init l G cI cZ cL q49) q_183 (Or.inr ⟨_, nt_19⟩) q_182 q_59 rfl hdN_X2 rfl ⟨(Nat.le_of_ble_eq_true rfl), (Nat.le_of_ble_eq_true rfl)⟩ ⟨(Nat.le_of_ble_eq_true rfl), (Nat.le_of_ble_eq_true rfl)⟩ (fun _ _ _ => trivial) rfl (Nat.le_of_ble_eq_true rfl) dX0_init_53 (fun a53 H _ ha53 hV53 => ?_)
  have hW53 : Wd G A s [[(h0, .inr (0, [.ref (a9 0), .ref (a20 0), .ref (a31 0), .ref (a42 0), .null]))], wPlan cI a9 zPlan, wLine cI a20 zLine, wPlan cI a31 zPlan, wLine cI a42 zLine, wOrd cI a53 zOrd] H _ := hV53
  obtain rfl : q49 = a53 0 := ha53.symm
  refine g_putF X hin hW53 0 rfl rfl inX0 tyX0 tyX0_ok nmX0 4 (by decide) q_202 rfl rfl rfl rfl (Nat.le_of_ble_eq_true rfl) [[(h0, .inr (0, [.ref (a9 0), .ref (a20 0), .ref (a31 0), .ref (a42 0), .ref (a53 0)]))], wPlan cI a9 zPlan, wLine cI a20 zLine, wPlan cI a31 zPlan, wLine cI a42 zLine, wOrd cI a53 zOrd] rfl dX0_init_56 (fun H _ hV56 => ?_)
  exact g_retN (fun k => if k = 4 then a9 else if k = 5 then a20 else if k = 6 then a31 else if k = 7 then a42 else a53) X (hV56.as rfl) trivial dX0_init_59
