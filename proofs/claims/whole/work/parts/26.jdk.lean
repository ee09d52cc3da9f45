def fstB : List Int32 := [112, 48, 44, 48, 44, 48, 59, 112, 49, 44, 48, 44, 49, 59, 112, 48, 44, 49, 44, 49, 59, 112, 50, 44, 50, 44, 48, 59, 112, 48, 44, 51, 44, 50, 59, 112, 51, 44, 52, 44, 50, 59, 112, 49, 44, 54, 44, 48, 59, 112, 48, 44, 56, 44, 48, 59, 112, 50, 44, 57, 44, 49, 59, 98, 51, 44, 50, 48, 59, 114, 55, 59]
def strP (ad av : Nat) (A : Nat → Prop) (U : State) : Prop := (va_O "java/lang/String" ad A U U.heap ∧ va_OF "java/lang/String" "coder" "B" (.int 0) ad A U U.heap ∧ va_OF "java/lang/String" "value" "[B" (.ref av) ad A U U.heap ∧ va_T .byte av 72 (fun j => .int (fstB.getD j 0)) A U U.heap) ∧ va_Z "java/lang/String" "COMPACT_STRINGS" "Z" (.int 1) A U U.heap ∧ va_Zq "jdk/internal/util/Preconditions" "SIOOBE_FORMATTER" "Ljava/util/function/BiFunction;" A U U.heap
def EJ (ad av : Nat) : (Nat → Prop) → State → Prop := fun A U => strP ad av A U
theorem EJ_ok {ad av : Nat} : EOK (EJ ad av) := by
  intro A U g mk a h
  obtain ⟨⟨h1, h2, h3, h4⟩, h5, h6⟩ := h
  have hv : U.vm.Alike (U.calling g mk a).vm := Vm.Alike.refl U.vm
  exact ⟨⟨va_O.moved hv h1, va_OF.moved hv h2, va_OF.moved hv h3, va_T.moved hv h4⟩, va_Z.moved hv h5, va_Zq.moved hv h6⟩
theorem strP.at {ad av : Nat} {A : Nat → Prop} {s U : State} {H : Heap} {locs : List Loc} (h : strP ad av A s) (hS : va_S A s.heap H locs) (hA : ∀ q : Nat, s.heap.size ≤ q → A q) (hU : U.heap = H) (hW : s.WarmedH U.vm) : strP ad av (va_A ([] : List va_W).flatten H.size) U := by
  obtain ⟨⟨h1, h2, h3, h4⟩, h5, h6⟩ := h
  have hAB : ∀ q, va_A ([] : List va_W).flatten H.size q → A q := by
    intro q hq
    rcases hq with ⟨k, x, hq⟩ | hq
    · simp at hq
    · exact hA q (Nat.le_trans hS.1 hq)
  subst hU
  have hv := hW.alike
  exact ⟨⟨va_O.moved hv ((h1.kept hS.2.1).narrow hAB), va_OF.moved hv ((h2.kept hS.2.1).narrow hAB), va_OF.moved hv ((h3.kept hS.2.1).narrow hAB), va_T.moved hv ((h4.kept hS.2.1).narrow hAB)⟩, va_Z.moved hv ((h5.kept hS.2.1).narrow hAB), va_Zq.moved hv ((h6.kept hS.2.1).narrow hAB)⟩
section JD
variable {p : Program} {l : Launch} {e : Env} {R : Room} {s : State} {m : MethodId} {args : Array Value} {below : List Frame} {meth : Method} {c : Code} {H : Heap} {locs : List Loc} {cells slots : Nat} {Q : State → Prop}
variable {cc : ByteArray} {nL : Nat} {ret : Option FieldType} {own : String} {G : va_G} {cI cZ cL : ClassId} {A : Nat → Prop} {gs : List va_W} {pc : Nat} {ls : Array Slot} {rest : List Value} {a : Nat}
theorem Wd.same (hW : Wd G A s gs H locs) (hA : ∀ q : Nat, s.heap.size ≤ q → A q) {H1 : Heap} {locs1 : List Loc} (hk : ∀ q : Nat, q < H.size → ¬ va_A ([] : List va_W).flatten H.size q → H1[q]? = H[q]?) (hS : va_S A s.heap H1 locs1) : Wd G A s gs H1 locs1 := by
  refine ⟨vP_iff.mpr fun q hq => ?_, hW.2.1, hS⟩
  have h := vP_iff.mp hW.1 q hq
  refine h.kept (hk q.1 h.lt ?_)
  rintro (⟨k, x, hx⟩ | hx)
  · simp at hx
  · exact absurd h.lt (Nat.not_lt.mpr hx)
theorem noA (hW : Wd G A s gs H locs) (hA : ∀ q : Nat, s.heap.size ≤ q → A q) : ∀ q, va_A ([] : List va_W).flatten H.size q → A q := by
  intro q hq
  rcases hq with ⟨k, x, hq⟩ | hq
  · simp at hq
  · exact hA q (Nat.le_trans hW.2.2.1 hq)
theorem g_callJV {E : (Nat → Prop) → State → Prop} (hEO : EOK E) (X : Cx p s m args meth c cc nL ret own G cI cZ cL A) (hsz : ls.size = nL) (hW : Wd G A s gs H locs) {y : MethodName} {cY : ByteArray} {nY fr lo idx n b : Nat} {tY : FieldType} {As : List Value} {r : Int32} {st : List Value}
    (K : CtJ E l y cY nY tY fr lo G cI cZ cL (.ref b :: As) r) (w1 : Cond.code y cY nY (some tY) ∈ gtbl) (w2 : Cond.methodLink own idx y ∈ gtbl) (w3 : Cond.instanceMethod y ∈ gtbl) (w4 : Cond.selects y.cls y y ∈ gtbl) (w5 : Cond.initialized y.cls ∈ gtbl)
    (hd : y.cls ≠ "java/lang/invoke/MethodHandle" ∧ y.cls ≠ "java/lang/invoke/VarHandle" ∧ (parseMethodDescriptor y.desc).map (fun d => d.parameters.length) = some n) (hn : As.length = n) (hR : fr + 1 ≤ R.frames ∧ 8 + (nY + 11) + lo ≤ R.locals) (hz : cells ≤ R.cells ∧ slots ≤ R.slots)
    (hrec : ∃ cell : Cell, H[b]? = some cell ∧ cell.vm.isStatics = false ∧ s.vm.findClass y.cls = some cell.cls) (hEc : ∀ U : State, U.heap = H → s.WarmedH U.vm → E (va_A ([] : List va_W).flatten H.size) U)
    (hst : st = As.reverse ++ .ref b :: rest) (hrs : (rest.map fun v => v.category).sum ≤ 8) (hdg : decode cc pc = .ok (.invokevirtual idx, 3))
    (kk : ∀ (H1 : Heap) (locs1 : List Loc), Wd G A s gs H1 locs1 → W p l e R s m args below meth c H1 locs1 cells slots Q (F0 m (pc + 3) ls (.int r :: rest))) : W p l e R s m args below meth c H locs cells slots Q (F0 m pc ls st) := by
  subst hst
  obtain ⟨hx, hb, hml, -, -, hts, hown, hK, hA⟩ := X
  have hF := noA hW hA
  have hG : GoodIn gtbl (wsO y cY nY (some tY)) := fun w hw => (List.mem_cons.mp hw).elim (fun q => by subst q; exact ⟨w1, gtbl_good w1⟩) (fun q => ⟨q, gtbl_good q⟩)
  refine va_calli (va_runV (As := As) (rest := rest) (n := n) ⟨hx, hb, hml, hown, hts⟩ (K H.size) ⟨callB_of n hts hG rfl rfl rfl (hts _ w5) (hts _ w2) hd hR, hts _ w3, hts _ w4⟩ ⟨ctE_blind hEO, hrec, fun U hU hw => ⟨rfl, by rw [hU], fun k q h => by simp at h, ⟨va_K.moved hw.alike hK.1, hK.2.warm hw⟩, ⟨fun i j p q h => by simp at h, fun k q h => by simp at h⟩, hEc U hU hw⟩⟩ rfl hn hsz rfl (lv_room hrs) hdg hz) hW.2.2 (fun q _ h => hF q h) hF (fun r1 u t H1 locs1 ht hvm hw hB hz1 hk1 hS => ?_)
  subst hw
  exact kk H1 locs1 (hW.same hA hk1 hS)
theorem g_callJS {E : (Nat → Prop) → State → Prop} (hEO : EOK E) (X : Cx p s m args meth c cc nL ret own G cI cZ cL A) (hsz : ls.size = nL) (hW : Wd G A s gs H locs) {y : MethodName} {cY : ByteArray} {nY fr lo idx n : Nat} {tY : FieldType} {As : List Value} {r : Int32} {st : List Value}
    (K : CtJ E l y cY nY tY fr lo G cI cZ cL As r) (w1 : Cond.code y cY nY (some tY) ∈ gtbl) (w2 : Cond.methodLink own idx y ∈ gtbl) (w3 : Cond.static y ∈ gtbl) (w5 : Cond.initialized y.cls ∈ gtbl)
    (hd : y.cls ≠ "java/lang/invoke/MethodHandle" ∧ y.cls ≠ "java/lang/invoke/VarHandle" ∧ (parseMethodDescriptor y.desc).map (fun d => d.parameters.length) = some n) (hn : As.length = n) (hR : fr + 1 ≤ R.frames ∧ 8 + (nY + 11) + lo ≤ R.locals) (hz : cells ≤ R.cells ∧ slots ≤ R.slots)
    (hEc : ∀ U : State, U.heap = H → s.WarmedH U.vm → E (va_A ([] : List va_W).flatten H.size) U)
    (hst : st = As.reverse ++ rest) (hrs : (rest.map fun v => v.category).sum ≤ 8) (hdg : decode cc pc = .ok (.invokestatic idx, 3))
    (kk : ∀ (H1 : Heap) (locs1 : List Loc), Wd G A s gs H1 locs1 → W p l e R s m args below meth c H1 locs1 cells slots Q (F0 m (pc + 3) ls (.int r :: rest))) : W p l e R s m args below meth c H locs cells slots Q (F0 m pc ls st) := by
  subst hst
  obtain ⟨hx, hb, hml, -, -, hts, hown, hK, hA⟩ := X
  have hF := noA hW hA
  have hG : GoodIn gtbl (wsO y cY nY (some tY)) := fun w hw => (List.mem_cons.mp hw).elim (fun q => by subst q; exact ⟨w1, gtbl_good w1⟩) (fun q => ⟨q, gtbl_good q⟩)
  refine va_calli (va_runS (As := As) (rest := rest) (n := n) ⟨hx, hb, hml, hown, hts⟩ (K H.size) ⟨callB_of n hts hG rfl rfl rfl (hts _ w5) (hts _ w2) hd hR, hts _ w3⟩ ⟨ctE_blind hEO, fun U hU hw => ⟨rfl, by rw [hU], fun k q h => by simp at h, ⟨va_K.moved hw.alike hK.1, hK.2.warm hw⟩, ⟨fun i j p q h => by simp at h, fun k q h => by simp at h⟩, hEc U hU hw⟩⟩ rfl hn hsz rfl (lv_room hrs) hdg hz) hW.2.2 (fun q _ h => hF q h) hF (fun r1 u t H1 locs1 ht hvm hw hB hz1 hk1 hS => ?_)
  subst hw
  exact kk H1 locs1 (hW.same hA hk1 hS)
theorem g_callJK {E : (Nat → Prop) → State → Prop} (hEO : EOK E) (X : Cx p s m args meth c cc nL ret own G cI cZ cL A) (hsz : ls.size = nL) (hW : Wd G A s gs H locs) {y : MethodName} {cY : ByteArray} {nY fr lo idx n : Nat} {As : List Value} {st : List Value}
    (K : CtK E l y cY nY fr lo G cI cZ cL As) (w1 : Cond.code y cY nY none ∈ gtbl) (w2 : Cond.methodLink own idx y ∈ gtbl) (w3 : Cond.static y ∈ gtbl) (w5 : Cond.initialized y.cls ∈ gtbl)
    (hd : y.cls ≠ "java/lang/invoke/MethodHandle" ∧ y.cls ≠ "java/lang/invoke/VarHandle" ∧ (parseMethodDescriptor y.desc).map (fun d => d.parameters.length) = some n) (hn : As.length = n) (hR : fr + 1 ≤ R.frames ∧ 8 + (nY + 11) + lo ≤ R.locals) (hz : cells ≤ R.cells ∧ slots ≤ R.slots)
    (hEc : ∀ U : State, U.heap = H → s.WarmedH U.vm → E (va_A ([] : List va_W).flatten H.size) U)
    (hst : st = As.reverse ++ rest) (hrs : (rest.map fun v => v.category).sum ≤ 8) (hdg : decode cc pc = .ok (.invokestatic idx, 3))
    (kk : ∀ (H1 : Heap) (locs1 : List Loc), Wd G A s gs H1 locs1 → W p l e R s m args below meth c H1 locs1 cells slots Q (F0 m (pc + 3) ls rest)) : W p l e R s m args below meth c H locs cells slots Q (F0 m pc ls st) := by
  subst hst
  obtain ⟨hx, hb, hml, -, -, hts, hown, hK, hA⟩ := X
  have hF := noA hW hA
  have hG : GoodIn gtbl (wsO y cY nY none) := fun w hw => (List.mem_cons.mp hw).elim (fun q => by subst q; exact ⟨w1, gtbl_good w1⟩) (fun q => ⟨q, gtbl_good q⟩)
  refine va_callv (va_runS (As := As) (rest := rest) (n := n) ⟨hx, hb, hml, hown, hts⟩ (K H.size) ⟨callB_of n hts hG rfl rfl rfl (hts _ w5) (hts _ w2) hd hR, hts _ w3⟩ ⟨ctE_blind hEO, fun U hU hw => ⟨rfl, by rw [hU], fun k q h => by simp at h, ⟨va_K.moved hw.alike hK.1, hK.2.warm hw⟩, ⟨fun i j p q h => by simp at h, fun k q h => by simp at h⟩, hEc U hU hw⟩⟩ rfl hn hsz rfl (lv_room hrs) hdg hz) hW.2.2 (fun q _ h => hF q h) hF (fun u t H1 locs1 ht hvm hw hB hz1 hk1 hS => ?_)
  exact kk H1 locs1 (hW.same hA hk1 hS)
end JD
theorem hd_J0_coder_7d493 : yJ0_coder_7d493.cls ≠ "java/lang/invoke/MethodHandle" ∧ yJ0_coder_7d493.cls ≠ "java/lang/invoke/VarHandle" ∧ (parseMethodDescriptor yJ0_coder_7d493.desc).map (fun d => d.parameters.length) = some 0 := by decide +kernel
theorem hd_J0_length_8abf5 : yJ0_length_8abf5.cls ≠ "java/lang/invoke/MethodHandle" ∧ yJ0_length_8abf5.cls ≠ "java/lang/invoke/VarHandle" ∧ (parseMethodDescriptor yJ0_length_8abf5.desc).map (fun d => d.parameters.length) = some 0 := by decide +kernel
theorem hd_J0_isLatin1_aae02 : yJ0_isLatin1_aae02.cls ≠ "java/lang/invoke/MethodHandle" ∧ yJ0_isLatin1_aae02.cls ≠ "java/lang/invoke/VarHandle" ∧ (parseMethodDescriptor yJ0_isLatin1_aae02.desc).map (fun d => d.parameters.length) = some 0 := by decide +kernel
theorem hd_J0_charAt_5068e : yJ0_charAt_5068e.cls ≠ "java/lang/invoke/MethodHandle" ∧ yJ0_charAt_5068e.cls ≠ "java/lang/invoke/VarHandle" ∧ (parseMethodDescriptor yJ0_charAt_5068e.desc).map (fun d => d.parameters.length) = some 1 := by decide +kernel
theorem hd_J0_checkIndex_df160 : yJ0_checkIndex_df160.cls ≠ "java/lang/invoke/MethodHandle" ∧ yJ0_checkIndex_df160.cls ≠ "java/lang/invoke/VarHandle" ∧ (parseMethodDescriptor yJ0_checkIndex_df160.desc).map (fun d => d.parameters.length) = some 2 := by decide +kernel
theorem hd_J1_charAt_3b067 : yJ1_charAt_3b067.cls ≠ "java/lang/invoke/MethodHandle" ∧ yJ1_charAt_3b067.cls ≠ "java/lang/invoke/VarHandle" ∧ (parseMethodDescriptor yJ1_charAt_3b067.desc).map (fun d => d.parameters.length) = some 2 := by decide +kernel
theorem hd_J3_checkIndex_8e157 : yJ3_checkIndex_8e157.cls ≠ "java/lang/invoke/MethodHandle" ∧ yJ3_checkIndex_8e157.cls ≠ "java/lang/invoke/VarHandle" ∧ (parseMethodDescriptor yJ3_checkIndex_8e157.desc).map (fun d => d.parameters.length) = some 3 := by decide +kernel
set_option maxHeartbeats 4000000 in
set_option maxRecDepth 100000 in
theorem j_coder (l : Launch) (G : va_G) (cI cZ cL : ClassId) (ad av : Nat) : CtJ (EJ ad av) l yJ0_coder_7d493 cJ0_coder_7d493 1 .byte 0 0 G cI cZ cL [.ref ad] 0 := by
  refine ctE_body (fun A => qI G 0 [] A) (by decide) (Nat.le_of_ble_eq_true rfl) (fun p e s m below meth c A ls X hin hW hE hl => ?_)
  have hx := X.1
  have hb := X.2.1
  have hts := X.2.2.2.2.2.1
  have hown := X.2.2.2.2.2.2.1
  have hA := X.2.2.2.2.2.2.2.2
  obtain ⟨⟨e1, e2, e3, e4⟩, e5, e6⟩ := id hE
  have hl : lv_has ls 1 [(0, .ref ad)] := hl
  refine va_gets hx hb e5 hW.2.2 hown (hts _ q_268) (fun _ h => h) dJ0_coder_7d493_0 ?_
  refine lv_if_eq (tgt := 13) hx hb dJ0_coder_7d493_3 (by decide) (fun hc => absurd hc (by decide)) (fun _ => ?_)
  refine lv_aload_n hx hb dJ0_coder_7d493_6 rfl (lv_at hl 0 rfl) ?_
  refine vk_getf hx hb e2 hW.2.2 hown (hts _ q_1154) (fun _ h => h) dJ0_coder_7d493_7 ?_
  refine lv_goto (tgt := 14) hx hb dJ0_coder_7d493_10 (by decide) ?_
  exact g_reti X hW rfl rfl dJ0_coder_7d493_14
set_option maxHeartbeats 4000000 in
set_option maxRecDepth 100000 in
theorem j_length (l : Launch) (G : va_G) (cI cZ cL : ClassId) (ad av : Nat) : CtJ (EJ ad av) l yJ0_length_8abf5 cJ0_length_8abf5 1 .int 1 20 G cI cZ cL [.ref ad] 72 := by
  refine ctE_body (fun A => qI G 72 [] A) (by decide) (Nat.le_of_ble_eq_true rfl) (fun p e s m below meth c A ls X hin hW hE hl => ?_)
  have hx := X.1
  have hb := X.2.1
  have hts := X.2.2.2.2.2.1
  have hown := X.2.2.2.2.2.2.1
  have hA := X.2.2.2.2.2.2.2.2
  obtain ⟨⟨e1, e2, e3, e4⟩, e5, e6⟩ := id hE
  have hl : lv_has ls 1 [(0, .ref ad)] := hl
  refine lv_aload_n hx hb dJ0_length_8abf5_0 rfl (lv_at hl 0 rfl) ?_
  refine vk_getf hx hb e3 hW.2.2 hown (hts _ q_1153) (fun _ h => h) dJ0_length_8abf5_1 ?_
  refine va_tlen (v := 72) hx hb e4 hW.2.2 rfl dJ0_length_8abf5_4 ?_
  refine lv_aload_n hx hb dJ0_length_8abf5_5 rfl (lv_at hl 0 rfl) ?_
  refine g_callJV (rest := [.int 72]) EJ_ok X hl.1 hW (j_coder l G cI cZ cL ad av) q_267 q_264 q_265 q_266 q_63 hd_J0_coder_7d493 rfl ⟨(Nat.le_of_ble_eq_true rfl), (Nat.le_of_ble_eq_true rfl)⟩ ⟨Nat.zero_le _, Nat.zero_le _⟩ (by obtain ⟨cell, h1, h2, h3, -⟩ := e1.kept hW.2.2.2.1; exact ⟨cell, h1, h2, h3⟩) (fun U hU hw => strP.at hE hW.2.2 hA hU hw) rfl (Nat.le_of_ble_eq_true rfl) dJ0_length_8abf5_6 (fun H locs hW => ?_)
  refine lv_ishr hx hb dJ0_length_8abf5_9 ?_
  exact g_reti X hW (by decide) rfl dJ0_length_8abf5_10
set_option maxHeartbeats 4000000 in
set_option maxRecDepth 100000 in
theorem j_latin (l : Launch) (G : va_G) (cI cZ cL : ClassId) (ad av : Nat) : CtJ (EJ ad av) l yJ0_isLatin1_aae02 cJ0_isLatin1_aae02 1 .boolean 0 0 G cI cZ cL [.ref ad] 1 := by
  refine ctE_body (fun A => qI G 1 [] A) (by decide) (Nat.le_of_ble_eq_true rfl) (fun p e s m below meth c A ls X hin hW hE hl => ?_)
  have hx := X.1
  have hb := X.2.1
  have hts := X.2.2.2.2.2.1
  have hown := X.2.2.2.2.2.2.1
  have hA := X.2.2.2.2.2.2.2.2
  obtain ⟨⟨e1, e2, e3, e4⟩, e5, e6⟩ := id hE
  have hl : lv_has ls 1 [(0, .ref ad)] := hl
  refine va_gets hx hb e5 hW.2.2 hown (hts _ q_268) (fun _ h => h) dJ0_isLatin1_aae02_0 ?_
  refine lv_if_eq (tgt := 17) hx hb dJ0_isLatin1_aae02_3 (by decide) (fun hc => absurd hc (by decide)) (fun _ => ?_)
  refine lv_aload_n hx hb dJ0_isLatin1_aae02_6 rfl (lv_at hl 0 rfl) ?_
  refine vk_getf hx hb e2 hW.2.2 hown (hts _ q_1154) (fun _ h => h) dJ0_isLatin1_aae02_7 ?_
  refine lv_if_ne (tgt := 17) hx hb dJ0_isLatin1_aae02_10 (by decide) (fun hc => absurd rfl hc) (fun _ => ?_)
  refine lv_iconst (v := 1) hx hb dJ0_isLatin1_aae02_13 (by decide) ?_
  refine lv_goto (tgt := 18) hx hb dJ0_isLatin1_aae02_14 (by decide) ?_
  exact g_reti X hW rfl rfl dJ0_isLatin1_aae02_18
set_option maxHeartbeats 4000000 in
set_option maxRecDepth 100000 in
theorem j_preN (l : Launch) (G : va_G) (cI cZ cL : ClassId) (ad av : Nat) (k : Nat) (hk : k < 72) : CtJ (EJ ad av) l yJ3_checkIndex_8e157 cJ3_checkIndex_8e157 3 .int 0 0 G cI cZ cL [.int (nI k), .int 72, .null] (nI k) := by
  refine ctE_body (fun A => qI G (nI k) [] A) (by decide) (Nat.le_of_ble_eq_true rfl) (fun p e s m below meth c A ls X hin hW hE hl => ?_)
  have hx := X.1
  have hb := X.2.1
  have hts := X.2.2.2.2.2.1
  have hown := X.2.2.2.2.2.2.1
  have hA := X.2.2.2.2.2.2.2.2
  obtain ⟨⟨e1, e2, e3, e4⟩, e5, e6⟩ := id hE
  have hl : lv_has ls 3 [(0, .int (nI k)), (1, .int 72), (2, .null)] := hl
  refine lv_iload_n hx hb dJ3_checkIndex_8e157_0 rfl (lv_at hl 0 rfl) ?_
  refine lv_if_lt (tgt := 9) hx hb dJ3_checkIndex_8e157_1 (by decide) (fun hc => absurd hc (nI_pos (by omega))) (fun _ => ?_)
  refine lv_iload_n hx hb dJ3_checkIndex_8e157_4 rfl (lv_at hl 0 rfl) ?_
  refine lv_iload_n hx hb dJ3_checkIndex_8e157_5 rfl (lv_at hl 1 rfl) ?_
  refine lv_icmp_lt (tgt := 16) hx hb dJ3_checkIndex_8e157_6 (by decide) (fun _ => ?_) (fun hc => absurd (nI_lt (b := 72) hk (by omega)) hc)
  refine lv_iload_n hx hb dJ3_checkIndex_8e157_16 rfl (lv_at hl 0 rfl) ?_
  exact g_reti X hW rfl rfl dJ3_checkIndex_8e157_17
set_option maxHeartbeats 4000000 in
set_option maxRecDepth 100000 in
theorem j_preR (l : Launch) (G : va_G) (cI cZ cL : ClassId) (ad av : Nat) (k : Nat) (hk : k < 72) (t : Nat) : CtJ (EJ ad av) l yJ3_checkIndex_8e157 cJ3_checkIndex_8e157 3 .int 0 0 G cI cZ cL [.int (nI k), .int 72, .ref t] (nI k) := by
  refine ctE_body (fun A => qI G (nI k) [] A) (by decide) (Nat.le_of_ble_eq_true rfl) (fun p e s m below meth c A ls X hin hW hE hl => ?_)
  have hx := X.1
  have hb := X.2.1
  have hts := X.2.2.2.2.2.1
  have hown := X.2.2.2.2.2.2.1
  have hA := X.2.2.2.2.2.2.2.2
  obtain ⟨⟨e1, e2, e3, e4⟩, e5, e6⟩ := id hE
  have hl : lv_has ls 3 [(0, .int (nI k)), (1, .int 72), (2, .ref t)] := hl
  refine lv_iload_n hx hb dJ3_checkIndex_8e157_0 rfl (lv_at hl 0 rfl) ?_
  refine lv_if_lt (tgt := 9) hx hb dJ3_checkIndex_8e157_1 (by decide) (fun hc => absurd hc (nI_pos (by omega))) (fun _ => ?_)
  refine lv_iload_n hx hb dJ3_checkIndex_8e157_4 rfl (lv_at hl 0 rfl) ?_
  refine lv_iload_n hx hb dJ3_checkIndex_8e157_5 rfl (lv_at hl 1 rfl) ?_
  refine lv_icmp_lt (tgt := 16) hx hb dJ3_checkIndex_8e157_6 (by decide) (fun _ => ?_) (fun hc => absurd (nI_lt (b := 72) hk (by omega)) hc)
  refine lv_iload_n hx hb dJ3_checkIndex_8e157_16 rfl (lv_at hl 0 rfl) ?_
  exact g_reti X hW rfl rfl dJ3_checkIndex_8e157_17
set_option maxHeartbeats 4000000 in
set_option maxRecDepth 100000 in
theorem j_chk (l : Launch) (G : va_G) (cI cZ cL : ClassId) (ad av : Nat) (k : Nat) (hk : k < 72) : CtK (EJ ad av) l yJ0_checkIndex_df160 cJ0_checkIndex_df160 2 1 22 G cI cZ cL [.int (nI k), .int 72] := by
  refine ctE_body (fun A => qV G [] A) (by decide) (Nat.le_of_ble_eq_true rfl) (fun p e s m below meth c A ls X hin hW hE hl => ?_)
  have hx := X.1
  have hb := X.2.1
  have hts := X.2.2.2.2.2.1
  have hown := X.2.2.2.2.2.2.1
  have hA := X.2.2.2.2.2.2.2.2
  obtain ⟨⟨e1, e2, e3, e4⟩, e5, e6⟩ := id hE
  have hl : lv_has ls 2 [(0, .int (nI k)), (1, .int 72)] := hl
  refine lv_iload_n hx hb dJ0_checkIndex_df160_0 rfl (lv_at hl 0 rfl) ?_
  refine lv_iload_n hx hb dJ0_checkIndex_df160_1 rfl (lv_at hl 1 rfl) ?_
  rcases e6 with e6 | ⟨t, e6⟩
  · refine va_gets hx hb e6 hW.2.2 hown (hts _ q_284) (fun _ h => h) dJ0_checkIndex_df160_2 ?_
    refine g_callJS (rest := []) EJ_ok X hl.1 hW (j_preN l G cI cZ cL ad av k hk) q_288 q_286 q_287 q_65 hd_J3_checkIndex_8e157 rfl ⟨(Nat.le_of_ble_eq_true rfl), (Nat.le_of_ble_eq_true rfl)⟩ ⟨Nat.zero_le _, Nat.zero_le _⟩ (fun U hU hw => strP.at hE hW.2.2 hA hU hw) rfl (Nat.le_of_ble_eq_true rfl) dJ0_checkIndex_df160_5 (fun H locs hW => ?_)
    refine lv_pop hx hb dJ0_checkIndex_df160_8 rfl ?_
    exact g_retv X hW dJ0_checkIndex_df160_9
  · refine va_gets hx hb e6 hW.2.2 hown (hts _ q_284) (fun _ h => h) dJ0_checkIndex_df160_2 ?_
    refine g_callJS (rest := []) EJ_ok X hl.1 hW (j_preR l G cI cZ cL ad av k hk t) q_288 q_286 q_287 q_65 hd_J3_checkIndex_8e157 rfl ⟨(Nat.le_of_ble_eq_true rfl), (Nat.le_of_ble_eq_true rfl)⟩ ⟨Nat.zero_le _, Nat.zero_le _⟩ (fun U hU hw => strP.at hE hW.2.2 hA hU hw) rfl (Nat.le_of_ble_eq_true rfl) dJ0_checkIndex_df160_5 (fun H locs hW => ?_)
    refine lv_pop hx hb dJ0_checkIndex_df160_8 rfl ?_
    exact g_retv X hW dJ0_checkIndex_df160_9
def fstC (k : Nat) : Int32 := ((fstB.getD k 0 &&& 255).toUInt32 % 65536).toInt32
set_option maxHeartbeats 4000000 in
set_option maxRecDepth 100000 in
theorem j_lat (l : Launch) (G : va_G) (cI cZ cL : ClassId) (ad av : Nat) (k : Nat) (hk : k < 72) : CtJ (EJ ad av) l yJ1_charAt_3b067 cJ1_charAt_3b067 2 .char 2 43 G cI cZ cL [.ref av, .int (nI k)] (fstC k) := by
  refine ctE_body (fun A => qI G (fstC k) [] A) (by decide) (Nat.le_of_ble_eq_true rfl) (fun p e s m below meth c A ls X hin hW hE hl => ?_)
  have hx := X.1
  have hb := X.2.1
  have hts := X.2.2.2.2.2.1
  have hown := X.2.2.2.2.2.2.1
  have hA := X.2.2.2.2.2.2.2.2
  obtain ⟨⟨e1, e2, e3, e4⟩, e5, e6⟩ := id hE
  have hl : lv_has ls 2 [(0, .ref av), (1, .int (nI k))] := hl
  refine lv_iload_n hx hb dJ1_charAt_3b067_0 rfl (lv_at hl 1 rfl) ?_
  refine lv_aload_n hx hb dJ1_charAt_3b067_1 rfl (lv_at hl 0 rfl) ?_
  refine va_tlen (v := 72) hx hb e4 hW.2.2 rfl dJ1_charAt_3b067_2 ?_
  refine g_callJK (rest := []) EJ_ok X hl.1 hW (j_chk l G cI cZ cL ad av k hk) q_283 q_281 q_282 q_63 hd_J0_checkIndex_df160 rfl ⟨(Nat.le_of_ble_eq_true rfl), (Nat.le_of_ble_eq_true rfl)⟩ ⟨Nat.zero_le _, Nat.zero_le _⟩ (fun U hU hw => strP.at hE hW.2.2 hA hU hw) rfl (Nat.le_of_ble_eq_true rfl) dJ1_charAt_3b067_3 (fun H locs hW => ?_)
  refine lv_aload_n hx hb dJ1_charAt_3b067_6 rfl (lv_at hl 0 rfl) ?_
  refine lv_iload_n hx hb dJ1_charAt_3b067_7 rfl (lv_at hl 1 rfl) ?_
  refine va_tb (v := .int (fstB.getD k 0)) hx hb e4 hW.2.2 (vp_in_nI hk (by omega)) (by show Value.int (fstB.getD (nI k).toNatClampNeg 0) = _; rw [nI_clamp (by omega)]) dJ1_charAt_3b067_8 ?_
  refine lv_sipush (v := 255) hx hb dJ1_charAt_3b067_9 (by decide) ?_
  refine lv_iand hx hb dJ1_charAt_3b067_12 ?_
  refine lv_i2c hx hb dJ1_charAt_3b067_13 rfl ?_
  exact g_reti X hW rfl (pk_nc _) dJ1_charAt_3b067_14
set_option maxHeartbeats 4000000 in
set_option maxRecDepth 100000 in
theorem j_charAt (l : Launch) (G : va_G) (cI cZ cL : ClassId) (ad av : Nat) (k : Nat) (hk : k < 72) : CtJ (EJ ad av) l yJ0_charAt_5068e cJ0_charAt_5068e 2 .char 3 64 G cI cZ cL [.ref ad, .int (nI k)] (fstC k) := by
  refine ctE_body (fun A => qI G (fstC k) [] A) (by decide) (Nat.le_of_ble_eq_true rfl) (fun p e s m below meth c A ls X hin hW hE hl => ?_)
  have hx := X.1
  have hb := X.2.1
  have hts := X.2.2.2.2.2.1
  have hown := X.2.2.2.2.2.2.1
  have hA := X.2.2.2.2.2.2.2.2
  obtain ⟨⟨e1, e2, e3, e4⟩, e5, e6⟩ := id hE
  have hl : lv_has ls 2 [(0, .ref ad), (1, .int (nI k))] := hl
  refine lv_aload_n hx hb dJ0_charAt_5068e_0 rfl (lv_at hl 0 rfl) ?_
  refine g_callJV (rest := []) EJ_ok X hl.1 hW (j_latin l G cI cZ cL ad av) q_277 q_274 q_275 q_276 q_63 hd_J0_isLatin1_aae02 rfl ⟨(Nat.le_of_ble_eq_true rfl), (Nat.le_of_ble_eq_true rfl)⟩ ⟨Nat.zero_le _, Nat.zero_le _⟩ (by obtain ⟨cell, h1, h2, h3, -⟩ := e1.kept hW.2.2.2.1; exact ⟨cell, h1, h2, h3⟩) (fun U hU hw => strP.at hE hW.2.2 hA hU hw) rfl (Nat.le_of_ble_eq_true rfl) dJ0_charAt_5068e_1 (fun H locs hW => ?_)
  refine lv_if_eq (tgt := 16) hx hb dJ0_charAt_5068e_4 (by decide) (fun hc => absurd hc (by decide)) (fun _ => ?_)
  refine lv_aload_n hx hb dJ0_charAt_5068e_7 rfl (lv_at hl 0 rfl) ?_
  refine vk_getf hx hb e3 hW.2.2 hown (hts _ q_1153) (fun _ h => h) dJ0_charAt_5068e_8 ?_
  refine lv_iload_n hx hb dJ0_charAt_5068e_11 rfl (lv_at hl 1 rfl) ?_
  refine g_callJS (rest := []) EJ_ok X hl.1 hW (j_lat l G cI cZ cL ad av k hk) q_280 q_278 q_279 q_64 hd_J1_charAt_3b067 rfl ⟨(Nat.le_of_ble_eq_true rfl), (Nat.le_of_ble_eq_true rfl)⟩ ⟨Nat.zero_le _, Nat.zero_le _⟩ (fun U hU hw => strP.at hE hW.2.2 hA hU hw) rfl (Nat.le_of_ble_eq_true rfl) dJ0_charAt_5068e_12 (fun H locs hW => ?_)
  exact g_reti X hW rfl (pk_nc _) dJ0_charAt_5068e_15
