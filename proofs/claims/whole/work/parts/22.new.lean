abbrev ctPreE (E : (Nat → Prop) → State → Prop) (G : va_G) (cI cZ cL : ClassId) (av : List Value) (sz : Nat) (gs : List va_W) : Array Value → State → Prop :=
  va_Pc av (fun U => U.heap.size = sz ∧ va_P G vwCl gs.flatten U.heap ∧ KK G cI cZ cL U ∧ va_D (fun _ => True) gs.flatten ∧ E (va_A gs.flatten sz) U)
def EOK (E : (Nat → Prop) → State → Prop) : Prop := ∀ (A : Nat → Prop) (U : State) (g : JFrame) (mk : MethodId) (a : Array Value), E A U → E A (U.calling g mk a)
theorem ctE_blind {E : (Nat → Prop) → State → Prop} (hE : EOK E) {G : va_G} {cI cZ cL : ClassId} {av : List Value} {sz : Nat} {gs : List va_W} : FrameBlind (ctPreE E G cI cZ cL av sz gs) := by
  intro a U g mk q
  obtain ⟨q0, q1, qP, ⟨qK, qN⟩, qD, qE⟩ := q
  exact ⟨q0, q1, qP, ⟨va_K.moved (u := U) (U := U.calling g mk a) (Vm.Alike.refl U.vm) qK, qN.same (u := U) (U := U.calling g mk a) rfl⟩, qD, hE _ _ _ _ _ qE⟩
abbrev rmN (fr lo mc ms : Nat) : Room := { frames := fr, cells := mc, slots := ms, locals := lo }
abbrev qN {α : Type} (G : va_G) (P : α → Prop) (g' : α → List va_W) (A : Nat → Prop) : Array Value → State → Outcome → State → Prop :=
  va_Qv P (fun u t => va_P G vwCl (g' u).flatten t.heap ∧ va_D A (g' u).flatten) A
def CtN {α : Type} (E : (Nat → Prop) → State → Prop) (l : Launch) (y : MethodName) (c : ByteArray) (n : Nat) (fr lo mc ms : Nat) (G : va_G) (cI cZ cL : ClassId) (av : List Value) (gs : List va_W) (P : α → Prop) (g' : α → List va_W) : Prop :=
  ∀ sz : Nat, Met l y (wsO y c n none) (rmN fr lo mc ms) (ctPreE E G cI cZ cL av sz gs) (qN G P g' (va_A gs.flatten sz)) mc ms (va_A gs.flatten sz)
def CtJ (E : (Nat → Prop) → State → Prop) (l : Launch) (y : MethodName) (c : ByteArray) (n : Nat) (ret : FieldType) (fr lo : Nat) (G : va_G) (cI cZ cL : ClassId) (av : List Value) (r : Int32) : Prop :=
  ∀ sz : Nat, Met l y (wsO y c n (some ret)) (rmN fr lo 0 0) (ctPreE E G cI cZ cL av sz []) (qI G r [] (va_A ([] : List va_W).flatten sz)) 0 0 (va_A ([] : List va_W).flatten sz)
def CtK (E : (Nat → Prop) → State → Prop) (l : Launch) (y : MethodName) (c : ByteArray) (n : Nat) (fr lo : Nat) (G : va_G) (cI cZ cL : ClassId) (av : List Value) : Prop :=
  ∀ sz : Nat, Met l y (wsO y c n none) (rmN fr lo 0 0) (ctPreE E G cI cZ cL av sz []) (qV G [] (va_A ([] : List va_W).flatten sz)) 0 0 (va_A ([] : List va_W).flatten sz)
theorem ctE_body {E : (Nat → Prop) → State → Prop} {l : Launch} {y : MethodName} {c : ByteArray} {n : Nat} {ret : Option FieldType} {fr lo mc ms : Nat} {G : va_G} {cI cZ cL : ClassId} {av : List Value} {gs : List va_W} (Qf : (Nat → Prop) → Array Value → State → Outcome → State → Prop)
    (hy : plainName y.cls = true) (hn : (lg_sl av).length ≤ n)
    (body : ∀ (p : Program) (e : Env) (s : State) (m : MethodId) (below : List Frame) (meth : Method) (c' : Code) (A : Nat → Prop) (ls : Array Slot), Cx p s m av.toArray meth c' c n ret y.cls G cI cZ cL A → meth.name = y.name → Wd G A s gs s.heap [] → E A s → lv_has ls n (lv_args 0 av) → W p l e (rmN fr lo mc ms) s m av.toArray below meth c' s.heap [] 0 0 (MQ below (Qf A) av.toArray s mc ms A) (F0 m 0 ls [])) :
    ∀ sz : Nat, Met l y (wsO y c n ret) (rmN fr lo mc ms) (ctPreE E G cI cZ cL av sz gs) (Qf (va_A gs.flatten sz)) mc ms (va_A gs.flatten sz) := by
  intro sz
  refine Met.ofW (cc := c) (maxL := n) (ret := ret) hy rfl ?_
  intro p e s m args below meth c' s₁ B hml hv
  obtain ⟨rfl, hsz, hP, hK, hD0, hE⟩ := hv
  have hts := atoms_spec (ws := wsO y c n ret) B.pre
  subst hsz
  have hD := hD0.self (sz := s.heap.size)
  have hl := lv_entry av (n := n) hn
  rw [lg_entry_eq]
  exact body p e s m below meth c' _ _ ⟨B.exec, B.bytes, hml, B.returns, B.notSynchronized, fun w hw => hts w (List.mem_cons_of_mem _ hw), findClass_of_methodNamed B.named, hK, fun q h => Or.inr h⟩ (name_of_methodNamed B.named B.method).1 ⟨hP, hD, va_S.rf⟩ hE hl
theorem fl_snoc {gs : List va_W} {g : va_W} : (gs ++ [g]).flatten = gs.flatten ++ g := by simp
section NEW
variable {p : Program} {l : Launch} {e : Env} {R : Room} {s : State} {m : MethodId} {args : Array Value} {below : List Frame} {meth : Method} {c : Code} {H : Heap} {locs : List Loc} {cells slots : Nat} {Q : State → Prop}
variable {cc : ByteArray} {nL : Nat} {ret : Option FieldType} {own : String} {G : va_G} {cI cZ cL : ClassId} {A : Nat → Prop} {gs : List va_W} {pc : Nat} {ls : Array Slot} {rest : List Value} {a : Nat}
theorem g_obj (X : Cx p s m args meth c cc nL ret own G cI cZ cL A) (hsz : ls.size = nL) {idx : Nat} (w1 : Cond.methodLink own idx Lib.objectInit ∈ gtbl) (w2 : Cond.instanceMethod Lib.objectInit ∈ gtbl) (w3 : Cond.code Lib.objectInit ⟨#[0xb1]⟩ 1 none ∈ gtbl) (hf : 1 ≤ R.frames) (hl : (rest.map fun v => v.category).sum + 12 ≤ R.locals) (hdg : decode cc pc = .ok (.invokespecial idx, 3))
    (kk : W p l e R s m args below meth c H locs cells slots Q (F0 m (pc + 3) ls rest)) : W p l e R s m args below meth c H locs cells slots Q (F0 m pc ls (.ref a :: rest)) := by
  obtain ⟨hx, hb, hml, -, -, hts, hown, hK, -⟩ := X
  exact W.objInit hx hb hown (hts _ w1) (hts _ w2) (hts _ w3) rfl (hsz.trans hml.symm) rfl hdg hf (by show 2 * 0 + _ + 12 ≤ _; omega) kk
theorem g_new (X : Cx p s m args meth c cc nL ret own G cI cZ cL A) (hW : Wd G A s gs H locs) {C : String} {T : u_T} {N ci index : Nat} (hc : vwCl[ci]? = some (C, T, N)) (hin : ∀ w ∈ u_ws C T N, w ∈ gtbl) (ty : Nat → FieldType) (hty : ∀ k, k < N → parseFieldDescriptor (T k).2.2.1 = some (ty k)) (w1 : Cond.classLink own index C ∈ gtbl) (w2 : Cond.instantiable C N ∈ gtbl) (w3 : Cond.initialized C ∈ gtbl) (fs : List Value) (hfs : ∀ j, j < N → defaultValue (ty j) = vp_V fs j) (hcells : cells + 1 ≤ R.cells) (hslots : slots + N ≤ R.slots) (hdg : decode cc pc = .ok (.new index, 3))
    (kk : ∀ (q : Nat) (H1 : Heap), Wd G A s (gs ++ [[(q, .inr (ci, fs))]]) H1 locs → W p l e R s m args below meth c H1 locs (cells + 1) (slots + N) Q (F0 m (pc + 3) ls (.ref q :: rest))) : W p l e R s m args below meth c H locs cells slots Q (F0 m pc ls rest) := by
  obtain ⟨hx, hb, hml, -, -, hts, hown, hK, hA⟩ := X
  refine va_new hx hb hts hin ty hty hown (hts _ w1) (hts _ w2) (hts _ w3) hK.1 hW.1 hW.2.1 hW.2.2 hA hc hfs hcells hslots hdg (fun q H1 hP hD hS => kk q H1 ⟨?_, ?_, hS⟩)
  · rw [fl_snoc]; exact hP
  · rw [fl_snoc]; exact hD
theorem g_newa (X : Cx p s m args meth c cc nL ret own G cI cZ cL A) (hW : Wd G A s gs H locs) (w1 : Cond.arrayClass (newarray.typeOf .int) ∈ gtbl) {n : Int32} (N : Nat) (hn : ¬ n < 0) (hN : n.toNatClampNeg = N) (hbytes : N * 4 ≤ 536870912) (hcells : cells + 1 ≤ R.cells) (hslots : slots + N ≤ R.slots) (hdg : decode cc pc = .ok (.newarray .int, 2))
    (kk : ∀ (q : Nat) (H1 : Heap), Wd G A s (gs ++ [[(q, .inl (cI, N, .inl (fun _ => 0)))]]) H1 locs → W p l e R s m args below meth c H1 locs (cells + 1) (slots + N) Q (F0 m (pc + 2) ls (.ref q :: rest))) : W p l e R s m args below meth c H locs cells slots Q (F0 m pc ls (.int n :: rest)) := by
  obtain ⟨hx, hb, hml, -, -, hts, hown, hK, hA⟩ := X
  refine va_newa (atype := .int) (ty := .int) (a0 := (N, .inl (fun _ => 0))) hx hb (hts _ w1) rfl hK.1 hW.1 hW.2.1 hW.2.2 hA (fun cA => rfl) hn hN hbytes hcells hslots hdg (fun q cA H1 hK1 hP hD hS => ?_)
  have h1 := (hK1.2 3 (cA, .int) rfl).2
  have h2 := (hK.1.2 0 (cI, .int) rfl).2
  have h3 : cA = cI := Option.some.inj (h1.symm.trans h2)
  subst h3
  refine kk q H1 ⟨?_, ?_, hS⟩
  · rw [fl_snoc]; exact hP
  · rw [fl_snoc]; exact hD
theorem g_newz (X : Cx p s m args meth c cc nL ret own G cI cZ cL A) (hW : Wd G A s gs H locs) (w1 : Cond.arrayClass (newarray.typeOf .boolean) ∈ gtbl) {n : Int32} (N : Nat) (hn : ¬ n < 0) (hN : n.toNatClampNeg = N) (hbytes : N * componentBytes .boolean ≤ 536870912) (hcells : cells + 1 ≤ R.cells) (hslots : slots + N ≤ R.slots) (hdg : decode cc pc = .ok (.newarray .boolean, 2))
    (kk : ∀ (q : Nat) (H1 : Heap), Wd G A s (gs ++ [[(q, .inl (cZ, N, .inl (fun _ => 0)))]]) H1 locs → W p l e R s m args below meth c H1 locs (cells + 1) (slots + N) Q (F0 m (pc + 2) ls (.ref q :: rest))) : W p l e R s m args below meth c H locs cells slots Q (F0 m pc ls (.int n :: rest)) := by
  obtain ⟨hx, hb, hml, -, -, hts, hown, hK, hA⟩ := X
  refine va_newa (atype := .boolean) (ty := .boolean) (a0 := (N, .inl (fun _ => 0))) hx hb (hts _ w1) rfl hK.1 hW.1 hW.2.1 hW.2.2 hA (fun cA => rfl) hn hN hbytes hcells hslots hdg (fun q cA H1 hK1 hP hD hS => ?_)
  have h1 := (hK1.2 3 (cA, .boolean) rfl).2
  have h2 := (hK.1.2 1 (cZ, .boolean) rfl).2
  have h3 : cA = cZ := Option.some.inj (h1.symm.trans h2)
  subst h3
  refine kk q H1 ⟨?_, ?_, hS⟩
  · rw [fl_snoc]; exact hP
  · rw [fl_snoc]; exact hD
theorem g_newq (X : Cx p s m args meth c cc nL ret own G cI cZ cL A) (hW : Wd G A s gs H locs) {index : Nat} (hAO : va_AO "BackwardsLine$Line" s) (w1 : Cond.classLink own index "BackwardsLine$Line" ∈ gtbl) {n : Int32} (N : Nat) (hn : ¬ n < 0) (hN : n.toNatClampNeg = N) (hbytes : N * 4 ≤ 536870912) (hcells : cells + 1 ≤ R.cells) (hslots : slots + N ≤ R.slots) (hdg : decode cc pc = .ok (.anewarray index, 3))
    (kk : ∀ (q : Nat) (H1 : Heap), Wd G A s (gs ++ [[(q, .inl (cL, N, .inr (.inr (.inr (.inr (fun _ => none))))))]]) H1 locs → W p l e R s m args below meth c H1 locs (cells + 1) (slots + N) Q (F0 m (pc + 3) ls (.ref q :: rest))) : W p l e R s m args below meth c H locs cells slots Q (F0 m pc ls (.int n :: rest)) := by
  obtain ⟨hx, hb, hml, -, -, hts, hown, hK, hA⟩ := X
  refine va_newq hx hb hown (hts _ w1) hAO hK.1 hW.1 hW.2.1 hW.2.2 hA hn hN hbytes hcells hslots hdg (fun q cA H1 hK1 hP hD hS => ?_)
  have h1 := (hK1.2 3 (cA, .object "BackwardsLine$Line") rfl).2
  have h2 := (hK.1.2 2 (cL, .object "BackwardsLine$Line") rfl).2
  obtain ⟨-, -, -, -, -, h1⟩ := h1
  obtain ⟨-, -, -, -, -, h2⟩ := h2
  have h3 : cA = cL := Option.some.inj (h1.symm.trans h2)
  subst h3
  refine kk q H1 ⟨?_, ?_, hS⟩
  · rw [fl_snoc]; exact hP
  · rw [fl_snoc]; exact hD
theorem g_putF (X : Cx p s m args meth c cc nL ret own G cI cZ cL A) (hin2 : meth.name = "<init>") (hW : Wd G A s gs H locs) {C : String} {T : u_T} {N ci index : Nat} (q0 : Nat) {fs : List Value} (he : gs.flatten[q0]? = some (a, .inr (ci, fs))) (hc : vwCl[ci]? = some (C, T, N)) (hin : ∀ w ∈ u_ws C T N, w ∈ gtbl) (ty0 : Nat → FieldType) (hty : ∀ k, k < N → parseFieldDescriptor (T k).2.2.1 = some (ty0 k)) (hnm : ∀ a, a < N → ∀ b, b < N → a ≠ b → (T a).2.1 ≠ (T b).2.1) (k : Nat) (hk : k < N) (hl : Cond.fieldLink own index (T k).1 (T k).2.1 (T k).2.2.1 ∈ gtbl) (hfin : (T k).2.2.2 = true) (hdecl : (T k).1 = own) {v : Value} (hn : narrow (ty0 k) v = v) (hfit : fits (ty0 k) v = true) (hlen : k < fs.length) (gs' : List va_W) (hgs : gs.flatten.set q0 (a, .inr (ci, fs.set k v)) = gs'.flatten) (hdg : decode cc pc = .ok (.putfield index, 3))
    (kk : ∀ (H1 : Heap) (locs1 : List Loc), Wd G A s gs' H1 locs1 → W p l e R s m args below meth c H1 locs1 cells slots Q (F0 m (pc + 3) ls rest)) : W p l e R s m args below meth c H locs cells slots Q (F0 m pc ls (v :: .ref a :: rest)) := by
  obtain ⟨hx, hb, -, -, -, hts, hown, hK, -⟩ := X
  refine va_putF hx hb hts hin ty0 hty hnm hown hK.1 hW.1 hW.2.1 hW.2.2 q0 he hc k hk (hts _ hl) (fun _ h => h) hfin hin2 hdecl (ty := ty0 k) (hty k hk) hn hfit hlen hdg (fun H1 locs1 hP hD hS => kk H1 locs1 ⟨?_, ?_, hS⟩)
  · rw [← hgs]; exact hP
  · rw [← hgs]; exact hD
theorem g_retN {α : Type} {P : α → Prop} {g' : α → List va_W} {mc ms : Nat} (u : α) (X : Cx p s m args meth c cc nL none own G cI cZ cL A) (hW : Wd G A s (g' u) H locs) (hu : P u) (hdg : decode cc pc = .ok (.return_, 1)) :
    W p l e R s m args below meth c H locs mc ms (MQ below (qN G P g' A) args s mc ms A) (F0 m pc ls []) := by
  obtain ⟨hx, hb, -, hr, hlocks, -, -, -, -⟩ := X
  exact W.vret hx hb hr (fun t ht hw => ⟨⟨u, rfl, hu, by rw [ht]; exact hW.1, hW.2.1⟩, hW.2.2.F ht⟩) hW.2.2.2.2 hdg hlocks
theorem Wd.as {gs' : List va_W} (hW : Wd G A s gs H locs) (h : gs.flatten = gs'.flatten) : Wd G A s gs' H locs := ⟨by rw [← h]; exact hW.1, by rw [← h]; exact hW.2.1, hW.2.2⟩
theorem g_callN {α : Type} {E : (Nat → Prop) → State → Prop} (hEO : EOK E) (X : Cx p s m args meth c cc nL ret own G cI cZ cL A) (hsz : ls.size = nL) {gr gc : List va_W} (hW : Wd G A s (gr ++ gc) H locs) {y : MethodName} {cY : ByteArray} {nY fr lo mc ms idx n b : Nat} {As : List Value} {P : α → Prop} {g' : α → List va_W} {st : List Value}
    (K : CtN E l y cY nY fr lo mc ms G cI cZ cL (.ref b :: As) gc P g') (w1 : Cond.code y cY nY none ∈ gtbl) (w2 : Cond.methodLink own idx y ∈ gtbl ∨ ∃ host, Cond.methodLinkNest own idx y host ∈ nests) (w3 : Cond.instanceMethod y ∈ gtbl) (w5 : Cond.initialized y.cls ∈ gtbl) (hy1 : y.name = "<init>")
    (hd : y.cls ≠ "java/lang/invoke/MethodHandle" ∧ y.cls ≠ "java/lang/invoke/VarHandle" ∧ (parseMethodDescriptor y.desc).map (fun d => d.parameters.length) = some n) (hn : As.length = n) (hR : fr + 1 ≤ R.frames ∧ 8 + (nY + 11) + lo ≤ R.locals) (hz : cells + mc ≤ R.cells ∧ slots + ms ≤ R.slots)
    (hEc : ∀ U : State, U.heap = H → s.WarmedH U.vm → E (va_A gc.flatten H.size) U)
    (hst : st = As.reverse ++ .ref b :: rest) (hrs : (rest.map fun v => v.category).sum ≤ 8) (hdg : decode cc pc = .ok (.invokespecial idx, 3))
    (kk : ∀ (u : α) (H1 : Heap) (locs1 : List Loc), P u → Wd G A s (gr ++ g' u) H1 locs1 → W p l e R s m args below meth c H1 locs1 (cells + mc) (slots + ms) Q (F0 m (pc + 3) ls rest)) : W p l e R s m args below meth c H locs cells slots Q (F0 m pc ls st) := by
  subst hst
  obtain ⟨hx, hb, hml, -, -, hts, hown, hK, hA⟩ := X
  have hfl : (gr ++ gc).flatten = gr.flatten ++ gc.flatten := List.flatten_append
  obtain ⟨hP, hD, hS⟩ := hW
  rw [hfl] at hP hD
  have hPc := vP_right hP
  have hDc := vD_right hD
  have hF : ∀ q, va_A gc.flatten H.size q → A q := by
    intro q h
    rcases h with ⟨k, x, h⟩ | h
    · exact hDc.2 k _ h
    · exact hA q (Nat.le_trans hS.1 h)
  have hG : GoodIn gtbl (wsO y cY nY none) := fun w hw => (List.mem_cons.mp hw).elim (fun q => by subst q; exact ⟨w1, gtbl_good w1⟩) (fun q => ⟨q, gtbl_good q⟩)
  have hpre : ∀ U : State, U.heap = H → s.WarmedH U.vm → ctPreE E G cI cZ cL (.ref b :: As) H.size gc (Value.ref b :: As).toArray U := fun U hU hw => ⟨rfl, by rw [hU], by rw [hU]; exact hPc, ⟨va_K.moved hw.alike hK.1, hK.2.warm hw⟩, hDc.weaken (fun _ _ _ _ => trivial), hEc U hU hw⟩
  have hrun : va_Run p l e R s m args below meth c H locs cells slots mc ms (F0 m pc ls (As.reverse ++ .ref b :: rest)) rest (qN G P g' (va_A gc.flatten H.size) (Value.ref b :: As).toArray) (va_A gc.flatten H.size) := by
    rcases w2 with w2 | ⟨host, w2⟩
    · exact va_runI (As := As) (rest := rest) (n := n) ⟨hx, hb, hml, hown, hts⟩ (K H.size) ⟨callB_of n hts hG rfl rfl rfl (hts _ w5) (hts _ w2) hd hR, hy1, hts _ w3⟩ ⟨ctE_blind hEO, hpre⟩ rfl hn hsz rfl (lv_room hrs) hdg hz
    · exact va_runIN (As := As) (rest := rest) (n := n) ⟨hx, hb, hml, hown, hts⟩ (K H.size) ⟨va_cnB n hts hG rfl rfl rfl (hK.2 _ w2) (hts _ w5) hd hR, hy1, hts _ w3⟩ ⟨ctE_blind hEO, hpre⟩ rfl hn hsz rfl (lv_room hrs) hdg hz
  refine va_callv hrun hS (fun q _ h => hF q h) hF (fun u t H1 locs1 ht hvm hw hB hz1 hk1 hS1 => ?_)
  obtain ⟨hP1, hD1⟩ := hB
  rw [ht] at hP1
  obtain ⟨j1, j2⟩ := vJoin hP hD hk1 hF hP1 hD1
  have hfl2 : (gr ++ g' u).flatten = gr.flatten ++ (g' u).flatten := List.flatten_append
  exact kk u H1 locs1 hw ⟨by rw [hfl2]; exact j1, by rw [hfl2]; exact j2, hS1⟩
end NEW
def E0 : (Nat → Prop) → State → Prop := fun _ _ => True
theorem E0_ok : EOK E0 := fun _ _ _ _ _ _ => trivial
def E1 : (Nat → Prop) → State → Prop := fun _ U => va_AO "BackwardsLine$Line" U
theorem E1_ok : EOK E1 := fun _ U g mk a h => va_AO.moved (u := U) (U := U.calling g mk a) (Vm.Alike.refl U.vm) h
