abbrev tyL (cI cZ cL : ClassId) : List (ClassId × FieldType) := [(cI, .int), (cZ, .boolean), (cL, .object "BackwardsLine$Line")]
def isNest : Cond → Bool
  | .fieldLinkNest _ _ _ _ _ _ => true
  | .methodLinkNest _ _ _ _ => true
  | _ => false
theorem nests_isNest : ∀ w ∈ nests, isNest w = true := by decide +kernel
def nestOK (U : State) : Prop := ∀ w ∈ nests, va_Nw w U
theorem isNest_on {w : Cond} (h : isNest w = true) : w.onTables = true := by
  cases w <;> first | rfl | (simp [isNest] at h)
theorem nestOK.same {u U : State} (h : u.vm = U.vm) (hZ : nestOK u) : nestOK U := fun w hw => va_Nw.same (isNest_on (nests_isNest w hw)) h (hZ w hw)
theorem isNest_warm {w : Cond} (h : isNest w = true) {s U : State} (hW : s.WarmedH U.vm) (hZ : va_Nw w s) : va_Nw w U := by
  cases w <;> first | exact va_Nw.warmF hW hZ | exact va_Nw.warmM hW hZ | (simp [isNest] at h)
theorem nestOK.warm {s U : State} (hW : s.WarmedH U.vm) (hZ : nestOK s) : nestOK U := fun w hw => isNest_warm (nests_isNest w hw) hW (hZ w hw)
def KK (G : va_G) (cI cZ cL : ClassId) (U : State) : Prop := va_K G vwCl (tyL cI cZ cL) U ∧ nestOK U
abbrev ctPre (G : va_G) (cI cZ cL : ClassId) (av : List Value) (sz : Nat) (gs : List va_W) : Array Value → State → Prop :=
  va_Pc av (fun U => U.heap.size = sz ∧ va_P G vwCl gs.flatten U.heap ∧ KK G cI cZ cL U ∧ va_D (fun _ => True) gs.flatten)
abbrev qI (G : va_G) (r : Int32) (gs' : List va_W) (A : Nat → Prop) : Array Value → State → Outcome → State → Prop :=
  va_Qi (fun (x : Int32) (_ : Unit) => x = r) (fun _ t => va_P G vwCl gs'.flatten t.heap ∧ va_D A gs'.flatten) A
abbrev qV (G : va_G) (gs' : List va_W) (A : Nat → Prop) : Array Value → State → Outcome → State → Prop :=
  va_Qv (fun (_ : Unit) => True) (fun _ t => va_P G vwCl gs'.flatten t.heap ∧ va_D A gs'.flatten) A
abbrev qR (G : va_G) (ra : Nat) (gs' : List va_W) (A : Nat → Prop) : Array Value → State → Outcome → State → Prop :=
  va_Qr (fun (_ : Unit) => True) (fun _ a t => a = ra ∧ va_P G vwCl gs'.flatten t.heap ∧ va_D A gs'.flatten) A
abbrev rmO (fr lo : Nat) : Room := { frames := fr, cells := 0, slots := 0, locals := lo }
abbrev wsO (y : MethodName) (c : ByteArray) (n : Nat) (ret : Option FieldType) : List Cond := Cond.code y c n ret :: gtbl
def CtI (l : Launch) (y : MethodName) (c : ByteArray) (n : Nat) (ret : FieldType) (fr lo : Nat) (G : va_G) (cI cZ cL : ClassId) (av : List Value) (gs : List va_W) (r : Int32) (gs' : List va_W) : Prop :=
  ∀ sz : Nat, Met l y (wsO y c n (some ret)) (rmO fr lo) (ctPre G cI cZ cL av sz gs) (qI G r gs' (va_A gs.flatten sz)) 0 0 (va_A gs.flatten sz)
def CtV (l : Launch) (y : MethodName) (c : ByteArray) (n : Nat) (fr lo : Nat) (G : va_G) (cI cZ cL : ClassId) (av : List Value) (gs gs' : List va_W) : Prop :=
  ∀ sz : Nat, Met l y (wsO y c n none) (rmO fr lo) (ctPre G cI cZ cL av sz gs) (qV G gs' (va_A gs.flatten sz)) 0 0 (va_A gs.flatten sz)
def CtR (l : Launch) (y : MethodName) (c : ByteArray) (n : Nat) (ret : FieldType) (fr lo : Nat) (G : va_G) (cI cZ cL : ClassId) (av : List Value) (gs : List va_W) (ra : Nat) (gs' : List va_W) : Prop :=
  ∀ sz : Nat, Met l y (wsO y c n (some ret)) (rmO fr lo) (ctPre G cI cZ cL av sz gs) (qR G ra gs' (va_A gs.flatten sz)) 0 0 (va_A gs.flatten sz)
def Cx (p : Program) (s : State) (m : MethodId) (args : Array Value) (meth : Method) (c : Code) (cc : ByteArray) (nL : Nat) (ret : Option FieldType) (own : String) (G : va_G) (cI cZ cL : ClassId) (A : Nat → Prop) : Prop :=
  p.tables.exec = Jvm.exec ∧ c.code = cc ∧ c.maxLocals = nL ∧ meth.sig.returnType = ret ∧ meth.locks = false ∧ (∀ w ∈ gtbl, w.before args s = true) ∧ s.vm.findClass own = some m.cls ∧ KK G cI cZ cL s ∧ (∀ q : Nat, s.heap.size ≤ q → A q)
def Wd (G : va_G) (A : Nat → Prop) (s : State) (gs : List va_W) (H : Heap) (locs : List Loc) : Prop := va_P G vwCl gs.flatten H ∧ va_D A gs.flatten ∧ va_S A s.heap H locs
theorem ct_blind {G : va_G} {cI cZ cL : ClassId} {av : List Value} {sz : Nat} {gs : List va_W} : FrameBlind (ctPre G cI cZ cL av sz gs) := by
  intro a U g mk q
  obtain ⟨q0, q1, qP, ⟨qK, qN⟩, qD⟩ := q
  exact ⟨q0, q1, qP, ⟨va_K.moved (u := U) (U := U.calling g mk a) (Vm.Alike.refl U.vm) qK, qN.same (u := U) (U := U.calling g mk a) rfl⟩, qD⟩
theorem ct_at {G : va_G} {cI cZ cL : ClassId} {s U : State} {H : Heap} {av : List Value} {gs : List va_W} (hU : U.heap = H) (hW : s.WarmedH U.vm) (hP : va_P G vwCl gs.flatten H) (hK : KK G cI cZ cL s) (hD : va_D (fun _ => True) gs.flatten) : ctPre G cI cZ cL av H.size gs av.toArray U :=
  ⟨rfl, by rw [hU], by rw [hU]; exact hP, ⟨va_K.moved hW.alike hK.1, hK.2.warm hW⟩, hD⟩
theorem ct_body {l : Launch} {y : MethodName} {c : ByteArray} {n : Nat} {ret : Option FieldType} {fr lo : Nat} {G : va_G} {cI cZ cL : ClassId} {av : List Value} {gs : List va_W} (Qf : (Nat → Prop) → Array Value → State → Outcome → State → Prop)
    (hy : plainName y.cls = true) (hn : (lg_sl av).length ≤ n)
    (body : ∀ (p : Program) (e : Env) (s : State) (m : MethodId) (below : List Frame) (meth : Method) (c' : Code) (A : Nat → Prop) (ls : Array Slot), Cx p s m av.toArray meth c' c n ret y.cls G cI cZ cL A → Wd G A s gs s.heap [] → lv_has ls n (lv_args 0 av) → W p l e (rmO fr lo) s m av.toArray below meth c' s.heap [] 0 0 (MQ below (Qf A) av.toArray s 0 0 A) (F0 m 0 ls [])) :
    ∀ sz : Nat, Met l y (wsO y c n ret) (rmO fr lo) (ctPre G cI cZ cL av sz gs) (Qf (va_A gs.flatten sz)) 0 0 (va_A gs.flatten sz) := by
  intro sz
  refine Met.ofW (cc := c) (maxL := n) (ret := ret) hy rfl ?_
  intro p e s m args below meth c' s₁ B hml hv
  obtain ⟨rfl, hsz, hP, hK, hD0⟩ := hv
  have hts := atoms_spec (ws := wsO y c n ret) B.pre
  subst hsz
  have hD := hD0.self (sz := s.heap.size)
  have hl := lv_entry av (n := n) hn
  rw [lg_entry_eq]
  exact body p e s m below meth c' _ _ ⟨B.exec, B.bytes, hml, B.returns, B.notSynchronized, fun w hw => hts w (List.mem_cons_of_mem _ hw), findClass_of_methodNamed B.named, hK, fun q h => Or.inr h⟩ ⟨hP, hD, va_S.rf⟩ hl
theorem vP_iff {D : va_G} {cl : List vw_C} {ws : va_W} {H : Heap} : va_P D cl ws H ↔ ∀ q ∈ ws, va_at D cl q H :=
  ⟨fun h q hq => (List.getElem?_of_mem hq).elim fun k hk => h k q hk, fun h k q hk => h q (List.mem_of_getElem? hk)⟩
theorem vD_iff {A : Nat → Prop} {ws : va_W} : va_D A ws ↔ (ws.map (fun q => q.1)).Nodup ∧ ∀ q ∈ ws, A q.1 := by
  constructor
  · intro h
    refine ⟨?_, fun q hq => (List.getElem?_of_mem hq).elim fun k hk => h.2 k q hk⟩
    rw [List.nodup_iff_pairwise_ne, List.pairwise_map, List.pairwise_iff_getElem]
    intro i j hi hj hij he
    have := h.1 i j ws[i] ws[j] (List.getElem?_eq_getElem hi) (List.getElem?_eq_getElem hj) he
    omega
  · intro h
    refine ⟨?_, fun k q hk => h.2 q (List.mem_of_getElem? hk)⟩
    intro i j p q hp hq he
    have h1 := h.1
    rw [List.nodup_iff_pairwise_ne, List.pairwise_map, List.pairwise_iff_getElem] at h1
    obtain ⟨hi, rfl⟩ := List.getElem?_eq_some_iff.mp hp
    obtain ⟨hj, rfl⟩ := List.getElem?_eq_some_iff.mp hq
    rcases Nat.lt_trichotomy i j with g | g | g
    · exact absurd he (h1 i j hi hj g)
    · exact g
    · exact absurd he.symm (h1 j i hj hi g)
theorem vP_perm {D : va_G} {cl : List vw_C} {w1 w2 : va_W} {H : Heap} (hp : w1.Perm w2) (h : va_P D cl w1 H) : va_P D cl w2 H :=
  vP_iff.mpr fun q hq => vP_iff.mp h q (hp.mem_iff.mpr hq)
theorem vD_perm {A : Nat → Prop} {w1 w2 : va_W} (hp : w1.Perm w2) (h : va_D A w1) : va_D A w2 :=
  vD_iff.mpr ⟨(hp.map _).nodup (vD_iff.mp h).1, fun q hq => (vD_iff.mp h).2 q (hp.mem_iff.mpr hq)⟩
theorem perm_pick {α : Type} {gs g : List α} (is : List Nat) (hp : is.Perm (List.range gs.length)) (h : is.map (fun i => gs[i]?) = g.map some) : gs.Perm g := by
  have h1 : (List.range gs.length).map (fun i => gs[i]?) = gs.map some := by
    apply List.ext_getElem?
    intro i
    by_cases hi : i < gs.length
    · simp [List.getElem?_map, List.getElem?_range hi, List.getElem?_eq_getElem hi]
    · simp [List.getElem?_eq_none (Nat.not_lt.mp hi)]
      omega
  have h2 := (hp.map (fun i => gs[i]?)).filterMap id
  rw [h, h1] at h2
  simp [List.filterMap_map] at h2
  exact h2.symm
theorem vP_left {D : va_G} {cl : List vw_C} {w1 w2 : va_W} {H : Heap} (h : va_P D cl (w1 ++ w2) H) : va_P D cl w1 H := vP_iff.mpr fun q hq => vP_iff.mp h q (List.mem_append_left _ hq)
theorem vP_right {D : va_G} {cl : List vw_C} {w1 w2 : va_W} {H : Heap} (h : va_P D cl (w1 ++ w2) H) : va_P D cl w2 H := vP_iff.mpr fun q hq => vP_iff.mp h q (List.mem_append_right _ hq)
theorem vD_right {A : Nat → Prop} {w1 w2 : va_W} (h : va_D A (w1 ++ w2)) : va_D A w2 := by
  obtain ⟨h1, h2⟩ := vD_iff.mp h
  rw [List.map_append, List.nodup_append] at h1
  exact vD_iff.mpr ⟨h1.2.1, fun q hq => h2 q (List.mem_append_right _ hq)⟩
theorem vJoin {A0 : Nat → Prop} {D : va_G} {cl : List vw_C} {wr wc w1 : va_W} {H H1 : Heap} (hP : va_P D cl (wr ++ wc) H) (hD : va_D A0 (wr ++ wc)) (hk : ∀ q : Nat, q < H.size → ¬ va_A wc H.size q → H1[q]? = H[q]?) (hF : ∀ q, va_A wc H.size q → A0 q) (hP1 : va_P D cl w1 H1) (hD1 : va_D (va_A wc H.size) w1) : va_P D cl (wr ++ w1) H1 ∧ va_D A0 (wr ++ w1) := by
  obtain ⟨h1, h2⟩ := vD_iff.mp hD
  rw [List.map_append, List.nodup_append] at h1
  obtain ⟨h3, h4, h5⟩ := h1
  obtain ⟨g1, g2⟩ := vD_iff.mp hD1
  have ap : ∀ q ∈ wr, q.1 < H.size ∧ ¬ va_A wc H.size q.1 := by
    intro q hq
    have hl := (vP_iff.mp hP q (List.mem_append_left _ hq)).lt
    refine ⟨hl, fun h => ?_⟩
    rcases h with ⟨k, e, h⟩ | h
    · exact h5 q.1 (List.mem_map.mpr ⟨q, hq, rfl⟩) q.1 (List.mem_map.mpr ⟨(q.1, e), List.mem_of_getElem? h, rfl⟩) rfl
    · omega
  refine ⟨vP_iff.mpr fun q hq => ?_, vD_iff.mpr ⟨?_, fun q hq => ?_⟩⟩
  · rcases List.mem_append.mp hq with h | h
    · exact (vP_iff.mp hP q (List.mem_append_left _ h)).kept (hk q.1 (ap q h).1 (ap q h).2)
    · exact vP_iff.mp hP1 q h
  · rw [List.map_append, List.nodup_append]
    refine ⟨h3, g1, fun a ha b hb hab => ?_⟩
    obtain ⟨x, hx, rfl⟩ := List.mem_map.mp ha
    obtain ⟨z, hz, rfl⟩ := List.mem_map.mp hb
    exact (ap x hx).2 (by rw [hab]; exact g2 z hz)
  · rcases List.mem_append.mp hq with h | h
    · exact h2 q (List.mem_append_left _ h)
    · exact hF _ (g2 q h)
