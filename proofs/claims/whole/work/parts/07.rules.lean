section RUL
variable {p : Program} {l : Launch} {e : Env} {R : Room} {s : State} {m : MethodId} {args : Array Value} {below : List Frame} {meth : Method} {c : Code} {H : Heap} {locs : List Loc} {cells slots : Nat} {Q : State → Prop}
variable {cc : ByteArray} {nL : Nat} {ret : Option FieldType} {own : String} {G : va_G} {cI cZ cL : ClassId} {A : Nat → Prop} {gs : List va_W} {pc : Nat} {ls : Array Slot} {rest : List Value} {a : Nat}
theorem g_get (X : Cx p s m args meth c cc nL ret own G cI cZ cL A) (hW : Wd G A s gs H locs) {C : String} {T : u_T} {N ci index : Nat} (q0 : Nat) {fs : List Value} (he : gs.flatten[q0]? = some (a, .inr (ci, fs))) (hc : vwCl[ci]? = some (C, T, N)) (hin : ∀ w ∈ u_ws C T N, w ∈ gtbl) (k : Nat) (hk : k < N) (hl : Cond.fieldLink own index (T k).1 (T k).2.1 (T k).2.2.1 ∈ gtbl) {v : Value} (hv : fs[k]? = some v) (hdg : decode cc pc = .ok (.getfield index, 3))
    (kk : W p l e R s m args below meth c H locs cells slots Q (F0 m (pc + 3) ls (v :: rest))) : W p l e R s m args below meth c H locs cells slots Q (F0 m pc ls (.ref a :: rest)) := by
  obtain ⟨hx, hb, -, -, -, hts, hown, hK, -⟩ := X
  exact va_get hx hb hts hin hown hK.1 hW.1 q0 he hc k hk (hts _ hl) (fun _ h => h) hv hdg kk
theorem g_getN (X : Cx p s m args meth c cc nL ret own G cI cZ cL A) (hW : Wd G A s gs H locs) {C host : String} {T : u_T} {N ci index : Nat} (q0 : Nat) {fs : List Value} (he : gs.flatten[q0]? = some (a, .inr (ci, fs))) (hc : vwCl[ci]? = some (C, T, N)) (hin : ∀ w ∈ u_ws C T N, w ∈ gtbl) (k : Nat) (hk : k < N) (hl : Cond.fieldLinkNest own index (T k).1 (T k).2.1 (T k).2.2.1 host ∈ nests) {v : Value} (hv : fs[k]? = some v) (hdg : decode cc pc = .ok (.getfield index, 3))
    (kk : W p l e R s m args below meth c H locs cells slots Q (F0 m (pc + 3) ls (v :: rest))) : W p l e R s m args below meth c H locs cells slots Q (F0 m pc ls (.ref a :: rest)) := by
  obtain ⟨hx, hb, -, -, -, hts, hown, hK, -⟩ := X
  exact va_getN hx hb hts hin hown hK.1 hW.1 q0 he hc k hk (va_Nw.use rfl (hK.2 _ hl)) (fun _ h => h) hv hdg kk
theorem g_put (X : Cx p s m args meth c cc nL ret own G cI cZ cL A) (hW : Wd G A s gs H locs) {C : String} {T : u_T} {N ci index : Nat} (q0 : Nat) {fs : List Value} (he : gs.flatten[q0]? = some (a, .inr (ci, fs))) (hc : vwCl[ci]? = some (C, T, N)) (hin : ∀ w ∈ u_ws C T N, w ∈ gtbl) (ty0 : Nat → FieldType) (hty : ∀ k, k < N → parseFieldDescriptor (T k).2.2.1 = some (ty0 k)) (hnm : ∀ a, a < N → ∀ b, b < N → a ≠ b → (T a).2.1 ≠ (T b).2.1) (k : Nat) (hk : k < N) (hl : Cond.fieldLink own index (T k).1 (T k).2.1 (T k).2.2.1 ∈ gtbl) (hfin : (T k).2.2.2 = false) {x : Int32} (hd : ty0 k = .int) (hlen : k < fs.length) (gs' : List va_W) (hgs : gs.flatten.set q0 (a, .inr (ci, fs.set k (.int x))) = gs'.flatten) (hdg : decode cc pc = .ok (.putfield index, 3))
    (kk : ∀ (H1 : Heap) (locs1 : List Loc), Wd G A s gs' H1 locs1 → W p l e R s m args below meth c H1 locs1 cells slots Q (F0 m (pc + 3) ls rest)) : W p l e R s m args below meth c H locs cells slots Q (F0 m pc ls (.int x :: .ref a :: rest)) := by
  obtain ⟨hx, hb, -, -, -, hts, hown, hK, -⟩ := X
  refine va_put hx hb hts hin ty0 hty hnm hown hK.1 hW.1 hW.2.1 hW.2.2 q0 he hc k hk (hts _ hl) (fun _ h => h) hfin (ty := .int) (by rw [hty k hk, hd]) rfl rfl hlen hdg (fun H1 locs1 hP hD hS => kk H1 locs1 ⟨?_, ?_, hS⟩)
  · rw [← hgs]; exact hP
  · rw [← hgs]; exact hD
theorem g_ald (X : Cx p s m args meth c cc nL ret own G cI cZ cL A) (hW : Wd G A s gs H locs) (q0 : Nat) {n : Nat} {f : Nat → Int32} (he : gs.flatten[q0]? = some (a, .inl (cI, n, .inl f))) {i : Int32} (hin : vp_in i n) (hdg : decode cc pc = .ok (.iaload, 1))
    (kk : W p l e R s m args below meth c H locs cells slots Q (F0 m (pc + 1) ls (.int (f i.toNatClampNeg) :: rest))) : W p l e R s m args below meth c H locs cells slots Q (F0 m pc ls (.int i :: .ref a :: rest)) := by
  obtain ⟨hx, hb, -, -, -, hts, hown, hK, -⟩ := X
  exact va_iald hx hb hK.1 hW.1 q0 0 he rfl hin hdg kk
theorem g_zald (X : Cx p s m args meth c cc nL ret own G cI cZ cL A) (hW : Wd G A s gs H locs) (q0 : Nat) {n : Nat} {f : Nat → Int32} (he : gs.flatten[q0]? = some (a, .inl (cZ, n, .inl f))) {i : Int32} (hin : vp_in i n) (hdg : decode cc pc = .ok (.baload, 1))
    (kk : W p l e R s m args below meth c H locs cells slots Q (F0 m (pc + 1) ls (.int (f i.toNatClampNeg) :: rest))) : W p l e R s m args below meth c H locs cells slots Q (F0 m pc ls (.int i :: .ref a :: rest)) := by
  obtain ⟨hx, hb, -, -, -, hts, hown, hK, -⟩ := X
  exact va_zald hx hb hK.1 hW.1 q0 1 he rfl hin hdg kk
theorem g_ast (X : Cx p s m args meth c cc nL ret own G cI cZ cL A) (hW : Wd G A s gs H locs) (q0 : Nat) {n : Nat} {f : Nat → Int32} (he : gs.flatten[q0]? = some (a, .inl (cI, n, .inl f))) {i x : Int32} (hin : vp_in i n) (gs' : List va_W) (hgs : gs.flatten.set q0 (a, .inl (cI, n, .inl (upd f i.toNatClampNeg x))) = gs'.flatten) (hdg : decode cc pc = .ok (.iastore, 1))
    (kk : ∀ (H1 : Heap) (locs1 : List Loc), Wd G A s gs' H1 locs1 → W p l e R s m args below meth c H1 locs1 cells slots Q (F0 m (pc + 1) ls rest)) : W p l e R s m args below meth c H locs cells slots Q (F0 m pc ls (.int x :: .int i :: .ref a :: rest)) := by
  obtain ⟨hx, hb, -, -, -, hts, hown, hK, -⟩ := X
  refine va_iast hx hb hK.1 hW.1 hW.2.1 hW.2.2 q0 0 he rfl hin hdg (fun H1 locs1 hP hD hS => kk H1 locs1 ⟨?_, ?_, hS⟩)
  · rw [← hgs]; exact hP
  · rw [← hgs]; exact hD
theorem g_zast (X : Cx p s m args meth c cc nL ret own G cI cZ cL A) (hW : Wd G A s gs H locs) (q0 : Nat) {n : Nat} {f : Nat → Int32} (he : gs.flatten[q0]? = some (a, .inl (cZ, n, .inl f))) {i x : Int32} (hin : vp_in i n) (gs' : List va_W) (hgs : gs.flatten.set q0 (a, .inl (cZ, n, .inl (upd f i.toNatClampNeg (vp_nar .boolean x)))) = gs'.flatten) (hdg : decode cc pc = .ok (.bastore, 1))
    (kk : ∀ (H1 : Heap) (locs1 : List Loc), Wd G A s gs' H1 locs1 → W p l e R s m args below meth c H1 locs1 cells slots Q (F0 m (pc + 1) ls rest)) : W p l e R s m args below meth c H locs cells slots Q (F0 m pc ls (.int x :: .int i :: .ref a :: rest)) := by
  obtain ⟨hx, hb, -, -, -, hts, hown, hK, -⟩ := X
  refine va_zast hx hb hK.1 hW.1 hW.2.1 hW.2.2 q0 1 he rfl hin hdg (fun H1 locs1 hP hD hS => kk H1 locs1 ⟨?_, ?_, hS⟩)
  · rw [← hgs]; exact hP
  · rw [← hgs]; exact hD
theorem g_alen (X : Cx p s m args meth c cc nL ret own G cI cZ cL A) (hW : Wd G A s gs H locs) (q0 : Nat) {n : Nat} {f : Nat → Int32} (he : gs.flatten[q0]? = some (a, .inl (cI, n, .inl f))) {v : Int32} (hv : Int32.ofNat n = v) (hdg : decode cc pc = .ok (.arraylength, 1))
    (kk : W p l e R s m args below meth c H locs cells slots Q (F0 m (pc + 1) ls (.int v :: rest))) : W p l e R s m args below meth c H locs cells slots Q (F0 m pc ls (.ref a :: rest)) := by
  obtain ⟨hx, hb, -, -, -, hts, hown, hK, -⟩ := X
  exact va_alen hx hb hK.1 hW.1 q0 0 he rfl hv hdg kk
theorem g_alenq (X : Cx p s m args meth c cc nL ret own G cI cZ cL A) (hW : Wd G A s gs H locs) (q0 : Nat) {n : Nat} {f : Nat → Option Nat} (he : gs.flatten[q0]? = some (a, .inl (cL, n, .inr (.inr (.inr (.inr f)))))) {v : Int32} (hv : Int32.ofNat n = v) (hdg : decode cc pc = .ok (.arraylength, 1))
    (kk : W p l e R s m args below meth c H locs cells slots Q (F0 m (pc + 1) ls (.int v :: rest))) : W p l e R s m args below meth c H locs cells slots Q (F0 m pc ls (.ref a :: rest)) := by
  obtain ⟨hx, hb, -, -, -, hts, hown, hK, -⟩ := X
  exact va_alen hx hb hK.1 hW.1 q0 2 he rfl hv hdg kk
theorem g_aldq (X : Cx p s m args meth c cc nL ret own G cI cZ cL A) (hW : Wd G A s gs H locs) (q0 : Nat) {n : Nat} {f : Nat → Option Nat} (he : gs.flatten[q0]? = some (a, .inl (cL, n, .inr (.inr (.inr (.inr f)))))) {i : Int32} (hin : vp_in i n) {b : Nat} (hv : f i.toNatClampNeg = some b) (hdg : decode cc pc = .ok (.aaload, 1))
    (kk : W p l e R s m args below meth c H locs cells slots Q (F0 m (pc + 1) ls (.ref b :: rest))) : W p l e R s m args below meth c H locs cells slots Q (F0 m pc ls (.int i :: .ref a :: rest)) := by
  obtain ⟨hx, hb, -, -, -, hts, hown, hK, -⟩ := X
  refine va_aldq hx hb hK.1 hW.1 q0 2 he rfl hin hdg ?_
  rw [hv]
  exact kk
theorem g_max (X : Cx p s m args meth c cc nL ret own G cI cZ cL A) (hsz : ls.size = nL) {index : Nat} (hlink : Cond.methodLink own index Lib.Math.max.name ∈ gtbl) (hstat : Cond.static Lib.Math.max.name ∈ gtbl) (hini : Cond.initialized "java/lang/Math" ∈ gtbl) (hcode : Cond.code Lib.Math.max.name Lib.Math.max.code 2 (some .int) ∈ gtbl)
    (hframes : 1 ≤ R.frames) (hlocals : (rest.map fun v => v.category).sum + 13 ≤ R.locals) (hc : cells ≤ R.cells) (hs : slots ≤ R.slots) {x y : Int32} (hdg : decode cc pc = .ok (.invokestatic index, 3))
    (kk : W p l e R s m args below meth c H locs cells slots Q (F0 m (pc + 3) ls (.int (if x < y then y else x) :: rest))) : W p l e R s m args below meth c H locs cells slots Q (F0 m pc ls (.int y :: .int x :: rest)) := by
  obtain ⟨hx, hb, hml, -, -, hts, hown, hK, -⟩ := X
  exact va_mmax hx hb (hml.trans hsz.symm) hown (hts _ hlink) (hts _ hstat) (hts _ hini) (hts _ hcode) hframes hlocals hc hs hdg kk
theorem g_min (X : Cx p s m args meth c cc nL ret own G cI cZ cL A) (hsz : ls.size = nL) {index : Nat} (hlink : Cond.methodLink own index Lib.Math.min.name ∈ gtbl) (hstat : Cond.static Lib.Math.min.name ∈ gtbl) (hini : Cond.initialized "java/lang/Math" ∈ gtbl) (hcode : Cond.code Lib.Math.min.name Lib.Math.min.code 2 (some .int) ∈ gtbl)
    (hframes : 1 ≤ R.frames) (hlocals : (rest.map fun v => v.category).sum + 13 ≤ R.locals) (hc : cells ≤ R.cells) (hs : slots ≤ R.slots) {x y : Int32} (hdg : decode cc pc = .ok (.invokestatic index, 3))
    (kk : W p l e R s m args below meth c H locs cells slots Q (F0 m (pc + 3) ls (.int (if y < x then y else x) :: rest))) : W p l e R s m args below meth c H locs cells slots Q (F0 m pc ls (.int y :: .int x :: rest)) := by
  obtain ⟨hx, hb, hml, -, -, hts, hown, hK, -⟩ := X
  exact va_mmin hx hb (hml.trans hsz.symm) hown (hts _ hlink) (hts _ hstat) (hts _ hini) (hts _ hcode) hframes hlocals hc hs hdg kk
theorem g_copy (X : Cx p s m args meth c cc nL ret own G cI cZ cL A) (hsz : ls.size = nL) (hW : Wd G A s gs H locs) {index : Nat} (hlink : Cond.methodLink own index arraycopyName ∈ gtbl) (hnat : Cond.native arraycopyName ∈ gtbl) (hstat : Cond.static arraycopyName ∈ gtbl) (hini : Cond.initialized "java/lang/System" ∈ gtbl)
    (q0 q1 : Nat) {a0 : Nat} {n0 n1 : Nat} {f g : Nat → Int32} (ha0 : gs.flatten[q0]? = some (a0, .inl (cI, n0, .inl f))) (ha1 : gs.flatten[q1]? = some (a, .inl (cI, n1, .inl g)))
    {n : Int32} {N : Nat} (h3 : ¬ n < 0) (hN : n.toNatClampNeg = N) (h4 : N ≤ n0) (h5 : N ≤ n1) (gs' : List va_W) (hgs : gs.flatten.set q1 (a, .inl (cI, n1, .inl (va_cpy f g 0 0 N))) = gs'.flatten)
    (hframes : 1 ≤ R.frames) (hlocals : (rest.map fun v => v.category).sum + (nativeFrameWords "java/lang/System" "arraycopy" 5 + 11) ≤ R.locals) (hdg : decode cc pc = .ok (.invokestatic index, 3))
    (kk : ∀ (H1 : Heap) (locs1 : List Loc), Wd G A s gs' H1 locs1 → W p l e R s m args below meth c H1 locs1 cells slots Q (F0 m (pc + 3) ls rest)) : W p l e R s m args below meth c H locs cells slots Q (F0 m pc ls (.int n :: .int 0 :: .ref a :: .int 0 :: .ref a0 :: rest)) := by
  obtain ⟨hx, hb, hml, -, -, hts, hown, hK, -⟩ := X
  have z0 : (0 : Int32).toNatClampNeg = 0 := rfl
  refine va_copyi hx hb (hml.trans hsz.symm) hown (hts _ hlink) (hts _ hnat) (hts _ hstat) (hts _ hini) hK.1 hW.1 hW.2.1 hW.2.2 q0 q1 0 0 ha0 ha1 rfl rfl rfl (by decide) (by decide) h3 (by rw [z0, hN, Nat.zero_add]; exact h4) (by rw [z0, hN, Nat.zero_add]; exact h5) (fun i _ => rfl) hframes hlocals hdg (fun H1 locs1 hP hD hS => kk H1 locs1 ⟨?_, ?_, hS⟩)
  · rw [← hgs, ← hN]; exact hP
  · rw [← hgs, ← hN]; exact hD
theorem g_reti {r : Int32} {gs' : List va_W} {v : Int32} {ty : FieldType} (X : Cx p s m args meth c cc nL (some ty) own G cI cZ cL A) (hW : Wd G A s gs' H locs) (hv : v = r) (hn : narrow ty (.int v) = .int v) (hdg : decode cc pc = .ok (.ireturn, 1)) :
    W p l e R s m args below meth c H locs 0 0 (MQ below (qI G r gs' A) args s 0 0 A) (F0 m pc ls [.int v]) := by
  obtain ⟨hx, hb, -, hr, hlocks, -, -, -, -⟩ := X
  exact W.zret hx hb hr hn (fun t ht hw => ⟨⟨v, (), rfl, hv, by rw [ht]; exact hW.1, hW.2.1⟩, hW.2.2.F ht⟩) hW.2.2.2.2 hdg hlocks
theorem g_retv {gs' : List va_W} (X : Cx p s m args meth c cc nL none own G cI cZ cL A) (hW : Wd G A s gs' H locs) (hdg : decode cc pc = .ok (.return_, 1)) :
    W p l e R s m args below meth c H locs 0 0 (MQ below (qV G gs' A) args s 0 0 A) (F0 m pc ls []) := by
  obtain ⟨hx, hb, -, hr, hlocks, -, -, -, -⟩ := X
  exact W.vret hx hb hr (fun t ht hw => ⟨⟨(), rfl, trivial, by rw [ht]; exact hW.1, hW.2.1⟩, hW.2.2.F ht⟩) hW.2.2.2.2 hdg hlocks
theorem g_reta {gs' : List va_W} {C : String} {ra : Nat} (X : Cx p s m args meth c cc nL (some (.object C)) own G cI cZ cL A) (hW : Wd G A s gs' H locs) (hdg : decode cc pc = .ok (.areturn, 1)) :
    W p l e R s m args below meth c H locs 0 0 (MQ below (qR G ra gs' A) args s 0 0 A) (F0 m pc ls [.ref ra]) := by
  obtain ⟨hx, hb, -, hr, hlocks, -, -, -, -⟩ := X
  exact W.aret hx hb hr (Or.inl ⟨C, rfl⟩) (Or.inr ⟨ra, rfl⟩) (fun t ht hw => ⟨⟨(), ra, rfl, trivial, rfl, by rw [ht]; exact hW.1, hW.2.1⟩, hW.2.2.F ht⟩) hW.2.2.2.2 hdg hlocks
def Pick (isC isR : List Nat) (k : Nat) (gs gc gr : List va_W) : Prop := (isC ++ isR).Perm (List.range k) ∧ gs.length = k ∧ isC.map (fun i => gs[i]?) = gc.map some ∧ isR.map (fun i => gs[i]?) = gr.map some
theorem Pick.perm {isC isR : List Nat} {k : Nat} {gs gc gr : List va_W} (h : Pick isC isR k gs gc gr) : gs.flatten.Perm (gr.flatten ++ gc.flatten) := by
  have h1 : gs.Perm (gc ++ gr) := perm_pick (isC ++ isR) (by rw [h.2.1]; exact h.1) (by rw [List.map_append, h.2.2.1, h.2.2.2, List.map_append])
  have h2 := (h1.trans List.perm_append_comm).flatten
  rwa [List.flatten_append] at h2
theorem Wd.back {gr gc gc' gs' : List va_W} {isC isR : List Nat} {k k' : Nat} {H1 : Heap} {locs1 : List Loc} (hW : Wd G A s gs H locs) (hp : Pick isC isR k gs gc gr) (hp' : Pick isC isR k' gs' gc' gr) (hk : ∀ q : Nat, q < H.size → ¬ va_A gc.flatten H.size q → H1[q]? = H[q]?) (hF : ∀ q, va_A gc.flatten H.size q → A q) (hP1 : va_P G vwCl gc'.flatten H1) (hD1 : va_D (va_A gc.flatten H.size) gc'.flatten) (hS : va_S A s.heap H1 locs1) : Wd G A s gs' H1 locs1 := by
  obtain ⟨h1, h2⟩ := vJoin (vP_perm hp.perm hW.1) (vD_perm hp.perm hW.2.1) hk hF hP1 hD1
  exact ⟨vP_perm hp'.perm.symm h1, vD_perm hp'.perm.symm h2, hS⟩
theorem Wd.free {gr gc : List va_W} {isC isR : List Nat} {k : Nat} (hW : Wd G A s gs H locs) (hA : ∀ q : Nat, s.heap.size ≤ q → A q) (hp : Pick isC isR k gs gc gr) : ∀ q, va_A gc.flatten H.size q → A q := by
  intro q h
  have hD := vD_right (vD_perm hp.perm hW.2.1)
  rcases h with ⟨k, x, h⟩ | h
  · exact hD.2 k _ h
  · exact hA q (Nat.le_trans hW.2.2.1 h)
theorem g_callVi (X : Cx p s m args meth c cc nL ret own G cI cZ cL A) (hsz : ls.size = nL) (hW : Wd G A s gs H locs) {y : MethodName} {cY : ByteArray} {nY fr lo idx n b q0 ci N : Nat} {T : u_T} {tY : FieldType} {As : List Value} {gc gc' gr : List va_W} {r : Int32} {fs st : List Value}
    (K : CtI l y cY nY tY fr lo G cI cZ cL (.ref b :: As) gc r gc') (w1 : Cond.code y cY nY (some tY) ∈ gtbl) (w2 : Cond.methodLink own idx y ∈ gtbl) (w3 : Cond.instanceMethod y ∈ gtbl) (w4 : Cond.selects y.cls y y ∈ gtbl) (w5 : Cond.initialized y.cls ∈ gtbl)
    (hd : y.cls ≠ "java/lang/invoke/MethodHandle" ∧ y.cls ≠ "java/lang/invoke/VarHandle" ∧ (parseMethodDescriptor y.desc).map (fun d => d.parameters.length) = some n) (hn : As.length = n) (hR : fr + 1 ≤ R.frames ∧ 8 + (nY + 11) + lo ≤ R.locals) (hz : cells ≤ R.cells ∧ slots ≤ R.slots)
    (isC isR : List Nat) {k : Nat} (gs' : List va_W) (hp : Pick isC isR k gs gc gr) (hp' : Pick isC isR k gs' gc' gr) (he : gs.flatten[q0]? = some (b, .inr (ci, fs))) (hc : vwCl[ci]? = some (y.cls, T, N)) (hst : st = As.reverse ++ .ref b :: rest) (hrs : (rest.map fun v => v.category).sum ≤ 8) (hdg : decode cc pc = .ok (.invokevirtual idx, 3))
    (kk : ∀ (H1 : Heap) (locs1 : List Loc), Wd G A s gs' H1 locs1 → W p l e R s m args below meth c H1 locs1 cells slots Q (F0 m (pc + 3) ls (.int r :: rest))) : W p l e R s m args below meth c H locs cells slots Q (F0 m pc ls st) := by
  subst hst
  obtain ⟨hx, hb, hml, -, -, hts, hown, hK, hA⟩ := X
  have hF := hW.free hA hp
  have hPc := vP_right (vP_perm hp.perm hW.1)
  have hDc := vD_right (vD_perm hp.perm hW.2.1)
  have hG : GoodIn gtbl (wsO y cY nY (some tY)) := fun w hw => (List.mem_cons.mp hw).elim (fun q => by subst q; exact ⟨w1, gtbl_good w1⟩) (fun q => ⟨q, gtbl_good q⟩)
  refine va_calli (va_runV (As := As) (rest := rest) (n := n) ⟨hx, hb, hml, hown, hts⟩ (K H.size) ⟨callB_of n hts hG rfl rfl rfl (hts _ w5) (hts _ w2) hd hR, hts _ w3, hts _ w4⟩ ⟨ct_blind, va_recv hK.1 hW.1 (ci := ci) (q0 := q0) hc he, fun U hU hw => ct_at hU hw hPc hK (hDc.weaken (fun _ _ _ _ => trivial))⟩ rfl hn hsz rfl (lv_room hrs) hdg hz) hW.2.2 (fun q _ h => hF q h) hF (fun r1 u t H1 locs1 ht hvm hw hB hz1 hk1 hS => ?_)
  obtain ⟨hP1, hD1⟩ := hB
  rw [ht] at hP1
  subst hw
  exact kk H1 locs1 (hW.back hp hp' hk1 hF hP1 hD1 hS)
theorem g_callVv (X : Cx p s m args meth c cc nL ret own G cI cZ cL A) (hsz : ls.size = nL) (hW : Wd G A s gs H locs) {y : MethodName} {cY : ByteArray} {nY fr lo idx n b q0 ci N : Nat} {T : u_T} {As : List Value} {gc gc' gr : List va_W} {fs st : List Value}
    (K : CtV l y cY nY fr lo G cI cZ cL (.ref b :: As) gc gc') (w1 : Cond.code y cY nY none ∈ gtbl) (w2 : Cond.methodLink own idx y ∈ gtbl) (w3 : Cond.instanceMethod y ∈ gtbl) (w4 : Cond.selects y.cls y y ∈ gtbl) (w5 : Cond.initialized y.cls ∈ gtbl)
    (hd : y.cls ≠ "java/lang/invoke/MethodHandle" ∧ y.cls ≠ "java/lang/invoke/VarHandle" ∧ (parseMethodDescriptor y.desc).map (fun d => d.parameters.length) = some n) (hn : As.length = n) (hR : fr + 1 ≤ R.frames ∧ 8 + (nY + 11) + lo ≤ R.locals) (hz : cells ≤ R.cells ∧ slots ≤ R.slots)
    (isC isR : List Nat) {k : Nat} (gs' : List va_W) (hp : Pick isC isR k gs gc gr) (hp' : Pick isC isR k gs' gc' gr) (he : gs.flatten[q0]? = some (b, .inr (ci, fs))) (hc : vwCl[ci]? = some (y.cls, T, N)) (hst : st = As.reverse ++ .ref b :: rest) (hrs : (rest.map fun v => v.category).sum ≤ 8) (hdg : decode cc pc = .ok (.invokevirtual idx, 3))
    (kk : ∀ (H1 : Heap) (locs1 : List Loc), Wd G A s gs' H1 locs1 → W p l e R s m args below meth c H1 locs1 cells slots Q (F0 m (pc + 3) ls rest)) : W p l e R s m args below meth c H locs cells slots Q (F0 m pc ls st) := by
  subst hst
  obtain ⟨hx, hb, hml, -, -, hts, hown, hK, hA⟩ := X
  have hF := hW.free hA hp
  have hPc := vP_right (vP_perm hp.perm hW.1)
  have hDc := vD_right (vD_perm hp.perm hW.2.1)
  have hG : GoodIn gtbl (wsO y cY nY none) := fun w hw => (List.mem_cons.mp hw).elim (fun q => by subst q; exact ⟨w1, gtbl_good w1⟩) (fun q => ⟨q, gtbl_good q⟩)
  refine va_callv (va_runV (As := As) (rest := rest) (n := n) ⟨hx, hb, hml, hown, hts⟩ (K H.size) ⟨callB_of n hts hG rfl rfl rfl (hts _ w5) (hts _ w2) hd hR, hts _ w3, hts _ w4⟩ ⟨ct_blind, va_recv hK.1 hW.1 (ci := ci) (q0 := q0) hc he, fun U hU hw => ct_at hU hw hPc hK (hDc.weaken (fun _ _ _ _ => trivial))⟩ rfl hn hsz rfl (lv_room hrs) hdg hz) hW.2.2 (fun q _ h => hF q h) hF (fun u t H1 locs1 ht hvm hw hB hz1 hk1 hS => ?_)
  obtain ⟨hP1, hD1⟩ := hB
  rw [ht] at hP1
  exact kk H1 locs1 (hW.back hp hp' hk1 hF hP1 hD1 hS)
theorem g_callVr (X : Cx p s m args meth c cc nL ret own G cI cZ cL A) (hsz : ls.size = nL) (hW : Wd G A s gs H locs) {y : MethodName} {cY : ByteArray} {nY fr lo idx n b q0 ci N ra : Nat} {T : u_T} {tY : FieldType} {As : List Value} {gc gc' gr : List va_W} {fs st : List Value}
    (K : CtR l y cY nY tY fr lo G cI cZ cL (.ref b :: As) gc ra gc') (w1 : Cond.code y cY nY (some tY) ∈ gtbl) (w2 : Cond.methodLink own idx y ∈ gtbl) (w3 : Cond.instanceMethod y ∈ gtbl) (w4 : Cond.selects y.cls y y ∈ gtbl) (w5 : Cond.initialized y.cls ∈ gtbl)
    (hd : y.cls ≠ "java/lang/invoke/MethodHandle" ∧ y.cls ≠ "java/lang/invoke/VarHandle" ∧ (parseMethodDescriptor y.desc).map (fun d => d.parameters.length) = some n) (hn : As.length = n) (hR : fr + 1 ≤ R.frames ∧ 8 + (nY + 11) + lo ≤ R.locals) (hz : cells ≤ R.cells ∧ slots ≤ R.slots)
    (isC isR : List Nat) {k : Nat} (gs' : List va_W) (hp : Pick isC isR k gs gc gr) (hp' : Pick isC isR k gs' gc' gr) (he : gs.flatten[q0]? = some (b, .inr (ci, fs))) (hc : vwCl[ci]? = some (y.cls, T, N)) (hst : st = As.reverse ++ .ref b :: rest) (hrs : (rest.map fun v => v.category).sum ≤ 8) (hdg : decode cc pc = .ok (.invokevirtual idx, 3))
    (kk : ∀ (H1 : Heap) (locs1 : List Loc), Wd G A s gs' H1 locs1 → W p l e R s m args below meth c H1 locs1 cells slots Q (F0 m (pc + 3) ls (.ref ra :: rest))) : W p l e R s m args below meth c H locs cells slots Q (F0 m pc ls st) := by
  subst hst
  obtain ⟨hx, hb, hml, -, -, hts, hown, hK, hA⟩ := X
  have hF := hW.free hA hp
  have hPc := vP_right (vP_perm hp.perm hW.1)
  have hDc := vD_right (vD_perm hp.perm hW.2.1)
  have hG : GoodIn gtbl (wsO y cY nY (some tY)) := fun w hw => (List.mem_cons.mp hw).elim (fun q => by subst q; exact ⟨w1, gtbl_good w1⟩) (fun q => ⟨q, gtbl_good q⟩)
  refine va_callr (va_runV (As := As) (rest := rest) (n := n) ⟨hx, hb, hml, hown, hts⟩ (K H.size) ⟨callB_of n hts hG rfl rfl rfl (hts _ w5) (hts _ w2) hd hR, hts _ w3, hts _ w4⟩ ⟨ct_blind, va_recv hK.1 hW.1 (ci := ci) (q0 := q0) hc he, fun U hU hw => ct_at hU hw hPc hK (hDc.weaken (fun _ _ _ _ => trivial))⟩ rfl hn hsz rfl (lv_room hrs) hdg hz) hW.2.2 (fun q _ h => hF q h) hF (fun u r1 t H1 locs1 ht hvm hw hB hz1 hk1 hS => ?_)
  obtain ⟨hr1, hP1, hD1⟩ := hB
  rw [ht] at hP1
  subst hr1
  exact kk H1 locs1 (hW.back hp hp' hk1 hF hP1 hD1 hS)
theorem g_callSi (X : Cx p s m args meth c cc nL ret own G cI cZ cL A) (hsz : ls.size = nL) (hW : Wd G A s gs H locs) {y : MethodName} {cY : ByteArray} {nY fr lo idx n : Nat} {tY : FieldType} {As : List Value} {r : Int32} {st : List Value}
    (K : CtI l y cY nY tY fr lo G cI cZ cL As [] r []) (w1 : Cond.code y cY nY (some tY) ∈ gtbl) (w2 : Cond.methodLink own idx y ∈ gtbl) (w3 : Cond.static y ∈ gtbl) (w5 : Cond.initialized y.cls ∈ gtbl)
    (hd : y.cls ≠ "java/lang/invoke/MethodHandle" ∧ y.cls ≠ "java/lang/invoke/VarHandle" ∧ (parseMethodDescriptor y.desc).map (fun d => d.parameters.length) = some n) (hn : As.length = n) (hR : fr + 1 ≤ R.frames ∧ 8 + (nY + 11) + lo ≤ R.locals) (hz : cells ≤ R.cells ∧ slots ≤ R.slots)
    (hst : st = As.reverse ++ rest) (hrs : (rest.map fun v => v.category).sum ≤ 8) (hdg : decode cc pc = .ok (.invokestatic idx, 3))
    (kk : ∀ (H1 : Heap) (locs1 : List Loc), Wd G A s gs H1 locs1 → W p l e R s m args below meth c H1 locs1 cells slots Q (F0 m (pc + 3) ls (.int r :: rest))) : W p l e R s m args below meth c H locs cells slots Q (F0 m pc ls st) := by
  subst hst
  obtain ⟨hx, hb, hml, -, -, hts, hown, hK, hA⟩ := X
  have hp : Pick [] (List.range gs.length) gs.length gs [] gs := ⟨by simp, rfl, rfl, by
    apply List.ext_getElem?
    intro i
    by_cases hi : i < gs.length
    · simp [List.getElem?_map, List.getElem?_range hi, List.getElem?_eq_getElem hi]
    · simp [List.getElem?_eq_none (Nat.not_lt.mp hi)]
      omega⟩
  have hF := hW.free hA hp
  have hPc := vP_right (vP_perm hp.perm hW.1)
  have hDc := vD_right (vD_perm hp.perm hW.2.1)
  have hG : GoodIn gtbl (wsO y cY nY (some tY)) := fun w hw => (List.mem_cons.mp hw).elim (fun q => by subst q; exact ⟨w1, gtbl_good w1⟩) (fun q => ⟨q, gtbl_good q⟩)
  refine va_calli (va_runS (As := As) (rest := rest) (n := n) ⟨hx, hb, hml, hown, hts⟩ (K H.size) ⟨callB_of n hts hG rfl rfl rfl (hts _ w5) (hts _ w2) hd hR, hts _ w3⟩ ⟨ct_blind, fun U hU hw => ct_at hU hw hPc hK (hDc.weaken (fun _ _ _ _ => trivial))⟩ rfl hn hsz rfl (lv_room hrs) hdg hz) hW.2.2 (fun q _ h => hF q h) hF (fun r1 u t H1 locs1 ht hvm hw hB hz1 hk1 hS => ?_)
  obtain ⟨hP1, hD1⟩ := hB
  rw [ht] at hP1
  subst hw
  exact kk H1 locs1 (hW.back hp hp hk1 hF hP1 hD1 hS)
theorem g_callSNi (X : Cx p s m args meth c cc nL ret own G cI cZ cL A) (hsz : ls.size = nL) (hW : Wd G A s gs H locs) {y : MethodName} {cY : ByteArray} {nY fr lo idx n : Nat} {host : String} {tY : FieldType} {As : List Value} {r : Int32} {st : List Value}
    (K : CtI l y cY nY tY fr lo G cI cZ cL As [] r []) (w1 : Cond.code y cY nY (some tY) ∈ gtbl) (w2 : Cond.methodLinkNest own idx y host ∈ nests) (w3 : Cond.static y ∈ gtbl) (w5 : Cond.initialized y.cls ∈ gtbl)
    (hd : y.cls ≠ "java/lang/invoke/MethodHandle" ∧ y.cls ≠ "java/lang/invoke/VarHandle" ∧ (parseMethodDescriptor y.desc).map (fun d => d.parameters.length) = some n) (hn : As.length = n) (hR : fr + 1 ≤ R.frames ∧ 8 + (nY + 11) + lo ≤ R.locals) (hz : cells ≤ R.cells ∧ slots ≤ R.slots)
    (hst : st = As.reverse ++ rest) (hrs : (rest.map fun v => v.category).sum ≤ 8) (hdg : decode cc pc = .ok (.invokestatic idx, 3))
    (kk : ∀ (H1 : Heap) (locs1 : List Loc), Wd G A s gs H1 locs1 → W p l e R s m args below meth c H1 locs1 cells slots Q (F0 m (pc + 3) ls (.int r :: rest))) : W p l e R s m args below meth c H locs cells slots Q (F0 m pc ls st) := by
  subst hst
  obtain ⟨hx, hb, hml, -, -, hts, hown, hK, hA⟩ := X
  have hp : Pick [] (List.range gs.length) gs.length gs [] gs := ⟨by simp, rfl, rfl, by
    apply List.ext_getElem?
    intro i
    by_cases hi : i < gs.length
    · simp [List.getElem?_map, List.getElem?_range hi, List.getElem?_eq_getElem hi]
    · simp [List.getElem?_eq_none (Nat.not_lt.mp hi)]
      omega⟩
  have hF := hW.free hA hp
  have hPc := vP_right (vP_perm hp.perm hW.1)
  have hDc := vD_right (vD_perm hp.perm hW.2.1)
  have hG : GoodIn gtbl (wsO y cY nY (some tY)) := fun w hw => (List.mem_cons.mp hw).elim (fun q => by subst q; exact ⟨w1, gtbl_good w1⟩) (fun q => ⟨q, gtbl_good q⟩)
  refine va_calli (va_runSN (As := As) (rest := rest) (n := n) ⟨hx, hb, hml, hown, hts⟩ (K H.size) ⟨va_cnB n hts hG rfl rfl rfl (hK.2 _ w2) (hts _ w5) hd hR, hts _ w3, trivial⟩ ⟨ct_blind, fun U hU hw => ct_at hU hw hPc hK (hDc.weaken (fun _ _ _ _ => trivial))⟩ rfl hn hsz rfl (lv_room hrs) hdg hz) hW.2.2 (fun q _ h => hF q h) hF (fun r1 u t H1 locs1 ht hvm hw hB hz1 hk1 hS => ?_)
  obtain ⟨hP1, hD1⟩ := hB
  rw [ht] at hP1
  subst hw
  exact kk H1 locs1 (hW.back hp hp hk1 hF hP1 hD1 hS)
end RUL
def MLet {α β : Type} (x : α) (k : α → β) : β := k x
def MJ {α β : Type} (k : α) (f : α → β) : β := f k
theorem MLet_some {α β : Type} {x : α} {k : α → β} {r : β} (h : MLet x k = r) : ∀ y, y = x → k y = r := fun y hy => by subst hy; exact h
def MG {α : Type} (i : Int32) (n : Nat) (k : Option α) : Option α := if i < 0 ∨ n ≤ i.toNatClampNeg then none else k
theorem MG_some {α : Type} {i : Int32} {n : Nat} {k : Option α} {r : α} (h : MG i n k = some r) : vp_in i n ∧ k = some r := by
  unfold MG at h
  by_cases hc : i < 0 ∨ n ≤ i.toNatClampNeg
  · rw [if_pos hc] at h; cases h
  · rw [if_neg hc] at h; exact ⟨hc, h⟩
def MD {α : Type} (d : Int32) (k : Option α) : Option α := if d = 0 then none else k
theorem MD_some {α : Type} {d : Int32} {k : Option α} {r : α} (h : MD d k = some r) : ¬ d = 0 ∧ k = some r := by
  unfold MD at h
  by_cases hc : d = 0
  · rw [if_pos hc] at h; cases h
  · rw [if_neg hc] at h; exact ⟨hc, h⟩
def MB {α : Type} (v : Int32) (k : Option α) : Option α := if v = 0 ∨ v = 1 then k else none
theorem MB_some {α : Type} {v : Int32} {k : Option α} {r : α} (h : MB v k = some r) : narrow .boolean (.int v) = .int v ∧ k = some r := by
  unfold MB at h
  by_cases hc : v = 0 ∨ v = 1
  · rw [if_pos hc] at h
    refine ⟨?_, h⟩
    rcases hc with rfl | rfl <;> rfl
  · rw [if_neg hc] at h; cases h
theorem bind_some {α β : Type} {x : Option α} {k : α → Option β} {r : β} (h : x.bind k = some r) : ∃ y, x = some y ∧ k y = some r := by
  cases x with
  | none => cases h
  | some y => exact ⟨y, rfl, h⟩
