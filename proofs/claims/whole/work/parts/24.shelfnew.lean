def zShelf : ShelfV := (0, 0, fun _ => zLine)
section SHN
variable {p : Program} {l : Launch} {e : Env} {R : Room} {s : State} {m : MethodId} {args : Array Value} {below : List Frame} {meth : Method} {c : Code} {H : Heap} {locs : List Loc} {cells slots : Nat} {Q : State → Prop}
variable {cc : ByteArray} {nL : Nat} {ret : Option FieldType} {own : String} {G : va_G} {cI cZ cL : ClassId} {A : Nat → Prop} {gs : List va_W} {pc : Nat} {ls : Array Slot} {rest : List Value} {a : Nat}
theorem Wd.shift {gs' : List va_W} (hW : Wd G A s gs H locs) (hp : gs.Perm gs') : Wd G A s gs' H locs := ⟨vP_perm hp.flatten hW.1, vD_perm hp.flatten hW.2.1, hW.2.2⟩
theorem g_astq (X : Cx p s m args meth c cc nL ret own G cI cZ cL A) (hW : Wd G A s gs H locs) (q0 qk : Nat) {n v : Nat} {vs : List Value} {f : Nat → Option Nat} (ha : gs.flatten[q0]? = some (a, .inl (cL, n, .inr (.inr (.inr (.inr f)))))) (hv : gs.flatten[qk]? = some (v, .inr (1, vs))) {i : Int32} (hin : vp_in i n) (gs' : List va_W) (hgs : gs.flatten.set q0 (a, .inl (cL, n, .inr (.inr (.inr (.inr (va_up f i.toNatClampNeg (some v))))))) = gs'.flatten) (hdg : decode cc pc = .ok (.aastore, 1))
    (kk : ∀ (H1 : Heap) (locs1 : List Loc), Wd G A s gs' H1 locs1 → W p l e R s m args below meth c H1 locs1 cells slots Q (F0 m (pc + 1) ls rest)) : W p l e R s m args below meth c H locs cells slots Q (F0 m pc ls (.ref v :: .int i :: .ref a :: rest)) := by
  obtain ⟨hx, hb, -, -, -, hts, hown, hK, -⟩ := X
  refine va_astq (r := (RX1, TX1, 9)) hx hb hK.1 hW.1 hW.2.1 hW.2.2 q0 2 qk 1 ha rfl hv rfl hin hdg (fun H1 locs1 hP hD hS => kk H1 locs1 ⟨?_, ?_, hS⟩)
  · rw [← hgs]; exact hP
  · rw [← hgs]; exact hD
end SHN
def shLines (cI : ClassId) (u : Nat → Nat → Nat) (i : Nat) : List va_W := (List.range i).map (fun j => wLine cI (u (j + 1)) zLine)
def shArr (u : Nat → Nat → Nat) (i : Nat) : Nat → Option Nat := fun j => if j < i then some (u (j + 1) 0) else none
theorem shArr_up {u : Nat → Nat → Nat} {i : Nat} {a : Nat → Nat} : va_up (shArr u i) i (some (a 0)) = shArr (va_up u (i + 1) a) (i + 1) := by
  funext j
  unfold shArr va_up
  by_cases h : j = i
  · subst h; simp
  · have h2 : ¬ (j + 1 = i + 1) := by omega
    by_cases h3 : j < i
    · have h4 : j < i + 1 := by omega
      simp [h, h3, h4]
    · have h4 : ¬ j < i + 1 := by omega
      simp [h, h3, h4]
theorem shLines_up {cI : ClassId} {u : Nat → Nat → Nat} {i : Nat} {a : Nat → Nat} : shLines cI (va_up u (i + 1) a) (i + 1) = shLines cI u i ++ [wLine cI a zLine] := by
  unfold shLines
  rw [List.range_succ, List.map_append]
  congr 1
  · refine List.map_congr_left (fun j hj => ?_)
    have : ¬ j = i := by have := List.mem_range.mp hj; omega
    simp [va_up, this]
  · simp [va_up]
theorem shMax {n : Nat} (h : n < 2 ^ 31) : (if (0 : Int32) < nI n then nI n else (0 : Int32)) = nI n := by
  by_cases h0 : n = 0
  · subst h0; decide +kernel
  · exact if_pos (Int32.not_le.mp (nI_nle (by omega) h))
set_option maxHeartbeats 4000000 in
set_option maxRecDepth 100000 in
theorem n_X5_init (l : Launch) (G : va_G) (cI cZ cL : ClassId) (h0 n : Nat) (hn : n ≤ 8) : CtN E1 l yX5_init cX5_init 3 2 32 (1 + 6 * n) (n + 54 * n) G cI cZ cL [.ref h0, .int (nI n)] [[(h0, .inr (5, [.null, .int 0, .int 0]))]] (fun u : Nat → Nat → Nat => u 0 0 = h0) (fun u => [wShelf cI cL n (u 0) (fun i => u (i + 1)) zShelf]) := by
  refine ctE_body (fun A => qN G (fun u : Nat → Nat → Nat => u 0 0 = h0) (fun u => [wShelf cI cL n (u 0) (fun i => u (i + 1)) zShelf]) A) (by decide) (Nat.le_of_ble_eq_true rfl) (fun p e s m below meth c A ls X hin hW hE hl => ?_)
  have hx := X.1
  have hb := X.2.1
  have hl : lv_has ls 3 [(0, .ref h0), (1, .int (nI n))] := hl
  refine lv_aload_n hx hb dX5_init_0 rfl (lv_at hl 0 rfl) ?_
  refine g_obj X hl.1 q_241 q_76 q_77 (Nat.le_of_ble_eq_true rfl) (Nat.le_of_ble_eq_true rfl) dX5_init_1 ?_
  refine lv_aload_n hx hb dX5_init_4 rfl (lv_at hl 0 rfl) ?_
  refine lv_iconst (v := (0 : Int32)) hx hb dX5_init_5 (by decide) ?_
  refine lv_iload_n hx hb dX5_init_6 rfl (lv_at hl 1 rfl) ?_
  refine g_max X hl.1 q_242 q_243 q_62 q_244 (Nat.le_of_ble_eq_true rfl) (Nat.le_of_ble_eq_true rfl) (Nat.zero_le _) (Nat.zero_le _) dX5_init_7 ?_
  rw [show (if (0 : Int32) < nI n then nI n else (0 : Int32)) = nI n from shMax (by omega)]
  refine g_newq X hW hE q_245 n (nI_pos (by omega)) (nI_clamp (by omega)) (by omega) (by show 0 + 1 ≤ 1 + 6 * n; omega) (by show 0 + n ≤ n + 54 * n; omega) dX5_init_10 (fun q H hV => ?_)
  have hW : Wd G A s [[(h0, .inr (5, [.null, .int 0, .int 0]))], [(q, .inl (cL, n, .inr (.inr (.inr (.inr (fun _ => none))))))]] H _ := hV
  refine g_putF X hin hW 0 rfl rfl inX5 tyX5 tyX5_ok nmX5 0 (by decide) q_248 rfl rfl rfl rfl (Nat.le_of_ble_eq_true rfl) [[(h0, .inr (5, [.ref q, .int 0, .int 0]))], [(q, .inl (cL, n, .inr (.inr (.inr (.inr (fun _ => none))))))]] rfl dX5_init_13 (fun H locs hV => ?_)
  refine lv_iconst (v := (0 : Int32)) hx hb dX5_init_16 (by decide) ?_
  refine lv_istore_n (lv' := [(2, .int (0 : Int32)), (0, .ref h0), (1, .int (nI n))]) hx hb dX5_init_17 rfl hl (by decide) rfl (fun ls hl => ?_)
  have lp : ∀ (k i : Nat), i + k = n → ∀ (u : Nat → Nat → Nat) (H : Heap) (locs : List Loc) (ls : Array Slot), Wd G A s ([[(h0, .inr (5, [.ref q, .int 0, .int 0]))], [(q, .inl (cL, n, .inr (.inr (.inr (.inr (shArr u i))))))]] ++ shLines cI u i) H locs → lv_has ls 3 [(0, .ref h0), (1, .int (nI n)), (2, .int (nI i))] → W p l e (rmN 2 32 (1 + 6 * n) (n + 54 * n)) s m ([.ref h0, .int (nI n)] : List Value).toArray below meth c H locs (1 + 6 * i) (n + 54 * i) (MQ below (qN G (fun u : Nat → Nat → Nat => u 0 0 = h0) (fun u => [wShelf cI cL n (u 0) (fun i => u (i + 1)) zShelf]) A) ([.ref h0, .int (nI n)] : List Value).toArray s (1 + 6 * n) (n + 54 * n) A) (F0 m 18 ls []) := by
    intro k
    induction k with
    | zero =>
      intro i hi u H locs ls hW hl
      have hi : i = n := by omega
      subst hi
      refine lv_iload_n hx hb dX5_init_18 rfl (lv_at hl 2 rfl) ?_
      refine lv_aload_n hx hb dX5_init_19 rfl (lv_at hl 0 rfl) ?_
      refine g_get X hW 0 rfl rfl inX5 0 (by decide) q_248 rfl dX5_init_20 ?_
      refine g_alenq X hW 1 rfl (v := nI _) rfl dX5_init_23 ?_
      refine lv_icmp_ge (tgt := 46) hx hb dX5_init_24 (by decide) (fun hc => ?_) (fun hc => absurd (nI_le (Nat.le_refl i) (by omega)) hc)
      refine g_retN (va_up u 0 (adr [h0, q])) X (hW.as ?_) rfl dX5_init_46
      show _ = (wShelf cI cL i (adr [h0, q]) (fun j => u (j + 1)) zShelf) ++ []
      rw [List.append_nil]
      rfl
    | succ k ih =>
      intro i hi u H locs ls hW hl
      refine lv_iload_n hx hb dX5_init_18 rfl (lv_at hl 2 rfl) ?_
      refine lv_aload_n hx hb dX5_init_19 rfl (lv_at hl 0 rfl) ?_
      refine g_get X hW 0 rfl rfl inX5 0 (by decide) q_248 rfl dX5_init_20 ?_
      refine g_alenq X hW 1 rfl (v := nI _) rfl dX5_init_23 ?_
      refine lv_icmp_ge (tgt := 46) hx hb dX5_init_24 (by decide) (fun hc => absurd hc (nI_ge (by omega) (by omega))) (fun hc => ?_)
      refine lv_aload_n hx hb dX5_init_27 rfl (lv_at hl 0 rfl) ?_
      refine g_get X hW 0 rfl rfl inX5 0 (by decide) q_248 rfl dX5_init_28 ?_
      refine lv_iload_n hx hb dX5_init_31 rfl (lv_at hl 2 rfl) ?_
      refine g_new X hW (ci := 1) rfl inX1 tyX1 tyX1_ok q_245 q_140 q_58 [.null, .null, .null, .null, .null, .int 0, .int 0, .int 0, .int 0] (by decide) (by show 1 + 6 * i + 1 ≤ 1 + 6 * n; omega) (by show n + 54 * i + 9 ≤ n + 54 * n; omega) dX5_init_32 (fun q9 H hV9 => ?_)
      refine lv_dup hx hb dX5_init_35 rfl ?_
      refine g_callN (rest := [.ref q9, .int (nI i), .ref q]) (gc := [[(q9, .inr (1, [.null, .null, .null, .null, .null, .int 0, .int 0, .int 0, .int 0]))]]) E0_ok X hl.1 hV9 (n_X1_init l G cI cZ cL q9) q_143 (Or.inr ⟨_, nt_26⟩) q_142 q_58 rfl hdN_X1 rfl ⟨Nat.le_of_ble_eq_true rfl, Nat.le_of_ble_eq_true rfl⟩ ⟨by show 1 + 6 * i + 1 + 5 ≤ 1 + 6 * n; omega, by show n + 54 * i + 9 + 45 ≤ n + 54 * n; omega⟩ (fun _ _ _ => trivial) rfl (Nat.le_of_ble_eq_true rfl) dX5_init_36 (fun a H locs ha hV8 => ?_)
      have hV7 : Wd G A s ([[(h0, .inr (5, [.ref q, .int 0, .int 0]))], [(q, .inl (cL, n, .inr (.inr (.inr (.inr (shArr u i))))))], wLine cI a zLine] ++ shLines cI u i) H locs := hV8.shift (by
        show List.Perm ([[_], [_]] ++ shLines cI u i ++ [wLine cI a zLine]) ([[_], [_]] ++ ([wLine cI a zLine] ++ shLines cI u i))
        rw [List.append_assoc]
        exact List.Perm.append_left _ List.perm_append_comm)
      rw [← ha]
      refine g_astq X hV7 1 2 rfl rfl (vp_in_nI (n := i) (N := n) (by omega) (by omega)) ([[(h0, .inr (5, [.ref q, .int 0, .int 0]))], [(q, .inl (cL, n, .inr (.inr (.inr (.inr (va_up (shArr u i) (nI i).toNatClampNeg (some (a 0))))))))], wLine cI a zLine] ++ shLines cI u i) rfl dX5_init_39 (fun H locs hV6 => ?_)
      rw [nI_clamp (by omega : i < 2 ^ 31), shArr_up] at hV6
      have hV5 : Wd G A s ([[(h0, .inr (5, [.ref q, .int 0, .int 0]))], [(q, .inl (cL, n, .inr (.inr (.inr (.inr (shArr (va_up u (i + 1) a) (i + 1)))))))]] ++ shLines cI (va_up u (i + 1) a) (i + 1)) H locs := by
        rw [shLines_up]
        refine hV6.shift ?_
        show List.Perm ([[_], [_]] ++ ([wLine cI a zLine] ++ shLines cI u i)) ([[_], [_]] ++ (shLines cI u i ++ [wLine cI a zLine]))
        exact List.Perm.append_left _ List.perm_append_comm
      refine lv_iinc (v := nI (i + 1)) (lv' := [(2, .int (nI (i + 1))), (0, .ref h0), (1, .int (nI n))]) hx hb dX5_init_40 hl (k := 2) rfl (nI_1 i) (by decide) rfl (fun ls hl => ?_)
      refine lv_goto (tgt := 18) hx hb dX5_init_43 (by decide) ?_
      refine W.widen (k := 1 + 6 * (i + 1)) (n := n + 54 * (i + 1)) (by omega) (by omega) ?_
      exact ih (i + 1) (by omega) (va_up u (i + 1) a) _ _ _ hV5 (lv_sub hl [1, 2, 0] rfl)
  refine W.widen (k := 1 + 6 * 0) (n := n + 54 * 0) (by omega) (by omega) ?_
  exact lp n 0 (by omega) (fun _ _ => 0) _ _ _ (hV.as rfl) (lv_sub hl [1, 2, 0] rfl)
