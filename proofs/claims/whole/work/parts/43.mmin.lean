def mOf (a : ASt) : MSt := (a.1, a.2.1, (fun p => if a.2.1 p = 1 then a.2.2.1 p else 0), a.2.2.2.2.2.1, a.2.2.2.2.2.2, (fun p => if a.2.1 p = 3 then nI (a.2.2.2.1 p) else -4), (fun p => if a.2.1 p = 3 then nI (a.2.2.2.2.1 p) else -4))
theorem mst_ext {q q' : List Nat} {f f' g g' : Nat → Nat} {m m' l l' : Nat} {E E' W W' : Nat → Int32} (h1 : q = q') (h2 : f = f') (h3 : ∀ p, g p = g' p) (h4 : m = m') (h5 : l = l') (h6 : ∀ p, E p = E' p) (h7 : ∀ p, W p = W' p) : ((q, f, g, m, l, E, W) : MSt) = (q', f', g', m', l', E', W') := by
  rw [h1, h2, h4, h5, funext h3, funext h6, funext h7]
theorem mOf_join {A : APl} {a : ASt} {p : Nat} (h : a.2.1 p ≠ 3) : mOf (aJoin A a p) = mStand (mOf a) p (jpl A a.1 p) := by
  refine mst_ext rfl rfl (fun x => ?_) rfl rfl (fun x => ?_) (fun x => ?_)
  · show (if fset a.2.1 p 1 x = 1 then fset a.2.2.1 p 0 x else 0) = fset (fun p => if a.2.1 p = 1 then a.2.2.1 p else 0) p 0 x
    by_cases e : x = p
    · subst e; rw [fset_s, fset_s, fset_s, if_pos rfl]
    · rw [fset_n e, fset_n e, fset_n e]
  · show (if fset a.2.1 p 1 x = 3 then nI (a.2.2.2.1 x) else -4) = (if a.2.1 x = 3 then nI (a.2.2.2.1 x) else -4)
    by_cases e : x = p
    · subst e; rw [fset_s, if_neg (by omega), if_neg (by omega)]
    · rw [fset_n e]
  · show (if fset a.2.1 p 1 x = 3 then nI (a.2.2.2.2.1 x) else -4) = (if a.2.1 x = 3 then nI (a.2.2.2.2.1 x) else -4)
    by_cases e : x = p
    · subst e; rw [fset_s, if_neg (by omega), if_neg (by omega)]
    · rw [fset_n e]
theorem mOf_snz {a : ASt} {p : Nat} (h : a.2.1 p = 1) : mOf (aSnz a p) = mSnz (mOf a) p := by
  have hf : a.2.1 = fset a.2.1 p 1 := by
    funext x
    by_cases e : x = p
    · subst e; rw [fset_s, h]
    · rw [fset_n e]
  refine mst_ext rfl hf (fun x => ?_) rfl rfl (fun x => rfl) (fun x => rfl)
  show (if a.2.1 x = 1 then fset a.2.2.1 p 0 x else 0) = fset (fun p => if a.2.1 p = 1 then a.2.2.1 p else 0) p 0 x
  by_cases e : x = p
  · subst e; rw [fset_s, fset_s, if_pos h]
  · rw [fset_n e, fset_n e]
theorem mOf_go {a : ASt} {p k : Nat} (h : a.2.1 p = 1) (hk : k = 2) : mOf (aGo a p k) = mGo (mOf a) p k := by
  subst hk
  refine mst_ext rfl rfl (fun x => ?_) rfl rfl (fun x => ?_) (fun x => ?_)
  · show (if fset a.2.1 p 2 x = 1 then a.2.2.1 x else 0) = fset (fun p => if a.2.1 p = 1 then a.2.2.1 p else 0) p 0 x
    by_cases e : x = p
    · subst e; rw [fset_s, fset_s, if_neg (by omega)]
    · rw [fset_n e, fset_n e]
  · show (if fset a.2.1 p 2 x = 3 then nI (a.2.2.2.1 x) else -4) = (if a.2.1 x = 3 then nI (a.2.2.2.1 x) else -4)
    by_cases e : x = p
    · subst e; rw [fset_s, if_neg (by omega), if_neg (by omega)]
    · rw [fset_n e]
  · show (if fset a.2.1 p 2 x = 3 then nI (a.2.2.2.2.1 x) else -4) = (if a.2.1 x = 3 then nI (a.2.2.2.2.1 x) else -4)
    by_cases e : x = p
    · subst e; rw [fset_s, if_neg (by omega), if_neg (by omega)]
    · rw [fset_n e]
theorem mOf_give {A : APl} {a : ASt} {head : Bool} : mOf (aGive A a head) = mGive A (mOf a) head := by
  unfold aGive mGive
  by_cases hq : a.1 = []
  · rw [if_pos hq, if_pos (show (mOf a).1 = [] from hq)]
  · rw [if_neg hq, if_neg (show ¬ (mOf a).1 = [] from hq)]
    show mOf _ = (a.1.erase (who A a.1 head), fset a.2.1 (who A a.1 head) 3, fset (fun p => if a.2.1 p = 1 then a.2.2.1 p else 0) (who A a.1 head) 0, a.2.2.2.2.2.1, a.2.2.2.2.2.2 + 1, upd (fun p => if a.2.1 p = 3 then nI (a.2.2.2.1 p) else -4) (who A a.1 head) (nI a.2.2.2.2.2.1), upd (fun p => if a.2.1 p = 3 then nI (a.2.2.2.2.1 p) else -4) (who A a.1 head) (nI (A.2.2.2.2.2.1 - a.2.2.2.2.2.2)))
    generalize who A a.1 head = p
    refine mst_ext rfl rfl (fun x => ?_) rfl rfl (fun x => ?_) (fun x => ?_)
    · show (if fset a.2.1 p 3 x = 1 then a.2.2.1 x else 0) = _
      by_cases e : x = p
      · subst e; rw [fset_s, fset_s, if_neg (by omega)]
      · rw [fset_n e, fset_n e]
    · show (if fset a.2.1 p 3 x = 3 then nI (fset a.2.2.2.1 p a.2.2.2.2.2.1 x) else -4) = _
      by_cases e : x = p
      · subst e; rw [fset_s, fset_s, pk_us, if_pos rfl]
      · rw [fset_n e, fset_n e, pk_un e]
    · show (if fset a.2.1 p 3 x = 3 then nI (fset a.2.2.2.2.1 p (A.2.2.2.2.2.1 - a.2.2.2.2.2.2) x) else -4) = _
      by_cases e : x = p
      · subst e; rw [fset_s, fset_s, pk_us, if_pos rfl]
      · rw [fset_n e, fset_n e, pk_un e]
theorem p_mjoin_l {N : Nat} (hN : 100 ≤ N) {r c : Nat} (hr : r + 66 ≤ 792) {F : Nat → Int32} {A : APl} {G H p2 p3 : Int32} (hA : WFP A) (hF : rfF F A) (hc : c ≤ 1000000) : ∀ (m k i : Nat) (w : Nat → Int32) (a : ASt), i + k = A.2.2.2.1 → k < m → repK r w A (mOf a) → WF A.2.2.2.1 c a →
    ∃ w', MX8_passesBy_l3 N (nI A.2.2.2.1) F G H (nI r) p2 p3 m (nI i) w = MX8_passesBy_j63 N (nI A.2.2.2.1) G H (nI r) p2 p3 w' ∧ repK r w' A (mOf (aLp (stJ A) k i a)) ∧ frm r w w' := by
  have h9 := hA.1
  intro m
  induction m with
  | zero => intro k i w a h1 h2; omega
  | succ m ih =>
    intro k i w a h1 h2 hK hw
    rw [MX8_passesBy_l3]
    cases k with
    | zero =>
      rw [if_pos (nI_le (by omega) (by omega))]
      exact ⟨_, rfl, hK, frm.rfl'⟩
    | succ k =>
      have hi : i < A.2.2.2.1 := by omega
      have r1 : w r = nI a.2.2.2.2.2.1 := hK.1
      have r5 : w (r + 12 + i) = nI (a.2.1 i) := hK.2.2.2.2.1 i (by omega)
      have r9 := (hK.2.2.2.2.2.2.2.2 i hi).1
      have hwi := hw.2.2.2.1 i
      have hmi := hw.2.2.2.2.2.2.2.1
      obtain ⟨d1, d2, d3⟩ := hA.2.2.1 i hi
      rw [if_neg (nI_ge hi (by omega))]
      simp (disch := omega) only [k0, k1, k12, k48, nI_add, Nat.add_zero, nI_clamp, MG_ok, r1, r5, r9, nI_eq, MX8_passesBy_j57]
      rw [aLp]
      unfold stJ
      by_cases g1 : a.2.1 i = 0
      · by_cases g2 : A.2.1 i = a.2.2.2.2.2.1
        · obtain ⟨w1, e1, q1, f1⟩ := p_mjoins hN hr hA hF hK (by have := hw.len2 hi (by omega); show a.1.length ≤ 8; omega) (fun x hx => hw.q9 hx) hi
          rw [if_pos g1, if_pos g2, if_pos ⟨g1, g2⟩, e1]
          have q1' : repK r w1 A (mOf (aJoin A a i)) := by rw [mOf_join (by omega)]; exact q1
          obtain ⟨w2, e2, q2, f2⟩ := ih k (i + 1) w1 _ (by omega) (by omega) q1' (hw.join hi (by omega))
          exact ⟨w2, e2, q2, f1.tr f2⟩
        · rw [if_pos g1, if_neg g2, if_neg (fun h => g2 h.2)]
          exact ih k (i + 1) _ _ (by omega) (by omega) hK hw
      · rw [if_neg g1, if_neg (fun h => g1 h.1)]
        exact ih k (i + 1) _ _ (by omega) (by omega) hK hw
theorem p_msnz_l {N : Nat} (hN : 100 ≤ N) {r c : Nat} (hr : r + 66 ≤ 792) {A : APl} {G H p2 p3 : Int32} (hA : WFP A) (hc : c ≤ 1000000) : ∀ (m k i : Nat) (w : Nat → Int32) (a : ASt), i + k = A.2.2.2.1 → k < m → repK r w A (mOf a) → WF A.2.2.2.1 c a →
    ∃ w', MX8_passesBy_l66 N (nI A.2.2.2.1) G H (nI r) p2 p3 m (nI i) w = MX8_passesBy_j136 N G H (nI r) p2 p3 w' ∧ repK r w' A (mOf (aLp (stS A) k i a)) ∧ frm r w w' := by
  have h9 := hA.1
  intro m
  induction m with
  | zero => intro k i w a h1 h2; omega
  | succ m ih =>
    intro k i w a h1 h2 hK hw
    rw [MX8_passesBy_l66]
    cases k with
    | zero =>
      rw [if_pos (nI_le (by omega) (by omega))]
      exact ⟨_, rfl, hK, frm.rfl'⟩
    | succ k =>
      have hi : i < A.2.2.2.1 := by omega
      have r5 : w (r + 12 + i) = nI (a.2.1 i) := hK.2.2.2.2.1 i (by omega)
      have r6 : w (r + 21 + i) = nI (if a.2.1 i = 1 then a.2.2.1 i else 0) := hK.2.2.2.2.2.1 i (by omega)
      have r9 := (hK.2.2.2.2.2.2.2.2 i hi).2
      have hwi := hw.2.2.2.1 i
      have hsi := hw.2.2.2.2.1 i
      obtain ⟨d1, d2, d3⟩ := hA.2.2.1 i hi
      rw [if_neg (nI_ge hi (by omega))]
      simp (disch := omega) only [k1, k2, k12, k21, k57, nI_add, nI_clamp, MG_ok, r5, r6, r9, nI_eq, MX8_passesBy_j130]
      rw [aLp]
      unfold stS
      by_cases g2 : A.1 i = 2
      · by_cases g1 : a.2.1 i = 1
        · rw [if_pos g2, if_pos g1, if_pos g1]
          by_cases g3 : 4 ≤ a.2.2.1 i
          · obtain ⟨w1, e1, q1, f1⟩ := p_msneezes hN hr h9 hK (by have := hw.len; show a.1.length ≤ 9; omega) (fun x hx => by have := hw.q9 hx; omega) ((hw.2.1 i).mpr g1)
            rw [if_neg (show ¬ nI (a.2.2.1 i) < (4 : Int32) from nI_nlt g3 (by omega)), if_pos (show A.1 i = 2 ∧ a.2.1 i = 1 ∧ 4 ≤ a.2.2.1 i from ⟨g2, g1, g3⟩), e1]
            have q1' : repK r w1 A (mOf (aSnz a i)) := by rw [mOf_snz g1]; exact q1
            obtain ⟨w2, e2, q2, f2⟩ := ih k (i + 1) w1 _ (by omega) (by omega) q1' (hw.snz g1)
            exact ⟨w2, e2, q2, f1.tr f2⟩
          · rw [if_pos (show nI (a.2.2.1 i) < (4 : Int32) from nI_lt (b := 4) (by omega) (by omega)), if_neg (show ¬ (A.1 i = 2 ∧ a.2.1 i = 1 ∧ 4 ≤ a.2.2.1 i) from fun h => g3 h.2.2)]
            exact ih k (i + 1) _ _ (by omega) (by omega) hK hw
        · rw [if_pos g2, if_neg g1, if_neg (fun h => g1 h.2.1)]
          exact ih k (i + 1) _ _ (by omega) (by omega) hK hw
      · rw [if_neg g2, if_neg (fun h => g2 h.1)]
        exact ih k (i + 1) _ _ (by omega) (by omega) hK hw
