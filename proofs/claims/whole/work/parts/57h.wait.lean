def cO (A : APl) (mi : Nat) (l : List Nat) : Nat → Nat := fun q => if q ∈ l then mi + l.idxOf q else A.2.1 q
def APo (A : APl) (mi : Nat) (l : List Nat) : APl := (A.1, cO A mi l, A.2.2)
theorem WFP.ord {A : APl} {mi : Nat} {l : List Nat} (h : WFP A) (hm : mi + l.length ≤ 1000000) : WFP (APo A mi l) := by
  obtain ⟨h1, h2, h3, h4⟩ := h
  refine ⟨h1, h2, fun q hq => ?_, h4⟩
  obtain ⟨a1, a2, a3⟩ := h3 q hq
  refine ⟨a1, ?_, a3⟩
  show cO A mi l q ≤ 1000000
  unfold cO
  split
  · have := List.idxOf_lt_length_of_mem (by assumption : q ∈ l)
    omega
  · exact a2
theorem take_succ' {l : List Nat} {i : Nat} (hi : i < l.length) : l.take (i + 1) = l.take i ++ [l[i]] := by rw [List.take_succ, List.getElem?_eq_getElem hi]; rfl
theorem p_tell_l {N mi n : Nat} {A : APl} {O : OrdV} {P : PlanV} {l : List Nat} (hn : n ≤ 9) (hs : O.2.2 = nI l.length) (ho : repq O.1 l) (h5 : l.length ≤ 5) (hd : l.Nodup) (h9 : ∀ x ∈ l, x < n) (hmi : mi ≤ 1000000) : ∀ (m i : Nat) (G : Nat → Int32), i ≤ l.length → l.length < m + i → (∀ q, q ∈ l.take i → G q = nI (mi + l.idxOf q)) → (∀ q, q < n → q ∉ l → G q = nI (A.2.1 q)) → ∃ G', MX2_tellComings_l2 N O P (nI mi) m (nI i) G = some G' ∧ ∀ q, q < n → G' q = nI (cO A mi l q) := by
  intro m
  induction m with
  | zero => intro i G h1 h2; omega
  | succ m ih =>
    intro i G h1 h2 h3 h4
    rw [MX2_tellComings_l2, hs]
    by_cases hi : i = l.length
    · rw [if_pos (by rw [hi]; exact nI_le (Nat.le_refl _) (by omega))]
      refine ⟨G, rfl, fun q hq => ?_⟩
      rw [hi, List.take_length] at h3
      unfold cO
      by_cases g : q ∈ l
      · rw [if_pos g]; exact h3 q g
      · rw [if_neg g]; exact h4 q hq g
    · have hi : i < l.length := by omega
      have hx := ho.at hi
      have hx9 := h9 _ (List.getElem_mem hi)
      have e1 : MX3_setComing N (P.1, G, P.2.2) (nI l[i]) (nI mi + nI i) = some (upd G l[i] (nI (mi + i))) := by
        unfold MX3_setComing
        simp (disch := omega) only [k0, k9, nI_leI, nI_ltI, nI_clamp, MG_ok, if_neg, nI_add]
      have hix : l.idxOf l[i] = i := List.Nodup.idxOf_getElem hd i hi
      rw [if_neg (nI_ge hi (by omega)), if_neg (show ¬ (5 : Int32) ≤ nI i from nI_ge (b := 5) (by omega) (by omega))]
      simp (disch := omega) only [MG_ok, nI_clamp, hx]
      rw [e1]
      simp only [Option.bind_some]
      rw [nI_1]
      refine ih (i + 1) _ (by omega) (by omega) (fun q hq => ?_) (fun q hq hm => ?_)
      · rw [take_succ' hi] at hq
        by_cases e : q = l[i]
        · rw [e, pk_us, hix]
        · rw [pk_un e]
          rcases List.mem_append.mp hq with z | z
          · exact h3 q z
          · exact absurd (List.mem_singleton.mp z) e
      · have e : q ≠ l[i] := fun e => hm (e ▸ List.getElem_mem hi)
        rw [pk_un e]
        exact h4 q hq hm
theorem p_mtell_l {N mi n : Nat} {A : APl} {F ord w0 : Nat → Int32} {G H R q1 : Int32} {l : List Nat} (hn : n ≤ 9) (ho : repq ord l) (h5 : l.length ≤ 5) (hd : l.Nodup) (h9 : ∀ x ∈ l, x < n) (hmi : w0 0 = nI mi) : ∀ (m i : Nat) (w : Nat → Int32), i ≤ l.length → l.length < m + i → (∀ q, q ∈ l.take i → w (114 + q) = nI (mi + l.idxOf q)) → (∀ q, q < n → q ∉ l → w (114 + q) = nI (A.2.1 q)) → (∀ x, x < 114 ∨ 123 ≤ x → w x = w0 x) → ∃ w', MX8_waitBy_l6 N q1 F G H R ord (nI l.length) m (nI i) w = MX8_waitBy_j39 N q1 F G H R ord (nI l.length) w' ∧ (∀ q, q < n → w' (114 + q) = nI (cO A mi l q)) ∧ (∀ x, x < 114 ∨ 123 ≤ x → w' x = w0 x) := by
  intro m
  induction m with
  | zero => intro i w h1 h2; omega
  | succ m ih =>
    intro i w h1 h2 h3 h4 h6
    rw [MX8_waitBy_l6]
    by_cases hi : i = l.length
    · rw [if_pos (by rw [hi]; exact nI_le (Nat.le_refl _) (by omega))]
      refine ⟨w, rfl, fun q hq => ?_, h6⟩
      rw [hi, List.take_length] at h3
      unfold cO
      by_cases g : q ∈ l
      · rw [if_pos g]; exact h3 q g
      · rw [if_neg g]; exact h4 q hq g
    · have hi : i < l.length := by omega
      have hx := ho.at hi
      have hx9 := h9 _ (List.getElem_mem hi)
      have hix : l.idxOf l[i] = i := List.Nodup.idxOf_getElem hd i hi
      have hw0 : w 0 = nI mi := by rw [h6 0 (by omega)]; exact hmi
      have k114 : (114 : Int32) = nI 114 := rfl
      rw [if_neg (nI_ge hi (by omega))]
      simp (disch := omega) only [k0, k114, nI_add, MG_ok, nI_clamp, hx, hw0]
      rw [nI_1]
      refine ih (i + 1) _ (by omega) (by omega) (fun q hq => ?_) (fun q hq hm => ?_) (fun x hx => ?_)
      · rw [take_succ' hi] at hq
        by_cases e : q = l[i]
        · rw [e, pk_us, hix]
        · rw [pk_un (by omega)]
          rcases List.mem_append.mp hq with z | z
          · exact h3 q z
          · exact absurd (List.mem_singleton.mp z) e
      · have e : q ≠ l[i] := fun e => hm (e ▸ List.getElem_mem hi)
        rw [pk_un (by omega)]
        exact h4 q hq hm
      · rw [pk_un (by omega)]
        exact h6 x hx
theorem p_allAte_l {N n n' c H : Nat} {O : OrdV} {L : LineV} {b : ASt} {l : List Nat} (hs : O.2.2 = nI l.length) (ho : repq O.1 l) (h5 : l.length ≤ 5) (hn : n ≤ 9) (h9 : ∀ x ∈ l, x < n) (hL : repL H L b) (hw : WF n' c b) : ∀ (m i : Nat), i ≤ l.length → l.length < m + i → MX2_allAte_l2 N O L m (nI i) = some (bI ((l.drop i).all (fun p => decide (b.2.1 p = 3)))) := by
  intro m
  induction m with
  | zero => intro i h1 h2; omega
  | succ m ih =>
    intro i h1 h2
    rw [MX2_allAte_l2, hs]
    by_cases hi : i = l.length
    · subst hi
      rw [if_pos (nI_le (Nat.le_refl _) (by omega)), List.drop_length]
      rfl
    · have hi : i < l.length := by omega
      have hx := ho.at hi
      have hx9 := h9 _ (List.getElem_mem hi)
      have hwx := hw.2.2.2.1 l[i]
      rw [if_neg (nI_ge hi (by omega)), if_neg (show ¬ (5 : Int32) ≤ nI i from nI_ge (b := 5) (by omega) (by omega)), List.drop_eq_getElem_cons hi, List.all_cons]
      simp (disch := omega) only [MG_ok, nI_clamp, hx]
      rw [p_whereIs (N := N) hL (by omega)]
      simp only [Option.bind_some]
      by_cases g : b.2.1 l[i] = 3
      · rw [if_pos (show nI (b.2.1 l[i]) = (3 : Int32) by rw [g]; rfl), decide_eq_true g, Bool.true_and, nI_1]
        exact ih (i + 1) (by omega) (by omega)
      · rw [if_neg (show ¬ nI (b.2.1 l[i]) = (3 : Int32) from nI_ne (b := 3) (by omega) (by omega) g), decide_eq_false g, Bool.false_and]
        rfl
def wv (b : ASt) (mi p i : Nat) : Int32 := if b.2.1 p = 3 then nI (b.2.2.2.1 p) - nI mi - nI i else 99
def lwF (b : ASt) (mi : Nat) : List Nat → Nat → Int32 → Int32
  | [], _, x => x
  | p :: l, i, x => lwF b mi l (i + 1) (if x < wv b mi p i then wv b mi p i else x)
theorem lwF_congr {b b' : ASt} {mi : Nat} : ∀ (l : List Nat) (i : Nat) (x : Int32), (∀ p, p ∈ l → b'.2.1 p = b.2.1 p ∧ (b.2.1 p = 3 → b'.2.2.2.1 p = b.2.2.2.1 p)) → lwF b' mi l i x = lwF b mi l i x := by
  intro l
  induction l with
  | nil => intro i x _; rfl
  | cons p l ih =>
    intro i x h
    have hp := h p List.mem_cons_self
    have e : wv b' mi p i = wv b mi p i := by
      unfold wv
      rw [hp.1]
      by_cases g : b.2.1 p = 3
      · rw [if_pos g, if_pos g, hp.2 g]
      · rw [if_neg g, if_neg g]
    rw [lwF, lwF, e]
    exact ih _ _ (fun q hq => h q (List.mem_cons_of_mem _ hq))
theorem p_lw_l {N n n' c H mi : Nat} {O : OrdV} {L : LineV} {b : ASt} {l : List Nat} (hs : O.2.2 = nI l.length) (ho : repq O.1 l) (h5 : l.length ≤ 5) (hn : n ≤ 9) (h9 : ∀ x ∈ l, x < n) (hL : repL H L b) (hw : WF n' c b) : ∀ (m i : Nat) (x : Int32), i ≤ l.length → l.length < m + i → MX2_longestWait_l5 N O L (nI mi) m x (nI i) = some (lwF b mi (l.drop i) i x) := by
  intro m
  induction m with
  | zero => intro i x h1 h2; omega
  | succ m ih =>
    intro i x h1 h2
    rw [MX2_longestWait_l5, hs]
    by_cases hi : i = l.length
    · subst hi
      rw [if_pos (nI_le (Nat.le_refl _) (by omega)), List.drop_length]
      rfl
    · have hi : i < l.length := by omega
      have hx := ho.at hi
      have hx9 := h9 _ (List.getElem_mem hi)
      have hwx := hw.2.2.2.1 l[i]
      rw [if_neg (nI_ge hi (by omega)), if_neg (show ¬ (5 : Int32) ≤ nI i from nI_ge (b := 5) (by omega) (by omega)), List.drop_eq_getElem_cons hi, lwF]
      simp (disch := omega) only [MG_ok, nI_clamp, hx]
      rw [p_whereIs (N := N) hL (by omega)]
      simp only [Option.bind_some]
      unfold MX2_longestWait_j40 MX2_longestWait_j68 wv
      simp only [MLet]
      rw [nI_1]
      by_cases g : b.2.1 l[i] = 3
      · rw [if_pos (show nI (b.2.1 l[i]) = (3 : Int32) by rw [g]; rfl), b1, if_pos g]
        simp (disch := omega) only [MG_ok, nI_clamp, hx]
        rw [p_ateInOf (N := N) hL hw (by omega), if_pos g]
        simp only [Option.bind_some]
        exact ih (i + 1) _ (by omega) (by omega)
      · rw [if_neg (show ¬ nI (b.2.1 l[i]) = (3 : Int32) from nI_ne (b := 3) (by omega) (by omega) g), if_pos True.intro, if_neg g]
        exact ih (i + 1) _ (by omega) (by omega)
theorem mx_eq {α : Type} (f : Int32 → α) (x t : Int32) : (if t ≤ x then f x else f t) = f (if x < t then t else x) := by
  by_cases g : x < t
  · rw [if_neg (i32_nle g), if_pos g]
  · rw [if_pos (i32_le g), if_neg g]
theorem p_mlw_l {N mi : Nat} {ord w : Nat → Int32} {A : APl} {b : ASt} {l : List Nat} (ho : repq ord l) (h5 : l.length ≤ 5) (hn : A.2.2.2.1 ≤ 9) (h9 : ∀ x ∈ l, x < A.2.2.2.1) (hK : repK 66 w A (mOf b)) (hb : ∀ p, b.2.1 p ≤ 3) (hmi : w 0 = nI mi) : ∀ (m i : Nat) (x : Int32), i ≤ l.length → l.length < m + i → MX8_waitBy_l63 N ord (nI l.length) w m x (nI i) = some (lwF b mi (l.drop i) i x, w) := by
  intro m
  induction m with
  | zero => intro i x h1 h2; omega
  | succ m ih =>
    intro i x h1 h2
    rw [MX8_waitBy_l63]
    by_cases hi : i = l.length
    · subst hi
      rw [if_pos (nI_le (Nat.le_refl _) (by omega)), List.drop_length]
      rfl
    · have hi : i < l.length := by omega
      have hx := ho.at hi
      have hx9 := h9 _ (List.getElem_mem hi)
      have e0 : MX8_isWhere N w (66 : Int32) (nI l[i]) (3 : Int32) = some (bI (decide (b.2.1 l[i] = 3))) := p_misWhere (N := N) (r := 66) (v := 3) (by omega) hK (by omega) (hb _) (by omega)
      have r7 : w (96 + l[i]) = if b.2.1 l[i] = 3 then nI (b.2.2.2.1 l[i]) else -4 := hK.2.2.2.2.2.2.1 l[i] (by omega)
      have k96 : (96 : Int32) = nI 96 := rfl
      rw [if_neg (nI_ge hi (by omega)), List.drop_eq_getElem_cons hi, lwF]
      simp (disch := omega) only [MG_ok, nI_clamp, hx, e0, Option.bind_some, k96, nI_add]
      unfold MX8_waitBy_j116 MX8_waitBy_j130 wv
      rw [nI_1]
      by_cases g : b.2.1 l[i] = 3
      · rw [if_pos g] at r7
        rw [decide_eq_true g, bt, if_pos g]
        simp (disch := omega) only [k0, MG_ok, nI_clamp, r7, hmi]
        rw [mx_eq (fun t => MX8_waitBy_l63 N ord (nI l.length) w m t (nI (i + 1)))]
        exact ih (i + 1) _ (by omega) (by omega)
      · rw [decide_eq_false g, bf, if_neg g, mx_eq (fun t => MX8_waitBy_l63 N ord (nI l.length) w m t (nI (i + 1)))]
        exact ih (i + 1) _ (by omega) (by omega)
theorem p_mrun_l {N : Nat} (hN : 100 ≤ N) {F ord : Nat → Int32} {A : APl} {x : Int32} (hA : WFP A) (hF : rfF F A) : ∀ (m k i c : Nat) (w : Nat → Int32) (a : ASt), k < m → i + k = 99 → repK 66 w A (mOf a) → WF A.2.2.2.1 c a → c + 2 * k ≤ 999999 →
    ∃ w', MX8_waitBy_l41 N (nI A.2.2.2.1) F (nI A.2.2.2.2.1) (nI A.2.2.2.2.2.1) (nI A.2.2.2.2.2.2) ord x m (nI i) w = MX8_waitBy_j59 N ord x w' ∧ repK 66 w' A (mOf (aRun A k a)) ∧ frm 66 w w' := by
  intro m
  induction m with
  | zero => intro k i c w a h; omega
  | succ m ih =>
    intro k i c w a h1 h2 hK hw hc
    rw [MX8_waitBy_l41]
    cases k with
    | zero =>
      have e : i = 99 := by omega
      subst e
      rw [if_pos (by decide)]
      exact ⟨_, rfl, hK, frm.rfl'⟩
    | succ k =>
      obtain ⟨w1, e1, q1, f1⟩ := p_mpasses hN (r := 66) (by omega) hA hF hK hw (by omega)
      have e1' : MX8_passes N w (nI A.2.2.2.1) F (nI A.2.2.2.2.1) (nI A.2.2.2.2.2.1) (nI A.2.2.2.2.2.2) (66 : Int32) = some w1 := e1
      rw [if_neg (show ¬ (99 : Int32) ≤ nI i from nI_ge (b := 99) (by omega) (by omega)), e1']
      simp only [Option.bind_some]
      rw [nI_1]
      obtain ⟨w2, e2, q2, f2⟩ := ih k (i + 1) (c + 2) w1 _ (by omega) (by omega) q1 (hw.min hA) (by omega)
      exact ⟨w2, e2, q2, f1.tr f2⟩
theorem p_crun_l {N : Nat} (hN : 100 ≤ N) {n : Nat} {Nw : LineV} {Gs : PlanV} {O : OrdV} {u15 : Nat → Int32} {A : APl} {l : List Nat} (hP : repP (Gs.1, u15, Gs.2.2) A) (hA : WFP A) (hs : O.2.2 = nI l.length) (ho : repq O.1 l) (h5 : l.length ≤ 5) (hn : n ≤ 9) (h9 : ∀ x ∈ l, x < n) : ∀ (m k i c : Nat) (L : LineV) (a : ASt), k < m → i + k = 99 → repL A.2.2.2.2.2.1 L a → WF A.2.2.2.1 c a → c + 2 * k ≤ 999999 →
    ∃ (u : LineV) (t : Nat), MX0_longestWaitInOrder_l24 N Nw Gs O u15 m (nI i) L.1 L.2.1 L.2.2.1 L.2.2.2.1 L.2.2.2.2.1 L.2.2.2.2.2.1 L.2.2.2.2.2.2.1 L.2.2.2.2.2.2.2.1 L.2.2.2.2.2.2.2.2 = MX0_longestWaitInOrder_j76 N Nw O u15 u.1 u.2.1 u.2.2.1 u.2.2.2.1 u.2.2.2.2.1 u.2.2.2.2.2.1 u.2.2.2.2.2.2.1 u.2.2.2.2.2.2.2.1 u.2.2.2.2.2.2.2.2 ∧ repL A.2.2.2.2.2.1 u (aRun A t a) ∧ t ≤ k ∧ (t = k ∨ ∀ p, p ∈ l → (aRun A t a).2.1 p = 3) := by
  intro m
  induction m with
  | zero => intro k i c L a h; omega
  | succ m ih =>
    intro k i c L a h1 h2 hL hw hc
    rw [MX0_longestWaitInOrder_l24]
    cases k with
    | zero =>
      have e : i = 99 := by omega
      subst e
      rw [if_pos (by decide)]
      exact ⟨L, 0, rfl, hL, Nat.le_refl _, Or.inl rfl⟩
    | succ k =>
      have hm := hw.2.2.2.2.2.2.2.1
      have ea : MX2_allAte N O (L.1, L.2.1, L.2.2.1, L.2.2.2.1, L.2.2.2.2.1, L.2.2.2.2.2.1, L.2.2.2.2.2.2.1, L.2.2.2.2.2.2.2.1, L.2.2.2.2.2.2.2.2) = some (bI ((l.drop 0).all (fun p => decide (a.2.1 p = 3)))) := p_allAte_l (N := N) hs ho h5 hn h9 hL hw N 0 (by omega) (by omega)
      rw [List.drop_zero] at ea
      rw [if_neg (show ¬ (99 : Int32) ≤ nI i from nI_ge (b := 99) (by omega) (by omega)), ea]
      simp only [Option.bind_some]
      cases hall : l.all (fun p => decide (a.2.1 p = 3)) with
      | true =>
        rw [bt]
        refine ⟨L, 0, rfl, hL, Nat.zero_le _, Or.inr (fun p hp => ?_)⟩
        exact of_decide_eq_true (List.all_eq_true.mp hall p hp)
      | false =>
        have r6 : L.2.2.2.2.2.2.1 = nI a.2.2.2.2.2.1 := hL.2.2.2.2.2.1
        have hr : MX3_rumourIn N (Gs.1, u15, Gs.2.2) L.2.2.2.2.2.2.1 = some (bI (rumAt A a.2.2.2.2.2.1)) := by rw [r6]; exact p_rumourIn hP hA (by omega)
        obtain ⟨u, e, q⟩ := p_goOn (two := false) (rum := rumAt A a.2.2.2.2.2.1) hN hP hA hL hw (by omega)
        have e' : MX1_goOn N (L.1, L.2.1, L.2.2.1, L.2.2.2.1, L.2.2.2.2.1, L.2.2.2.2.2.1, L.2.2.2.2.2.2.1, L.2.2.2.2.2.2.2.1, L.2.2.2.2.2.2.2.2) (Gs.1, u15, Gs.2.2) (bI (rumAt A a.2.2.2.2.2.1)) 0 = some u := e
        rw [bf, hr]
        simp only [Option.bind_some]
        rw [e']
        simp only [Option.bind_some]
        rw [nI_1]
        obtain ⟨v, t, z1, z2, z3, z4⟩ := ih k (i + 1) (c + 2) u _ (by omega) (by omega) q (hw.min hA) (by omega)
        refine ⟨v, t + 1, z1, z2, by omega, ?_⟩
        rcases z4 with z | z
        · left; omega
        · right; exact z
def VV (A : APl) (a : ASt) (l : List Nat) : Int32 := lwF (aRun (APo A a.2.2.2.2.2.1 l) 99 a) a.2.2.2.2.2.1 l 0 0
theorem p_cwait {N : Nat} (hN : 1000 ≤ N) {A : APl} {a : ASt} {Nw Tr : LineV} {Gs : PlanV} {O : OrdV} {l : List Nat} {c : Nat} (hA : WFP A) (hG1 : ∀ q, q < A.2.2.2.1 → Gs.1 q = nI (A.1 q) ∧ Gs.2.2.1 q = nI (A.2.2.1 q)) (hG2 : Gs.2.2.2.1 = nI A.2.2.2.1 ∧ Gs.2.2.2.2.1 = nI A.2.2.2.2.1 ∧ Gs.2.2.2.2.2.1 = nI A.2.2.2.2.2.1 ∧ Gs.2.2.2.2.2.2 = nI A.2.2.2.2.2.2) (hG3 : ∀ q, q < A.2.2.2.1 → q ∉ l → Gs.2.1 q = nI (A.2.1 q)) (hL : repL A.2.2.2.2.2.1 Nw a) (hw : WF A.2.2.2.1 c a) (hc : c ≤ 500000) (hs : O.2.2 = nI l.length) (ho : repq O.1 l) (h5 : l.length ≤ 5) (hd : l.Nodup) (h9 : ∀ x ∈ l, x < A.2.2.2.1) : ∃ u, MX0_longestWaitInOrder N Nw Gs Tr O = some u ∧ u.1 = VV A a l ∧ (∀ q, q < A.2.2.2.1 → u.2.1 q = nI (cO A a.2.2.2.2.2.1 l q)) := by
  have hn := hA.1
  have hm := hw.2.2.2.2.2.2.2.1
  have r6 : Nw.2.2.2.2.2.2.1 = nI a.2.2.2.2.2.1 := hL.2.2.2.2.2.1
  obtain ⟨G, e1, q1⟩ := p_tell_l (N := N) (mi := a.2.2.2.2.2.1) (A := A) (P := Gs) hn hs ho h5 hd h9 (by omega) N 0 Gs.2.1 (by omega) (by omega) (fun q hq => by simp at hq) hG3
  have e1' : MX2_tellComings N O Gs (nI a.2.2.2.2.2.1) = some G := e1
  obtain ⟨L0, e0, q0⟩ := p_start (N := N) (Tr := Tr) hL hw hn
  have hA' : WFP (APo A a.2.2.2.2.2.1 l) := hA.ord (by omega)
  have hP' : repP (Gs.1, G, Gs.2.2) (APo A a.2.2.2.2.2.1 l) := ⟨fun q hq => ⟨(hG1 q hq).1, q1 q hq, (hG1 q hq).2⟩, hG2⟩
  obtain ⟨u, t, z1, z2, z3, z4⟩ := p_crun_l (N := N) (Nw := Nw) (by omega) hP' hA' hs ho h5 hn h9 N 99 0 c L0 a (by omega) (by omega) q0 hw (by omega)
  have w1 := WF.run hA' t c a hw
  have e2 : MX2_longestWait N O u (nI a.2.2.2.2.2.1) = some (lwF (aRun (APo A a.2.2.2.2.2.1 l) t a) a.2.2.2.2.2.1 (l.drop 0) 0 0) := p_lw_l (N := N) hs ho h5 hn h9 z2 w1 N 0 0 (by omega) (by omega)
  rw [List.drop_zero] at e2
  have e2' : MX2_longestWait N O (u.1, u.2.1, u.2.2.1, u.2.2.2.1, u.2.2.2.2.1, u.2.2.2.2.2.1, u.2.2.2.2.2.2.1, u.2.2.2.2.2.2.2.1, u.2.2.2.2.2.2.2.2) (nI a.2.2.2.2.2.1) = some (lwF (aRun (APo A a.2.2.2.2.2.1 l) t a) a.2.2.2.2.2.1 l 0 0) := e2
  unfold MX0_longestWaitInOrder
  rw [r6, e1']
  simp only [Option.bind_some]
  rw [e0]
  simp only [Option.bind_some]
  have z1' : MX0_longestWaitInOrder_l24 N Nw Gs O G N (0 : Int32) L0.1 L0.2.1 L0.2.2.1 L0.2.2.2.1 L0.2.2.2.2.1 L0.2.2.2.2.2.1 L0.2.2.2.2.2.2.1 L0.2.2.2.2.2.2.2.1 L0.2.2.2.2.2.2.2.2 = _ := z1
  rw [z1']
  unfold MX0_longestWaitInOrder_j76
  rw [r6, e2']
  refine ⟨_, rfl, ?_, q1⟩
  show lwF (aRun (APo A a.2.2.2.2.2.1 l) t a) a.2.2.2.2.2.1 l 0 0 = VV A a l
  unfold VV
  rcases z4 with z | z
  · rw [z]
  · symm
    refine lwF_congr l 0 0 (fun p hp => ?_)
    have hz := z p hp
    have := (run_p hA' (p := p) (99 - t) _ _ w1).1 hz
    rw [← run_add, show t + (99 - t) = 99 by omega] at this
    exact ⟨this.1.trans hz.symm, fun _ => this.2⟩
theorem p_mwait {N : Nat} (hN : 1000 ≤ N) {A : APl} {a : ASt} {F w ord : Nat → Int32} {l : List Nat} {c : Nat} (hA : WFP A) (hF : rfF F A) (hK : repK 0 w A (mOf a)) (hw : WF A.2.2.2.1 c a) (hc : c ≤ 500000) (ho : repq ord l) (h5 : l.length ≤ 5) (hd : l.Nodup) (h9 : ∀ x ∈ l, x < A.2.2.2.1) : ∃ w', MX8_waitBy N w (nI A.2.2.2.1) F (nI A.2.2.2.2.1) (nI A.2.2.2.2.2.1) (nI A.2.2.2.2.2.2) ord (nI l.length) = some (VV A a l, w') ∧ frm 66 w w' := by
  have hn := hA.1
  have hm := hw.2.2.2.2.2.2.2.1
  have hl := hw.len
  obtain ⟨w1, e1, q1, f1⟩ := p_tries (N := N) (by omega) hn hw hK
  have hw0 : w1 0 = nI a.2.2.2.2.2.1 := by rw [f1 0 (by omega)]; exact hK.1
  obtain ⟨r1, r2, r3, r4, r5, r6, r7, r8, r9⟩ := q1
  obtain ⟨w2, e2, q2, f2⟩ := p_mtell_l (N := N) (mi := a.2.2.2.2.2.1) (n := A.2.2.2.1) (A := A) (F := F) (ord := ord) (w0 := w1) (q1 := nI A.2.2.2.1) (G := nI A.2.2.2.2.1) (H := nI A.2.2.2.2.2.1) (R := nI A.2.2.2.2.2.2) hn ho h5 hd h9 hw0 N 0 w1 (by omega) (by omega) (fun q hq => by simp at hq) (fun q hq _ => (r9 q hq).1) (fun _ _ => rfl)
  have e2' : MX8_waitBy_l6 N (nI A.2.2.2.1) F (nI A.2.2.2.2.1) (nI A.2.2.2.2.2.1) (nI A.2.2.2.2.2.2) ord (nI l.length) N (0 : Int32) w1 = _ := e2
  have hA' : WFP (APo A a.2.2.2.2.2.1 l) := hA.ord (by omega)
  have hK2 : repK 66 w2 (APo A a.2.2.2.2.2.1 l) (mOf a) := by
    refine ⟨?_, ?_, ?_, ?_, ?_, ?_, ?_, ?_, ?_⟩
    · rw [f2 _ (by omega)]; exact r1
    · rw [f2 _ (by omega)]; exact r2
    · rw [f2 _ (by omega)]; exact r3
    · intro j x hx
      have : j < a.1.length := (List.getElem?_eq_some_iff.mp hx).1
      rw [f2 _ (by omega)]; exact r4 j x hx
    · intro q hq; rw [f2 _ (by omega)]; exact r5 q hq
    · intro q hq; rw [f2 _ (by omega)]; exact r6 q hq
    · intro q hq
      have hq : q < A.2.2.2.1 := hq
      rw [f2 _ (by omega)]; exact r7 q hq
    · intro q hq
      have hq : q < A.2.2.2.1 := hq
      rw [f2 _ (by omega)]; exact r8 q hq
    · intro q hq
      have hq : q < A.2.2.2.1 := hq
      exact ⟨q2 q hq, by rw [f2 _ (by omega)]; exact (r9 q hq).2⟩
  have f2' : frm 66 w1 w2 := fun x hx => f2 x (by omega)
  obtain ⟨w3, e3, q3, f3⟩ := p_mrun_l (N := N) (ord := ord) (x := nI l.length) (A := APo A a.2.2.2.2.2.1 l) (F := F) (by omega) hA' hF N 99 0 c w2 a (by omega) (by omega) hK2 hw (by omega)
  have e3' : MX8_waitBy_l41 N (nI A.2.2.2.1) F (nI A.2.2.2.2.1) (nI A.2.2.2.2.2.1) (nI A.2.2.2.2.2.2) ord (nI l.length) N (0 : Int32) w2 = MX8_waitBy_j59 N ord (nI l.length) w3 := e3
  have v3 := WF.run hA' 99 c a hw
  have hw3 : w3 0 = nI a.2.2.2.2.2.1 := by rw [f3 0 (by omega), f2' 0 (by omega)]; exact hw0
  have e4 : MX8_waitBy_l63 N ord (nI l.length) w3 N (0 : Int32) (0 : Int32) = some (lwF (aRun (APo A a.2.2.2.2.2.1 l) 99 a) a.2.2.2.2.2.1 (l.drop 0) 0 0, w3) := p_mlw_l (N := N) (A := APo A a.2.2.2.2.2.1 l) ho h5 hn h9 q3 v3.2.2.2.1 hw3 N 0 0 (by omega) (by omega)
  rw [List.drop_zero] at e4
  refine ⟨w3, ?_, (f1.tr f2').tr f3⟩
  unfold MX8_waitBy
  rw [e1]
  simp only [Option.bind_some]
  rw [e2']
  unfold MX8_waitBy_j39
  rw [e3']
  unfold MX8_waitBy_j59
  rw [e4]
  rfl
theorem wv_lt {b : ASt} {mi p i : Nat} (hm : mi ≤ 600000) (hi : i ≤ 100) (h : b.2.1 p = 3 → mi ≤ b.2.2.2.1 p ∧ b.2.2.2.1 p < mi + 100) : wv b mi p i < (100 : Int32) := by
  unfold wv
  by_cases g : b.2.1 p = 3
  · obtain ⟨h1, h2⟩ := h g
    rw [if_pos g, pk_sub h1]
    rcases Nat.lt_or_ge (b.2.2.2.1 p - mi) i with q | q
    · exact Int32.lt_trans (pk_sneg (by omega) q) (by decide)
    · rw [pk_sub q]
      exact nI_lt (b := 100) (by omega) (by omega)
  · rw [if_neg g]; decide
theorem lwF_lt {b : ASt} {mi : Nat} (hm : mi ≤ 600000) : ∀ (l : List Nat) (i : Nat) (x : Int32), i + l.length ≤ 100 → (∀ p, p ∈ l → b.2.1 p = 3 → mi ≤ b.2.2.2.1 p ∧ b.2.2.2.1 p < mi + 100) → x < 100 → lwF b mi l i x < 100 := by
  intro l
  induction l with
  | nil => intro i x _ _ h; exact h
  | cons p l ih =>
    intro i x hl h hx
    rw [List.length_cons] at hl
    rw [lwF]
    refine ih (i + 1) _ (by omega) (fun q hq => h q (List.mem_cons_of_mem _ hq)) ?_
    split
    · exact wv_lt hm (by omega) (h p List.mem_cons_self)
    · exact hx
theorem VV_lt {A : APl} {a : ASt} {l : List Nat} {c : Nat} (hA : WFP A) (hw : WF A.2.2.2.1 c a) (he : WE a) (hc : c ≤ 500000) (h5 : l.length ≤ 5) (h0 : ∀ p, p ∈ l → a.2.1 p = 0) : VV A a l < 100 := by
  have hm := hw.2.2.2.2.2.2.2.1
  have hA' : WFP (APo A a.2.2.2.2.2.1 l) := hA.ord (by omega)
  refine lwF_lt (by omega) l 0 0 (by omega) (fun p hp h3 => ?_) (by decide)
  have h1 := (run_p hA' (p := p) 99 c a hw).2 (by rw [h0 p hp]; omega) h3
  have h2 := WE.run hA' 99 c a hw he p h3
  have h4 := run_mi hA' 99 c a hw
  omega
