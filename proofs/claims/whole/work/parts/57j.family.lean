theorem good_of {k : Nat} {L : List Nat} (h : goodB k L = true) : L.length = k ∧ (∀ x, x ∈ L → x < k) ∧ L.Nodup ∧ ∀ i, i < k → i ∈ L := by
  unfold goodB at h
  rw [Bool.and_eq_true, Bool.and_eq_true, Bool.and_eq_true, List.all_eq_true, List.all_eq_true] at h
  obtain ⟨h1, h2, h3, h4⟩ := h
  exact ⟨of_decide_eq_true h1, fun x hx => of_decide_eq_true (h2 x hx), of_decide_eq_true h3, fun i hi => of_decide_eq_true (h4 i (List.mem_range.mpr hi))⟩
def mfO (ms : List Nat) : Nat → Nat := fun i => ms.getD i 0
theorem mfO_at {ms : List Nat} {i : Nat} (hi : i < ms.length) : mfO ms i = ms[i] := by
  unfold mfO
  rw [List.getD_eq_getElem?_getD, List.getElem?_eq_getElem hi]
  rfl
theorem mfO_mem {ms : List Nat} {i : Nat} (hi : i < ms.length) : mfO ms i ∈ ms := by
  rw [mfO_at hi]
  exact List.getElem_mem hi
theorem mfO_mono {ms : List Nat} (hp : ms.Pairwise (· < ·)) (h9 : ∀ x, x ∈ ms → x < 9) : mMono ms.length (mfO ms) := by
  refine ⟨fun i j hij hj => ?_, fun i hi => h9 _ (mfO_mem hi)⟩
  rw [mfO_at hj, mfO_at (by omega)]
  exact List.pairwise_iff_getElem.mp hp i j (by omega) hj hij
theorem oL_facts {ms L : List Nat} (hp : ms.Pairwise (· < ·)) (hg : goodB ms.length L = true) : (L.map (mfO ms)).length = ms.length ∧ (L.map (mfO ms)).Nodup ∧ (∀ x, x ∈ L.map (mfO ms) ↔ x ∈ ms) := by
  obtain ⟨h1, h2, h3, h4⟩ := good_of hg
  refine ⟨by rw [List.length_map]; exact h1, ?_, fun x => ⟨fun hx => ?_, fun hx => ?_⟩⟩
  · have hm : ∀ i j, i < j → j < ms.length → mfO ms i < mfO ms j := fun i j hij hj => by
      rw [mfO_at hj, mfO_at (by omega)]
      exact List.pairwise_iff_getElem.mp hp i j (by omega) hj hij
    unfold List.Nodup at h3 ⊢
    rw [List.pairwise_map]
    refine List.Pairwise.imp_of_mem (fun {u v} hu hv huv => ?_) h3
    have hu := h2 u hu
    have hv := h2 v hv
    rcases Nat.lt_or_ge u v with q | q
    · have := hm u v q hv
      omega
    · have := hm v u (by omega) hu
      omega
  · obtain ⟨y, hy, e⟩ := List.mem_map.mp hx
    rw [← e]
    exact mfO_mem (h2 y hy)
  · obtain ⟨i, hi, e⟩ := List.getElem_of_mem hx
    refine List.mem_map.mpr ⟨i, h4 i hi, ?_⟩
    rw [mfO_at hi, e]
theorem AR_rep {k : Nat} {mf : Nat → Nat} {g : Nat → Int32} {L : List Nat} (hl : L.length = k) (h : ARp k mf g (pf L)) : repq g (L.map mf) := by
  intro i x hx
  rw [List.getElem?_map] at hx
  cases hy : L[i]? with
  | none => rw [hy] at hx; cases hx
  | some y =>
    rw [hy] at hx
    cases hx
    have hi : i < L.length := (List.getElem?_eq_some_iff.mp hy).1
    have := (h i (by omega)).2
    have e : pf L i = y := by
      unfold pf
      rw [List.getD_eq_getElem?_getD, hy]
      rfl
    rw [e] at this
    exact this
def foldS (V : List Nat → Int32) : List (List Nat) → Int32 × Option (List Nat) → Int32 × Option (List Nat)
  | [], s => s
  | L :: r, s => foldS V r (if s.1 ≤ V L then s else (V L, some L))
def repB (k : Nat) (mf : Nat → Nat) (g : Nat → Int32) (bo : Option (List Nat)) : Prop := ∀ L, bo = some L → ∀ j, j < k → g j = nI (mf (pf L j))
theorem range_pf {k : Nat} {f : Nat → Nat} {j : Nat} (hj : j < k) : pf ((List.range k).map f) j = f j := by
  unfold pf
  rw [List.getD_eq_getElem?_getD, List.getElem?_map, List.getElem?_range hj]
  rfl
theorem p_best_l {N : Nat} (hN : 1000 ≤ N) {A : APl} {a : ASt} {Nw : LineV} {O : OrdV} {u11 : PlanV} {ms : List Nat} {c : Nat} (hA : WFP A) (hU : repP u11 A) (hL : repL A.2.2.2.2.2.1 Nw a) (hw : WF A.2.2.2.1 c a) (hc : c ≤ 500000) (hs : O.2.2 = nI ms.length) (h5 : ms.length ≤ 5) (h1 : 1 ≤ ms.length) (hp : ms.Pairwise (· < ·)) (h9 : ∀ x, x ∈ ms → x < A.2.2.2.1) : ∀ (f m i : Nat) (L : List Nat) (b : Int32) (bo : Option (List Nat)) (G1 : Nat → Int32) (T : LineV) (g0 g1 : Nat → Int32), i + f = 120 → f < m → (IT ms.length f L).all (goodB ms.length) = true → ARp ms.length (mfO ms) g0 (pf L) → (∀ q, q < A.2.2.2.1 → q ∉ ms → G1 q = nI (A.2.1 q)) → repB ms.length (mfO ms) g1 bo →
    ∃ u, MX0_bestOrder_l16 N Nw O u11 m b (nI i) G1 T.1 T.2.1 T.2.2.1 T.2.2.2.1 T.2.2.2.2.1 T.2.2.2.2.2.1 T.2.2.2.2.2.2.1 T.2.2.2.2.2.2.2.1 T.2.2.2.2.2.2.2.2 g0 g1 = some u ∧ u.1 = (foldS (fun L => VV A a (L.map (mfO ms))) (IT ms.length f L) (b, bo)).1 ∧ repB ms.length (mfO ms) u.2.2.2.2.2.2.2.2.2.2.2.2.2.2.2.2.2.2 (foldS (fun L => VV A a (L.map (mfO ms))) (IT ms.length f L) (b, bo)).2 := by
  have hn := hA.1
  have hmm := mfO_mono hp (fun x hx => by have := h9 x hx; omega)
  intro f
  induction f with
  | zero =>
    intro m i L b bo G1 T g0 g1 e1 e2 e3 hg hG hB
    obtain ⟨m, rfl⟩ : ∃ j, m = j + 1 := ⟨m - 1, by omega⟩
    have e : i = 120 := by omega
    subst e
    rw [MX0_bestOrder_l16, if_pos (by decide)]
    exact ⟨_, rfl, rfl, hB⟩
  | succ f ih =>
    intro m i L b bo G1 T g0 g1 e1 e2 e3 hg hG hB
    obtain ⟨m, rfl⟩ : ∃ j, m = j + 1 := ⟨m - 1, by omega⟩
    rw [IT, List.all_cons, Bool.and_eq_true] at e3
    obtain ⟨hgood, hrest⟩ := e3
    obtain ⟨q1, q2, q3⟩ := oL_facts hp hgood
    have hlen := (good_of hgood).1
    have hrep := AR_rep hlen hg
    obtain ⟨u, z1, z2, z3⟩ := p_cwait (N := N) (Tr := T) (Gs := (u11.1, G1, u11.2.2.1, u11.2.2.2.1, u11.2.2.2.2.1, u11.2.2.2.2.2.1, u11.2.2.2.2.2.2)) (O := (g0, g1, O.2.2)) (l := L.map (mfO ms)) hN hA (fun q hq => ⟨(hU.1 q hq).1, (hU.1 q hq).2.2⟩) hU.2 (fun q hq hm => hG q hq (fun z => hm ((q3 q).mpr z))) hL hw hc (by rw [q1]; exact hs) hrep (by omega) q2 (fun x hx => h9 x ((q3 x).mp hx))
    have hG' : ∀ q, q < A.2.2.2.1 → q ∉ ms → u.2.1 q = nI (A.2.1 q) := by
      intro q hq hm
      rw [z3 q hq]
      unfold cO
      rw [if_neg (fun z => hm ((q3 q).mp z))]
    have z1' : MX0_longestWaitInOrder N Nw (u11.1, G1, u11.2.2.1, u11.2.2.2.1, u11.2.2.2.2.1, u11.2.2.2.2.2.1, u11.2.2.2.2.2.2) (T.1, T.2.1, T.2.2.1, T.2.2.2.1, T.2.2.2.2.1, T.2.2.2.2.2.1, T.2.2.2.2.2.2.1, T.2.2.2.2.2.2.2.1, T.2.2.2.2.2.2.2.2) (g0, g1, O.2.2) = some u := z1
    have key : ∀ (b' : Int32) (bo' : Option (List Nat)) (g1' : Nat → Int32), repB ms.length (mfO ms) g1' bo' → ∃ v, MX0_bestOrder_j41 N O u11 (nI i) g0 (MX0_bestOrder_l16 N Nw O u11 m) u b' g1' = some v ∧ v.1 = (foldS (fun L => VV A a (L.map (mfO ms))) (match advL ms.length L with | none => [] | some L' => IT ms.length f L') (b', bo')).1 ∧ repB ms.length (mfO ms) v.2.2.2.2.2.2.2.2.2.2.2.2.2.2.2.2.2.2 (foldS (fun L => VV A a (L.map (mfO ms))) (match advL ms.length L with | none => [] | some L' => IT ms.length f L') (b', bo')).2 := by
      intro b' bo' g1' hB'
      unfold MX0_bestOrder_j41
      rcases p_advance (N := N) (O := (g0, g1', O.2.2)) (by omega) h5 h1 hmm hs hg with ⟨x1, x2⟩ | ⟨x1, g', x2, x3⟩
      · have ea : advL ms.length L = none := by unfold advL; rw [if_pos x1]
        rw [x2, ea]
        simp only [Option.bind_some]
        rw [if_pos True.intro]
        exact ⟨_, rfl, rfl, hB'⟩
      · have ea : advL ms.length L = some ((List.range ms.length).map (adv ms.length (pf L))) := by unfold advL; rw [if_neg x1]
        rw [ea] at hrest
        rw [x2, ea]
        simp only [Option.bind_some]
        rw [b1, nI_1]
        have x3' : ARp ms.length (mfO ms) g' (pf ((List.range ms.length).map (adv ms.length (pf L)))) := by
          intro j hj
          rw [range_pf hj]
          exact x3 j hj
        exact ih m (i + 1) _ b' bo' u.2.1 (u.2.2.1, u.2.2.2.1, u.2.2.2.2.1, u.2.2.2.2.2.1, u.2.2.2.2.2.2.1, u.2.2.2.2.2.2.2.1, u.2.2.2.2.2.2.2.2.1, u.2.2.2.2.2.2.2.2.2.1, u.2.2.2.2.2.2.2.2.2.2) g' g1' (by omega) (by omega) hrest x3' hG' hB'
    rw [MX0_bestOrder_l16, if_neg (show ¬ (120 : Int32) ≤ nI i from nI_ge (b := 120) (by omega) (by omega)), z1']
    simp only [Option.bind_some]
    rw [IT, foldS, z2]
    by_cases g : b ≤ VV A a (L.map (mfO ms))
    · rw [if_pos g, if_pos g]
      exact key b bo g1 hB
    · rw [if_neg g, if_neg g]
      unfold MX2_markBest
      simp only [Option.bind_some]
      refine key _ (some L) _ ?_
      intro L' e j hj
      cases e
      have := (hg j hj).2
      rw [← this]
      show va_cpy g0 g1 0 0 5 j = g0 j
      unfold va_cpy
      rw [if_pos ⟨by omega, by omega⟩]
      congr 1
      omega
theorem p_cd {N k : Nat} {mf : Nat → Nat} {F tc w bst : Nat → Int32} {q G H R b c : Int32} {rc : Int32 → Int32 → (Nat → Int32) → (Nat → Int32) → (Nat → Int32) → Option (Int32 × (Nat → Int32) × (Nat → Int32) × (Nat → Int32) × (Nat → Int32))} (hk : k ≤ 5) (hk1 : 1 ≤ k) (htc : ∀ j, j < k → tc j = nI (mf j)) : ∀ (e left : Nat) (st : Int32) (acc : List Nat) (ord : Nat → Int32) (m : Nat), e < m → acc.length + e = k → left < 2 ^ 31 → (∀ j y, acc[j]? = some y → ord (e + j) = nI (mf y)) → ∃ ord', MX8_family_l136 N q F G H R (nI k) tc b c w bst rc m (nI left) st (tI e) ord = MX8_family_j180 N q F G H R (nI k) b c w bst rc (cd k e left st acc).1 ord' ∧ (∀ j y, (cd k e left st acc).2[j]? = some y → ord' j = nI (mf y)) := by
  intro e
  induction e with
  | zero =>
    intro left st acc ord m h1 h2 h3 h4
    obtain ⟨m, rfl⟩ : ∃ j, m = j + 1 := ⟨m - 1, by omega⟩
    rw [MX8_family_l136, if_pos (show tI 0 < 0 by decide)]
    refine ⟨ord, rfl, fun j y hy => ?_⟩
    have := h4 j y hy
    rwa [Nat.zero_add] at this
  | succ e ih =>
    intro left st acc ord m h1 h2 h3 h4
    obtain ⟨m, rfl⟩ : ∃ j, m = j + 1 := ⟨m - 1, by omega⟩
    have hlt : left % k < k := Nat.mod_lt _ (by omega)
    have hdl : left / k ≤ left := Nat.div_le_self _ _
    have t1 : nI left - nI left / nI k * nI k = nI (left % k) := pk_rem h3 (by omega) (by omega)
    have t2 : nI left / nI k = nI (left / k) := pk_div h3 (by omega) (by omega)
    have hne : ¬ nI k = (0 : Int32) := nI_ne (b := 0) (by omega) (by omega) (by omega)
    rw [MX8_family_l136, show tI (e + 1) = nI e from rfl, if_neg (nI_pos (by omega)), t1, t2]
    unfold MD
    simp only [MLet]
    rw [if_neg hne, if_neg hne, if_neg hne, tI_pred]
    simp (disch := omega) only [MG_ok, nI_clamp, htc]
    rw [cd]
    refine ih (left / k) _ (left % k :: acc) _ m (by omega) (by rw [List.length_cons]; omega) (by omega) (fun j y hy => ?_)
    cases j with
    | zero =>
      rw [List.getElem?_cons_zero] at hy
      cases hy
      exact pk_us
    | succ j =>
      rw [List.getElem?_cons_succ] at hy
      rw [pk_un (by omega)]
      have := h4 j y hy
      rw [show e + 1 + j = e + (j + 1) by omega] at this
      exact this
theorem p_cpb {k : Nat} {c t0 : Int32} {ord w : Nat → Int32} {rc : Int32 → Int32 → (Nat → Int32) → (Nat → Int32) → (Nat → Int32) → Option (Int32 × (Nat → Int32) × (Nat → Int32) × (Nat → Int32) × (Nat → Int32))} (hk : k ≤ 5) : ∀ (m i : Nat) (bst : Nat → Int32), i ≤ k → k < m + i → (∀ j, j < i → bst j = ord j) → ∃ bst', MX8_family_l216 (nI k) c rc ord w t0 m (nI i) bst = MX8_family_j242 c rc ord w t0 bst' ∧ ∀ j, j < k → bst' j = ord j := by
  intro m
  induction m with
  | zero => intro i bst h1 h2; omega
  | succ m ih =>
    intro i bst h1 h2 h3
    rw [MX8_family_l216]
    by_cases hi : i = k
    · rw [if_pos (nI_le (by omega) (by omega))]
      exact ⟨bst, rfl, fun j hj => h3 j (by omega)⟩
    · rw [if_neg (nI_ge (by omega) (by omega))]
      simp (disch := omega) only [MG_ok, nI_clamp]
      rw [nI_1]
      refine ih (i + 1) _ (by omega) (by omega) (fun j hj => ?_)
      by_cases e : j = i
      · subst e; exact pk_us
      · rw [pk_un e]; exact h3 j (by omega)
theorem kk_le : ∀ k, k < 6 → k ^ k ≤ 3125 := by decide
theorem p_codes_l {N : Nat} (hN : 100000 ≤ N) {cc : Nat} (hc : cc ≤ 500000) {A : APl} {P : PlanV} {Nw : LineV} {U K : ShelfV} {F : Nat → Int32} {a : ASt} {us ks : List ASt} {ms : List Nat} {tc : Nat → Int32} {p2 : Int32} (htc : repq tc ms) (h5 : ms.length ≤ 5) (h1 : 1 ≤ ms.length) (hp : ms.Pairwise (· < ·)) (h9 : ∀ x, x ∈ ms → x < A.2.2.2.1) : ∀ (r m c : Nat) (b : Int32) (bo : Option (List Nat)) (w ord bst : Nat → Int32), c + r = ms.length ^ ms.length → r < m → Core cc A P Nw U K w F a us ks → repB ms.length (mfO ms) bst bo → b ≤ 100 → (CL ms.length r c).all (goodB ms.length) = true →
    ∃ b' bo' w' ord' bst', MX8_family_l117 N (nI A.2.2.2.1) F (nI A.2.2.2.2.1) (nI A.2.2.2.2.2.1) (nI A.2.2.2.2.2.2) p2 (nI ms.length) tc (nI (ms.length ^ ms.length)) m b (nI c) w ord bst = MX8_family_j248 p2 (nI ms.length) tc b' w' ord' bst' ∧ (b', bo') = foldS (fun L => VV A a (L.map (mfO ms))) (CL ms.length r c) (b, bo) ∧ repB ms.length (mfO ms) bst' bo' ∧ frm 66 w w' := by
  have hkk := kk_le ms.length (by omega)
  intro r
  induction r with
  | zero =>
    intro m c b bo w ord bst e1 e2 h hB hb hg
    obtain ⟨m, rfl⟩ : ∃ j, m = j + 1 := ⟨m - 1, by omega⟩
    rw [MX8_family_l117, if_pos (nI_le (by omega) (by omega))]
    exact ⟨b, bo, w, ord, bst, rfl, rfl, hB, frm.rfl'⟩
  | succ r ih =>
    intro m c b bo w ord bst e1 e2 h hB hb hg
    obtain ⟨m, rfl⟩ : ∃ j, m = j + 1 := ⟨m - 1, by omega⟩
    obtain ⟨c1, c2, c3, c4, ⟨n1, n2, n3, n4⟩, c6, c7⟩ := id h
    have hk1 : nI ms.length - (1 : Int32) = tI ms.length := by
      obtain ⟨k, e⟩ : ∃ k, ms.length = k + 1 := ⟨ms.length - 1, by omega⟩
      rw [e]
      exact nI_pred k
    obtain ⟨ord', z1, z2⟩ := p_cd (N := N) (mf := mfO ms) (F := F) (tc := tc) (w := w) (bst := bst) (q := nI A.2.2.2.1) (G := nI A.2.2.2.2.1) (H := nI A.2.2.2.2.2.1) (R := nI A.2.2.2.2.2.2) (b := b) (c := nI c) (rc := MX8_family_l117 N (nI A.2.2.2.1) F (nI A.2.2.2.2.1) (nI A.2.2.2.2.2.1) (nI A.2.2.2.2.2.2) p2 (nI ms.length) tc (nI (ms.length ^ ms.length)) m) h5 h1 (fun j hj => by rw [mfO_at hj]; exact htc.at hj) ms.length c 0 [] ord N (by omega) (by simp) (by omega) (fun j y hy => by simp at hy)
    rw [MX8_family_l117, if_neg (nI_ge (by omega) (by omega))]
    simp only [MLet]
    rw [hk1, z1]
    unfold MX8_family_j180
    rw [show ((1 : Int32) <<< (nI ms.length &&& 31)) - (1 : Int32) = fullS ms.length from rfl]
    rw [CL] at hg ⊢
    by_cases g : (cd ms.length ms.length c 0 []).1 = fullS ms.length
    · rw [if_pos g] at hg ⊢
      rw [if_pos g]
      generalize (cd ms.length ms.length c 0 []).2 = L at hg z2 ⊢
      rw [List.all_cons, Bool.and_eq_true] at hg
      obtain ⟨hgood, hrest⟩ := hg
      obtain ⟨q1, q2, q3⟩ := oL_facts hp hgood
      have hlen := (good_of hgood).1
      have hrep : repq ord' (L.map (mfO ms)) := by
        intro i x hx
        rw [List.getElem?_map] at hx
        cases hy : L[i]? with
        | none => rw [hy] at hx; cases hx
        | some y =>
          rw [hy] at hx
          cases hx
          exact z2 i y hy
      obtain ⟨w1, d1, f1⟩ := p_mwait (N := N) (ord := ord') (l := L.map (mfO ms)) (by omega) c1 c4 n4 n2 hc hrep (by omega) q2 (fun x hx => h9 x ((q3 x).mp hx))
      rw [q1] at d1
      rw [d1]
      simp only [Option.bind_some]
      unfold MX8_family_j200
      rw [foldS]
      by_cases gb : b ≤ VV A a (L.map (mfO ms))
      · rw [if_pos gb, if_pos gb]
        unfold MX8_family_j242
        rw [nI_1]
        obtain ⟨b', bo', w', o', s', y1, y2, y3, y4⟩ := ih m (c + 1) b bo w1 ord' bst (by omega) (by omega) (h.tr f1) hB hb hrest
        exact ⟨b', bo', w', o', s', y1, y2, y3, f1.tr y4⟩
      · rw [if_neg gb, if_neg gb]
        obtain ⟨bst1, x1, x2⟩ := p_cpb (c := nI c) (t0 := VV A a (L.map (mfO ms))) (ord := ord') (w := w1) (rc := MX8_family_l117 N (nI A.2.2.2.1) F (nI A.2.2.2.2.1) (nI A.2.2.2.2.2.1) (nI A.2.2.2.2.2.2) p2 (nI ms.length) tc (nI (ms.length ^ ms.length)) m) h5 N 0 bst (by omega) (by omega) (fun j hj => absurd hj (Nat.not_lt_zero j))
        have x1' : MX8_family_l216 (nI ms.length) (nI c) (MX8_family_l117 N (nI A.2.2.2.1) F (nI A.2.2.2.2.1) (nI A.2.2.2.2.2.1) (nI A.2.2.2.2.2.2) p2 (nI ms.length) tc (nI (ms.length ^ ms.length)) m) ord' w1 (VV A a (L.map (mfO ms))) N (0 : Int32) bst = _ := x1
        rw [x1']
        unfold MX8_family_j242
        rw [nI_1]
        have hB' : repB ms.length (mfO ms) bst1 (some L) := by
          intro L' e j hj
          cases e
          rw [x2 j hj]
          have hjl : j < L.length := by omega
          have := z2 j L[j] (List.getElem?_eq_getElem hjl)
          rw [this]
          unfold pf
          rw [List.getD_eq_getElem?_getD, List.getElem?_eq_getElem hjl]
          rfl
        have hb' : VV A a (L.map (mfO ms)) ≤ 100 := by
          rcases Int32.le_total b (VV A a (L.map (mfO ms))) with z | z
          · exact absurd z gb
          · exact Int32.le_trans z hb
        obtain ⟨b', bo', w', o', s', y1, y2, y3, y4⟩ := ih m (c + 1) (VV A a (L.map (mfO ms))) (some L) w1 ord' bst1 (by omega) (by omega) (h.tr f1) hB' hb' hrest
        exact ⟨b', bo', w', o', s', y1, y2, y3, f1.tr y4⟩
    · rw [if_neg g] at hg ⊢
      rw [if_neg g]
      unfold MX8_family_j200
      rw [if_pos hb]
      unfold MX8_family_j242
      rw [nI_1]
      exact ih m (c + 1) b bo w ord' bst (by omega) (by omega) h hB hb hg
theorem foldS_some {V : List Nat → Int32} : ∀ (r : List (List Nat)) (s : Int32 × Option (List Nat)), s.2 ≠ none → (foldS V r s).2 ≠ none := by
  intro r
  induction r with
  | nil => intro s h; exact h
  | cons L r ih =>
    intro s h
    rw [foldS]
    refine ih _ ?_
    split
    · exact h
    · simp
theorem p_mcodes_l {N : Nat} {w F ord bst tc : Nat → Int32} {q G H R p2 : Int32} {k : Nat} (hk : k ≤ 5) : ∀ (m r i : Nat), i + r = k → r < m → MX8_family_l92 N w q F G H R ord bst p2 (nI k) tc m (nI (k ^ i)) (nI i) = MX8_family_j110 N w q F G H R ord bst p2 (nI k) tc (nI (k ^ k)) := by
  intro m
  induction m with
  | zero => intro r i h1 h2; omega
  | succ m ih =>
    intro r i h1 h2
    rw [MX8_family_l92]
    cases r with
    | zero =>
      have e : i = k := by omega
      subst e
      rw [if_pos (nI_le (Nat.le_refl _) (by omega))]
    | succ r =>
      rw [if_neg (nI_ge (by omega) (by omega))]
      simp only [MLet]
      rw [nI_1, nI_mul, ← Nat.pow_succ]
      exact ih r (i + 1) (by omega) (by omega)
theorem s_family {N : Nat} (hN : 100000 ≤ N) {c : Nat} (hc : c ≤ 500000) {A : APl} {P : PlanV} {Nw : LineV} {U K : ShelfV} {w F : Nat → Int32} {a : ASt} {us ks : List ASt} (h : Core c A P Nw U K w F a us ks) (Gs : PlanV) (Tr : LineV) (O : OrdV) (tc ord bst : Nat → Int32) (x y : Int32) : ∃ u v, MX7_family N P Nw Gs Tr O x y = some u ∧ MX8_family N w (nI A.2.2.2.1) F (nI A.2.2.2.2.1) (nI A.2.2.2.2.2.1) (nI A.2.2.2.2.2.2) tc ord bst x y = some v ∧ u.1 = v.1 ∧ frm 66 w v.2.1 := by
  obtain ⟨c1, c2, c3, c4, ⟨n1, n2, n3, n4⟩, c6, c7⟩ := id h
  have hn := c1.1
  have hi : MX8_in N x.toInt64 (1 : Int64) (4 : Int64) = some (if x < 1 ∨ 4 < x then 0 else 1) := p_in x 1 4
  have hj : MX8_in N y.toInt64 (0 : Int64) (5 : Int64) = some (if y < 0 ∨ 5 < y then 0 else 1) := p_in y 0 5
  unfold MX7_family MX8_family
  rw [hi, hj]
  simp only [Option.bind_some]
  by_cases h1 : x < 1
  · rw [if_pos h1, if_pos (show x < 1 ∨ 4 < x from Or.inl h1), b0]
    exact ⟨_, _, rfl, rfl, rfl, frm.rfl'⟩
  by_cases h2 : 4 < x
  · rw [if_neg h1, if_pos h2, if_pos (show x < 1 ∨ 4 < x from Or.inr h2), b0]
    exact ⟨_, _, rfl, rfl, rfl, frm.rfl'⟩
  obtain ⟨f, f1, f4, e⟩ := rng (lo := 1) (hi := 4) (by omega) (by omega) h1 h2
  rw [if_neg h1, if_neg h2, if_neg (show ¬ (x < 1 ∨ 4 < x) from fun q => q.elim h1 h2), b1]
  subst e
  by_cases h3 : y < 0
  · rw [if_pos h3, if_pos (show y < 0 ∨ 5 < y from Or.inl h3), b0]
    exact ⟨_, _, rfl, rfl, rfl, frm.rfl'⟩
  by_cases h4 : 5 < y
  · rw [if_neg h3, if_neg (i32_nle h4), if_pos (show y < 0 ∨ 5 < y from Or.inr h4), b0]
    exact ⟨_, _, rfl, rfl, rfl, frm.rfl'⟩
  obtain ⟨d, _, d5, e⟩ := rng (lo := 0) (hi := 5) (by omega) (by omega) h3 h4
  rw [if_neg h3, if_pos (i32_le h4), if_neg (show ¬ (y < 0 ∨ 5 < y) from fun q => q.elim h3 h4), b1]
  subst e
  have h5 : (gat A a f A.2.2.2.1).length ≤ 5 := Nat.le_trans (gat_len _) (c2 f f1 f4)
  obtain ⟨O1, z1, z2⟩ := p_gather_l (N := N) c3 c1 n1 n2 f4 h5 N A.2.2.2.1 0 O.1 (by omega) (by omega) (fun i x hx => by simp [gat] at hx)
  have z1' : MX2_gather N O P Nw (nI f) = _ := z1
  obtain ⟨tc1, y1, y2⟩ := p_mgather_l (N := N) (ord := ord) (bst := bst) (G := nI A.2.2.2.2.1) (H := nI A.2.2.2.2.2.1) (R := nI A.2.2.2.2.2.2) (p2 := nI d) c1 c4 n4 n2 f4 h5 N A.2.2.2.1 0 tc (by omega) (by omega) (fun i x hx => by simp [gat] at hx)
  have y1' : MX8_family_l31 N w (nI A.2.2.2.1) F (nI A.2.2.2.2.1) (nI A.2.2.2.2.2.1) (nI A.2.2.2.2.2.2) ord bst (nI f) (nI d) N (0 : Int32) (0 : Int32) tc = _ := y1
  have hsort := gat_sort (A := A) (a := a) (f := f) A.2.2.2.1
  have hmem := fun x hx => gat_mem (A := A) (a := a) (f := f) A.2.2.2.1 x hx
  rw [z1', y1']
  clear z1 y1 z1' y1'
  generalize gat A a f A.2.2.2.1 = ms at h5 z2 y2 hsort hmem ⊢
  unfold MX2_gather_j71 MX8_family_j79
  by_cases hk0 : ms.length = 0
  · rw [hk0, if_pos (show nI 0 ≤ (0 : Int32) by decide), n0z]
    simp only [Option.bind_some]
    rw [if_pos True.intro]
    exact ⟨_, _, rfl, rfl, rfl, frm.rfl'⟩
  have hk1 : 1 ≤ ms.length := by omega
  rw [if_neg (nI_nle (by omega) (by omega)), if_neg (show ¬ nI ms.length = (0 : Int32) from nI_ne (b := 0) (by omega) (by omega) hk0)]
  simp only [Option.bind_some]
  rw [b1]
  have hkk := kk_le ms.length (by omega)
  have e92 : MX8_family_l92 N w (nI A.2.2.2.1) F (nI A.2.2.2.2.1) (nI A.2.2.2.2.2.1) (nI A.2.2.2.2.2.2) ord bst (nI d) (nI ms.length) tc1 N (1 : Int32) (0 : Int32) = _ := p_mcodes_l (N := N) h5 N ms.length 0 (by omega) (by omega)
  obtain ⟨en1, en2⟩ := enum_ok hk1 h5
  obtain ⟨b', bo', w', o', s', x1, x2, x3, x4⟩ := p_codes_l hN hc (p2 := nI d) y2 h5 hk1 hsort (fun x hx => (hmem x hx).1) (ms.length ^ ms.length) N 0 (100 : Int32) none w ord bst (by omega) (by omega) h (fun L e => by cases e) (by decide) en2
  have x1' : MX8_family_l117 N (nI A.2.2.2.1) F (nI A.2.2.2.2.1) (nI A.2.2.2.2.2.1) (nI A.2.2.2.2.2.2) (nI d) (nI ms.length) tc1 (nI (ms.length ^ ms.length)) N (100 : Int32) (0 : Int32) w ord bst = _ := x1
  rw [e92]
  unfold MX8_family_j110
  rw [x1']
  unfold MX8_family_j248
  by_cases hd : ms.length < d
  · rw [if_neg (nI_ge hd (by omega)), if_neg (show ¬ nI d = (0 : Int32) from nI_ne (b := 0) (by omega) (by omega) (by omega)), if_pos (nI_lt hd (by omega))]
    exact ⟨_, _, rfl, rfl, rfl, x4⟩
  rw [if_pos (nI_le (by omega) (by omega))]
  obtain ⟨G0, g1, g2⟩ := p_pcopy (N := N) (P := Gs) hn c3
  have hAR : ARp ms.length (mfO ms) O1 (pf (List.range ms.length)) := by
    intro j hj
    have e : pf (List.range ms.length) j = j := by
      unfold pf
      rw [List.getD_eq_getElem?_getD, List.getElem?_range hj]
      rfl
    rw [e]
    refine ⟨hj, ?_⟩
    rw [mfO_at hj]
    exact z2.at hj
  rw [← en1] at en2
  obtain ⟨u, v1, v2, v3⟩ := p_best_l (N := N) (by omega) (O := (O1, O.2.1, nI ms.length)) c1 g2 n1 n2 hc rfl h5 hk1 hsort (fun x hx => (hmem x hx).1) 120 N 0 (List.range ms.length) (100 : Int32) none G0.2.1 Tr O1 O.2.1 (by omega) (by omega) en2 hAR (fun q hq _ => (g2.1 q hq).2.1) (fun L e => by cases e)
  have v1' : MX0_bestOrder N P Nw Gs Tr (O1, O.2.1, nI ms.length) = some u := by
    unfold MX0_bestOrder
    rw [g1]
    exact v1
  rw [en1, ← x2] at v2 v3
  have hsome : bo' ≠ none := by
    have hbo : bo' = (foldS (fun L => VV A a (L.map (mfO ms))) (CL ms.length (ms.length ^ ms.length) 0) (100, none)).2 := by rw [← x2]
    rw [hbo, ← en1, IT, foldS]
    refine foldS_some _ _ ?_
    have hlt : VV A a ((List.range ms.length).map (mfO ms)) < 100 := by
      rw [IT, List.all_cons, Bool.and_eq_true] at en2
      obtain ⟨q1, q2, q3⟩ := oL_facts hsort en2.1
      exact VV_lt c1 n2 n3 hc (by omega) (fun p hp => (hmem p ((q3 p).mp hp)).2)
    rw [if_neg (show ¬ ((100 : Int32), (none : Option (List Nat))).1 ≤ VV A a ((List.range ms.length).map (mfO ms)) from i32_nle hlt)]
    simp
  rw [v1']
  simp only [Option.bind_some]
  by_cases hd0 : d = 0
  · subst hd0
    rw [n0z, n0z]
    exact ⟨_, _, rfl, rfl, v2, x4⟩
  rw [if_neg (show ¬ nI d = (0 : Int32) from nI_ne (b := 0) (by omega) (by omega) hd0), if_neg (show ¬ nI d = (0 : Int32) from nI_ne (b := 0) (by omega) (by omega) hd0), if_neg (nI_nlt (by omega) (by omega))]
  have ed : nI d - (1 : Int32) = nI (d - 1) := pk_sub (b := 1) (by omega)
  rw [ed]
  unfold MX2_bestAt
  rw [if_neg (nI_pos (by omega)), if_neg (show ¬ nI ms.length ≤ nI (d - 1) from nI_ge (by omega) (by omega)), if_neg (show ¬ (5 : Int32) ≤ nI (d - 1) from nI_ge (b := 5) (by omega) (by omega))]
  simp (disch := omega) only [MG_ok, nI_clamp, Option.bind_some]
  refine ⟨_, _, rfl, rfl, ?_, x4⟩
  cases hb : bo' with
  | none => exact absurd hb hsome
  | some L =>
    have r1 := v3 L hb (d - 1) (by omega)
    have r2 := x3 L hb (d - 1) (by omega)
    exact r1.trans r2.symm
