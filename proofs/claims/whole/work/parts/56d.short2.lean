theorem repSh.held {m H : Nat} {S : ShelfV} {us : List ASt} (h : repSh m H S us) : S.2.1 = nI us.length := by
  obtain ⟨t, h1, h2, h3, h4, h5⟩ := h
  exact h3
theorem repSh.nil {m H H' : Nat} {S : ShelfV} {us : List ASt} (h : repSh m H S us) : repSh m H' (S.1, (0 : Int32), S.2.2) [] := by
  obtain ⟨t, h1, h2, h3, h4, h5⟩ := h
  exact ⟨t, h1, h2, rfl, by simp, fun k b hb => by simp at hb⟩
theorem UR.nil {m s H H' c c' : Nat} {A A' : APl} {w w' : Nat → Int32} {S : ShelfV} {us : List ASt} (h : UR m s H c A w S us) : UR m s H' c' A' w' (S.1, (0 : Int32), S.2.2) [] :=
  ⟨h.1.nil, fun b hb => by simp at hb, fun b hb => by simp at hb, fun k b hb => by simp at hb, by simp⟩
theorem UR.init {m s H c : Nat} {A : APl} {w w' : Nat → Int32} {S : ShelfV} {t' : Int32} {us : List ASt} {b : ASt} (h : UR m s H c A w S (us ++ [b])) (h9 : A.2.2.2.1 ≤ 9) (hs : repSh m H (t', nI us.length, S.2.2) us) (hw : ∀ x, s ≤ x → x < s + 66 * m → w' x = w x) : UR m s H c A w' (t', nI us.length, S.2.2) us := by
  obtain ⟨h1, h2, h3, h4, h5⟩ := h
  have hl : us.length ≤ m := by
    rw [List.length_append] at h5
    omega
  have : UR m s H c A w (t', nI us.length, S.2.2) us := ⟨hs, fun b hb => h2 b (List.mem_append_left _ hb), fun b hb => h3 b (List.mem_append_left _ hb), fun k b hb => h4 k b (by rw [List.getElem?_append_left (List.getElem?_eq_some_iff.mp hb).1]; exact hb), hl⟩
  exact this.fr h9 hw (Nat.le_refl _)
theorem s_undo {N : Nat} (hN : 100000 ≤ N) {c : Nat} {A : APl} {P : PlanV} {Nw : LineV} {U K : ShelfV} {w F : Nat → Int32} {a : ASt} {us ks : List ASt} (h : Core c A P Nw U K w F a us ks) : ∃ u v, MX7_undo N Nw U = some u ∧ MX8_undo N w (nI us.length) = some v ∧ u.1 = v.1 ∧ ∃ a' us', v.2.2 = nI us'.length ∧ Core c A P (u.2.1, u.2.2.1, u.2.2.2.1, u.2.2.2.2.1, u.2.2.2.2.2.1, u.2.2.2.2.2.2.1, u.2.2.2.2.2.2.2.1, u.2.2.2.2.2.2.2.2.1, u.2.2.2.2.2.2.2.2.2.1) (u.2.2.2.2.2.2.2.2.2.2.1, u.2.2.2.2.2.2.2.2.2.2.2, U.2.2) K v.2.1 F a' us' ks := by
  obtain ⟨c1, c2, c3, c4, ⟨n1, n2, n3, n4⟩, c6, c7⟩ := id h
  have h9 := c1.1
  unfold MX7_undo MX8_undo
  rcases List.eq_nil_or_concat us with e | ⟨l, b, e⟩
  · subst e
    rw [p_pop0 c6.1]
    simp only [Option.bind_some, List.length_nil, if_true]
    rw [n0z]
    exact ⟨_, _, rfl, rfl, rfl, a, [], rfl, h⟩
  · rw [List.concat_eq_append] at e
    subst e
    have hb : b ∈ l ++ [b] := List.mem_append_right _ (List.mem_singleton.mpr rfl)
    have hwb := c6.2.1 b hb
    have heb := c6.2.2.1 b hb
    have hl8 := c6.2.2.2.2
    have hll : (l ++ [b]).length = l.length + 1 := by simp
    rw [hll] at hl8 ⊢
    obtain ⟨u, e1, u1, u2, u3, u4⟩ := p_pop (N := N) (L := Nw) (m := 8) (by omega) (by omega) h9 c6.1 hwb
    obtain ⟨w', e2, q2, f2⟩ := p_mundo (N := N) (s := 264) (by omega) (Or.inl rfl) h9 hwb c6.2.2.2.1 (by omega)
    have e0 : nI (l.length + 1) - (1 : Int32) = nI l.length := pk_sub (b := 1) (by omega)
    have em : (264 : Int32) + (66 : Int32) * nI l.length = nI (264 + 66 * l.length) := by
      rw [k264, k66, nI_mul, nI_add]
    have e2' : MX8_copy N w (nI (264 + 66 * l.length)) (0 : Int32) = some w' := e2
    rw [if_neg (show ¬ nI (l.length + 1) = (0 : Int32) from nI_ne (b := 0) (by omega) (by omega) (by omega))]
    rw [e0, em, e1, e2']
    simp only [Option.bind_some]
    rw [u1, b1]
    refine ⟨_, _, rfl, rfl, u2, b, l, rfl, c1, c2, c3, c4, ⟨u4, hwb, heb, q2⟩, ?_, c7.fr h9 (fun x g1 g2 => f2 x (by omega)) (Nat.le_refl _)⟩
    show UR 8 264 A.2.2.2.2.2.1 c A w' (u.2.1, u.2.2.1, U.2.2) l
    rw [u2]
    exact c6.init h9 (u2 ▸ u3) (fun x g1 g2 => f2 x (by omega))
theorem s_keep {N : Nat} (hN : 100000 ≤ N) {c : Nat} {A : APl} {P : PlanV} {Nw : LineV} {U K : ShelfV} {w F : Nat → Int32} {a : ASt} {us ks : List ASt} (h : Core c A P Nw U K w F a us ks) : ∃ u v, MX7_keep N Nw K = some u ∧ MX8_keep N w (nI ks.length) = some v ∧ u.1 = v.1 ∧ ∃ ks', v.2.2 = nI ks'.length ∧ Core c A P Nw U (u.2.1, u.2.2.1, u.2.2.2) v.2.1 F a us ks' := by
  obtain ⟨c1, c2, c3, c4, ⟨n1, n2, n3, n4⟩, c6, ⟨d1, d2, d3, d4, d5⟩⟩ := id h
  have h9 := c1.1
  have hl := n2.len
  have hh := d1.held
  unfold MX7_keep MX8_keep
  rw [hh]
  by_cases g : ks.length = 2
  · rw [if_neg (show ¬ nI ks.length < (2 : Int32) from nI_nlt (b := 2) (by omega) (by omega)), if_pos (show nI ks.length = (2 : Int32) by rw [g]; rfl)]
    refine ⟨_, _, rfl, rfl, rfl, ks, rfl, ?_⟩
    have e : ((K.1, nI ks.length, K.2.2) : ShelfV) = K := by rw [← hh]
    show Core c A P Nw U (K.1, nI ks.length, K.2.2) w F a us ks
    rw [e]
    exact h
  · rw [if_pos (show nI ks.length < (2 : Int32) from nI_lt (b := 2) (by omega) (by omega)), if_neg (show ¬ nI ks.length = (2 : Int32) from nI_ne (b := 2) (by omega) (by omega) g)]
    obtain ⟨S', e1, q1⟩ := p_push (N := N) (m := 2) (by omega) (by omega) h9 d1 n1 n2
    have hp : aPush 2 ks a = ks ++ [a] := by unfold aPush; rw [if_neg g]
    rw [hp] at q1
    have em : nI 132 + nI 66 * nI ks.length = nI (132 + 66 * ks.length) := by rw [nI_mul, nI_add]
    obtain ⟨w', e2, q2, f2⟩ := p_mcopy (N := N) (s := 0) (d := 132 + 66 * ks.length) (w := w) (by omega) (by omega) (by omega) (by omega)
    simp only [k132, k66, k0, em, k1, nI_add]
    rw [e1, e2]
    simp only [Option.bind_some]
    have hll : (ks ++ [a]).length = ks.length + 1 := by simp
    refine ⟨_, _, rfl, rfl, ?_, ks ++ [a], ?_, c1, c2, c3, c4, ⟨n1, n2, n3, n4.fr f2 (by omega) (by show a.1.length ≤ 9; omega) h9⟩, c6.fr h9 (fun x g1 g2 => f2 x (by omega)) (Nat.le_refl _), ⟨q1, ?_, ?_, ?_, by omega⟩⟩
    · rw [q1.held, hll]
    · rw [hll]
    · intro b hb
      rcases List.mem_append.mp hb with q | q
      · exact d2 b q
      · rw [List.mem_singleton.mp q]; exact n2
    · intro b hb
      rcases List.mem_append.mp hb with q | q
      · exact d3 b q
      · rw [List.mem_singleton.mp q]; exact n3
    · intro k b hb
      rw [List.getElem?_append] at hb
      by_cases hk : k < ks.length
      · rw [if_pos hk] at hb
        have hbl := (d2 b (List.mem_of_getElem? hb)).len
        exact (d4 k b hb).fr f2 (by omega) (by show b.1.length ≤ 9; omega) h9
      · rw [if_neg hk] at hb
        have hk2 : k = ks.length := by
          have := (List.getElem?_eq_some_iff.mp hb).1
          simp at this
          omega
        subst hk2
        rw [Nat.sub_self] at hb
        cases hb
        exact n4.cp q2 (by show a.1.length ≤ 9; omega) h9
theorem s_back {N : Nat} (hN : 100000 ≤ N) {c : Nat} {A : APl} {P : PlanV} {Nw : LineV} {U K : ShelfV} {w F : Nat → Int32} {a : ASt} {us ks : List ASt} (h : Core c A P Nw U K w F a us ks) : ∃ u v, MX7_back N Nw U K = some u ∧ MX8_back N w (nI us.length) (nI ks.length) = some v ∧ u.1 = v.1 ∧ ∃ a' us' ks', v.2.2.1 = nI us'.length ∧ v.2.2.2 = nI ks'.length ∧ Core c A P (u.2.1, u.2.2.1, u.2.2.2.1, u.2.2.2.2.1, u.2.2.2.2.2.1, u.2.2.2.2.2.2.1, u.2.2.2.2.2.2.2.1, u.2.2.2.2.2.2.2.2.1, u.2.2.2.2.2.2.2.2.2.1) (U.1, u.2.2.2.2.2.2.2.2.2.2.1, U.2.2) (u.2.2.2.2.2.2.2.2.2.2.2.1, u.2.2.2.2.2.2.2.2.2.2.2.2, K.2.2) v.2.1 F a' us' ks' := by
  obtain ⟨c1, c2, c3, c4, ⟨n1, n2, n3, n4⟩, c6, c7⟩ := id h
  have h9 := c1.1
  unfold MX7_back MX8_back MX5_empty
  rcases List.eq_nil_or_concat ks with e | ⟨l, b, e⟩
  · subst e
    rw [p_pop0 c7.1]
    simp only [Option.bind_some, List.length_nil, if_true]
    rw [n0z]
    exact ⟨_, _, rfl, rfl, rfl, a, us, [], rfl, rfl, h⟩
  · rw [List.concat_eq_append] at e
    subst e
    have hb : b ∈ l ++ [b] := List.mem_append_right _ (List.mem_singleton.mpr rfl)
    have hwb := c7.2.1 b hb
    have heb := c7.2.2.1 b hb
    have hl8 := c7.2.2.2.2
    have hll : (l ++ [b]).length = l.length + 1 := by simp
    rw [hll] at hl8 ⊢
    obtain ⟨u, e1, u1, u2, u3, u4⟩ := p_pop (N := N) (L := Nw) (m := 2) (by omega) (by omega) h9 c7.1 hwb
    obtain ⟨w', e2, q2, f2⟩ := p_mundo (N := N) (s := 132) (by omega) (Or.inr rfl) h9 hwb c7.2.2.2.1 (by omega)
    have e0 : nI (l.length + 1) - (1 : Int32) = nI l.length := pk_sub (b := 1) (by omega)
    have em : (132 : Int32) + (66 : Int32) * nI l.length = nI (132 + 66 * l.length) := by
      rw [k132, k66, nI_mul, nI_add]
    have e2' : MX8_copy N w (nI (132 + 66 * l.length)) (0 : Int32) = some w' := e2
    rw [if_neg (show ¬ nI (l.length + 1) = (0 : Int32) from nI_ne (b := 0) (by omega) (by omega) (by omega))]
    rw [e0, em, e1, e2']
    simp only [Option.bind_some]
    rw [u1, b1]
    refine ⟨_, _, rfl, rfl, u2, b, [], l, rfl, rfl, c1, c2, c3, c4, ⟨u4, hwb, heb, q2⟩, c6.nil, ?_⟩
    show UR 2 132 A.2.2.2.2.2.1 c A w' (u.2.1, u.2.2.1, K.2.2) l
    rw [u2]
    exact c7.init h9 (u2 ▸ u3) (fun x g1 g2 => f2 x (by omega))
theorem p_comingOf {N : Nat} {P : PlanV} {A : APl} (hP : repP P A) (hA : WFP A) {t : Nat} (ht : t < A.2.2.2.1) : MX3_comingOf N P (nI t) = some (nI (A.2.1 t)) := by
  have h9 := hA.1
  obtain ⟨a1, a2, a3⟩ := hP.1 t ht
  unfold MX3_comingOf
  simp (disch := omega) only [k0, k9, nI_leI, nI_ltI, nI_clamp, MG_ok, if_neg, a2]
theorem p_kinOf {N : Nat} {P : PlanV} {A : APl} (hP : repP P A) (hA : WFP A) {t : Nat} (ht : t < A.2.2.2.1) : MX3_kinOf N P (nI t) = some (nI (A.2.2.1 t)) := by
  have h9 := hA.1
  obtain ⟨a1, a2, a3⟩ := hP.1 t ht
  unfold MX3_kinOf
  simp (disch := omega) only [k0, k9, nI_leI, nI_ltI, nI_clamp, MG_ok, if_neg, a3]
theorem s_person {N : Nat} (hN : 100000 ≤ N) {c : Nat} {A : APl} {P : PlanV} {Nw : LineV} {U K : ShelfV} {w F : Nat → Int32} {a : ASt} {us ks : List ASt} (h : Core c A P Nw U K w F a us ks) (x y : Int32) : ∃ u, MX7_person N P Nw x y = some u ∧ MX8_person N w (nI A.2.2.2.1) F x y = some u := by
  obtain ⟨c1, c2, c3, c4, ⟨n1, n2, n3, n4⟩, c6, c7⟩ := id h
  have h9 := c1.1
  have hl := n2.len
  unfold MX7_person MX8_person
  rcases p_has (N := N) c3 c1 x with ⟨p, hp, e, hh⟩ | ⟨-, hh⟩
  · subst e
    rw [p_isPerson c3 c1, hh]
    simp only [Option.bind_some, b1]
    have hw3 := n2.2.2.2.1 p
    have e0 := p_kindOf (N := N) c3 c1 hp
    have e1 := p_comingOf (N := N) c3 c1 hp
    have e2 := p_kinOf (N := N) c3 c1 hp
    have e3 := p_whereIs (N := N) n1 (p := p) (by omega)
    have e4 := p_placeOf (N := N) (p := p) (by omega) n1.1 n1.2.1 (by omega) (fun y hy => by have := n2.q9 hy; omega) (by omega)
    have e5 := p_stoodOf (N := N) n1 n2 (p := p) (by omega)
    have e6 := p_ateInOf (N := N) n1 n2 (p := p) (by omega)
    have e7 := p_warmOf (N := N) n1 n2 (p := p) (by omega)
    have m4 : MX8_placeOf N w (0 : Int32) (nI p) = some (if p ∈ a.1 then nI (a.1.idxOf p) else -4) := p_mplaceOf (N := N) (r := 0) (p := p) (by omega) (by omega) n4 (by show a.1.length ≤ 9; omega) (fun y hy => by have := n2.q9 hy; omega) (by omega)
    obtain ⟨r1, r2, r3, r4, r5, r6, r7, r8, r9⟩ := n4
    have r5 := r5 p (by omega)
    have r6 := r6 p (by omega)
    have r7 := r7 p (by omega)
    have r8 := r8 p (by omega)
    obtain ⟨r9, r10⟩ := r9 p hp
    rw [Nat.zero_add] at r5 r6 r7 r8 r9 r10
    have f0 : nI 57 + nI p = nI (57 + p) := nI_add _ _
    rw [e0, e1, e2, e3, e4, e5, e6, e7, m4]
    simp only [Option.bind_some]
    have q0 : MG ((57 : Int32) + nI p) 792 (some (w ((57 : Int32) + nI p).toNatClampNeg)) = some (nI (A.1 p)) := by
      simp (disch := omega) only [k57, nI_add, MG_ok, nI_clamp, r10]
    have q1 : MG ((48 : Int32) + nI p) 792 (some (w ((48 : Int32) + nI p).toNatClampNeg)) = some (nI (A.2.1 p)) := by
      simp (disch := omega) only [k48, nI_add, MG_ok, nI_clamp, r9]
    have q2 : MG (nI p) 9 (some (F (nI p).toNatClampNeg)) = some (nI (A.2.2.1 p)) := by
      simp (disch := omega) only [MG_ok, nI_clamp, c4 p hp]
    have q3 : MG ((12 : Int32) + nI p) 792 (some (w ((12 : Int32) + nI p).toNatClampNeg)) = some (nI (a.2.1 p)) := by
      simp (disch := omega) only [k12, nI_add, MG_ok, nI_clamp, r5]
      rfl
    have q5 : MG ((21 : Int32) + nI p) 792 (some (w ((21 : Int32) + nI p).toNatClampNeg)) = some (nI (if a.2.1 p = 1 then a.2.2.1 p else 0)) := by
      simp (disch := omega) only [k21, nI_add, MG_ok, nI_clamp, r6]
      rfl
    have q6 : MG ((30 : Int32) + nI p) 792 (some (w ((30 : Int32) + nI p).toNatClampNeg)) = some (if a.2.1 p = 3 then nI (a.2.2.2.1 p) else -4) := by
      simp (disch := omega) only [k30, nI_add, MG_ok, nI_clamp, r7]
      rfl
    have q7 : MG ((39 : Int32) + nI p) 792 (some (w ((39 : Int32) + nI p).toNatClampNeg)) = some (if a.2.1 p = 3 then nI (a.2.2.2.2.1 p) else -4) := by
      simp (disch := omega) only [k39, nI_add, MG_ok, nI_clamp, r8]
      rfl
    rw [q0, q1, q2, q3, q5, q6, q7]
    have key : ∀ (E : Option Int32), E ≠ none → ∃ u, E = some u ∧ E = some u := by
      intro E hE
      cases E with
      | none => exact absurd rfl hE
      | some u => exact ⟨u, rfl, rfl⟩
    refine key _ ?_
    clear q0 q1 q2 q3 q5 q6 q7 e0 e1 e2 e3 e4 e5 e6 e7 m4
    by_cases g0 : y = 0
    · rw [if_pos g0]; simp
    rw [if_neg g0]
    by_cases g1 : y = 1
    · rw [if_pos g1]; simp
    rw [if_neg g1]
    by_cases g2 : y = 2
    · rw [if_pos g2]; simp
    rw [if_neg g2]
    by_cases g3 : y = 3
    · rw [if_pos g3]; simp
    rw [if_neg g3]
    by_cases g4 : y = 4
    · rw [if_pos g4]; simp
    rw [if_neg g4]
    by_cases g5 : y = 5
    · rw [if_pos g5]; simp
    rw [if_neg g5]
    by_cases g6 : y = 6
    · rw [if_pos g6]; simp
    rw [if_neg g6]
    by_cases g7 : y = 7
    · rw [if_pos g7]; simp
    rw [if_neg g7]
    simp
  · rw [p_isPerson c3 c1, hh]
    simp only [Option.bind_some, b0]
    exact ⟨_, rfl, rfl⟩
theorem s_at {N : Nat} {c : Nat} {A : APl} {P : PlanV} {Nw : LineV} {U K : ShelfV} {w F : Nat → Int32} {a : ASt} {us ks : List ASt} (h : Core c A P Nw U K w F a us ks) (x : Int32) : ∃ u, MX7_at N Nw x = some u ∧ MX8_at N w x = some u := by
  obtain ⟨c1, c2, c3, c4, ⟨n1, n2, n3, n4⟩, c6, c7⟩ := id h
  have h9 := c1.1
  have hl := n2.len
  have r3 : w 2 = nI a.1.length := n4.2.2.1
  have r4 := n4.2.2.2.1
  unfold MX7_at MX8_at
  by_cases h0 : 0 ≤ x
  · rw [if_pos h0, if_pos h0]
    have hn0 : ¬ x < 0 := fun q => absurd h0 (i32_nle q)
    simp (disch := omega) only [k2, MG_ok, nI_clamp, r3]
    by_cases h1 : nI a.1.length ≤ x
    · rw [if_pos h1]
      unfold MX1_whoAt MX1_whoAt_j27
      rw [n1.1, if_neg hn0, if_pos h1]
      exact ⟨_, rfl, rfl⟩
    · obtain ⟨k, _, hk, e⟩ := rng (lo := 0) (hi := a.1.length) (by omega) (by omega) hn0 (fun q => h1 (Int32.le_of_lt q))
      subst e
      have hk : k < a.1.length := by
        rcases Nat.lt_or_ge k a.1.length with q | q
        · exact q
        · exact absurd (nI_le q (by omega)) h1
      have r := r4 k _ (List.getElem?_eq_getElem hk)
      rw [Nat.zero_add] at r
      rw [if_neg h1, p_whoAt n1.1 n1.2.1 (by omega) hk]
      simp (disch := omega) only [Option.bind_some, k3, nI_add, MG_ok, nI_clamp, r]
      exact ⟨_, rfl, rfl⟩
  · rw [if_neg h0, if_neg h0]
    exact ⟨_, rfl, rfl⟩
def SeR (n : Nat) (S : SeenV) (sn : Int32) (s1 s2 s3 : Nat → Int32) (l : List (Nat × Nat × Bool)) : Prop := S.2.2.2 = nI l.length ∧ sn = nI l.length ∧ l.length ≤ 6 ∧ ∀ i e, l[i]? = some e → e.1 < n ∧ 1 ≤ e.2.1 ∧ e.2.1 ≤ 60 ∧ S.1 i = nI e.1 ∧ s1 i = nI e.1 ∧ S.2.1 i = nI e.2.1 ∧ s2 i = nI e.2.1 ∧ S.2.2.1 i = bI e.2.2 ∧ s3 i = bI e.2.2
def TxR (Tx : TextV) (tx : Nat → Int32) (tn : Int32) (l : List Nat) : Prop := Tx.2.2 = nI l.length ∧ tn = nI l.length ∧ l.length ≤ 200 ∧ ∀ i x, l[i]? = some x → 32 ≤ x ∧ x ≤ 126 ∧ Tx.1 i = nI x ∧ tx i = nI x
theorem s_count {N : Nat} (hN : 100000 ≤ N) {c : Nat} {A : APl} {P : PlanV} {Nw : LineV} {U K : ShelfV} {w F : Nat → Int32} {a : ASt} {us ks : List ASt} (h : Core c A P Nw U K w F a us ks) {S : SeenV} {sn : Int32} {s1 s2 s3 : Nat → Int32} {sl : List (Nat × Nat × Bool)} (hS : SeR A.2.2.2.1 S sn s1 s2 s3 sl) {Tx : TextV} {tx : Nat → Int32} {tn : Int32} {tl : List Nat} (hT : TxR Tx tx tn tl) (y : Int32) : ∃ u, MX7_count N Tx P Nw S U K y = some u ∧ MX8_count N w (nI us.length) (nI ks.length) (nI A.2.2.2.1) sn tn y = some u := by
  obtain ⟨c1, c2, c3, c4, ⟨n1, n2, n3, n4⟩, c6, c7⟩ := id h
  have h9 := c1.1
  have e3 : MX1_howMany N Nw (2 : Int32) = some (nI (cnt a.2.1 2 9)) := p_howMany (v := 2) (by omega) n1 n2 (by omega)
  have e4 : MX1_howMany N Nw (3 : Int32) = some (nI (cnt a.2.1 3 9)) := p_howMany (v := 3) (by omega) n1 n2 (by omega)
  have f3 : MX8_manyWhere N w (nI A.2.2.2.1) (2 : Int32) = some (nI (cnt a.2.1 2 A.2.2.2.1)) := p_manyWhere (v := 2) (by omega) n4 h9 n2.2.2.2.1 (by omega)
  have f4 : MX8_manyWhere N w (nI A.2.2.2.1) (3 : Int32) = some (nI (cnt a.2.1 3 A.2.2.2.1)) := p_manyWhere (v := 3) (by omega) n4 h9 n2.2.2.2.1 (by omega)
  rw [cnt_up (by omega) n2.2.2.1 9 h9] at e3 e4
  have r0 : w 0 = nI a.2.2.2.2.2.1 := n4.1
  have r1 : w 1 = nI a.2.2.2.2.2.2 := n4.2.1
  have r2 : w 2 = nI a.1.length := n4.2.2.1
  unfold MX7_count MX8_count
  rw [e3, e4, f3, f4, c3.2.1, n1.2.2.2.2.2.1, n1.1, n1.2.2.2.2.2.2.1, hS.1, hS.2.1, c6.1.held, c7.1.held, hT.1, hT.2.1]
  have q0 : MG (0 : Int32) 792 (some (w (0 : Int32).toNatClampNeg)) = some (nI a.2.2.2.2.2.1) := by
    simp (disch := omega) only [k0, MG_ok, nI_clamp, r0]
  have q1 : MG (1 : Int32) 792 (some (w (1 : Int32).toNatClampNeg)) = some (nI a.2.2.2.2.2.2) := by
    simp (disch := omega) only [k1, MG_ok, nI_clamp, r1]
  have q2 : MG (2 : Int32) 792 (some (w (2 : Int32).toNatClampNeg)) = some (nI a.1.length) := by
    simp (disch := omega) only [k2, MG_ok, nI_clamp, r2]
  rw [q0, q1, q2]
  simp only [Option.bind_some]
  have key : ∀ (E : Option Int32), E ≠ none → ∃ u, E = some u ∧ E = some u := by
    intro E hE
    cases E with
    | none => exact absurd rfl hE
    | some u => exact ⟨u, rfl, rfl⟩
  refine key _ ?_
  repeat' split
  all_goals simp
theorem nar_b (b : Bool) : vp_nar .boolean (bI b) = bI b := by cases b <;> rfl
theorem s_see {N : Nat} {c : Nat} {A : APl} {P : PlanV} {Nw : LineV} {U K : ShelfV} {w F : Nat → Int32} {a : ASt} {us ks : List ASt} (h : Core c A P Nw U K w F a us ks) {S : SeenV} {sn : Int32} {s1 s2 s3 : Nat → Int32} {sl : List (Nat × Nat × Bool)} (hS : SeR A.2.2.2.1 S sn s1 s2 s3 sl) (x y : Int32) (b : Bool) : ∃ u v, MX7_see N P S x y (bI b) = some u ∧ MX8_see N (nI A.2.2.2.1) sn s1 s2 s3 x y (bI b) = some v ∧ u.1 = v.1 ∧ ∃ sl', SeR A.2.2.2.1 (u.2.1, u.2.2.1, u.2.2.2.1, u.2.2.2.2) v.2.1 v.2.2.1 v.2.2.2.1 v.2.2.2.2 sl' := by
  obtain ⟨c1, c2, c3, c4, c5, c6, c7⟩ := id h
  have h9 := c1.1
  have hi : MX8_in N y.toInt64 (1 : Int64) (60 : Int64) = some (if y < 1 ∨ 60 < y then 0 else 1) := p_in y 1 60
  unfold MX7_see MX8_see MX4_add
  rcases p_has (N := N) c3 c1 x with ⟨p, hp, e, hh⟩ | ⟨-, hh⟩
  · subst e
    rw [p_isPerson c3 c1, hh, hi]
    simp only [Option.bind_some, b1]
    by_cases h1 : y < 1
    · rw [if_pos h1, if_pos (show y < 1 ∨ 60 < y from Or.inl h1), b0]
      exact ⟨_, _, rfl, rfl, rfl, sl, hS⟩
    · by_cases h2 : 60 < y
      · rw [if_neg h1, if_neg (i32_nle h2), if_pos (show y < 1 ∨ 60 < y from Or.inr h2), b0]
        exact ⟨_, _, rfl, rfl, rfl, sl, hS⟩
      · obtain ⟨k, k1', k2', e⟩ := rng (lo := 1) (hi := 60) (by omega) (by omega) h1 h2
        rw [if_neg h1, if_pos (i32_le h2), if_neg (show ¬ (y < 1 ∨ 60 < y) from fun q => q.elim h1 h2), b1]
        subst e
        obtain ⟨g1, g2, g3, g4⟩ := id hS
        rw [g2, g1, if_neg (nI_pos (n := sl.length) (by omega))]
        by_cases g : sl.length = 6
        · rw [if_neg (show ¬ nI sl.length < (6 : Int32) from nI_nlt (b := 6) (by omega) (by omega)), if_pos (show nI sl.length = (6 : Int32) by rw [g]; rfl)]
          simp only [Option.bind_some, b0]
          refine ⟨_, _, rfl, rfl, rfl, sl, ?_⟩
          exact ⟨rfl, rfl, g3, g4⟩
        · rw [if_pos (show nI sl.length < (6 : Int32) from nI_lt (b := 6) (by omega) (by omega)), if_neg (show ¬ nI sl.length = (6 : Int32) from nI_ne (b := 6) (by omega) (by omega) g)]
          simp (disch := omega) only [MG_ok, nI_clamp, Option.bind_some, b1, nar_b]
          refine ⟨_, _, rfl, rfl, rfl, sl ++ [(p, k, b)], ?_, ?_, ?_, ?_⟩
          · show nI sl.length + 1 = nI (sl ++ [(p, k, b)]).length
            rw [nI_1]; simp
          · show nI sl.length + 1 = nI (sl ++ [(p, k, b)]).length
            rw [nI_1]; simp
          · simp; omega
          · intro i e he
            rw [List.getElem?_append] at he
            show e.1 < A.2.2.2.1 ∧ 1 ≤ e.2.1 ∧ e.2.1 ≤ 60 ∧ upd S.1 sl.length (nI p) i = nI e.1 ∧ upd s1 sl.length (nI p) i = nI e.1 ∧ upd S.2.1 sl.length (nI k) i = nI e.2.1 ∧ upd s2 sl.length (nI k) i = nI e.2.1 ∧ upd S.2.2.1 sl.length (bI b) i = bI e.2.2 ∧ upd s3 sl.length (bI b) i = bI e.2.2
            by_cases hk : i < sl.length
            · rw [if_pos hk] at he
              have := g4 i e he
              rw [pk_un (by omega), pk_un (by omega), pk_un (by omega), pk_un (by omega), pk_un (by omega), pk_un (by omega)]
              exact this
            · rw [if_neg hk] at he
              have hk2 : i = sl.length := by
                have := (List.getElem?_eq_some_iff.mp he).1
                simp at this
                omega
              subst hk2
              rw [Nat.sub_self] at he
              cases he
              rw [pk_us, pk_us, pk_us, pk_us, pk_us, pk_us]
              exact ⟨hp, k1', k2', rfl, rfl, rfl, rfl, rfl, rfl⟩
  · rw [p_isPerson c3 c1, hh]
    simp only [Option.bind_some, b0]
    exact ⟨_, _, rfl, rfl, rfl, sl, hS⟩
theorem SeR.nil {n n' : Nat} {S : SeenV} {sn : Int32} {s1 s2 s3 : Nat → Int32} {sl : List (Nat × Nat × Bool)} (hS : SeR n S sn s1 s2 s3 sl) : SeR n' (S.1, S.2.1, S.2.2.1, (0 : Int32)) (0 : Int32) s1 s2 s3 [] := ⟨rfl, rfl, by simp, fun i e he => by simp at he⟩
theorem s_write {N : Nat} {Tx : TextV} {tx : Nat → Int32} {tn : Int32} {tl : List Nat} (hT : TxR Tx tx tn tl) (x : Int32) : ∃ u v, MX7_write N Tx x = some u ∧ MX8_write N tx tn x = some v ∧ u.1 = v.1 ∧ ∃ tl', TxR (u.2.1, Tx.2.1, u.2.2) v.2.1 v.2.2 tl' := by
  have hi : MX8_in N x.toInt64 (32 : Int64) (126 : Int64) = some (if x < 32 ∨ 126 < x then 0 else 1) := p_in x 32 126
  unfold MX7_write MX8_write MX6_put
  rw [hi]
  simp only [Option.bind_some]
  by_cases h1 : x < 32
  · rw [if_pos h1, if_pos (show x < 32 ∨ 126 < x from Or.inl h1), b0]
    exact ⟨_, _, rfl, rfl, rfl, tl, hT⟩
  · by_cases h2 : 126 < x
    · rw [if_neg h1, if_neg (i32_nle h2), if_pos (show x < 32 ∨ 126 < x from Or.inr h2), b0]
      exact ⟨_, _, rfl, rfl, rfl, tl, hT⟩
    · obtain ⟨k, k1', k2', e⟩ := rng (lo := 32) (hi := 126) (by omega) (by omega) h1 h2
      rw [if_neg h1, if_pos (i32_le h2), if_neg (show ¬ (x < 32 ∨ 126 < x) from fun q => q.elim h1 h2), b1]
      subst e
      obtain ⟨g1, g2, g3, g4⟩ := id hT
      rw [g2, g1, if_neg (nI_pos (n := tl.length) (by omega))]
      by_cases g : tl.length = 200
      · rw [if_neg (show ¬ nI tl.length < (200 : Int32) from nI_nlt (b := 200) (by omega) (by omega)), if_pos (show nI tl.length = (200 : Int32) by rw [g]; rfl)]
        simp only [Option.bind_some, b0]
        refine ⟨_, _, rfl, rfl, rfl, tl, ?_⟩
        exact ⟨rfl, rfl, g3, g4⟩
      · rw [if_pos (show nI tl.length < (200 : Int32) from nI_lt (b := 200) (by omega) (by omega)), if_neg (show ¬ nI tl.length = (200 : Int32) from nI_ne (b := 200) (by omega) (by omega) g)]
        simp (disch := omega) only [MG_ok, nI_clamp, Option.bind_some, b1]
        refine ⟨_, _, rfl, rfl, rfl, tl ++ [k], ?_, ?_, ?_, ?_⟩
        · show nI tl.length + 1 = nI (tl ++ [k]).length
          rw [nI_1]; simp
        · show nI tl.length + 1 = nI (tl ++ [k]).length
          rw [nI_1]; simp
        · simp; omega
        · intro i e he
          rw [List.getElem?_append] at he
          show 32 ≤ e ∧ e ≤ 126 ∧ upd Tx.1 tl.length (nI k) i = nI e ∧ upd tx tl.length (nI k) i = nI e
          by_cases hk : i < tl.length
          · rw [if_pos hk] at he
            have := g4 i e he
            rw [pk_un (by omega), pk_un (by omega)]
            exact this
          · rw [if_neg hk] at he
            have hk2 : i = tl.length := by
              have := (List.getElem?_eq_some_iff.mp he).1
              simp at this
              omega
            subst hk2
            rw [Nat.sub_self] at he
            cases he
            rw [pk_us, pk_us]
            exact ⟨k1', k2', rfl, rfl⟩
theorem TxR.nil {Tx : TextV} {tx : Nat → Int32} {tn : Int32} {tl : List Nat} (hT : TxR Tx tx tn tl) : TxR (Tx.1, Tx.2.1, (0 : Int32)) tx (0 : Int32) [] := ⟨rfl, rfl, by simp, fun i e he => by simp at he⟩
