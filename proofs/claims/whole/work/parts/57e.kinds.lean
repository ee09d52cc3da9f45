theorem WFP.kind {A : APl} {p i : Nat} (h : WFP A) (hi : i ≤ 3) : WFP (fset A.1 p i, A.2) := by
  obtain ⟨h1, h2, h3, h4⟩ := h
  refine ⟨h1, h2, fun q hq => ?_, h4⟩
  obtain ⟨a1, a2, a3⟩ := h3 q hq
  refine ⟨?_, a2, a3⟩
  show fset A.1 p i q ≤ 3
  unfold fset
  split
  · exact hi
  · exact a1
theorem repK.kind {w : Nat → Int32} {A : APl} {b : MSt} {p i : Nat} (h : repK 66 w A b) (hl : b.1.length ≤ 9) (hn : A.2.2.2.1 ≤ 9) (hp : p < 9) : repK 66 (upd w (123 + p) (nI i)) (fset A.1 p i, A.2) b := by
  obtain ⟨r1, r2, r3, r4, r5, r6, r7, r8, r9⟩ := h
  refine ⟨?_, ?_, ?_, ?_, ?_, ?_, ?_, ?_, ?_⟩
  · rw [pk_un (by omega)]; exact r1
  · rw [pk_un (by omega)]; exact r2
  · rw [pk_un (by omega)]; exact r3
  · intro j x hx
    have := (List.getElem?_eq_some_iff.mp hx).1
    rw [pk_un (by omega)]; exact r4 j x hx
  · intro q hq; rw [pk_un (by omega)]; exact r5 q hq
  · intro q hq; rw [pk_un (by omega)]; exact r6 q hq
  · intro q hq
    have hq : q < A.2.2.2.1 := hq
    rw [pk_un (by omega)]; exact r7 q hq
  · intro q hq
    have hq : q < A.2.2.2.1 := hq
    rw [pk_un (by omega)]; exact r8 q hq
  · intro q hq
    have hq : q < A.2.2.2.1 := hq
    have := r9 q hq
    refine ⟨?_, ?_⟩
    · rw [pk_un (by omega)]; exact this.1
    · show _ = nI (fset A.1 p i q)
      by_cases e : q = p
      · subst e
        rw [show 66 + 57 + q = 123 + q by omega, pk_us, fset_s]
      · rw [pk_un (by omega), fset_n e]
        exact this.2
theorem p_pcopy {N : Nat} {P P2 : PlanV} {A : APl} (h9 : A.2.2.2.1 ≤ 9) (h : repP P2 A) : ∃ u, MX3_copyFrom N P P2 = some u ∧ repP u A := by
  obtain ⟨h1, h2⟩ := h
  have e : ∀ (f g : Nat → Int32) (i : Nat), i < 9 → va_cpy f g 0 0 9 i = f i := by
    intro f g i hi
    unfold va_cpy
    rw [if_pos ⟨by omega, by omega⟩]
    congr 1
    omega
  refine ⟨_, rfl, fun p hp => ?_, h2⟩
  have := h1 p hp
  exact ⟨(e _ _ p (by omega)).trans this.1, (e _ _ p (by omega)).trans this.2.1, (e _ _ p (by omega)).trans this.2.2⟩
theorem p_kinds_l {N : Nat} (hN : 100000 ≤ N) {c : Nat} (hc : c ≤ 500000) {A : APl} {P : PlanV} {Nw : LineV} {U K : ShelfV} {F : Nat → Int32} {a : ASt} {us ks : List ASt} {S : SeenV} {sn : Int32} {s1 s2 s3 : Nat → Int32} {sl : SeL} (hS : SeR A.2.2.2.1 S sn s1 s2 s3 sl) {p : Nat} (hp : p < A.2.2.2.1) {G0 : PlanV} (hG0 : repP G0 A) : ∀ (m k i : Nat) (bits : Int32) (G : Nat → Int32) (L : LineV) (w : Nat → Int32), i + k = 4 → k < m → (∀ q, q < A.2.2.2.1 → q ≠ p → G q = nI (A.1 q)) → Core c A P Nw U K w F a us ks →
    ∃ u v, MX0_whichKinds_l16 N Nw S (nI p) G0 m bits (nI i) G L.1 L.2.1 L.2.2.1 L.2.2.2.1 L.2.2.2.2.1 L.2.2.2.2.2.1 L.2.2.2.2.2.2.1 L.2.2.2.2.2.2.2.1 L.2.2.2.2.2.2.2.2 = some u ∧ MX8_kinds_l14 N (nI A.2.2.2.1) F (nI A.2.2.2.2.1) (nI A.2.2.2.2.2.1) (nI A.2.2.2.2.2.2) sn s1 s2 s3 (nI p) m bits (nI i) w = some v ∧ u.1 = v.1 ∧ frm 66 w v.2 := by
  intro m
  induction m with
  | zero => intro k i bits G L w h1 h2; omega
  | succ m ih =>
    intro k i bits G L w h1 h2 hG h
    obtain ⟨c1, c2, c3, c4, ⟨n1, n2, n3, n4⟩, c6, c7⟩ := id h
    have h9 := c1.1
    have hl := n2.len
    rw [MX0_whichKinds_l16, MX8_kinds_l14]
    cases k with
    | zero =>
      have e : i = 4 := by omega
      subst e
      rw [if_pos (by decide), if_pos (by decide)]
      exact ⟨_, _, rfl, rfl, rfl, frm.rfl'⟩
    | succ k =>
      have e1 : MX3_setKind N (G, G0.2.1, G0.2.2.1, G0.2.2.2.1, G0.2.2.2.2.1, G0.2.2.2.2.2.1, G0.2.2.2.2.2.2) (nI p) (nI i) = some (upd G p (nI i)) := by
        unfold MX3_setKind
        simp (disch := omega) only [k0, k9, nI_leI, nI_ltI, nI_clamp, MG_ok, if_neg]
      have hA' : WFP (fset A.1 p i, A.2) := c1.kind (by omega)
      have hP' : repP (upd G p (nI i), G0.2.1, G0.2.2.1, G0.2.2.2.1, G0.2.2.2.2.1, G0.2.2.2.2.2.1, G0.2.2.2.2.2.2) (fset A.1 p i, A.2) := by
        refine ⟨fun q hq => ?_, hG0.2⟩
        have hq : q < A.2.2.2.1 := hq
        have := hG0.1 q hq
        refine ⟨?_, this.2⟩
        show upd G p (nI i) q = nI (fset A.1 p i q)
        by_cases e : q = p
        · subst e; rw [pk_us, fset_s]
        · rw [pk_un e, fset_n e]; exact hG q hq e
      obtain ⟨L1, a1, q1⟩ := p_start (N := N) (Tr := L) n1 n2 h9
      have a1' : MX0_startTrial N Nw (L.1, L.2.1, L.2.2.1, L.2.2.2.1, L.2.2.2.2.1, L.2.2.2.2.2.1, L.2.2.2.2.2.2.1, L.2.2.2.2.2.2.2.1, L.2.2.2.2.2.2.2.2) = some L1 := a1
      obtain ⟨u3, a3, q3⟩ := p_holds (N := N) (A := (fset A.1 p i, A.2)) (by omega) hS h9 hP' hA' q1 n2 (by omega)
      rw [seen_eq (A := (fset A.1 p i, A.2)) hS hA' n2 n3] at q3
      obtain ⟨w1, d1, p1, f1⟩ := p_tries (N := N) (by omega) h9 n2 n4
      have p1' := p1.kind (p := p) (i := i) (by show a.1.length ≤ 9; omega) h9 (by omega)
      obtain ⟨w3, d3, f3⟩ := p_isSeen (N := N) (A := (fset A.1 p i, A.2)) (F := F) (by omega) hS h9 hA' c4 p1' n2 (by omega)
      have d3' : MX8_isSeen N (upd w1 (123 + p) (nI i)) (nI A.2.2.2.1) F (nI A.2.2.2.2.1) (nI A.2.2.2.2.2.1) (nI A.2.2.2.2.2.2) sn s1 s2 s3 = some (bI (aSeen (fset A.1 p i, A.2) sl 60 1 a), w3) := d3
      have f2 : frm 66 w1 (upd w1 (123 + p) (nI i)) := fun x hx => pk_un (by omega)
      have ff := (f1.tr f2).tr f3
      have hfin := h.tr ff
      have k123 : (123 : Int32) = nI 123 := rfl
      have hG' : ∀ q, q < A.2.2.2.1 → q ≠ p → upd G p (nI i) q = nI (A.1 q) := fun q h1 h2 => by rw [pk_un h2]; exact hG q h1 h2
      rw [if_neg (show ¬ (4 : Int32) ≤ nI i from nI_ge (b := 4) (by omega) (by omega)), if_neg (show ¬ (3 : Int32) < nI i from nI_nlt (a := 3) (by omega) (by omega)), e1, d1]
      simp only [Option.bind_some]
      rw [a1']
      simp only [Option.bind_some]
      rw [a3]
      simp (disch := omega) only [Option.bind_some, k123, nI_add, nI_clamp, MG_ok]
      rw [d3', q3]
      simp only [Option.bind_some]
      unfold MX0_whichKinds_j58 MX8_kinds_j48 MLet
      cases aSeen (fset A.1 p i, A.2) sl 60 1 a with
      | false =>
        rw [bf, bf, i32_or0, nI_1]
        obtain ⟨u, v, z1, z2, z3, z4⟩ := ih k (i + 1) bits (upd G p (nI i)) (u3.2.1, u3.2.2.1, u3.2.2.2.1, u3.2.2.2.2.1, u3.2.2.2.2.2.1, u3.2.2.2.2.2.2.1, u3.2.2.2.2.2.2.2.1, u3.2.2.2.2.2.2.2.2.1, u3.2.2.2.2.2.2.2.2.2) w3 (by omega) (by omega) hG' hfin
        exact ⟨u, v, z1, z2, z3, ff.tr z4⟩
      | true =>
        rw [bt, bt, nI_1]
        obtain ⟨u, v, z1, z2, z3, z4⟩ := ih k (i + 1) (bits ||| ((1 : Int32) <<< (nI i &&& 31))) (upd G p (nI i)) (u3.2.1, u3.2.2.1, u3.2.2.2.1, u3.2.2.2.2.1, u3.2.2.2.2.2.1, u3.2.2.2.2.2.2.1, u3.2.2.2.2.2.2.2.1, u3.2.2.2.2.2.2.2.2.1, u3.2.2.2.2.2.2.2.2.2) w3 (by omega) (by omega) hG' hfin
        exact ⟨u, v, z1, z2, z3, ff.tr z4⟩
theorem s_kinds {N : Nat} (hN : 100000 ≤ N) {c : Nat} (hc : c ≤ 500000) {A : APl} {P : PlanV} {Nw : LineV} {U K : ShelfV} {w F : Nat → Int32} {a : ASt} {us ks : List ASt} (h : Core c A P Nw U K w F a us ks) {S : SeenV} {sn : Int32} {s1 s2 s3 : Nat → Int32} {sl : SeL} (hS : SeR A.2.2.2.1 S sn s1 s2 s3 sl) (Gs : PlanV) (Tr : LineV) (x : Int32) : ∃ u v, MX7_kinds N P Nw Gs Tr S x = some u ∧ MX8_kinds N w (nI A.2.2.2.1) F (nI A.2.2.2.2.1) (nI A.2.2.2.2.2.1) (nI A.2.2.2.2.2.2) sn s1 s2 s3 x = some v ∧ u.1 = v.1 ∧ frm 66 w v.2 := by
  obtain ⟨c1, c2, c3, c4, ⟨n1, n2, n3, n4⟩, c6, c7⟩ := id h
  have h9 := c1.1
  unfold MX7_kinds MX8_kinds MX0_whichKinds
  rcases p_has (N := N) c3 c1 x with ⟨p, hp, e, hh⟩ | ⟨-, hh⟩
  · subst e
    rw [p_isPerson c3 c1, hh]
    simp only [Option.bind_some, b1]
    obtain ⟨G0, e0, q0⟩ := p_pcopy (N := N) (P := Gs) h9 c3
    rw [e0]
    simp only [Option.bind_some]
    obtain ⟨u, v, z1, z2, z3, z4⟩ := p_kinds_l hN hc hS hp q0 N 4 0 (0 : Int32) G0.1 Tr w (by omega) (by omega) (fun q hq _ => (q0.1 q hq).1) h
    have z1' : MX0_whichKinds_l16 N Nw S (nI p) G0 N (0 : Int32) (0 : Int32) G0.1 Tr.1 Tr.2.1 Tr.2.2.1 Tr.2.2.2.1 Tr.2.2.2.2.1 Tr.2.2.2.2.2.1 Tr.2.2.2.2.2.2.1 Tr.2.2.2.2.2.2.2.1 Tr.2.2.2.2.2.2.2.2 = some u := z1
    have z2' : MX8_kinds_l14 N (nI A.2.2.2.1) F (nI A.2.2.2.2.1) (nI A.2.2.2.2.2.1) (nI A.2.2.2.2.2.2) sn s1 s2 s3 (nI p) N (0 : Int32) (0 : Int32) w = some v := z2
    rw [z1', z2']
    exact ⟨_, _, rfl, rfl, z3, z4⟩
  · rw [p_isPerson c3 c1, hh]
    simp only [Option.bind_some, b0]
    exact ⟨_, _, rfl, rfl, rfl, frm.rfl'⟩
