def aGive (A : APl) (a : ASt) (head : Bool) : ASt := if a.1 = [] then a else (a.1.erase (who A a.1 head), fset a.2.1 (who A a.1 head) 3, a.2.2.1, fset a.2.2.2.1 (who A a.1 head) a.2.2.2.2.2.1, fset a.2.2.2.2.1 (who A a.1 head) (A.2.2.2.2.2.1 - a.2.2.2.2.2.2), a.2.2.2.2.2.1, a.2.2.2.2.2.2 + 1)
theorem who_mem {A : APl} {q : List Nat} {head : Bool} (h : q ≠ []) : who A q head ∈ q := by
  have hv : ∀ x, x ∈ vis q head → x ∈ q := by
    intro x hx
    unfold vis at hx
    split at hx
    · exact List.mem_reverse.mp hx
    · exact hx
  unfold who
  cases hf : (vis q head).find? (fun x => A.1 x != 3) with
  | some x => exact hv x (List.mem_of_find?_eq_some hf)
  | none =>
    cases hc : vis q head with
    | nil =>
      exfalso
      have := vis_len (q := q) (head := head)
      rw [hc] at this
      exact h (List.length_eq_zero_iff.mp this.symm)
    | cons y m => exact hv y (by rw [hc]; exact List.mem_cons_self)
theorem WF.give {A : APl} {n c : Nat} {a : ASt} {head : Bool} (hH : A.2.2.2.2.2.1 ≤ 40) (h : WF n c a) (hlo : a.2.2.2.2.2.2 + 1 ≤ 2 * c) : WF n c (aGive A a head) := by
  unfold aGive
  by_cases hq : a.1 = []
  · rw [if_pos hq]; exact h
  · rw [if_neg hq]
    have hm := who_mem (A := A) (head := head) hq
    have hpn := h.q9 hm
    obtain ⟨g1, g2, g3, g4, g5⟩ := h.go (p := who A a.1 head) (w := 3) hpn (by omega) (by omega)
    obtain ⟨h1, h2, h3, h4, h5, h6, h7, h8, h9⟩ := h
    refine ⟨g1, g2, g3, g4, h5, ?_, ?_, h8, hlo⟩
    · intro x
      show fset a.2.2.2.1 _ _ x ≤ c
      unfold fset
      split
      · exact h8
      · exact h6 x
    · intro x
      show fset a.2.2.2.2.1 _ _ x ≤ 40
      unfold fset
      split
      · omega
      · exact h7 x
theorem p_warm {h l : Nat} (hh : h ≤ 40) (hl : l < 2 ^ 29) : (if (0 : Int32) < nI h - nI l then nI h - nI l else (0 : Int32)) = nI (h - l) := by
  rcases Nat.lt_or_ge h l with g | g
  · have := pk_sneg (a := h) (b := l) (by omega) g
    rw [if_neg (fun q => Int32.lt_irrefl (Int32.lt_trans this q)), show h - l = 0 by omega]
    rfl
  · rw [pk_sub g]
    by_cases e : 0 < h - l
    · rw [if_pos (show (0 : Int32) < nI (h - l) from nI_lt e (by omega))]
    · rw [show h - l = 0 by omega, if_neg (by decide)]
      rfl
theorem p_whoAt {N : Nat} {L : LineV} {q : List Nat} {i : Nat} (hs : L.2.2.2.2.2.1 = nI q.length) (ho : repq L.1 q) (hl : q.length ≤ 9) (hi : i < q.length) : MX1_whoAt N L (nI i) = some (nI q[i]) := by
  unfold MX1_whoAt
  rw [hs]
  simp (disch := omega) only [k0, k9, nI_leI, nI_ltI, nI_clamp, MG_ok, if_neg, ho.at hi]
theorem p_give {N : Nat} (hN : 100 ≤ N) {L : LineV} {P : PlanV} {A : APl} {a : ASt} {c : Nat} {head : Bool} (hP : repP P A) (hA : WFP A) (hL : repL A.2.2.2.2.2.1 L a) (hw : WF A.2.2.2.1 c a) (hc : c ≤ 1000000) :
    ∃ u, MX1_giveLoaf N L P (bI head) = some u ∧ repL A.2.2.2.2.2.1 (u.1, u.2.1, L.2.2.1, u.2.2.1, u.2.2.2.1, u.2.2.2.2.1, L.2.2.2.2.2.2.1, u.2.2.2.2.2.1, u.2.2.2.2.2.2) (aGive A a head) := by
  have h9 := hA.1
  have hlen := hw.len
  have hH : A.2.2.2.2.2.1 ≤ 40 := hA.2.2.2.2.2.1
  have hlo : a.2.2.2.2.2.2 ≤ 2 * c := hw.2.2.2.2.2.2.2.2
  obtain ⟨r1, r2, r3, r4, r5, r6, r7, r8⟩ := id hL
  unfold MX1_giveLoaf aGive
  by_cases hq : a.1 = []
  · rw [if_pos hq]
    have hz : L.2.2.2.2.2.1 = nI 0 := by rw [r1, hq]; rfl
    have hsv : ∃ v, MX1_placeServed N L P (bI head) = some v ∧ MX1_whoAt N L v = some (-4 : Int32) := by
      unfold MX1_placeServed
      obtain ⟨M, rfl⟩ : ∃ M, N = M + 1 := ⟨N - 1, by omega⟩
      rw [MX1_placeServed_l2, hz, if_pos (by decide)]
      unfold MX1_placeServed_j61
      rw [hz]
      cases head
      · refine ⟨0, if_pos rfl, ?_⟩
        unfold MX1_whoAt
        rw [hz, if_neg (by decide), if_pos (by decide)]
        rfl
      · refine ⟨nI 0 - 1, if_neg (by decide), ?_⟩
        unfold MX1_whoAt
        rw [hz, if_pos (by decide)]
        rfl
    obtain ⟨v, hv, hv2⟩ := hsv
    rw [hv]
    simp only [Option.bind_some, hv2]
    rw [if_pos (by decide)]
    exact ⟨_, rfl, hL⟩
  · rw [if_neg hq]
    have h0 : 0 < a.1.length := List.length_pos_iff.mpr hq
    obtain ⟨pl, hpl, hsv, hat⟩ := p_served hN (head := head) hP hA r1 r2 (by omega) (fun x hx => hw.q9 hx) h0
    have hm := who_mem (A := A) (head := head) hq
    have hpn := hw.q9 hm
    have hgw : a.1[pl] = who A a.1 head := by
      rw [List.getElem?_eq_getElem hpl] at hat
      exact Option.some.inj hat
    generalize hw0 : who A a.1 head = w at hm hpn hgw hat ⊢
    have her : a.1.erase w = a.1.eraseIdx pl := by
      rw [erase_idx hm, ← hgw]
      congr 1
      exact List.Nodup.idxOf_getElem hw.1 pl hpl
    obtain ⟨v, hv, v1, v2⟩ := p_takeOut hN r1 r2 (by omega) hpl
    rw [hsv]
    simp only [Option.bind_some, p_whoAt r1 r2 (by omega) hpl, hgw]
    simp (disch := omega) only [k0, k9, nI_leI, nI_ltI, if_neg, if_pos, hv, Option.bind_some, nI_clamp, MG_ok]
    refine ⟨_, rfl, ?_, ?_, ?_, ?_, ?_, r6, ?_, ?_⟩
    · show v.2 = nI (a.1.erase w).length
      rw [her]; exact v2
    · show repq v.1 (a.1.erase w)
      rw [her]; exact v1
    · intro x hx
      show upd L.2.1 w (3 : Int32) x = nI (fset a.2.1 w 3 x)
      by_cases e : x = w
      · subst e; rw [pk_us, fset_s]; rfl
      · rw [pk_un e, fset_n e]; exact r3 x hx
    · intro x hx hx1
      have hx1 : fset a.2.1 w 3 x = 1 := hx1
      have e : x ≠ w := by
        intro e; subst e; rw [fset_s] at hx1; omega
      rw [fset_n e] at hx1
      exact r4 x hx hx1
    · intro x hx hx1
      have hx1 : fset a.2.1 w 3 x = 3 := hx1
      show upd L.2.2.2.1 w L.2.2.2.2.2.2.1 x = nI (fset a.2.2.2.1 w a.2.2.2.2.2.1 x) ∧ upd L.2.2.2.2.1 w _ x = nI (fset a.2.2.2.2.1 w (A.2.2.2.2.2.1 - a.2.2.2.2.2.2) x)
      by_cases e : x = w
      · subst e
        rw [pk_us, pk_us, fset_s, fset_s]
        refine ⟨r6, ?_⟩
        rw [hP.2.2.2.1, r7]
        exact p_warm hH (by omega)
      · rw [fset_n e] at hx1
        rw [pk_un e, pk_un e, fset_n e, fset_n e]
        exact r5 x hx hx1
    · show L.2.2.2.2.2.2.2.1 + (1 : Int32) = nI (a.2.2.2.2.2.2 + 1)
      rw [r7]; exact nI_1 _
    · show L.2.2.2.2.2.2.2.2 + (upd L.2.2.2.2.1 w _ w) = nI (heat A.2.2.2.2.2.1 (a.2.2.2.2.2.2 + 1))
      rw [pk_us, r8, hP.2.2.2.1, r7]
      have := p_warm (h := A.2.2.2.2.2.1) (l := a.2.2.2.2.2.2) hH (by omega)
      have e2 : heat A.2.2.2.2.2.1 (a.2.2.2.2.2.2 + 1) = heat A.2.2.2.2.2.1 a.2.2.2.2.2.2 + (A.2.2.2.2.2.1 - a.2.2.2.2.2.2) := rfl
      rw [e2, ← nI_add]
      exact congrArg (fun z => nI (heat A.2.2.2.2.2.1 a.2.2.2.2.2.2) + z) this
