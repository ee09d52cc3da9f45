theorem nd_take {q : List Nat} (hn : q.Nodup) {i : Nat} (hi : i < q.length) : q[i] ∉ q.take i := by
  intro h
  obtain ⟨j, hj, e⟩ := List.mem_take_iff_getElem.mp h
  have h1 := List.Nodup.idxOf_getElem hn i hi
  have h2 := List.Nodup.idxOf_getElem hn j (by omega)
  rw [e] at h2
  omega
theorem p_mstd_l {r c n : Nat} (hr : r + 66 ≤ 792) {A : APl} {a : ASt} {w : Nat → Int32} (h9 : n ≤ 9) (hK : repK r w A (mOf a)) (hw : WF n c a) (hc : c ≤ 1000000) : ∀ (m i : Nat) (g : Nat → Int32), i ≤ a.1.length → a.1.length < m + i → (∀ j, j < 9 → g (r + 21 + j) = nI (if j ∈ a.1.take i then (mOf a).2.2.1 j + 1 else (mOf a).2.2.1 j)) → (∀ x, x < r + 21 ∨ r + 30 ≤ x → g x = w x) →
    ∃ g', MX8_passesBy_l179 (nI r) m (nI i) g = MX8_passesBy_j223 (nI r) g' ∧ (∀ j, j < 9 → g' (r + 21 + j) = nI (if j ∈ a.1 then (mOf a).2.2.1 j + 1 else (mOf a).2.2.1 j)) ∧ (∀ x, x < r + 21 ∨ r + 30 ≤ x → g' x = w x) := by
  have hlen := hw.len
  intro m
  induction m with
  | zero => intro i g h1 h2; omega
  | succ m ih =>
    intro i g h1 h2 h3 h4
    rw [MX8_passesBy_l179]
    have hs : g (r + 2) = nI a.1.length := by rw [h4 _ (by omega)]; exact hK.2.2.1
    by_cases hi : i = a.1.length
    · subst hi
      rw [List.take_length] at h3
      refine ⟨g, ?_, h3, h4⟩
      simp (disch := omega) only [k2, nI_add, nI_clamp, MG_ok, hs, nI_leI, Nat.le_refl, if_true]
    · have hi : i < a.1.length := by omega
      have hx : g (r + 3 + i) = nI a.1[i] := by rw [h4 _ (by omega)]; exact hK.2.2.2.1 i _ (List.getElem?_eq_getElem hi)
      have hx9 := hw.q9 (List.getElem_mem hi)
      have hnt := nd_take hw.1 hi
      have hst : g (r + 21 + a.1[i]) = nI ((mOf a).2.2.1 a.1[i]) := by rw [h3 _ (by omega), if_neg hnt]
      have htk : a.1.take (i + 1) = a.1.take i ++ [a.1[i]] := by rw [List.take_succ, List.getElem?_eq_getElem hi]; rfl
      simp (disch := omega) only [k1, k2, k3, k21, nI_add, nI_clamp, MG_ok, hs, nI_leI, if_neg, hx, hst]
      refine ih (i + 1) _ (by omega) (by omega) (fun j hj => ?_) (fun x hx => ?_)
      · rw [htk]
        by_cases e : j = a.1[i]
        · rw [e, pk_us, if_pos (List.mem_append_right _ List.mem_cons_self)]
        · rw [pk_un (by omega), h3 j hj]
          have : (j ∈ a.1.take i ++ [a.1[i]]) = (j ∈ a.1.take i) := propext ⟨fun h => (List.mem_append.mp h).elim id (fun h => absurd (List.mem_singleton.mp h) e), fun h => List.mem_append_left _ h⟩
          simp only [this]
      · rw [pk_un (by omega)]; exact h4 x hx
theorem p_mstd {N : Nat} (hN : 100 ≤ N) {r c n : Nat} (hr : r + 66 ≤ 792) {A : APl} {a : ASt} {w : Nat → Int32} (h9 : n ≤ 9) (hA9 : A.2.2.2.1 ≤ 9) (hK : repK r w A (mOf a)) (hw : WF n c a) (hc : c ≤ 1000000) : ∃ w', MX8_passesBy_j176 N (nI r) w = some w' ∧ repK r w' A (mOf (aStd a)) ∧ frm r w w' := by
  have hlen := hw.len
  obtain ⟨g, hg, g1, g2⟩ := p_mstd_l hr h9 hK hw hc N 0 w (by omega) (by omega) (fun j hj => by rw [List.take_zero, if_neg (by simp)]; exact hK.2.2.2.2.2.1 j hj) (fun _ _ => rfl)
  obtain ⟨r1, r2, r3, r4, r5, r6, r7, r8, r9⟩ := hK
  have r1 : w r = nI a.2.2.2.2.2.1 := r1
  have hg1 : g r = nI a.2.2.2.2.2.1 := by rw [g2 _ (by omega)]; exact r1
  unfold MX8_passesBy_j176
  rw [k0, hg]
  unfold MX8_passesBy_j223
  simp (disch := omega) only [k0, k1, nI_add, Nat.add_zero, nI_clamp, MG_ok, hg1]
  refine ⟨_, rfl, ⟨?_, ?_, ?_, ?_, ?_, ?_, ?_, ?_, ?_⟩, ?_⟩
  · exact pk_us
  · rw [pk_un (by omega), g2 _ (by omega)]; exact r2
  · rw [pk_un (by omega), g2 _ (by omega)]; exact r3
  · intro i x hx
    have hil : i < a.1.length := (List.getElem?_eq_some_iff.mp hx).1
    rw [pk_un (by omega), g2 _ (by omega)]; exact r4 i x hx
  · intro x hx
    rw [pk_un (by omega), g2 _ (by omega)]; exact r5 x hx
  · intro x hx
    rw [pk_un (by omega), g1 x hx]
    show nI (if x ∈ a.1 then (if a.2.1 x = 1 then a.2.2.1 x else 0) + 1 else (if a.2.1 x = 1 then a.2.2.1 x else 0)) = nI (if a.2.1 x = 1 then (if a.2.1 x = 1 then a.2.2.1 x + 1 else a.2.2.1 x) else 0)
    by_cases e : a.2.1 x = 1
    · rw [if_pos ((hw.2.1 x).mpr e), if_pos e, if_pos e, if_pos e]
    · rw [if_neg (fun h => e ((hw.2.1 x).mp h)), if_neg e, if_neg e]
  · intro x hx
    rw [pk_un (by omega), g2 _ (by omega)]; exact r7 x hx
  · intro x hx
    rw [pk_un (by omega), g2 _ (by omega)]; exact r8 x hx
  · intro x hx
    rw [pk_un (by omega), g2 _ (by omega), pk_un (by omega), g2 _ (by omega)]; exact r9 x hx
  · intro i hi
    rw [pk_un (by omega), g2 _ (by omega)]
theorem p_mbak {N : Nat} (hN : 100 ≤ N) {r c : Nat} (hr : r + 66 ≤ 792) {A : APl} {a : ASt} {w : Nat → Int32} {two rum : Bool} (hA : WFP A) (hK : repK r w A (mOf a)) (hw : WF A.2.2.2.1 c a) (hc : c ≤ 999999) : ∃ w', MX8_passesBy_j136 N (nI A.2.2.2.2.1) (nI A.2.2.2.2.2.1) (nI r) (bI two) (bI rum) w = some w' ∧ repK r w' A (mOf (aStd (aBak A two rum a))) ∧ frm r w w' := by
  have h9 := hA.1
  have h1 := hA.2.2.2.1
  have h2 := hA.2.2.2.2.1
  have hH : A.2.2.2.2.2.1 ≤ 40 := hA.2.2.2.2.2.1
  have hm := hw.2.2.2.2.2.2.2.1
  have hlo := hw.2.2.2.2.2.2.2.2
  have hlt : a.2.2.2.2.2.1 % A.2.2.2.2.1 < A.2.2.2.2.1 := Nat.mod_lt _ (by omega)
  have r1 : w r = nI a.2.2.2.2.2.1 := hK.1
  have wb := hw.bak (A := A) (two := two) (rum := rum) hH
  unfold MX8_passesBy_j136 MD
  have hr0 : nI r + (0 : Int32) = nI r := nI_add r 0
  simp (disch := omega) only [hr0, nI_clamp, MG_ok, r1, pk_rem]
  rw [if_neg (show ¬ nI A.2.2.2.2.1 = (0 : Int32) from nI_ne (b := 0) (by omega) (by omega) (by omega))]
  unfold aBak at *
  have hlen := hw.len
  by_cases g : a.2.2.2.2.2.1 % A.2.2.2.2.1 = 0
  · rw [if_pos (show nI (a.2.2.2.2.2.1 % A.2.2.2.2.1) = (0 : Int32) by rw [g]; rfl)]
    rw [if_pos g] at *
    obtain ⟨w1, e1, q1, f1⟩ := p_mgive (head := rum) hN hr hA hK (by show a.1.length ≤ 9; omega) (fun x hx => hw.q9 hx) (by show a.2.2.2.2.2.2 < 2 ^ 29; omega)
    have q1' : repK r w1 A (mOf (aGive A a rum)) := by rw [mOf_give]; exact q1
    rw [e1]
    simp only [Option.bind_some]
    have hg := (hw.mono (d := c + 1) (by omega)).give (A := A) (head := rum) hH (by omega)
    cases two with
    | false =>
      rw [if_pos (show bI false = 0 from rfl), if_neg (by decide)]
      obtain ⟨w2, e2, q2, f2⟩ := p_mstd hN hr h9 h9 q1' hg (by omega)
      exact ⟨w2, e2, q2, f1.tr f2⟩
    | true =>
      rw [if_neg (show ¬ bI true = 0 by decide), if_pos rfl]
      rw [if_pos rfl] at wb
      have hgl := hg.len
      have hgo := hg.2.2.2.2.2.2.2.2
      obtain ⟨w2, e2, q2, f2⟩ := p_mgive (head := !rum) hN hr hA q1' (by show (aGive A a rum).1.length ≤ 9; omega) (fun x hx => hg.q9 hx) (by show (aGive A a rum).2.2.2.2.2.2 < 2 ^ 29; omega)
      have q2' : repK r w2 A (mOf (aGive A (aGive A a rum) (!rum))) := by rw [mOf_give]; exact q2
      obtain ⟨w3, e3, q3, f3⟩ := p_mstd hN hr h9 h9 q2' wb (by omega)
      refine ⟨w3, ?_, q3, (f1.tr f2).tr f3⟩
      cases rum with
      | false =>
        rw [if_pos (show bI false = 0 from rfl)]
        unfold MX8_passesBy_j173
        have e : MX8_givesOne N w1 (nI A.2.2.2.2.2.1) (nI r) (1 : Int32) = some w2 := e2
        rw [e]
        exact e3
      | true =>
        rw [if_neg (show ¬ bI true = 0 by decide)]
        unfold MX8_passesBy_j173
        have e : MX8_givesOne N w1 (nI A.2.2.2.2.2.1) (nI r) (0 : Int32) = some w2 := e2
        rw [e]
        exact e3
  · rw [if_neg (show ¬ nI (a.2.2.2.2.2.1 % A.2.2.2.2.1) = (0 : Int32) from nI_ne (b := 0) (by omega) (by omega) g)]
    rw [if_neg g] at *
    exact p_mstd hN hr h9 h9 hK hw (by omega)
theorem p_mpassBy {N : Nat} (hN : 100 ≤ N) {r c : Nat} (hr : r + 66 ≤ 792) {F : Nat → Int32} {A : APl} {a : ASt} {w : Nat → Int32} {two rum : Bool} (hA : WFP A) (hF : rfF F A) (hK : repK r w A (mOf a)) (hw : WF A.2.2.2.1 c a) (hc : c ≤ 999999) : ∃ w', MX8_passesBy N w (nI A.2.2.2.1) F (nI A.2.2.2.2.1) (nI A.2.2.2.2.2.1) (nI r) (bI two) (bI rum) = some w' ∧ repK r w' A (mOf (aMin A two rum a)) ∧ frm r w w' := by
  have h9 := hA.1
  obtain ⟨w1, e1, q1, f1⟩ := p_mjoin_l hN hr (G := nI A.2.2.2.2.1) (H := nI A.2.2.2.2.2.1) (p2 := bI two) (p3 := bI rum) hA hF (by omega) N A.2.2.2.1 0 w a (by omega) (by omega) hK hw
  have v1 := WF.lp (f := stJ A) (fun p a hp h => h.joins1 hp) A.2.2.2.1 0 a (by omega) hw
  obtain ⟨w2, e2, q2, f2⟩ := p_msnz_l hN hr (G := nI A.2.2.2.2.1) (H := nI A.2.2.2.2.2.1) (p2 := bI two) (p3 := bI rum) hA (by omega) N A.2.2.2.1 0 w1 _ (by omega) (by omega) q1 v1
  have v2 := WF.lp (f := stS A) (fun p a hp h => h.snz1) A.2.2.2.1 0 _ (by omega) v1
  obtain ⟨w3, e3, q3, f3⟩ := p_mbak hN hr (two := two) (rum := rum) hA q2 v2 hc
  refine ⟨w3, ?_, q3, (f1.tr f2).tr f3⟩
  unfold MX8_passesBy
  rw [k0, e1]
  unfold MX8_passesBy_j63
  rw [k0, e2]
  exact e3
theorem p_misRumour {N : Nat} {r : Nat} (hr : r + 66 ≤ 792) {A : APl} {a : ASt} {w : Nat → Int32} (hA : WFP A) (hK : repK r w A (mOf a)) (hm : a.2.2.2.2.2.1 < 2 ^ 31) : MX8_isRumour N w (nI A.2.2.2.2.2.2) (nI r) = some (bI (rumAt A a.2.2.2.2.2.1)) := by
  have h2 := hA.2.2.2.2.2.2
  have r1 : w r = nI a.2.2.2.2.2.1 := hK.1
  unfold MX8_isRumour MX8_isRumour_j27 MD rumAt
  by_cases h0 : A.2.2.2.2.2.2 = 0
  · rw [h0, if_pos (by decide)]; rfl
  · have hlt : a.2.2.2.2.2.1 % A.2.2.2.2.2.2 < A.2.2.2.2.2.2 := Nat.mod_lt _ (by omega)
    rw [if_neg (show ¬ nI A.2.2.2.2.2.2 ≤ (0 : Int32) from nI_nle (by omega) (by omega))]
    simp (disch := omega) only [k0, nI_add, Nat.add_zero, nI_clamp, MG_ok, r1, pk_rem, nI_eq]
    rw [if_neg h0]
    by_cases g : a.2.2.2.2.2.1 % A.2.2.2.2.2.2 = 0
    · rw [decide_eq_true (show A.2.2.2.2.2.2 ≠ 0 ∧ a.2.2.2.2.2.1 % A.2.2.2.2.2.2 = 0 from ⟨h0, g⟩), if_pos g]; rfl
    · rw [if_neg g, decide_eq_false (fun h => g h.2)]; rfl
theorem p_mpasses {N : Nat} (hN : 100 ≤ N) {r c : Nat} (hr : r + 66 ≤ 792) {F : Nat → Int32} {A : APl} {a : ASt} {w : Nat → Int32} (hA : WFP A) (hF : rfF F A) (hK : repK r w A (mOf a)) (hw : WF A.2.2.2.1 c a) (hc : c ≤ 999999) : ∃ w', MX8_passes N w (nI A.2.2.2.1) F (nI A.2.2.2.2.1) (nI A.2.2.2.2.2.1) (nI A.2.2.2.2.2.2) (nI r) = some w' ∧ repK r w' A (mOf (aRun A 1 a)) ∧ frm r w w' := by
  have hm := hw.2.2.2.2.2.2.2.1
  obtain ⟨w', e, q, f⟩ := p_mpassBy hN hr (two := false) (rum := rumAt A a.2.2.2.2.2.1) hA hF hK hw hc
  refine ⟨w', ?_, q, f⟩
  unfold MX8_passes
  rw [p_misRumour hr hA hK (by omega)]
  simp only [Option.bind_some]
  have e' : MX8_passesBy N w (nI A.2.2.2.1) F (nI A.2.2.2.2.1) (nI A.2.2.2.2.2.1) (nI r) (0 : Int32) (bI (rumAt A a.2.2.2.2.2.1)) = some w' := e
  rw [e']
  rfl
