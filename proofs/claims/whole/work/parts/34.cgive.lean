theorem rep_yld {f : Nat → Int32} {q : List Nat} {k p : Nat} (h : repq f q) (hk : k + 1 < q.length) : repq (upd (upd f k (f (k + 1))) (k + 1) (nI p)) ((q.set k (q.getD (k + 1) 0)).set (k + 1) p) := by
  intro i x hx
  rw [List.getElem?_set] at hx
  by_cases c : k + 1 = i
  · subst c
    rw [if_pos rfl] at hx
    simp at hx
    rw [pk_us, hx.2]
  · rw [if_neg c, List.getElem?_set] at hx
    rw [pk_un (by omega)]
    by_cases c2 : k = i
    · subst c2
      rw [if_pos rfl, if_pos (by omega)] at hx
      cases hx
      rw [pk_us]
      rw [List.getD_eq_getElem?_getD, List.getElem?_eq_getElem hk]
      exact h.at hk
    · rw [if_neg c2] at hx
      rw [pk_un (by omega)]
      exact h i x hx
theorem p_yield {N : Nat} (hN : 100 ≤ N) {H : Nat} {L : LineV} {a : ASt} {n c p : Nat} (h9 : n ≤ 9) (hL : repL H L a) (hw : WF n c a) (hm : p ∈ a.1) (hk : a.1.idxOf p + 1 < a.1.length) : ∃ u, MX1_yieldPlace N L (nI p) = some u ∧ repL H (u, L.2) (aYld a p) := by
  obtain ⟨r1, r2, r3⟩ := hL
  have hpn := hw.q9 hm
  have hlen := hw.len
  unfold MX1_yieldPlace
  rw [p_placeOf hN r1 r2 (by omega) (fun x hx => by have := hw.q9 hx; omega) (by omega), if_pos hm, r1]
  have e0 : nI a.1.length - nI 1 = nI (a.1.length - 1) := pk_sub (by omega)
  simp only [Option.bind_some]
  simp (disch := omega) only [k0, k1, k9, e0, nI_leI, nI_ltI, if_neg, if_pos, nI_add, nI_clamp, MG_ok]
  refine ⟨_, rfl, ?_, rep_yld r2 hk, r3⟩
  show L.2.2.2.2.2.1 = nI ((a.1.set _ _).set _ _).length
  rw [r1, List.length_set, List.length_set]
theorem WF.yld {n c p : Nat} {a : ASt} (h : WF n c a) (hm : p ∈ a.1) (hk : a.1.idxOf p + 1 < a.1.length) : WF n c (aYld a p) := by
  obtain ⟨h1, h2, h3⟩ := h
  have hi : a.1.idxOf p < a.1.length := by omega
  have hg : a.1[a.1.idxOf p] = p := List.getElem_idxOf hi
  have hp : ((a.1.set (a.1.idxOf p) (a.1.getD (a.1.idxOf p + 1) 0)).set (a.1.idxOf p + 1) p).Perm a.1 := by
    generalize hk0 : a.1.idxOf p = k at hk hi hg ⊢
    rw [List.getD_eq_getElem?_getD, List.getElem?_eq_getElem hk]
    show ((a.1.set k a.1[k + 1]).set (k + 1) p).Perm a.1
    generalize a.1 = q at hk hi hg
    clear hk0 h2 h1
    induction q generalizing k with
    | nil => simp at hi
    | cons x l ih =>
      cases k with
      | zero =>
        cases l with
        | nil => simp at hk
        | cons y m =>
          simp at hg
          subst hg
          simp
          exact List.Perm.swap x y m
      | succ k =>
        simp at hk hi hg ⊢
        exact ih k (by omega) (by omega) hg
  exact ⟨hp.symm.nodup h1, fun x => hp.mem_iff.trans (h2 x), h3⟩
theorem p_canYield {N : Nat} (hN : 100 ≤ N) {H : Nat} {L : LineV} {a : ASt} {n c p : Nat} (h9 : n ≤ 9) (hL : repL H L a) (hw : WF n c a) (hp : p < n) : MX1_canYield N L (nI p) = some (if p ∈ a.1 ∧ a.1.idxOf p + 1 < a.1.length then nI 1 else nI 0) := by
  obtain ⟨r1, r2, r3⟩ := hL
  have hlen := hw.len
  unfold MX1_canYield MX1_canYield_j24
  rw [p_placeOf hN r1 r2 (by omega) (fun x hx => by have := hw.q9 hx; omega) (by omega), r1]
  simp only [Option.bind_some]
  by_cases hm : p ∈ a.1
  · have hi : a.1.idxOf p < a.1.length := List.idxOf_lt_length_of_mem hm
    have e0 : nI a.1.length - nI 1 = nI (a.1.length - 1) := pk_sub (by omega)
    simp (disch := omega) only [hm, if_true, true_and, k0, k1, e0, nI_leI, nI_ltI, if_neg]
    by_cases hc : a.1.idxOf p + 1 < a.1.length
    · rw [if_neg (by omega), if_pos hc]
    · rw [if_pos (by omega), if_neg hc]
  · simp [hm]
    rfl
def vis (q : List Nat) (head : Bool) : List Nat := if head then q.reverse else q
def who (A : APl) (q : List Nat) (head : Bool) : Nat := ((vis q head).find? (fun x => A.1 x != 3)).getD ((vis q head).headD 0)
def bI (b : Bool) : Int32 := if b then 1 else 0
theorem vis_at {q : List Nat} {head : Bool} {i : Nat} (hi : i < q.length) : (vis q head)[i]? = q[if head then q.length - 1 - i else i]? := by
  unfold vis
  cases head with
  | false => simp
  | true =>
    simp only [if_true]
    rw [List.getElem?_reverse hi]
theorem p_kindOf {N : Nat} {P : PlanV} {A : APl} (hP : repP P A) (hA : WFP A) {t : Nat} (ht : t < A.2.2.2.1) : MX3_kindOf N P (nI t) = some (nI (A.1 t)) := by
  have h9 := hA.1
  obtain ⟨a1, a2, a3⟩ := hP.1 t ht
  unfold MX3_kindOf
  simp (disch := omega) only [k0, k9, nI_leI, nI_ltI, nI_clamp, MG_ok, if_neg, a1]
theorem vis_len {q : List Nat} {head : Bool} : (vis q head).length = q.length := by unfold vis; split <;> simp
theorem p_served_l {N : Nat} {L : LineV} {P : PlanV} {A : APl} {q : List Nat} {head : Bool} (hP : repP P A) (hA : WFP A) (hs : L.2.2.2.2.2.1 = nI q.length) (ho : repq L.1 q) (hl : q.length ≤ 9) (hq : ∀ x ∈ q, x < A.2.2.2.1) (h0 : 0 < q.length) : ∀ (n i : Nat), i ≤ q.length → q.length < n + i → ∃ pl, pl < q.length ∧ MX1_placeServed_l2 N L P (bI head) n (nI i) = some (nI pl) ∧ q[pl]? = some ((((vis q head).drop i).find? (fun x => A.1 x != 3)).getD ((vis q head).headD 0)) := by
  intro n
  have hb0 : (bI head = 0) = (head = false) := by cases head <;> simp [bI]
  have e0 : nI q.length - nI 1 = nI (q.length - 1) := pk_sub (by omega)
  induction n with
  | zero => intro i h1 h2; omega
  | succ n ih =>
    intro i h1 h2
    rw [MX1_placeServed_l2, hs]
    by_cases hi : i = q.length
    · have hd : (vis q head).drop i = [] := List.drop_eq_nil_of_le (by rw [vis_len]; omega)
      rw [hd]
      have hv : (vis q head).head? = q[if head then q.length - 1 else 0]? := by
        have := vis_at (q := q) (head := head) (i := 0) h0
        rw [← List.head?_eq_getElem?] at this
        simpa using this
      have hlt : (if head then q.length - 1 else 0) < q.length := by split <;> omega
      refine ⟨if head then q.length - 1 else 0, hlt, ?_, ?_⟩
      · rw [if_pos (by rw [hi]; exact nI_le (Nat.le_refl _) (by omega))]
        unfold MX1_placeServed_j61
        rw [hs, k1, e0]
        cases head
        · exact if_pos rfl
        · exact if_neg (by decide)
      · rw [← hv]
        have : vis q head ≠ [] := by
          intro e
          have := congrArg List.length e
          rw [vis_len, List.length_nil] at this
          omega
        cases hvv : vis q head with
        | nil => exact absurd hvv this
        | cons y m => simp
    · have hi : i < q.length := by omega
      have hvi := vis_at (head := head) hi
      have hj : (if head then q.length - 1 - i else i) < q.length := by split <;> omega
      have hpl : (if bI head = 0 then MX1_placeServed_j35 N L P (nI i) (MX1_placeServed_l2 N L P (bI head) n) (nI i) else MX1_placeServed_j35 N L P (nI i) (MX1_placeServed_l2 N L P (bI head) n) (nI q.length - (1 : Int32) - nI i)) = MX1_placeServed_j35 N L P (nI i) (MX1_placeServed_l2 N L P (bI head) n) (nI (if head then q.length - 1 - i else i)) := by
        rw [k1, e0, pk_sub (by omega)]
        cases head <;> simp [bI]
      simp (disch := omega) only [k9, nI_leI, nI_ltI, if_neg]
      rw [hpl]
      generalize hjj : (if head then q.length - 1 - i else i) = j at hj hvi ⊢
      have hx := ho.at hj
      have hxn := hq _ (List.getElem_mem hj)
      have hk3 := hA.2.2.1 _ hxn
      unfold MX1_placeServed_j35
      simp (disch := omega) only [nI_clamp, MG_ok, hx, p_kindOf hP hA hxn, Option.bind_some]
      have hdr : (vis q head).drop i = q[j] :: (vis q head).drop (i + 1) := by
        have hiv : i < (vis q head).length := by rw [vis_len]; exact hi
        rw [List.drop_eq_getElem_cons hiv]
        congr 1
        rw [List.getElem?_eq_getElem hj, List.getElem?_eq_getElem hiv] at hvi
        exact Option.some.inj hvi
      rw [hdr, List.find?_cons]
      by_cases hk : A.1 q[j] = 3
      · have hk' : (A.1 q[j] != 3) = false := by simp [hk]
        rw [hk', hk]
        simp only [k3, if_true]
        rw [k1, nI_add]
        exact ih (i + 1) (by omega) (by omega)
      · have hk' : (A.1 q[j] != 3) = true := by simp [hk]
        rw [hk', if_neg (by rw [k3, nI_eq (by omega) (by omega)]; exact hk)]
        exact ⟨j, hj, rfl, by simp [List.getElem?_eq_getElem hj]⟩
theorem p_served {N : Nat} (hN : 100 ≤ N) {L : LineV} {P : PlanV} {A : APl} {q : List Nat} {head : Bool} (hP : repP P A) (hA : WFP A) (hs : L.2.2.2.2.2.1 = nI q.length) (ho : repq L.1 q) (hl : q.length ≤ 9) (hq : ∀ x ∈ q, x < A.2.2.2.1) (h0 : 0 < q.length) : ∃ pl, pl < q.length ∧ MX1_placeServed N L P (bI head) = some (nI pl) ∧ q[pl]? = some (who A q head) := by
  have := p_served_l (N := N) (head := head) hP hA hs ho hl hq h0 N 0 (by omega) (by omega)
  rw [List.drop_zero] at this
  exact this
