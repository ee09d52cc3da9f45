abbrev SeL : Type := List (Nat × Nat × Bool)
theorem bI_iff (d v : Bool) : (bI d = bI v) ↔ ((d == v) = true) := by cases d <;> cases v <;> decide
def sMx : SeL → Nat → Nat
  | [], x => x
  | e :: l, x => sMx l (if x < e.2.1 then e.2.1 else x)
theorem sMx_ge : ∀ (l : SeL) (x : Nat), x ≤ sMx l x ∧ ∀ e, e ∈ l → e.2.1 ≤ sMx l x := by
  intro l
  induction l with
  | nil => intro x; exact ⟨Nat.le_refl _, fun e he => by simp at he⟩
  | cons y l ih =>
    intro x
    have h1 := ih (if x < y.2.1 then y.2.1 else x)
    have h2 : x ≤ (if x < y.2.1 then y.2.1 else x) ∧ y.2.1 ≤ (if x < y.2.1 then y.2.1 else x) := by split <;> omega
    rw [sMx]
    refine ⟨by omega, fun e he => ?_⟩
    rcases List.mem_cons.mp he with q | q
    · subst q; omega
    · exact h1.2 e q
theorem sMx_le {B : Nat} : ∀ (l : SeL) (x : Nat), x ≤ B → (∀ e, e ∈ l → e.2.1 ≤ B) → sMx l x ≤ B := by
  intro l
  induction l with
  | nil => intro x h _; exact h
  | cons y l ih =>
    intro x h he
    have := he y List.mem_cons_self
    exact ih _ (by split <;> omega) (fun e h => he e (List.mem_cons_of_mem _ h))
theorem SeR.mem {n : Nat} {S : SeenV} {sn : Int32} {s1 s2 s3 : Nat → Int32} {sl : SeL} (hS : SeR n S sn s1 s2 s3 sl) {e : Nat × Nat × Bool} (he : e ∈ sl) : e.1 < n ∧ 1 ≤ e.2.1 ∧ e.2.1 ≤ 60 := by
  obtain ⟨i, hi, q⟩ := List.getElem_of_mem he
  have := hS.2.2.2 i e (by rw [List.getElem?_eq_getElem hi, q])
  exact ⟨this.1, this.2.1, this.2.2.1⟩
theorem p_latest_l {n : Nat} {S : SeenV} {sn : Int32} {s1 s2 s3 : Nat → Int32} {sl : SeL} (hS : SeR n S sn s1 s2 s3 sl) : ∀ (m i x : Nat), i ≤ sl.length → sl.length < m + i → x ≤ 60 → MX4_latest_l4 S m (nI x) (nI i) = some (nI (sMx (sl.drop i) x)) := by
  have h6 := hS.2.2.1
  intro m
  induction m with
  | zero => intro i x h1 h2; omega
  | succ m ih =>
    intro i x h1 h2 h3
    rw [MX4_latest_l4, hS.1]
    by_cases hi : i = sl.length
    · subst hi
      rw [if_pos (nI_le (Nat.le_refl _) (by omega)), List.drop_length]
      rfl
    · have hi : i < sl.length := by omega
      obtain ⟨g1, g2, g3, g4, g5, g6, g7, g8, g9⟩ := hS.2.2.2 i _ (List.getElem?_eq_getElem hi)
      rw [if_neg (nI_ge hi (by omega)), if_neg (show ¬ (6 : Int32) ≤ nI i from nI_ge (b := 6) (by omega) (by omega)), List.drop_eq_getElem_cons hi, sMx]
      simp (disch := omega) only [MLet, nI_clamp, MG_ok, g6, nI_ltI]
      rw [nI_1]
      have := ih (i + 1) (if x < sl[i].2.1 then sl[i].2.1 else x) (by omega) (by omega) (by split <;> omega)
      rw [← this]
      congr 1
      split <;> rfl
theorem p_latest {N n : Nat} (hN : 100 ≤ N) {S : SeenV} {sn : Int32} {s1 s2 s3 : Nat → Int32} {sl : SeL} (hS : SeR n S sn s1 s2 s3 sl) : MX4_latest N S = some (nI (sMx sl 0)) := by
  have h6 := hS.2.2.1
  exact p_latest_l hS N 0 0 (by omega) (by omega) (by omega)
def hC (s : Nat) (b : ASt) (e : Nat × Nat × Bool) : Bool := (decide (b.2.1 e.1 = 3 ∧ b.2.2.2.1 e.1 < s + e.2.1)) == e.2.2
def gC (n : Nat) (b : ASt) (e : Nat × Nat × Bool) : Bool := (e.2.1 != n) || (decide (b.2.1 e.1 = 3) == e.2.2)
theorem p_holdrun_l {N : Nat} (hN : 100 ≤ N) {S : SeenV} {L0 : LineV} {P : PlanV} {A : APl} (hP : repP P A) (hA : WFP A) : ∀ (m k i c : Nat) (L : LineV) (a : ASt), k < m → i + k < 1000000 → repL A.2.2.2.2.2.1 L a → WF A.2.2.2.1 c a → c + 2 * k ≤ 999999 →
    ∃ u : LineV, MX4_holdsFor_l14 N S P L0 (nI (i + k)) m (nI i) L.1 L.2.1 L.2.2.1 L.2.2.2.1 L.2.2.2.2.1 L.2.2.2.2.2.1 L.2.2.2.2.2.2.1 L.2.2.2.2.2.2.2.1 L.2.2.2.2.2.2.2.2 = MX4_holdsFor_j41 N S L0 u.1 u.2.1 u.2.2.1 u.2.2.2.1 u.2.2.2.2.1 u.2.2.2.2.2.1 u.2.2.2.2.2.2.1 u.2.2.2.2.2.2.2.1 u.2.2.2.2.2.2.2.2 ∧ repL A.2.2.2.2.2.1 u (aRun A k a) := by
  intro m
  induction m with
  | zero => intro k i c L a h; omega
  | succ m ih =>
    intro k i c L a h1 h2 hL hw hc
    rw [MX4_holdsFor_l14]
    cases k with
    | zero =>
      rw [if_pos (nI_le (by omega) (by omega))]
      exact ⟨L, rfl, hL⟩
    | succ k =>
      have hm := hw.2.2.2.2.2.2.2.1
      have r6 : L.2.2.2.2.2.2.1 = nI a.2.2.2.2.2.1 := hL.2.2.2.2.2.1
      have hr : MX3_rumourIn N P L.2.2.2.2.2.2.1 = some (bI (rumAt A a.2.2.2.2.2.1)) := by rw [r6]; exact p_rumourIn hP hA (by omega)
      obtain ⟨u, e, q⟩ := p_goOn (two := false) (rum := rumAt A a.2.2.2.2.2.1) hN hP hA hL hw (by omega)
      have e' : MX1_goOn N (L.1, L.2.1, L.2.2.1, L.2.2.2.1, L.2.2.2.2.1, L.2.2.2.2.2.1, L.2.2.2.2.2.2.1, L.2.2.2.2.2.2.2.1, L.2.2.2.2.2.2.2.2) P (bI (rumAt A a.2.2.2.2.2.1)) 0 = some u := e
      rw [if_neg (show ¬ nI (i + (k + 1)) ≤ nI i from nI_ge (by omega) (by omega)), hr]
      simp only [Option.bind_some]
      rw [e']
      simp only [Option.bind_some]
      rw [nI_1]
      have := ih k (i + 1) (c + 2) u _ (by omega) (by omega) q (hw.min hA) (by omega)
      rwa [show i + 1 + k = i + (k + 1) by omega] at this
theorem p_holds_l {N n n' c s H : Nat} {S : SeenV} {sn : Int32} {s1 s2 s3 : Nat → Int32} {sl : SeL} (hS : SeR n S sn s1 s2 s3 sl) (h9 : n ≤ 9) {L Lt : LineV} {b : ASt} (hb : repL H Lt b) (hw : WF n' c b) (hc : c ≤ 999999) (hs : L.2.2.2.2.2.2.1 = nI s) (hs2 : s ≤ 999999) : ∀ (m i : Nat), i ≤ sl.length → sl.length < m + i →
    ∃ u, MX4_holdsFor_l44 N S L Lt.1 Lt.2.1 Lt.2.2.1 Lt.2.2.2.1 Lt.2.2.2.2.1 Lt.2.2.2.2.2.1 Lt.2.2.2.2.2.2.1 Lt.2.2.2.2.2.2.2.1 Lt.2.2.2.2.2.2.2.2 m (nI i) = some u ∧ u.1 = bI ((sl.drop i).all (hC s b)) := by
  have h6 := hS.2.2.1
  intro m
  induction m with
  | zero => intro i h1 h2; omega
  | succ m ih =>
    intro i h1 h2
    rw [MX4_holdsFor_l44, hS.1]
    by_cases hi : i = sl.length
    · subst hi
      rw [if_pos (nI_le (Nat.le_refl _) (by omega)), List.drop_length]
      exact ⟨_, rfl, rfl⟩
    · have hi : i < sl.length := by omega
      obtain ⟨g1, g2, g3, g4, g5, g6, g7, g8, g9⟩ := hS.2.2.2 i _ (List.getElem?_eq_getElem hi)
      rw [if_neg (nI_ge hi (by omega)), if_neg (show ¬ (6 : Int32) ≤ nI i from nI_ge (b := 6) (by omega) (by omega)), List.drop_eq_getElem_cons hi, List.all_cons]
      have ih' := ih (i + 1) (by omega) (by omega)
      generalize sl[i] = e at g1 g2 g3 g4 g6 g8 ⊢
      have hwe := hw.2.2.2.1 e.1
      have hae := hw.2.2.2.2.2.1 e.1
      have e0 : MX1_whereIs N (Lt.1, Lt.2.1, Lt.2.2.1, Lt.2.2.2.1, Lt.2.2.2.2.1, Lt.2.2.2.2.2.1, Lt.2.2.2.2.2.2.1, Lt.2.2.2.2.2.2.2.1, Lt.2.2.2.2.2.2.2.2) (nI e.1) = some (nI (b.2.1 e.1)) := p_whereIs (N := N) hb (by omega)
      have e1 : MX1_ateInOf N (Lt.1, Lt.2.1, Lt.2.2.1, Lt.2.2.2.1, Lt.2.2.2.2.1, Lt.2.2.2.2.2.1, Lt.2.2.2.2.2.2.1, Lt.2.2.2.2.2.2.2.1, Lt.2.2.2.2.2.2.2.2) (nI e.1) = some (if b.2.1 e.1 = 3 then nI (b.2.2.2.1 e.1) else -4) := p_ateInOf (N := N) hb hw (by omega)
      unfold MX4_holdsFor_j102 MX4_holdsFor_j103
      simp (disch := omega) only [nI_clamp, MG_ok, g4, g6, g8, e0, e1, Option.bind_some, hs, nI_add]
      have fin : ∀ v : Bool, v = decide (b.2.1 e.1 = 3 ∧ b.2.2.2.1 e.1 < s + e.2.1) → ∃ u, (if bI v = bI e.2.2 then MX4_holdsFor_l44 N S L Lt.1 Lt.2.1 Lt.2.2.1 Lt.2.2.2.1 Lt.2.2.2.2.1 Lt.2.2.2.2.2.1 Lt.2.2.2.2.2.2.1 Lt.2.2.2.2.2.2.2.1 Lt.2.2.2.2.2.2.2.2 m (nI i + 1) else some ((0 : Int32), Lt.1, Lt.2.1, Lt.2.2.1, Lt.2.2.2.1, Lt.2.2.2.2.1, Lt.2.2.2.2.2.1, Lt.2.2.2.2.2.2.1, Lt.2.2.2.2.2.2.2.1, Lt.2.2.2.2.2.2.2.2)) = some u ∧ u.1 = bI (hC s b e && (sl.drop (i + 1)).all (hC s b)) := by
        intro v hv
        have hh : hC s b e = (v == e.2.2) := by rw [hv]; rfl
        rw [hh]
        by_cases q : (v == e.2.2) = true
        · rw [if_pos ((bI_iff _ _).mpr q), q, Bool.true_and, nI_1]
          exact ih'
        · rw [if_neg (fun z => q ((bI_iff _ _).mp z)), Bool.eq_false_iff.mpr q, Bool.false_and]
          exact ⟨_, rfl, rfl⟩
      by_cases q1 : b.2.1 e.1 = 3
      · rw [if_pos (show nI (b.2.1 e.1) = (3 : Int32) by rw [q1]; rfl)]
        simp only [q1, if_true]
        by_cases q2 : s + e.2.1 ≤ b.2.2.2.1 e.1
        · rw [if_pos (nI_le q2 (by omega))]
          exact fin false (decide_eq_false (fun z => by omega)).symm
        · rw [if_neg (nI_ge (by omega) (by omega))]
          exact fin true (decide_eq_true ⟨q1, by omega⟩).symm
      · rw [if_neg (show ¬ nI (b.2.1 e.1) = (3 : Int32) from nI_ne (b := 3) (by omega) (by omega) q1)]
        exact fin false (decide_eq_false (fun z => q1 z.1)).symm
theorem p_holds {N : Nat} (hN : 100 ≤ N) {n : Nat} {S : SeenV} {sn : Int32} {s1 s2 s3 : Nat → Int32} {sl : SeL} (hS : SeR n S sn s1 s2 s3 sl) (h9 : n ≤ 9) {P : PlanV} {A : APl} {L : LineV} {a : ASt} {c : Nat} (hP : repP P A) (hA : WFP A) (hL : repL A.2.2.2.2.2.1 L a) (hw : WF A.2.2.2.1 c a) (hc : c ≤ 900000) : ∃ u, MX4_holdsFor N S P L = some u ∧ u.1 = bI (sl.all (hC a.2.2.2.2.2.1 (aRun A (sMx sl 0) a))) := by
  have h6 := hS.2.2.1
  have hm := hw.2.2.2.2.2.2.2.1
  have hx : sMx sl 0 ≤ 60 := sMx_le sl 0 (by omega) (fun e he => (hS.mem he).2.2)
  obtain ⟨u, e1, q1⟩ := p_holdrun_l (N := N) (S := S) (L0 := L) hN hP hA N (sMx sl 0) 0 c L a (by omega) (by omega) hL hw (by omega)
  rw [Nat.zero_add] at e1
  have w1 := WF.run hA (sMx sl 0) c a hw
  obtain ⟨v, e2, q2⟩ := p_holds_l (N := N) (L := L) hS h9 q1 w1 (by omega) hL.2.2.2.2.2.1 (by omega) N 0 (by omega) (by omega)
  rw [List.drop_zero] at q2
  refine ⟨v, ?_, q2⟩
  have e1' : MX4_holdsFor_l14 N S P L (nI (sMx sl 0)) N (0 : Int32) L.1 L.2.1 L.2.2.1 L.2.2.2.1 L.2.2.2.2.1 L.2.2.2.2.2.1 L.2.2.2.2.2.2.1 L.2.2.2.2.2.2.2.1 L.2.2.2.2.2.2.2.2 = _ := e1
  unfold MX4_holdsFor
  rw [p_latest hN hS]
  simp only [Option.bind_some]
  rw [e1']
  exact e2
theorem p_seen_in {N n n' : Nat} {S : SeenV} {sn : Int32} {s1 s2 s3 : Nat → Int32} {sl : SeL} (hS : SeR n S sn s1 s2 s3 sl) (h9 : n ≤ 9) {A : APl} {b : ASt} {w : Nat → Int32} {rc : Int32 → Int32 → (Nat → Int32) → Option (Int32 × (Nat → Int32))} (hK : repK 66 w A (mOf b)) (hb : ∀ p, b.2.1 p ≤ 3) (hn : n' < 1000) : ∀ (m i : Nat) (x : Bool), i ≤ sl.length → sl.length < m + i →
    MX8_isSeen_l18 N sn s1 s2 s3 (nI n') rc w m (bI x) (nI i) = MX8_isSeen_j74 (nI n') rc w (bI (x && (sl.drop i).all (gC n' b))) := by
  have h6 := hS.2.2.1
  intro m
  induction m with
  | zero => intro i x h1 h2; omega
  | succ m ih =>
    intro i x h1 h2
    rw [MX8_isSeen_l18, hS.2.1]
    by_cases hi : i = sl.length
    · subst hi
      rw [if_pos (nI_le (Nat.le_refl _) (by omega)), List.drop_length, List.all_nil, Bool.and_true]
    · have hi : i < sl.length := by omega
      obtain ⟨g1, g2, g3, g4, g5, g6, g7, g8, g9⟩ := hS.2.2.2 i _ (List.getElem?_eq_getElem hi)
      have iht := ih (i + 1) true (by omega) (by omega)
      have ihf := ih (i + 1) false (by omega) (by omega)
      rw [hS.2.1] at iht ihf
      rw [if_neg (nI_ge hi (by omega)), List.drop_eq_getElem_cons hi, List.all_cons]
      generalize sl[i] = e at g1 g2 g3 g5 g7 g9 ⊢
      unfold MX8_isSeen_j66 MX8_isSeen_j62 MX8_isSeen_j67
      rw [nI_1]
      cases x with
      | false => rw [bf]; exact ihf
      | true =>
        rw [bt]
        have e0 : MX8_isWhere N w (66 : Int32) (nI e.1) (3 : Int32) = some (bI (decide (b.2.1 e.1 = 3))) := p_misWhere (N := N) (r := 66) (v := 3) (by omega) hK (by omega) (hb e.1) (by omega)
        simp (disch := omega) only [nI_clamp, MG_ok, g5, g7, g9, e0, Option.bind_some, nI_eq]
        by_cases q1 : e.2.1 = n'
        · rw [if_pos q1]
          have hg : gC n' b e = (decide (b.2.1 e.1 = 3) == e.2.2) := by
            unfold gC
            rw [show (e.2.1 != n') = false by simp [q1], Bool.false_or]
          rw [hg]
          by_cases q : (decide (b.2.1 e.1 = 3) == e.2.2) = true
          · rw [if_pos ((bI_iff _ _).mpr q), q, Bool.true_and]
            exact iht
          · rw [if_neg (fun z => q ((bI_iff _ _).mp z)), Bool.eq_false_iff.mpr q, Bool.false_and, Bool.and_false]
            rw [Bool.false_and] at ihf
            exact ihf
        · rw [if_neg q1]
          have hg : gC n' b e = true := by
            unfold gC
            rw [show (e.2.1 != n') = true by simp [q1], Bool.true_or]
          rw [hg, Bool.true_and]
          exact iht
def aSeen (A : APl) (l : SeL) : Nat → Nat → ASt → Bool
  | 0, _, _ => true
  | k + 1, n, a => l.all (gC n (aRun A 1 a)) && aSeen A l k (n + 1) (aRun A 1 a)
theorem p_isSeen_l {N : Nat} (hN : 100 ≤ N) {n : Nat} {S : SeenV} {sn : Int32} {s1 s2 s3 : Nat → Int32} {sl : SeL} (hS : SeR n S sn s1 s2 s3 sl) (h9 : n ≤ 9) {F : Nat → Int32} {A : APl} (hA : WFP A) (hF : rfF F A) : ∀ (m k i c : Nat) (w : Nat → Int32) (a : ASt) (x : Bool), k < m → i + k = 61 → repK 66 w A (mOf a) → WF A.2.2.2.1 c a → c + 2 * k ≤ 999999 →
    ∃ w', MX8_isSeen_l4 N (nI A.2.2.2.1) F (nI A.2.2.2.2.1) (nI A.2.2.2.2.2.1) (nI A.2.2.2.2.2.2) sn s1 s2 s3 m (bI x) (nI i) w = some (bI (x && aSeen A sl k i a), w') ∧ frm 66 w w' := by
  have h6 := hS.2.2.1
  intro m
  induction m with
  | zero => intro k i c w a x h; omega
  | succ m ih =>
    intro k i c w a x h1 h2 hK hw hc
    rw [MX8_isSeen_l4]
    cases k with
    | zero =>
      have e : i = 61 := by omega
      subst e
      rw [if_pos (by decide)]
      unfold MX8_isSeen_j80 MB
      refine ⟨w, ?_, frm.rfl'⟩
      rw [aSeen, Bool.and_true]
      cases x
      · rw [if_pos (show bI false = 0 ∨ bI false = 1 from Or.inl rfl)]
      · rw [if_pos (show bI true = 0 ∨ bI true = 1 from Or.inr rfl)]
    | succ k =>
      obtain ⟨w1, e1, q1, f1⟩ := p_mpasses hN (r := 66) (by omega) hA hF hK hw (by omega)
      have e1' : MX8_passes N w (nI A.2.2.2.1) F (nI A.2.2.2.2.1) (nI A.2.2.2.2.2.1) (nI A.2.2.2.2.2.2) (66 : Int32) = some w1 := e1
      have v1 := WF.run hA 1 c a hw
      rw [if_neg (show ¬ (60 : Int32) < nI i from nI_nlt (b := i) (a := 60) (by omega) (by omega)), e1']
      simp only [Option.bind_some]
      have e2 := p_seen_in (N := N) (n' := i) (rc := MX8_isSeen_l4 N (nI A.2.2.2.1) F (nI A.2.2.2.2.1) (nI A.2.2.2.2.2.1) (nI A.2.2.2.2.2.2) sn s1 s2 s3 m) hS h9 q1 v1.2.2.2.1 (by omega) N 0 x (by omega) (by omega)
      rw [List.drop_zero] at e2
      have e2' : MX8_isSeen_l18 N sn s1 s2 s3 (nI i) (MX8_isSeen_l4 N (nI A.2.2.2.1) F (nI A.2.2.2.2.1) (nI A.2.2.2.2.2.1) (nI A.2.2.2.2.2.2) sn s1 s2 s3 m) w1 N (bI x) (0 : Int32) = _ := e2
      rw [e2']
      unfold MX8_isSeen_j74
      rw [nI_1]
      obtain ⟨w2, e3, f3⟩ := ih k (i + 1) (c + 2) w1 _ (x && sl.all (gC i (aRun A 1 a))) (by omega) (by omega) q1 v1 (by omega)
      refine ⟨w2, ?_, f1.tr f3⟩
      rw [e3, aSeen, Bool.and_assoc]
theorem p_isSeen {N : Nat} (hN : 100 ≤ N) {n : Nat} {S : SeenV} {sn : Int32} {s1 s2 s3 : Nat → Int32} {sl : SeL} (hS : SeR n S sn s1 s2 s3 sl) (h9 : n ≤ 9) {F w : Nat → Int32} {A : APl} {a : ASt} {c : Nat} (hA : WFP A) (hF : rfF F A) (hK : repK 66 w A (mOf a)) (hw : WF A.2.2.2.1 c a) (hc : c ≤ 900000) : ∃ w', MX8_isSeen N w (nI A.2.2.2.1) F (nI A.2.2.2.2.1) (nI A.2.2.2.2.2.1) (nI A.2.2.2.2.2.2) sn s1 s2 s3 = some (bI (aSeen A sl 60 1 a), w') ∧ frm 66 w w' := by
  obtain ⟨w', e, f⟩ := p_isSeen_l hN hS h9 hA hF N 60 1 c w a true (by omega) (by omega) hK hw (by omega)
  rw [Bool.true_and] at e
  exact ⟨w', e, f⟩
theorem run_add {A : APl} : ∀ (t j : Nat) (a : ASt), aRun A (t + j) a = aRun A j (aRun A t a) := by
  intro t
  induction t with
  | zero => intro j a; rw [Nat.zero_add]; rfl
  | succ t ih => intro j a; rw [show t + 1 + j = (t + j) + 1 by omega, aRun, ih, aRun]
theorem run_mi {A : APl} (hA : WFP A) : ∀ (t c : Nat) (a : ASt), WF A.2.2.2.1 c a → (aRun A t a).2.2.2.2.2.1 = a.2.2.2.2.2.1 + t := by
  intro t
  induction t with
  | zero => intro c a _; rfl
  | succ t ih =>
    intro c a hw
    rw [aRun, ih (c + 2) _ (hw.min hA), min_mi hA hw]
    omega
theorem run_p {A : APl} (hA : WFP A) {p : Nat} : ∀ (j c : Nat) (b : ASt), WF A.2.2.2.1 c b → (b.2.1 p = 3 → (aRun A j b).2.1 p = 3 ∧ (aRun A j b).2.2.2.1 p = b.2.2.2.1 p) ∧ (b.2.1 p ≠ 3 → (aRun A j b).2.1 p = 3 → b.2.2.2.2.2.1 ≤ (aRun A j b).2.2.2.1 p) := by
  intro j
  induction j with
  | zero => intro c b _; exact ⟨fun h => ⟨h, rfl⟩, fun h h' => absurd h' h⟩
  | succ j ih =>
    intro c b hw
    have h1 := ih (c + 2) _ (hw.min (two := false) (rum := rumAt A b.2.2.2.2.2.1) hA)
    have h2 := min_p (two := false) (rum := rumAt A b.2.2.2.2.2.1) hA hw p
    have h3 := min_mi (two := false) (rum := rumAt A b.2.2.2.2.2.1) hA hw
    rw [aRun]
    refine ⟨fun h => ?_, fun h h' => ?_⟩
    · have q := h2.1 h
      have q2 := h1.1 q.1
      exact ⟨q2.1, q2.2.trans q.2⟩
    · by_cases e : (aMin A false (rumAt A b.2.2.2.2.2.1) b).2.1 p = 3
      · have q := h2.2.1 h e
        have q2 := h1.1 e
        omega
      · have q := h1.2 e h'
        omega
theorem run_eaten {A : APl} (hA : WFP A) {p c t T : Nat} {a : ASt} (hw : WF A.2.2.2.1 c a) (he : WE a) (ht : t ≤ T) : (aRun A t a).2.1 p = 3 ↔ ((aRun A T a).2.1 p = 3 ∧ (aRun A T a).2.2.2.1 p < a.2.2.2.2.2.1 + t) := by
  obtain ⟨j, rfl⟩ : ∃ j, T = t + j := ⟨T - t, by omega⟩
  have w1 := WF.run hA t c a hw
  have e1 := WE.run hA t c a hw he
  have m1 := run_mi hA t c a hw
  rw [run_add]
  generalize aRun A t a = b at w1 e1 m1
  have h := run_p hA (p := p) j _ b w1
  constructor
  · intro q
    have q1 := h.1 q
    have q2 := e1 p q
    refine ⟨q1.1, ?_⟩
    omega
  · intro q
    by_cases e : b.2.1 p = 3
    · exact e
    · have := h.2 e q.1
      omega
theorem aSeen_iff {A : APl} {l : SeL} : ∀ (k n : Nat) (a : ASt), aSeen A l k n a = true ↔ ∀ e, e ∈ l → n ≤ e.2.1 → e.2.1 < n + k → (decide ((aRun A (e.2.1 - n + 1) a).2.1 e.1 = 3) == e.2.2) = true := by
  intro k
  induction k with
  | zero =>
    intro n a
    exact ⟨fun _ e _ h1 h2 => by omega, fun _ => rfl⟩
  | succ k ih =>
    intro n a
    rw [aSeen, Bool.and_eq_true, ih, List.all_eq_true]
    constructor
    · intro h e he h1 h2
      by_cases q : e.2.1 = n
      · have := h.1 e he
        unfold gC at this
        rw [show (e.2.1 != n) = false by simp [q], Bool.false_or] at this
        rw [show e.2.1 - n + 1 = 1 by omega]
        exact this
      · have := h.2 e he (by omega) (by omega)
        rw [show e.2.1 - n + 1 = 1 + (e.2.1 - (n + 1) + 1) by omega, run_add]
        exact this
    · intro h
      refine ⟨fun e he => ?_, fun e he h1 h2 => ?_⟩
      · unfold gC
        by_cases q : e.2.1 = n
        · have := h e he (by omega) (by omega)
          rw [show e.2.1 - n + 1 = 1 by omega] at this
          rw [this, Bool.or_true]
        · rw [show (e.2.1 != n) = true by simp [q], Bool.true_or]
      · have := h e he (by omega) (by omega)
        rw [show e.2.1 - n + 1 = 1 + (e.2.1 - (n + 1) + 1) by omega, run_add] at this
        exact this
theorem seen_eq {n : Nat} {S : SeenV} {sn : Int32} {s1 s2 s3 : Nat → Int32} {sl : SeL} (hS : SeR n S sn s1 s2 s3 sl) {A : APl} (hA : WFP A) {c : Nat} {a : ASt} (hw : WF A.2.2.2.1 c a) (he : WE a) : sl.all (hC a.2.2.2.2.2.1 (aRun A (sMx sl 0) a)) = aSeen A sl 60 1 a := by
  rw [Bool.eq_iff_iff, aSeen_iff, List.all_eq_true]
  have hx := (sMx_ge sl 0).2
  have key : ∀ e, e ∈ sl → (hC a.2.2.2.2.2.1 (aRun A (sMx sl 0) a) e) = (decide ((aRun A (e.2.1 - 1 + 1) a).2.1 e.1 = 3) == e.2.2) := by
    intro e hm
    have := hS.mem hm
    rw [show e.2.1 - 1 + 1 = e.2.1 by omega]
    unfold hC
    rw [decide_eq_decide.mpr (run_eaten hA (p := e.1) hw he (hx e hm)).symm]
  constructor
  · intro h e hm h1 h2
    rw [← key e hm]
    exact h e hm
  · intro h e hm
    have := hS.mem hm
    rw [key e hm]
    exact h e hm (by omega) (by omega)
theorem p_sneezed_l {N : Nat} (hN : 100000 ≤ N) {c : Nat} (hc : c ≤ 500000) {A : APl} {P : PlanV} {Nw : LineV} {U K : ShelfV} {F : Nat → Int32} {a : ASt} {us ks : List ASt} {S : SeenV} {sn : Int32} {s1 s2 s3 : Nat → Int32} {sl : SeL} (hS : SeR A.2.2.2.1 S sn s1 s2 s3 sl) : ∀ (m k i : Nat) (bits : Int32) (L : LineV) (w : Nat → Int32), i + k = A.2.2.2.1 → k < m → Core c A P Nw U K w F a us ks →
    ∃ u v, MX0_whoSneezed_l29 N P Nw S m bits (nI i) L.1 L.2.1 L.2.2.1 L.2.2.2.1 L.2.2.2.2.1 L.2.2.2.2.2.1 L.2.2.2.2.2.2.1 L.2.2.2.2.2.2.2.1 L.2.2.2.2.2.2.2.2 = some u ∧ MX8_sneezed_l21 N (nI A.2.2.2.1) F (nI A.2.2.2.2.1) (nI A.2.2.2.2.2.1) (nI A.2.2.2.2.2.2) sn s1 s2 s3 m bits (nI i) w = some v ∧ u.1 = v.1 ∧ frm 66 w v.2 := by
  intro m
  induction m with
  | zero => intro k i bits L w h1 h2; omega
  | succ m ih =>
    intro k i bits L w h1 h2 h
    obtain ⟨c1, c2, c3, c4, ⟨n1, n2, n3, n4⟩, c6, c7⟩ := id h
    have h9 := c1.1
    rw [MX0_whoSneezed_l29, MX8_sneezed_l21, c3.2.1]
    cases k with
    | zero =>
      rw [if_pos (nI_le (by omega) (by omega)), if_pos (nI_le (by omega) (by omega))]
      exact ⟨_, _, rfl, rfl, rfl, frm.rfl'⟩
    | succ k =>
      have hi : i < A.2.2.2.1 := by omega
      have hwi := n2.2.2.2.1 i
      have e1 := p_whereIs (N := N) n1 (p := i) (by omega)
      have e2 : MX8_isWhere N w (0 : Int32) (nI i) (1 : Int32) = some (bI (decide (a.2.1 i = 1))) := p_misWhere (N := N) (r := 0) (v := 1) (by omega) n4 (by omega) hwi (by omega)
      rw [if_neg (nI_ge hi (by omega)), if_neg (nI_ge hi (by omega)), e1, e2]
      simp only [Option.bind_some]
      by_cases g : a.2.1 i = 1
      · rw [if_pos (show nI (a.2.1 i) = (1 : Int32) by rw [g]; rfl), decide_eq_true g, bt]
        have hl := n2.len
        obtain ⟨L1, a1, q1⟩ := p_start (N := N) (Tr := L) n1 n2 h9
        have a1' : MX0_startTrial N Nw (L.1, L.2.1, L.2.2.1, L.2.2.2.1, L.2.2.2.2.1, L.2.2.2.2.2.1, L.2.2.2.2.2.2.1, L.2.2.2.2.2.2.2.1, L.2.2.2.2.2.2.2.2) = some L1 := a1
        obtain ⟨u2, a2, q2⟩ := p_goToHead (N := N) (by omega) h9 q1 n2 g
        have v2 := n2.snz g
        obtain ⟨u3, a3, q3⟩ := p_holds (N := N) (by omega) hS h9 c3 c1 q2 v2 (by omega)
        have a3' : MX4_holdsFor N S P (u2.1, L1.2.1, u2.2, L1.2.2.2.1, L1.2.2.2.2.1, L1.2.2.2.2.2.1, L1.2.2.2.2.2.2.1, L1.2.2.2.2.2.2.2.1, L1.2.2.2.2.2.2.2.2) = some u3 := a3
        rw [seen_eq hS c1 v2 n3.snz] at q3
        obtain ⟨w1, d1, p1, f1⟩ := p_tries (N := N) (by omega) h9 n2 n4
        obtain ⟨w2, d2, p2, f2⟩ := p_msneezes (N := N) (r := 66) (by omega) (by omega) h9 p1 (by show a.1.length ≤ 9; omega) (fun y hy => by have := n2.q9 hy; omega) ((n2.2.1 i).mpr g)
        rw [← mOf_snz g] at p2
        have d2' : MX8_sneezes N w1 (66 : Int32) (nI i) = some w2 := d2
        obtain ⟨w3, d3, f3⟩ := p_isSeen (N := N) (by omega) hS h9 c1 c4 p2 v2 (by omega)
        have ff := (f1.tr f2).tr f3
        have hfin := h.tr ff
        rw [a1', d1]
        simp only [Option.bind_some]
        rw [a2, d2']
        simp only [Option.bind_some]
        rw [a3', d3]
        simp only [Option.bind_some]
        rw [q3]
        unfold MX0_whoSneezed_j88 MX8_sneezed_j65 MX8_sneezed_j67 MLet
        cases aSeen A sl 60 1 (aSnz a i) with
        | false =>
          rw [bf, bf, i32_or0, nI_1]
          obtain ⟨u, v, z1, z2, z3, z4⟩ := ih k (i + 1) bits (u3.2.1, u3.2.2.1, u3.2.2.2.1, u3.2.2.2.2.1, u3.2.2.2.2.2.1, u3.2.2.2.2.2.2.1, u3.2.2.2.2.2.2.2.1, u3.2.2.2.2.2.2.2.2.1, u3.2.2.2.2.2.2.2.2.2) w3 (by omega) (by omega) hfin
          exact ⟨u, v, z1, z2, z3, ff.tr z4⟩
        | true =>
          rw [bt, bt, nI_1]
          obtain ⟨u, v, z1, z2, z3, z4⟩ := ih k (i + 1) (bits ||| ((1 : Int32) <<< (nI i &&& 31))) (u3.2.1, u3.2.2.1, u3.2.2.2.1, u3.2.2.2.2.1, u3.2.2.2.2.2.1, u3.2.2.2.2.2.2.1, u3.2.2.2.2.2.2.2.1, u3.2.2.2.2.2.2.2.2.1, u3.2.2.2.2.2.2.2.2.2) w3 (by omega) (by omega) hfin
          exact ⟨u, v, z1, z2, z3, ff.tr z4⟩
      · rw [if_neg (show ¬ nI (a.2.1 i) = (1 : Int32) from nI_ne (b := 1) (by omega) (by omega) g), decide_eq_false g, bf]
        unfold MX0_whoSneezed_j88 MX8_sneezed_j67
        rw [nI_1]
        exact ih k (i + 1) bits L w (by omega) (by omega) h
theorem s_sneezed {N : Nat} (hN : 100000 ≤ N) {c : Nat} (hc : c ≤ 500000) {A : APl} {P : PlanV} {Nw : LineV} {U K : ShelfV} {w F : Nat → Int32} {a : ASt} {us ks : List ASt} (h : Core c A P Nw U K w F a us ks) {S : SeenV} {sn : Int32} {s1 s2 s3 : Nat → Int32} {sl : SeL} (hS : SeR A.2.2.2.1 S sn s1 s2 s3 sl) (Tr : LineV) : ∃ u v, MX7_sneezed N P Nw Tr S = some u ∧ MX8_sneezed N w (nI A.2.2.2.1) F (nI A.2.2.2.2.1) (nI A.2.2.2.2.2.1) (nI A.2.2.2.2.2.2) sn s1 s2 s3 = some v ∧ u.1 = v.1 ∧ frm 66 w v.2 := by
  obtain ⟨c1, c2, c3, c4, ⟨n1, n2, n3, n4⟩, c6, c7⟩ := id h
  have h9 := c1.1
  obtain ⟨L1, a1, q1⟩ := p_start (N := N) (Tr := Tr) n1 n2 h9
  obtain ⟨u3, a3, q3⟩ := p_holds (N := N) (by omega) hS h9 c3 c1 q1 n2 (by omega)
  rw [seen_eq hS c1 n2 n3] at q3
  obtain ⟨w1, d1, p1, f1⟩ := p_tries (N := N) (by omega) h9 n2 n4
  obtain ⟨w3, d3, f3⟩ := p_isSeen (N := N) (by omega) hS h9 c1 c4 p1 n2 (by omega)
  have ff := f1.tr f3
  have hfin := h.tr ff
  have key : ∀ t, ∃ u v, MX0_whoSneezed_j26 N P Nw S u3 t = some u ∧ MX8_sneezed_j18 N (nI A.2.2.2.1) F (nI A.2.2.2.2.1) (nI A.2.2.2.2.2.1) (nI A.2.2.2.2.2.2) sn s1 s2 s3 (bI (aSeen A sl 60 1 a), w3) t = some v ∧ u.1 = v.1 ∧ frm 66 w v.2 := by
    intro t
    obtain ⟨u, v, z1, z2, z3, z4⟩ := p_sneezed_l hN hc hS N A.2.2.2.1 0 t (u3.2.1, u3.2.2.1, u3.2.2.2.1, u3.2.2.2.2.1, u3.2.2.2.2.2.1, u3.2.2.2.2.2.2.1, u3.2.2.2.2.2.2.2.1, u3.2.2.2.2.2.2.2.2.1, u3.2.2.2.2.2.2.2.2.2) w3 (by omega) (by omega) hfin
    exact ⟨u, v, z1, z2, z3, ff.tr z4⟩
  unfold MX7_sneezed MX0_whoSneezed MX8_sneezed
  rw [a1, d1]
  simp only [Option.bind_some]
  rw [a3, d3]
  simp only [Option.bind_some]
  rw [q3]
  cases hv : aSeen A sl 60 1 a with
  | false =>
    rw [hv] at key
    obtain ⟨u, v, z1, z2, z3, z4⟩ := key 0
    rw [bf, bf, z1, z2]
    exact ⟨_, _, rfl, rfl, z3, z4⟩
  | true =>
    rw [hv] at key
    obtain ⟨u, v, z1, z2, z3, z4⟩ := key 512
    rw [bt, bt, z1, z2]
    exact ⟨_, _, rfl, rfl, z3, z4⟩
