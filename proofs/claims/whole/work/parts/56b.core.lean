def WFK (A : APl) : Prop := ∀ f, 1 ≤ f → f ≤ 4 → cnt A.2.2.1 f A.2.2.2.1 ≤ 5
def WE (a : ASt) : Prop := ∀ p, a.2.1 p = 3 → a.2.2.2.1 p < a.2.2.2.2.2.1
def UR (m s H c : Nat) (A : APl) (w : Nat → Int32) (S : ShelfV) (us : List ASt) : Prop := repSh m H S us ∧ WFs A.2.2.2.1 c us ∧ (∀ b, b ∈ us → WE b) ∧ repU s w A us ∧ us.length ≤ m
def NR (H c : Nat) (A : APl) (r : Nat) (w : Nat → Int32) (L : LineV) (a : ASt) : Prop := repL H L a ∧ WF A.2.2.2.1 c a ∧ WE a ∧ repK r w A (mOf a)
def Core (c : Nat) (A : APl) (P : PlanV) (Nw : LineV) (U K : ShelfV) (w F : Nat → Int32) (a : ASt) (us ks : List ASt) : Prop := WFP A ∧ WFK A ∧ repP P A ∧ rfF F A ∧ NR A.2.2.2.2.2.1 c A 0 w Nw a ∧ UR 8 264 A.2.2.2.2.2.1 c A w U us ∧ UR 2 132 A.2.2.2.2.2.1 c A w K ks
theorem UR.fr {m s H c d : Nat} {A : APl} {w w' : Nat → Int32} {S : ShelfV} {us : List ASt} (h : UR m s H c A w S us) (h9 : A.2.2.2.1 ≤ 9) (hw : ∀ x, s ≤ x → x < s + 66 * m → w' x = w x) (hcd : c ≤ d) : UR m s H d A w' S us := by
  obtain ⟨h1, h2, h3, h4, h5⟩ := h
  refine ⟨h1, fun b hb => (h2 b hb).mono hcd, h3, fun k b hb => ?_, h5⟩
  have hk : k < us.length := (List.getElem?_eq_some_iff.mp hb).1
  have hl := (h2 b (List.mem_of_getElem? hb)).len
  exact (h4 k b hb).cp (fun j hj => hw _ (by omega) (by omega)) (by show b.1.length ≤ 9; omega) h9
theorem Core.now {c d : Nat} {A : APl} {P : PlanV} {Nw Nw' : LineV} {U K : ShelfV} {w w' F : Nat → Int32} {a a' : ASt} {us ks : List ASt} (h : Core c A P Nw U K w F a us ks) (hL : repL A.2.2.2.2.2.1 Nw' a') (hw : WF A.2.2.2.1 d a') (he : WE a') (hK : repK 0 w' A (mOf a')) (hf : frm 0 w w') (hcd : c ≤ d) : Core d A P Nw' U K w' F a' us ks :=
  ⟨h.1, h.2.1, h.2.2.1, h.2.2.2.1, ⟨hL, hw, he, hK⟩, h.2.2.2.2.2.1.fr h.1.1 (fun x h1 _ => hf x (by omega)) hcd, h.2.2.2.2.2.2.fr h.1.1 (fun x h1 _ => hf x (by omega)) hcd⟩
theorem Core.tr {c : Nat} {A : APl} {P : PlanV} {Nw : LineV} {U K : ShelfV} {w w' F : Nat → Int32} {a : ASt} {us ks : List ASt} (h : Core c A P Nw U K w F a us ks) (hf : frm 66 w w') : Core c A P Nw U K w' F a us ks := by
  obtain ⟨h1, h2, h3, h4, ⟨n1, n2, n3, n4⟩, h6, h7⟩ := h
  have hl := n2.len
  have h9 := h1.1
  exact ⟨h1, h2, h3, h4, ⟨n1, n2, n3, n4.fr hf (by omega) (by show a.1.length ≤ 9; omega) h9⟩, h6.fr h9 (fun x g _ => hf x (by omega)) (Nat.le_refl _), h7.fr h9 (fun x g _ => hf x (by omega)) (Nat.le_refl _)⟩
theorem Core.mono {c d : Nat} {A : APl} {P : PlanV} {Nw : LineV} {U K : ShelfV} {w F : Nat → Int32} {a : ASt} {us ks : List ASt} (h : Core c A P Nw U K w F a us ks) (hcd : c ≤ d) : Core d A P Nw U K w F a us ks := by
  obtain ⟨h1, h2, h3, h4, ⟨n1, n2, n3, n4⟩, h6, h7⟩ := h
  exact ⟨h1, h2, h3, h4, ⟨n1, n2.mono hcd, n3, n4⟩, h6.fr h1.1 (fun _ _ _ => rfl) hcd, h7.fr h1.1 (fun _ _ _ => rfl) hcd⟩
theorem aPush_mem {m : Nat} {us : List ASt} {a b : ASt} (h : b ∈ aPush m us a) : b ∈ us ∨ b = a := by
  unfold aPush at h
  rcases List.mem_append.mp h with h | h
  · left
    split at h
    · exact List.mem_of_mem_tail h
    · exact h
  · right
    exact List.mem_singleton.mp h
theorem Core.push {N : Nat} (hN : 1000 ≤ N) {c : Nat} {A : APl} {P : PlanV} {Nw : LineV} {U K : ShelfV} {w F : Nat → Int32} {a : ASt} {us ks : List ASt} (h : Core c A P Nw U K w F a us ks) : ∃ S' w', MX5_push N U 8 Nw = some S' ∧ MX8_minds N w (nI us.length) = some (w', nI (aPush 8 us a).length) ∧ Core c A P Nw S' K w' F a (aPush 8 us a) ks := by
  obtain ⟨h1, h2, h3, h4, ⟨n1, n2, n3, n4⟩, ⟨u1, u2, u3, u4, u5⟩, h7⟩ := h
  have hl := n2.len
  have h9 := h1.1
  obtain ⟨S', e1, q1⟩ := p_push (N := N) (m := 8) (by omega) (by omega) h9 u1 n1 n2
  obtain ⟨w', e2, q2, f2⟩ := p_minds hN h9 n4 n2 u4 u2 u5
  refine ⟨S', w', e1, e2, h1, h2, h3, h4, ⟨n1, n2, n3, n4.cp (fun j hj => f2 _ (by omega)) (by show a.1.length ≤ 9; omega) h9⟩, ⟨q1, ?_, ?_, q2, ?_⟩, h7.fr h9 (fun x g1 g2 => f2 x (by omega)) (Nat.le_refl _)⟩
  · intro b hb
    rcases aPush_mem hb with q | q
    · exact u2 b q
    · rw [q]; exact n2
  · intro b hb
    rcases aPush_mem hb with q | q
    · exact u3 b q
    · rw [q]; exact n3
  · rw [aPush_len (by omega)]
    split <;> omega
theorem WE.join {A : APl} {a : ASt} {p : Nat} (h : WE a) : WE (aJoin A a p) := by
  intro x hx
  have hx : fset a.2.1 p 1 x = 3 := hx
  by_cases e : x = p
  · subst e; rw [fset_s] at hx; omega
  · rw [fset_n e] at hx; exact h x hx
theorem WE.go {a : ASt} {p : Nat} (h : WE a) : WE (aGo a p 2) := by
  intro x hx
  have hx : fset a.2.1 p 2 x = 3 := hx
  by_cases e : x = p
  · subst e; rw [fset_s] at hx; omega
  · rw [fset_n e] at hx; exact h x hx
theorem WE.snz {a : ASt} {p : Nat} (h : WE a) : WE (aSnz a p) := h
theorem WE.yld {a : ASt} {p : Nat} (h : WE a) : WE (aYld a p) := h
theorem WE.zero : WE aZero := fun _ h => absurd (show (0 : Nat) = 3 from h) (by decide)
def stp (a b : ASt) : Prop := b.2.2.2.2.2.1 = a.2.2.2.2.2.1 ∧ ∀ p, (a.2.1 p = 3 → b.2.1 p = 3 ∧ b.2.2.2.1 p = a.2.2.2.1 p) ∧ (a.2.1 p ≠ 3 → b.2.1 p = 3 → b.2.2.2.1 p = a.2.2.2.2.2.1) ∧ (a.2.1 p = 2 → b.2.1 p = 2)
theorem stp.rf {a : ASt} : stp a a := ⟨rfl, fun p => ⟨fun h => ⟨h, rfl⟩, fun h h' => absurd h' h, fun h => h⟩⟩
theorem stp.tr {a b d : ASt} (h : stp a b) (g : stp b d) : stp a d := by
  refine ⟨g.1.trans h.1, fun p => ⟨fun q => ?_, fun q q' => ?_, fun q => ?_⟩⟩
  · have h1 := (h.2 p).1 q
    have g1 := (g.2 p).1 h1.1
    exact ⟨g1.1, g1.2.trans h1.2⟩
  · by_cases e : b.2.1 p = 3
    · exact ((g.2 p).1 e).2.trans ((h.2 p).2.1 q e)
    · exact ((g.2 p).2.1 e q').trans h.1
  · exact (g.2 p).2.2 ((h.2 p).2.2 q)
theorem stp.join {A : APl} {a : ASt} {p : Nat} (h0 : a.2.1 p = 0) : stp a (aJoin A a p) := by
  refine ⟨rfl, fun x => ?_⟩
  have e1 : (aJoin A a p).2.1 x = fset a.2.1 p 1 x := rfl
  have e2 : (aJoin A a p).2.2.2.1 x = a.2.2.2.1 x := rfl
  rw [e1, e2]
  by_cases e : x = p
  · subst e; rw [fset_s]; omega
  · rw [fset_n e]; exact ⟨fun h => ⟨h, rfl⟩, fun h h' => absurd h' h, fun h => h⟩
theorem stp.snz {a : ASt} {p : Nat} : stp a (aSnz a p) := ⟨rfl, fun p => ⟨fun h => ⟨h, rfl⟩, fun h h' => absurd h' h, fun h => h⟩⟩
theorem stp.give {A : APl} {a : ASt} {n c : Nat} {head : Bool} (hw : WF n c a) : stp a (aGive A a head) := by
  unfold aGive
  by_cases hq : a.1 = []
  · rw [if_pos hq]; exact stp.rf
  · rw [if_neg hq]
    have hm := (hw.2.1 _).mp (who_mem (A := A) (head := head) hq)
    generalize who A a.1 head = w at hm
    refine ⟨rfl, fun x => ?_⟩
    show (a.2.1 x = 3 → fset a.2.1 w 3 x = 3 ∧ fset a.2.2.2.1 w a.2.2.2.2.2.1 x = a.2.2.2.1 x) ∧ (a.2.1 x ≠ 3 → fset a.2.1 w 3 x = 3 → fset a.2.2.2.1 w a.2.2.2.2.2.1 x = a.2.2.2.2.2.1) ∧ (a.2.1 x = 2 → fset a.2.1 w 3 x = 2)
    by_cases e : x = w
    · subst e; rw [fset_s, fset_s]; omega
    · rw [fset_n e, fset_n e]; exact ⟨fun h => ⟨h, rfl⟩, fun h h' => absurd h' h, fun h => h⟩
theorem stp.lp {n c : Nat} {f : Nat → ASt → ASt} (hf : ∀ p a, p < n → WF n c a → WF n c (f p a) ∧ stp a (f p a)) : ∀ (k i : Nat) (a : ASt), i + k ≤ n → WF n c a → stp a (aLp f k i a) := by
  intro k
  induction k with
  | zero => intro i a _ h; exact stp.rf
  | succ k ih =>
    intro i a hi h
    have h1 := hf i a (by omega) h
    exact h1.2.tr (ih (i + 1) _ (by omega) h1.1)
theorem stp.bak {A : APl} {a : ASt} {n c : Nat} {two rum : Bool} (hH : A.2.2.2.2.2.1 ≤ 40) (hw : WF n c a) : stp a (aBak A two rum a) := by
  unfold aBak
  split
  · have h9 := hw.2.2.2.2.2.2.2.2
    have hg := (hw.mono (d := c + 1) (by omega)).give (A := A) (head := rum) hH (by omega)
    split
    · exact (stp.give hw).tr (stp.give hg)
    · exact stp.give hw
  · exact stp.rf
theorem stp.min {A : APl} {a : ASt} {c : Nat} {two rum : Bool} (hA : WFP A) (hw : WF A.2.2.2.1 c a) : ∃ b, stp a b ∧ aMin A two rum a = aStd b := by
  refine ⟨_, ?_, rfl⟩
  have w1 := WF.lp (f := stJ A) (fun p a hp h => h.joins1 hp) A.2.2.2.1 0 a (by omega) hw
  have w2 := WF.lp (f := stS A) (fun p a hp h => h.snz1) A.2.2.2.1 0 _ (by omega) w1
  refine ((stp.lp (f := stJ A) (fun p a hp h => ⟨h.joins1 hp, ?_⟩) A.2.2.2.1 0 a (by omega) hw).tr (stp.lp (f := stS A) (fun p a hp h => ⟨h.snz1, ?_⟩) A.2.2.2.1 0 _ (by omega) w1)).tr (stp.bak hA.2.2.2.2.2.1 w2)
  · unfold stJ
    split
    · rename_i g
      exact stp.join g.1
    · exact stp.rf
  · unfold stS
    split
    · exact stp.snz
    · exact stp.rf
theorem min_mi {A : APl} {a : ASt} {c : Nat} {two rum : Bool} (hA : WFP A) (hw : WF A.2.2.2.1 c a) : (aMin A two rum a).2.2.2.2.2.1 = a.2.2.2.2.2.1 + 1 := by
  obtain ⟨b, hb, e⟩ := stp.min (two := two) (rum := rum) hA hw
  rw [e]
  show b.2.2.2.2.2.1 + 1 = _
  rw [hb.1]
theorem min_p {A : APl} {a : ASt} {c : Nat} {two rum : Bool} (hA : WFP A) (hw : WF A.2.2.2.1 c a) (p : Nat) : (a.2.1 p = 3 → (aMin A two rum a).2.1 p = 3 ∧ (aMin A two rum a).2.2.2.1 p = a.2.2.2.1 p) ∧ (a.2.1 p ≠ 3 → (aMin A two rum a).2.1 p = 3 → (aMin A two rum a).2.2.2.1 p = a.2.2.2.2.2.1) ∧ (a.2.1 p = 2 → (aMin A two rum a).2.1 p = 2) := by
  obtain ⟨b, hb, e⟩ := stp.min (two := two) (rum := rum) hA hw
  rw [e]
  exact hb.2 p
theorem WE.min {A : APl} {a : ASt} {c : Nat} {two rum : Bool} (hA : WFP A) (hw : WF A.2.2.2.1 c a) (h : WE a) : WE (aMin A two rum a) := by
  intro p hp
  have h1 := min_mi (two := two) (rum := rum) hA hw
  have h2 := min_p (two := two) (rum := rum) hA hw p
  rw [h1]
  by_cases e : a.2.1 p = 3
  · rw [(h2.1 e).2]
    have := h p e
    omega
  · rw [h2.2.1 e hp]
    omega
theorem WE.run {A : APl} (hA : WFP A) : ∀ (k c : Nat) (a : ASt), WF A.2.2.2.1 c a → WE a → WE (aRun A k a) := by
  intro k
  induction k with
  | zero => intro c a _ h; exact h
  | succ k ih =>
    intro c a hw h
    exact ih (c + 2) _ (hw.min hA) (h.min hA hw)
