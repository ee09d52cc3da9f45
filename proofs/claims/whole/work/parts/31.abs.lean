abbrev ASt : Type := List Nat × (Nat → Nat) × (Nat → Nat) × (Nat → Nat) × (Nat → Nat) × Nat × Nat
abbrev APl : Type := (Nat → Nat) × (Nat → Nat) × (Nat → Nat) × Nat × Nat × Nat × Nat
def fset (f : Nat → Nat) (p v : Nat) : Nat → Nat := fun x => if x = p then v else f x
theorem fset_s {f : Nat → Nat} {p v : Nat} : fset f p v p = v := by simp [fset]
theorem fset_n {f : Nat → Nat} {p v x : Nat} (h : x ≠ p) : fset f p v x = f x := by simp [fset, h]
def heat (H : Nat) : Nat → Nat
  | 0 => 0
  | k + 1 => heat H k + (H - k)
def repL (H : Nat) (L : LineV) (a : ASt) : Prop := L.2.2.2.2.2.1 = nI a.1.length ∧ repq L.1 a.1 ∧ (∀ p, p < 9 → L.2.1 p = nI (a.2.1 p)) ∧ (∀ p, p < 9 → a.2.1 p = 1 → L.2.2.1 p = nI (a.2.2.1 p)) ∧ (∀ p, p < 9 → a.2.1 p = 3 → L.2.2.2.1 p = nI (a.2.2.2.1 p) ∧ L.2.2.2.2.1 p = nI (a.2.2.2.2.1 p)) ∧ L.2.2.2.2.2.2.1 = nI a.2.2.2.2.2.1 ∧ L.2.2.2.2.2.2.2.1 = nI a.2.2.2.2.2.2 ∧ L.2.2.2.2.2.2.2.2 = nI (heat H a.2.2.2.2.2.2)
def repP (P : PlanV) (A : APl) : Prop := (∀ p, p < A.2.2.2.1 → P.1 p = nI (A.1 p) ∧ P.2.1 p = nI (A.2.1 p) ∧ P.2.2.1 p = nI (A.2.2.1 p)) ∧ P.2.2.2.1 = nI A.2.2.2.1 ∧ P.2.2.2.2.1 = nI A.2.2.2.2.1 ∧ P.2.2.2.2.2.1 = nI A.2.2.2.2.2.1 ∧ P.2.2.2.2.2.2 = nI A.2.2.2.2.2.2
def WFP (A : APl) : Prop := A.2.2.2.1 ≤ 9 ∧ 1 ≤ A.2.2.2.1 ∧ (∀ p, p < A.2.2.2.1 → A.1 p ≤ 3 ∧ A.2.1 p ≤ 1000000 ∧ A.2.2.1 p ≤ 4) ∧ 1 ≤ A.2.2.2.2.1 ∧ A.2.2.2.2.1 ≤ 9 ∧ A.2.2.2.2.2.1 ≤ 40 ∧ A.2.2.2.2.2.2 ≤ 30
def WF (n c : Nat) (a : ASt) : Prop := a.1.Nodup ∧ (∀ p, p ∈ a.1 ↔ a.2.1 p = 1) ∧ (∀ p, n ≤ p → a.2.1 p = 0) ∧ (∀ p, a.2.1 p ≤ 3) ∧ (∀ p, a.2.2.1 p ≤ c) ∧ (∀ p, a.2.2.2.1 p ≤ c) ∧ (∀ p, a.2.2.2.2.1 p ≤ 40) ∧ a.2.2.2.2.2.1 ≤ c ∧ a.2.2.2.2.2.2 ≤ 2 * c
theorem nd_len (n : Nat) : ∀ (l : List Nat), l.Nodup → (∀ x ∈ l, x < n) → l.length ≤ n := by
  induction n with
  | zero =>
    intro l _ h
    cases l with
    | nil => simp
    | cons x l => exact absurd (h x (List.mem_cons_self)) (Nat.not_lt_zero x)
  | succ n ih =>
    intro l hn h
    by_cases hm : n ∈ l
    · have h1 := ih (l.erase n) (hn.erase n) (fun x hx => by
        obtain ⟨h1, h2⟩ := (List.Nodup.mem_erase_iff hn).mp hx
        have := h x h2
        omega)
      have h2 := List.length_erase_of_mem hm
      have h3 := List.length_pos_of_mem hm
      omega
    · have h1 := ih l hn (fun x hx => by
        have := h x hx
        have : x ≠ n := fun e => hm (e ▸ hx)
        omega)
      omega
theorem WF.q9 {n c : Nat} {a : ASt} (h : WF n c a) {x : Nat} (hx : x ∈ a.1) : x < n := by
  rcases Nat.lt_or_ge x n with g | g
  · exact g
  · have h1 := (h.2.1 x).mp hx
    have h2 := h.2.2.1 x g
    omega
theorem WF.len {n c : Nat} {a : ASt} (h : WF n c a) : a.1.length ≤ n := nd_len n a.1 h.1 (fun _ hx => h.q9 hx)
theorem WF.len2 {n c p : Nat} {a : ASt} (h : WF n c a) (hp : p < n) (hw : a.2.1 p ≠ 1) : a.1.length + 1 ≤ n := by
  have h1 : (p :: a.1).Nodup := List.nodup_cons.mpr ⟨fun hm => hw ((h.2.1 p).mp hm), h.1⟩
  exact nd_len n (p :: a.1) h1 (fun x hx => by
    rcases List.mem_cons.mp hx with e | e
    · omega
    · exact h.q9 e)
def jpl (A : APl) (q : List Nat) (p : Nat) : Nat := match q with
  | [] => 0
  | t :: _ => if A.1 t = 1 ∧ (A.2.2.1 t = 0 ∨ A.2.2.1 t ≠ A.2.2.1 p) then 1 else 0
def aJoin (A : APl) (a : ASt) (p : Nat) : ASt := (a.1.insertIdx (jpl A a.1 p) p, fset a.2.1 p 1, fset a.2.2.1 p 0, a.2.2.2)
def aGo (a : ASt) (p w : Nat) : ASt := (a.1.erase p, fset a.2.1 p w, a.2.2)
def aSnz (a : ASt) (p : Nat) : ASt := (a.1.erase p ++ [p], a.2.1, fset a.2.2.1 p 0, a.2.2.2)
def aYld (a : ASt) (p : Nat) : ASt := ((a.1.set (a.1.idxOf p) (a.1.getD (a.1.idxOf p + 1) 0)).set (a.1.idxOf p + 1) p, a.2)
theorem jpl_le {A : APl} {q : List Nat} {p : Nat} : jpl A q p ≤ q.length := by
  unfold jpl
  cases q with
  | nil => simp
  | cons t l =>
    simp only [List.length_cons]
    split <;> omega
theorem jpl_le1 {A : APl} {q : List Nat} {p : Nat} : jpl A q p ≤ 1 := by
  unfold jpl
  cases q with
  | nil => simp
  | cons t l => simp only; split <;> omega
theorem WF.join {A : APl} {n c p : Nat} {a : ASt} (h : WF n c a) (hp : p < n) (hw : a.2.1 p ≠ 1) : WF n c (aJoin A a p) := by
  obtain ⟨h1, h2, h3, h4, h5, h6⟩ := h
  have hnm : p ∉ a.1 := fun hm => hw ((h2 p).mp hm)
  refine ⟨?_, ?_, ?_, ?_, ?_, h6⟩
  · have hpm : (p :: a.1).Nodup := List.nodup_cons.mpr ⟨hnm, h1⟩
    exact (List.perm_insertIdx p a.1 jpl_le).symm.nodup hpm
  · intro x
    show x ∈ a.1.insertIdx _ p ↔ fset a.2.1 p 1 x = 1
    rw [(List.perm_insertIdx p a.1 (jpl_le (A := A))).mem_iff, List.mem_cons]
    by_cases hx : x = p
    · subst hx; simp [fset]
    · simp [fset, hx, h2]
  · intro x hx
    show fset a.2.1 p 1 x = 0
    rw [fset_n (by omega)]
    exact h3 x hx
  · intro x
    show fset a.2.1 p 1 x ≤ 3
    unfold fset
    split
    · omega
    · exact h4 x
  · intro x
    show fset a.2.2.1 p 0 x ≤ c
    unfold fset
    split
    · omega
    · exact h5 x
theorem WF.go {n c p w : Nat} {a : ASt} (h : WF n c a) (hp : p < n) (hw : w ≤ 3) (hw1 : w ≠ 1) : WF n c (aGo a p w) := by
  obtain ⟨h1, h2, h3, h4, h5⟩ := h
  refine ⟨h1.erase p, ?_, ?_, ?_, h5⟩
  · intro x
    show x ∈ a.1.erase p ↔ fset a.2.1 p w x = 1
    rw [List.Nodup.mem_erase_iff h1]
    by_cases hx : x = p
    · subst hx; simp [fset, hw1]
    · simp [fset, hx, h2]
  · intro x hx
    show fset a.2.1 p w x = 0
    rw [fset_n (by omega)]
    exact h3 x hx
  · intro x
    show fset a.2.1 p w x ≤ 3
    unfold fset
    split
    · omega
    · exact h4 x
theorem perm_snz {q : List Nat} {p : Nat} (hm : p ∈ q) : (q.erase p ++ [p]).Perm q := (List.perm_append_comm (l₁ := q.erase p) (l₂ := [p])).trans (List.perm_cons_erase hm).symm
theorem WF.snz {n c p : Nat} {a : ASt} (h : WF n c a) (hw : a.2.1 p = 1) : WF n c (aSnz a p) := by
  obtain ⟨h1, h2, h3, h4, h5, h6⟩ := h
  have hp := perm_snz ((h2 p).mpr hw)
  refine ⟨hp.symm.nodup h1, fun x => ?_, h3, h4, ?_, h6⟩
  · exact hp.mem_iff.trans (h2 x)
  · intro x
    show fset a.2.2.1 p 0 x ≤ c
    unfold fset
    split
    · omega
    · exact h5 x
