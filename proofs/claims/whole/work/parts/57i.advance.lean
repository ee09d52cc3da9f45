def tI : Nat → Int32
  | 0 => -1
  | s + 1 => nI s
def fT (π : Nat → Nat) : Nat → Nat
  | 0 => 0
  | t + 1 => if π t ≤ π (t + 1) then t + 1 else fT π t
def fL (π : Nat → Nat) (t : Nat) : Nat → Nat
  | 0 => 0
  | j + 1 => if j + 1 ≤ t + 1 then j + 1 else if π t ≤ π (j + 1) then j + 1 else fL π t j
def sw (π : Nat → Nat) (i j : Nat) : Nat → Nat := fun x => if x = j then π i else if x = i then π j else π x
def rv : Nat → Nat → Nat → (Nat → Nat) → Nat → Nat
  | 0, _, _, π => π
  | f + 1, lo, hi, π => if hi ≤ lo then π else rv f (lo + 1) (hi - 1) (sw π lo hi)
def ARp (k : Nat) (mf : Nat → Nat) (g : Nat → Int32) (π : Nat → Nat) : Prop := ∀ j, j < k → π j < k ∧ g j = nI (mf (π j))
def mMono (k : Nat) (mf : Nat → Nat) : Prop := (∀ i j, i < j → j < k → mf i < mf j) ∧ ∀ i, i < k → mf i < 9
theorem m_le {k : Nat} {mf : Nat → Nat} (h : mMono k mf) {a b : Nat} (ha : a < k) (hb : b < k) : (nI (mf a) ≤ nI (mf b)) ↔ a ≤ b := by
  have h1 := h.2 a ha
  have h2 := h.2 b hb
  rw [nI_leI (by omega) (by omega)]
  constructor
  · intro q
    rcases Nat.lt_or_ge b a with z | z
    · have := h.1 b a z ha
      omega
    · exact z
  · intro q
    rcases Nat.lt_or_ge a b with z | z
    · have := h.1 a b z hb
      omega
    · rw [show a = b by omega]
      exact Nat.le_refl _
theorem tI_pred (s : Nat) : nI s + (-1 : Int32) = tI s := by
  cases s with
  | zero => rfl
  | succ s => exact pk_m1 s
theorem p_adv7 {N k : Nat} {mf : Nat → Nat} {O : OrdV} {π : Nat → Nat} (hk : k ≤ 5) (hm : mMono k mf) (hA : ARp k mf O.1 π) : ∀ (s m : Nat), s < k → s < m → MX2_advance_l17 N O m (tI s) = MX2_advance_j44 N O (tI (fT π s)) := by
  intro s
  induction s with
  | zero =>
    intro m h1 h2
    obtain ⟨m, rfl⟩ : ∃ j, m = j + 1 := ⟨m - 1, by omega⟩
    rw [MX2_advance_l17, if_pos (show tI 0 < 0 by decide)]
    rfl
  | succ s ih =>
    intro m h1 h2
    obtain ⟨m, rfl⟩ : ∃ j, m = j + 1 := ⟨m - 1, by omega⟩
    have e0 : tI (s + 1) = nI s := rfl
    obtain ⟨a1, a2⟩ := hA s (by omega)
    obtain ⟨b1, b2⟩ := hA (s + 1) (by omega)
    rw [MX2_advance_l17, e0, if_neg (nI_pos (by omega)), nI_1]
    simp (disch := omega) only [MG_ok, nI_clamp, a2, b2]
    rw [fT]
    by_cases g : π s ≤ π (s + 1)
    · rw [if_pos ((m_le hm a1 b1).mpr g), if_pos g]
      rfl
    · rw [if_neg (fun q => g ((m_le hm a1 b1).mp q)), if_neg g, tI_pred]
      exact ih m (by omega) (by omega)
theorem fT_le {π : Nat → Nat} : ∀ (s : Nat), fT π s ≤ s := by
  intro s
  induction s with
  | zero => exact Nat.le_refl _
  | succ s ih => rw [fT]; split <;> omega
theorem fL_le {π : Nat → Nat} {t : Nat} : ∀ (j : Nat), fL π t j ≤ j := by
  intro j
  induction j with
  | zero => exact Nat.le_refl _
  | succ j ih =>
    rw [fL]
    split
    · omega
    · split <;> omega
theorem p_adv47 {N k t : Nat} {mf : Nat → Nat} {O : OrdV} {π : Nat → Nat} (hk : k ≤ 5) (hm : mMono k mf) (hA : ARp k mf O.1 π) (ht : t < k) : ∀ (j m : Nat), j < k → t + 1 ≤ j → j < m → MX2_advance_l57 N O (nI t) m (nI j) = MX2_advance_j85 N O (nI t) (nI (fL π t j)) := by
  intro j
  induction j with
  | zero => intro m h1 h2; omega
  | succ j ih =>
    intro m h1 h2 h3
    obtain ⟨m, rfl⟩ : ∃ q, m = q + 1 := ⟨m - 1, by omega⟩
    obtain ⟨a1, a2⟩ := hA t ht
    obtain ⟨b1, b2⟩ := hA (j + 1) (by omega)
    rw [MX2_advance_l57, nI_1, fL]
    by_cases g1 : j + 1 ≤ t + 1
    · rw [if_pos (nI_le g1 (by omega)), if_pos g1]
    · rw [if_neg (nI_ge (by omega) (by omega)), if_neg g1]
      simp (disch := omega) only [MG_ok, nI_clamp, a2, b2]
      by_cases g : π t ≤ π (j + 1)
      · rw [if_pos ((m_le hm a1 b1).mpr g), if_pos g]
      · rw [if_neg (fun q => g ((m_le hm a1 b1).mp q)), if_neg g, tI_pred]
        exact ih m (by omega) (by omega) (by omega)
theorem p_swap {N k : Nat} {mf : Nat → Nat} {O : OrdV} {π : Nat → Nat} (hk : k ≤ 5) (hA : ARp k mf O.1 π) {i j : Nat} (hi : i < k) (hj : j < k) : ∃ g, MX2_swap N O (nI i) (nI j) = some g ∧ ARp k mf g (sw π i j) := by
  unfold MX2_swap
  rw [if_neg (nI_pos (n := i) (by omega)), if_neg (show ¬ (5 : Int32) ≤ nI i from nI_ge (b := 5) (by omega) (by omega)), if_neg (nI_pos (n := j) (by omega)), if_pos (show nI j < (5 : Int32) from nI_lt (b := 5) (by omega) (by omega))]
  simp (disch := omega) only [MLet, MG_ok, nI_clamp]
  refine ⟨_, rfl, fun x hx => ?_⟩
  unfold sw
  by_cases e1 : x = j
  · subst e1
    rw [if_pos rfl, pk_us]
    exact hA i hi
  · rw [if_neg e1, pk_un e1]
    by_cases e2 : x = i
    · subst e2
      rw [if_pos rfl, pk_us]
      exact hA j hj
    · rw [if_neg e2, pk_un e2]
      exact hA x hx
theorem p_adv93 {N k : Nat} {mf : Nat → Nat} {O : OrdV} (hk : k ≤ 5) : ∀ (f m lo hi : Nat) (π : Nat → Nat) (g : Nat → Int32), hi ≤ lo + f → f < m → hi < k → lo < 10 → ARp k mf g π → ∃ g', MX2_advance_l103 N O m (nI lo) (nI hi) g = some ((1 : Int32), g') ∧ ARp k mf g' (rv f lo hi π) := by
  intro f
  induction f with
  | zero =>
    intro m lo hi π g h1 h2 h3 h4 hA
    obtain ⟨m, rfl⟩ : ∃ q, m = q + 1 := ⟨m - 1, by omega⟩
    rw [MX2_advance_l103, if_pos (nI_le (by omega) (by omega))]
    exact ⟨g, rfl, hA⟩
  | succ f ih =>
    intro m lo hi π g h1 h2 h3 h4 hA
    obtain ⟨m, rfl⟩ : ∃ q, m = q + 1 := ⟨m - 1, by omega⟩
    rw [MX2_advance_l103, rv]
    by_cases q : hi ≤ lo
    · rw [if_pos (nI_le q (by omega)), if_pos q]
      exact ⟨g, rfl, hA⟩
    · obtain ⟨g1, e1, A1⟩ := p_swap (N := N) (O := (g, O.2)) hk hA (show lo < k by omega) h3
      rw [if_neg (nI_ge (by omega) (by omega)), if_neg q, e1]
      simp only [Option.bind_some]
      have e2 : nI hi + (-1 : Int32) = nI (hi - 1) := nI_m1 (by omega)
      rw [e2, nI_1]
      exact ih m (lo + 1) (hi - 1) _ g1 (by omega) (by omega) (by omega) (by omega) A1
def adv (k : Nat) (π : Nat → Nat) : Nat → Nat := rv 5 (fT π (k - 1)) (k - 1) (sw π (fT π (k - 1) - 1) (fL π (fT π (k - 1) - 1) (k - 1)))
theorem p_advance {N k : Nat} (hN : 100 ≤ N) {mf : Nat → Nat} {O : OrdV} {π : Nat → Nat} (hk : k ≤ 5) (hk1 : 1 ≤ k) (hm : mMono k mf) (hs : O.2.2 = nI k) (hA : ARp k mf O.1 π) : (fT π (k - 1) = 0 ∧ MX2_advance N O = some ((0 : Int32), O.1)) ∨ (fT π (k - 1) ≠ 0 ∧ ∃ g, MX2_advance N O = some ((1 : Int32), g) ∧ ARp k mf g (adv k π)) := by
  have e0 : nI k - (2 : Int32) = tI (k - 1) := by
    cases k with
    | zero => omega
    | succ k =>
      cases k with
      | zero => decide
      | succ k => exact pk_sub (b := 2) (by omega)
  have e1 : nI k - (1 : Int32) = nI (k - 1) := pk_sub (b := 1) hk1
  have h7 := p_adv7 (N := N) hk hm hA (k - 1) N (by omega) (by omega)
  unfold MX2_advance
  simp only [MLet]
  rw [hs, if_pos (show nI k ≤ (5 : Int32) from nI_le (b := 5) hk (by omega)), e0, h7]
  have hle := fT_le (π := π) (k - 1)
  unfold MX2_advance_j44
  simp only [MLet]
  rw [hs, e1]
  by_cases g : fT π (k - 1) = 0
  · left
    rw [g, if_neg (show ¬ (0 : Int32) ≤ tI 0 by decide)]
    exact ⟨rfl, rfl⟩
  · right
    refine ⟨g, ?_⟩
    obtain ⟨t, ht⟩ : ∃ t, fT π (k - 1) = t + 1 := ⟨fT π (k - 1) - 1, by omega⟩
    have h47 := p_adv47 (N := N) hk hm hA (show t < k by omega) (k - 1) N (by omega) (by omega) (by omega)
    have hL := fL_le (π := π) (t := t) (k - 1)
    unfold adv
    rw [ht, show tI (t + 1) = nI t from rfl, if_pos (nI_pos' (by omega)), h47]
    unfold MX2_advance_j85
    obtain ⟨g1, e2, A1⟩ := p_swap (N := N) (O := O) hk hA (show t < k by omega) (show fL π t (k - 1) < k by omega)
    rw [e2]
    simp only [Option.bind_some, MLet]
    rw [hs, e1, nI_1]
    exact p_adv93 (N := N) hk 5 N (t + 1) (k - 1) _ g1 (by omega) (by omega) (by omega) (by omega) A1
def pf (L : List Nat) : Nat → Nat := fun j => L.getD j 0
def advL (k : Nat) (L : List Nat) : Option (List Nat) := if fT (pf L) (k - 1) = 0 then none else some ((List.range k).map (adv k (pf L)))
def IT (k : Nat) : Nat → List Nat → List (List Nat)
  | 0, _ => []
  | f + 1, L => L :: (match advL k L with
    | none => []
    | some L' => IT k f L')
def cd (k : Nat) : Nat → Nat → Int32 → List Nat → Int32 × List Nat
  | 0, _, st, acc => (st, acc)
  | e + 1, left, st, acc => cd k e (left / k) (st ||| ((1 : Int32) <<< (nI (left % k) &&& 31))) (left % k :: acc)
def fullS (k : Nat) : Int32 := ((1 : Int32) <<< (nI k &&& 31)) - (1 : Int32)
def CL (k : Nat) : Nat → Nat → List (List Nat)
  | 0, _ => []
  | r + 1, c => if (cd k k c 0 []).1 = fullS k then (cd k k c 0 []).2 :: CL k r (c + 1) else CL k r (c + 1)
def goodB (k : Nat) (L : List Nat) : Bool := decide (L.length = k) && (L.all (fun x => decide (x < k)) && (decide (L.Nodup) && (List.range k).all (fun i => decide (i ∈ L))))
theorem enum1 : IT 1 120 (List.range 1) = CL 1 (1 ^ 1) 0 ∧ (CL 1 (1 ^ 1) 0).all (goodB 1) = true := by decide +kernel
theorem enum2 : IT 2 120 (List.range 2) = CL 2 (2 ^ 2) 0 ∧ (CL 2 (2 ^ 2) 0).all (goodB 2) = true := by decide +kernel
theorem enum3 : IT 3 120 (List.range 3) = CL 3 (3 ^ 3) 0 ∧ (CL 3 (3 ^ 3) 0).all (goodB 3) = true := by decide +kernel
theorem enum4 : IT 4 120 (List.range 4) = CL 4 (4 ^ 4) 0 ∧ (CL 4 (4 ^ 4) 0).all (goodB 4) = true := by decide +kernel
theorem enum5 : IT 5 120 (List.range 5) = CL 5 (5 ^ 5) 0 ∧ (CL 5 (5 ^ 5) 0).all (goodB 5) = true := by decide +kernel
theorem enum_ok {k : Nat} (h1 : 1 ≤ k) (h5 : k ≤ 5) : IT k 120 (List.range k) = CL k (k ^ k) 0 ∧ (CL k (k ^ k) 0).all (goodB k) = true := by
  rcases (show k = 1 ∨ k = 2 ∨ k = 3 ∨ k = 4 ∨ k = 5 by omega) with e | e | e | e | e
  · subst e; exact enum1
  · subst e; exact enum2
  · subst e; exact enum3
  · subst e; exact enum4
  · subst e; exact enum5
