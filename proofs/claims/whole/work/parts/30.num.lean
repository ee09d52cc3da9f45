theorem k0 : (0 : Int32) = nI 0 := rfl
theorem k1 : (1 : Int32) = nI 1 := rfl
theorem k2 : (2 : Int32) = nI 2 := rfl
theorem k3 : (3 : Int32) = nI 3 := rfl
theorem k4 : (4 : Int32) = nI 4 := rfl
theorem k5 : (5 : Int32) = nI 5 := rfl
theorem k6 : (6 : Int32) = nI 6 := rfl
theorem k7 : (7 : Int32) = nI 7 := rfl
theorem k8 : (8 : Int32) = nI 8 := rfl
theorem k9 : (9 : Int32) = nI 9 := rfl
theorem k10 : (10 : Int32) = nI 10 := rfl
theorem k12 : (12 : Int32) = nI 12 := rfl
theorem k20 : (20 : Int32) = nI 20 := rfl
theorem k21 : (21 : Int32) = nI 21 := rfl
theorem k30 : (30 : Int32) = nI 30 := rfl
theorem k31 : (31 : Int32) = nI 31 := rfl
theorem k32 : (32 : Int32) = nI 32 := rfl
theorem k39 : (39 : Int32) = nI 39 := rfl
theorem k40 : (40 : Int32) = nI 40 := rfl
theorem k44 : (44 : Int32) = nI 44 := rfl
theorem k48 : (48 : Int32) = nI 48 := rfl
theorem k57 : (57 : Int32) = nI 57 := rfl
theorem k59 : (59 : Int32) = nI 59 := rfl
theorem k60 : (60 : Int32) = nI 60 := rfl
theorem k66 : (66 : Int32) = nI 66 := rfl
theorem k99 : (99 : Int32) = nI 99 := rfl
theorem k100 : (100 : Int32) = nI 100 := rfl
theorem k120 : (120 : Int32) = nI 120 := rfl
theorem k126 : (126 : Int32) = nI 126 := rfl
theorem k132 : (132 : Int32) = nI 132 := rfl
theorem k200 : (200 : Int32) = nI 200 := rfl
theorem k264 : (264 : Int32) = nI 264 := rfl
theorem k462 : (462 : Int32) = nI 462 := rfl
theorem k512 : (512 : Int32) = nI 512 := rfl
theorem MG_ok {α : Type} {i n : Nat} {k : Option α} (h : i < n) (hn : n < 2 ^ 31) : MG (nI i) n k = k := by
  unfold MG
  rw [if_neg (vp_in_nI h hn)]
theorem nI_m1 {p : Nat} (h : 0 < p) : nI p + (-1) = nI (p - 1) := sb_m1 h
theorem nI_lt0 {a : Nat} (h : a < 2 ^ 31) : (nI a < nI 0) ↔ False := by
  rw [nI_ltI h (by decide)]; simp
theorem nI_ge0 {a : Nat} (h : a < 2 ^ 31) : (nI 0 ≤ nI a) ↔ True := by
  rw [nI_leI (by decide) h]; simp
theorem n4_lt : ((-4 : Int32) < nI 0) := by decide
theorem n4_ge : ¬ (nI 0 ≤ (-4 : Int32)) := by decide
def repq (f : Nat → Int32) (q : List Nat) : Prop := ∀ i x, q[i]? = some x → f i = nI x
def plcF : List Nat → Nat → Nat → Int32
  | [], _, _ => -4
  | x :: l, i, p => if x = p then nI i else plcF l (i + 1) p
theorem plcF_eq (p : Nat) : ∀ (q : List Nat) (i : Nat), plcF q i p = if p ∈ q then nI (i + q.idxOf p) else -4 := by
  intro q
  induction q with
  | nil => intro i; simp [plcF]
  | cons x l ih =>
    intro i
    rw [plcF, ih]
    by_cases h : x = p
    · subst h; simp
    · have h' : ¬ p = x := fun e => h e.symm
      rw [if_neg h]
      by_cases hm : p ∈ l
      · rw [if_pos hm, if_pos (List.mem_cons_of_mem _ hm), List.idxOf_cons]
        have hb : (x == p) = false := by simp [h]
        rw [hb]
        show nI (i + 1 + l.idxOf p) = nI (i + (l.idxOf p + 1))
        congr 1
        omega
      · simp [hm, h']
theorem repq.at {f : Nat → Int32} {q : List Nat} (h : repq f q) {i : Nat} (hi : i < q.length) : f i = nI q[i] := h i _ (List.getElem?_eq_getElem hi)
theorem p_placeOf_l {L : LineV} {q : List Nat} (hs : L.2.2.2.2.2.1 = nI q.length) (ho : repq L.1 q) (hl : q.length ≤ 9) (hq : ∀ x ∈ q, x < 9) {p : Nat} (hp : p < 2 ^ 31) : ∀ (n i : Nat), q.length < n + i → i ≤ q.length → MX1_placeOf_l2 L (nI p) n (nI i) = some (plcF (q.drop i) i p) := by
  intro n
  induction n with
  | zero => intro i h1 h2; omega
  | succ n ih =>
    intro i h1 h2
    rw [MX1_placeOf_l2, hs]
    by_cases hi : i = q.length
    · subst hi
      simp (disch := omega) only [nI_leI, Nat.le_refl, if_true, MX1_placeOf_j34, List.drop_length, plcF]
    · have hi : i < q.length := by omega
      have hx := ho.at hi
      have hx9 : q[i] < 9 := hq _ (List.getElem_mem hi)
      simp (disch := omega) only [k9, k1, nI_leI, nI_clamp, nI_eq, nI_add, MG_ok, hx]
      rw [if_neg (by omega), if_neg (by omega), List.drop_eq_getElem_cons hi, plcF]
      by_cases he : q[i] = p
      · simp [he]
      · simp only [he, if_false]
        exact ih (i + 1) (by omega) (by omega)
theorem p_placeOf {N : Nat} (hN : 100 ≤ N) {L : LineV} {q : List Nat} (hs : L.2.2.2.2.2.1 = nI q.length) (ho : repq L.1 q) (hl : q.length ≤ 9) (hq : ∀ x ∈ q, x < 9) {p : Nat} (hp : p < 2 ^ 31) : MX1_placeOf N L (nI p) = some (if p ∈ q then nI (q.idxOf p) else -4) := by
  unfold MX1_placeOf
  have := p_placeOf_l hs ho hl hq hp N 0 (by omega) (by omega)
  rw [k0, this, List.drop_zero, plcF_eq]
  simp
