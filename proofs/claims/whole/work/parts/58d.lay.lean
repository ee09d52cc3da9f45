theorem m_beg0_l {N : Nat} {F rk rc rf : Nat → Int32} {rn rg rw rr : Int32} : ∀ (m i : Nat) (w : Nat → Int32), i ≤ 66 → 66 < m + i → (∀ x, x < i → w x = nI 0) → ∃ w', MX8_begins_l34 N F rn rk rc rf rg rw rr m (nI i) w = MX8_begins_j53 N F rn rk rc rf rg rw rr w' ∧ ∀ x, x < 66 → w' x = nI 0 := by
  intro m
  induction m with
  | zero => intro i w h1 h2; omega
  | succ m ih =>
    intro i w h1 h2 h3
    rw [MX8_begins_l34]
    by_cases hi : i = 66
    · subst hi
      rw [if_pos (by decide)]
      exact ⟨w, rfl, h3⟩
    · rw [if_neg (show ¬ (66 : Int32) ≤ nI i from nI_ge (b := 66) (by omega) (by omega))]
      simp (disch := omega) only [MG_ok, nI_clamp]
      rw [nI_1]
      refine ih (i + 1) _ (by omega) (by omega) (fun x hx => ?_)
      by_cases e : x = i
      · subst e; exact pk_us
      · rw [pk_un e]; exact h3 x (by omega)
theorem m_beg1_l {Q : PlanV} {A : APl} {rg rw rr : Int32} (hQ : repP Q A) (h9 : A.2.2.2.1 ≤ 9) : ∀ (m k i : Nat) (w F : Nat → Int32), i + k = A.2.2.2.1 → k < m → (∀ x, x < 30 → w x = nI 0) → (∀ p, p < i → w (30 + p) = -4 ∧ w (39 + p) = -4 ∧ w (48 + p) = nI (A.2.1 p) ∧ w (57 + p) = nI (A.1 p) ∧ F p = nI (A.2.2.1 p)) →
    ∃ w' F', MX8_begins_l55 (nI A.2.2.2.1) Q.1 Q.2.1 Q.2.2.1 rg rw rr m (nI i) w F = some (w', (0 : Int32), (0 : Int32), nI A.2.2.2.1, F', rg, rw, rr, (0 : Int32)) ∧ (∀ x, x < 30 → w' x = nI 0) ∧ (∀ p, p < A.2.2.2.1 → w' (30 + p) = -4 ∧ w' (39 + p) = -4 ∧ w' (48 + p) = nI (A.2.1 p) ∧ w' (57 + p) = nI (A.1 p) ∧ F' p = nI (A.2.2.1 p)) := by
  intro m
  induction m with
  | zero => intro k i w F h1 h2; omega
  | succ m ih =>
    intro k i w F h1 h2 h3 h4
    rw [MX8_begins_l55]
    cases k with
    | zero =>
      have e : i = A.2.2.2.1 := by omega
      subst e
      rw [if_pos (nI_le (by omega) (by omega))]
      exact ⟨w, F, rfl, h3, h4⟩
    | succ k =>
      have hi : i < A.2.2.2.1 := by omega
      obtain ⟨b1', b2, b3⟩ := hQ.1 i hi
      rw [if_neg (nI_ge hi (by omega))]
      simp (disch := omega) only [k48, k57, k30, k39, nI_add, MG_ok, nI_clamp, b1', b2, b3]
      rw [nI_1]
      refine ih k (i + 1) _ _ (by omega) (by omega) (fun x hx => ?_) (fun p hp => ?_)
      · rw [pk_un (by omega), pk_un (by omega), pk_un (by omega), pk_un (by omega)]
        exact h3 x hx
      · by_cases e : p = i
        · subst e
          refine ⟨?_, pk_us, ?_, ?_, pk_us⟩
          · rw [pk_un (by omega), pk_us]
          · rw [pk_un (by omega), pk_un (by omega), pk_un (by omega), pk_us]
          · rw [pk_un (by omega), pk_un (by omega), pk_us]
        · obtain ⟨c1, c2, c3, c4, c5⟩ := h4 p (by omega)
          refine ⟨?_, ?_, ?_, ?_, ?_⟩
          · rw [pk_un (by omega), pk_un (by omega), pk_un (by omega), pk_un (by omega)]; exact c1
          · rw [pk_un (by omega), pk_un (by omega), pk_un (by omega), pk_un (by omega)]; exact c2
          · rw [pk_un (by omega), pk_un (by omega), pk_un (by omega), pk_un (by omega)]; exact c3
          · rw [pk_un (by omega), pk_un (by omega), pk_un (by omega), pk_un (by omega)]; exact c4
          · rw [pk_un e]; exact c5
theorem repK_zero {w : Nat → Int32} {A : APl} (h9 : A.2.2.2.1 ≤ 9) (h1 : ∀ x, x < 30 → w x = nI 0) (h2 : ∀ p, p < A.2.2.2.1 → w (30 + p) = -4 ∧ w (39 + p) = -4 ∧ w (48 + p) = nI (A.2.1 p) ∧ w (57 + p) = nI (A.1 p)) : repK 0 w A (mOf aZero) := by
  refine ⟨h1 0 (by omega), h1 1 (by omega), h1 2 (by omega), ?_, ?_, ?_, ?_, ?_, ?_⟩
  · intro i x hx
    have hx : ([] : List Nat)[i]? = some x := hx
    simp at hx
  · intro p hp
    rw [Nat.zero_add]
    exact h1 (12 + p) (by omega)
  · intro p hp
    rw [Nat.zero_add]
    exact h1 (21 + p) (by omega)
  · intro p hp
    rw [Nat.zero_add]
    exact (h2 p hp).1
  · intro p hp
    rw [Nat.zero_add]
    exact (h2 p hp).2.1
  · intro p hp
    rw [Nat.zero_add, Nat.zero_add]
    exact ⟨(h2 p hp).2.2.1, (h2 p hp).2.2.2⟩
theorem m_begins {N : Nat} (hN : 1000 ≤ N) {Q : PlanV} {A : APl} (hQ : repP Q A) (h9 : A.2.2.2.1 ≤ 9) (w F : Nat → Int32) : ∃ w' F', MX8_begins N w F Q.2.2.2.1 Q.1 Q.2.1 Q.2.2.1 Q.2.2.2.2.1 Q.2.2.2.2.2.1 Q.2.2.2.2.2.2 = some (w', (0 : Int32), (0 : Int32), nI A.2.2.2.1, F', nI A.2.2.2.2.1, nI A.2.2.2.2.2.1, nI A.2.2.2.2.2.2, (0 : Int32)) ∧ repK 0 w' A (mOf aZero) ∧ rfF F' A := by
  obtain ⟨w1, e1, q1⟩ := m_beg0_l (N := N) (F := F) (rk := Q.1) (rc := Q.2.1) (rf := Q.2.2.1) (rn := nI A.2.2.2.1) (rg := nI A.2.2.2.2.1) (rw := nI A.2.2.2.2.2.1) (rr := nI A.2.2.2.2.2.2) N 0 w (by omega) (by omega) (fun x hx => absurd hx (Nat.not_lt_zero x))
  obtain ⟨w2, F2, e2, q2, q3⟩ := m_beg1_l (rg := nI A.2.2.2.2.1) (rw := nI A.2.2.2.2.2.1) (rr := nI A.2.2.2.2.2.2) hQ h9 N A.2.2.2.1 0 w1 F (by omega) (by omega) (fun x hx => q1 x (by omega)) (fun p hp => absurd hp (Nat.not_lt_zero p))
  refine ⟨w2, F2, ?_, repK_zero h9 q2 (fun p hp => ⟨(q3 p hp).1, (q3 p hp).2.1, (q3 p hp).2.2.1, (q3 p hp).2.2.2.1⟩), fun p hp => (q3 p hp).2.2.2.2⟩
  unfold MX8_begins
  rw [hQ.2.1, hQ.2.2.1, hQ.2.2.2.1, hQ.2.2.2.2]
  have e1' : MX8_begins_l34 N F (nI A.2.2.2.1) Q.1 Q.2.1 Q.2.2.1 (nI A.2.2.2.2.1) (nI A.2.2.2.2.2.1) (nI A.2.2.2.2.2.2) N (0 : Int32) w = _ := e1
  rw [e1']
  unfold MX8_begins_j53
  exact e2
theorem WD.p {A : APl} (h : WD A) (h1 : 1 ≤ A.2.2.2.1) : WFP A := by
  obtain ⟨a1, a2, a3, a4, a5, a6, a7⟩ := h
  exact ⟨a1, h1, a2, a3, a4, a5, a6⟩
theorem s_lay {N : Nat} (hN : 100000 ≤ N) {c : Nat} {A : APl} {P : PlanV} {Nw : LineV} {U K : ShelfV} {w F : Nat → Int32} {a : ASt} {us ks : List ASt} (h : Core c A P Nw U K w F a us ks) {S : SeenV} {sn : Int32} {s1 s2 s3 : Nat → Int32} {sl : SeL} (hS : SeR A.2.2.2.1 S sn s1 s2 s3 sl) {Tx : TextV} {tx : Nat → Int32} {tn : Int32} {tl : List Nat} (hT : TxR Tx tx tn tl) (D : PlanV) (num : Int32) (rk rc rf : Nat → Int32) : ∃ u v, MX7_lay N Tx D P Nw S U K = some u ∧ MX8_lay N w (nI us.length) (nI ks.length) (nI A.2.2.2.1) F (nI A.2.2.2.2.1) (nI A.2.2.2.2.2.1) (nI A.2.2.2.2.2.2) sn tx tn num rk rc rf = some v ∧ u.1 = v.1 ∧ ∃ A' a' us' ks' sl', Core c A' (u.2.2.2.2.2.2.2.2.2.1, u.2.2.2.2.2.2.2.2.2.2.1, u.2.2.2.2.2.2.2.2.2.2.2.1, u.2.2.2.2.2.2.2.2.2.2.2.2.1, u.2.2.2.2.2.2.2.2.2.2.2.2.2.1, u.2.2.2.2.2.2.2.2.2.2.2.2.2.2.1, u.2.2.2.2.2.2.2.2.2.2.2.2.2.2.2.1) (u.2.2.2.2.2.2.2.2.2.2.2.2.2.2.2.2.1, u.2.2.2.2.2.2.2.2.2.2.2.2.2.2.2.2.2.1, u.2.2.2.2.2.2.2.2.2.2.2.2.2.2.2.2.2.2.1, u.2.2.2.2.2.2.2.2.2.2.2.2.2.2.2.2.2.2.2.1, u.2.2.2.2.2.2.2.2.2.2.2.2.2.2.2.2.2.2.2.2.1, u.2.2.2.2.2.2.2.2.2.2.2.2.2.2.2.2.2.2.2.2.2.1, u.2.2.2.2.2.2.2.2.2.2.2.2.2.2.2.2.2.2.2.2.2.2.1, u.2.2.2.2.2.2.2.2.2.2.2.2.2.2.2.2.2.2.2.2.2.2.2.1, u.2.2.2.2.2.2.2.2.2.2.2.2.2.2.2.2.2.2.2.2.2.2.2.2.1) (U.1, u.2.2.2.2.2.2.2.2.2.2.2.2.2.2.2.2.2.2.2.2.2.2.2.2.2.2.1, U.2.2) (K.1, u.2.2.2.2.2.2.2.2.2.2.2.2.2.2.2.2.2.2.2.2.2.2.2.2.2.2.2, K.2.2) v.2.1 v.2.2.2.2.2.1 a' us' ks' ∧ v.2.2.1 = nI us'.length ∧ v.2.2.2.1 = nI ks'.length ∧ v.2.2.2.2.1 = nI A'.2.2.2.1 ∧ v.2.2.2.2.2.2.1 = nI A'.2.2.2.2.1 ∧ v.2.2.2.2.2.2.2.1 = nI A'.2.2.2.2.2.1 ∧ v.2.2.2.2.2.2.2.2.1 = nI A'.2.2.2.2.2.2 ∧ SeR A'.2.2.2.1 (S.1, S.2.1, S.2.2.1, u.2.2.2.2.2.2.2.2.2.2.2.2.2.2.2.2.2.2.2.2.2.2.2.2.2.1) v.2.2.2.2.2.2.2.2.2.1 s1 s2 s3 sl' := by
  obtain ⟨c1, c2, c3, c4, c5, c6, c7⟩ := id h
  obtain ⟨u, v, e1, e2, e3, e4⟩ := j_read (N := N) (by omega) hT D num rk rc rf
  unfold MX7_lay MX8_lay MX4_empty MX5_empty
  rw [e1, e2]
  simp only [Option.bind_some]
  by_cases g : u.1 = -4
  · obtain ⟨B, w1, p1, p2⟩ := e4 g
    have hn1 : u.2.2.2.2.2.1 = nI B.2.2.2.1 := p1.2.1
    have hn2 : v.2.2.2.1 = nI B.2.2.2.1 := p2.2.1
    have h9 := w1.1
    rw [if_pos g, if_pos (show v.1 = -4 by rw [← e3]; exact g), hn1, hn2]
    by_cases g0 : B.2.2.2.1 = 0
    · rw [if_neg (show ¬ (1 : Int32) ≤ nI B.2.2.2.1 from nI_ge (b := 1) (by omega) (by omega)), if_pos (show nI B.2.2.2.1 = (0 : Int32) by rw [g0]; rfl)]
      exact ⟨_, _, rfl, rfl, rfl, A, a, us, ks, sl, h, rfl, rfl, rfl, rfl, rfl, rfl, hS⟩
    · rw [if_pos (show (1 : Int32) ≤ nI B.2.2.2.1 from nI_le (a := 1) (by omega) (by omega)), if_neg (show ¬ nI B.2.2.2.1 = (0 : Int32) from nI_ne (b := 0) (by omega) (by omega) g0)]
      obtain ⟨P', x1, x2⟩ := p_pcopy (N := N) (P := P) h9 p1
      obtain ⟨L', y1, y2⟩ := p_clear (N := N) (H := B.2.2.2.2.2.1) (L := Nw) (by omega)
      obtain ⟨w', F', z1, z2, z3⟩ := m_begins (N := N) (by omega) p2 h9 w F
      have x1' : MX3_copyFrom N P (u.2.2.1, u.2.2.2.1, u.2.2.2.2.1, nI B.2.2.2.1, u.2.2.2.2.2.2.1, u.2.2.2.2.2.2.2.1, u.2.2.2.2.2.2.2.2) = some P' := by
        rw [← hn1]
        exact x1
      have z1' : MX8_begins N w F (nI B.2.2.2.1) v.2.2.2.2.1 v.2.2.2.2.2.1 v.2.2.2.2.2.2.1 v.2.2.2.2.2.2.2.1 v.2.2.2.2.2.2.2.2.1 v.2.2.2.2.2.2.2.2.2 = some (w', (0 : Int32), (0 : Int32), nI B.2.2.2.1, F', nI B.2.2.2.2.1, nI B.2.2.2.2.2.1, nI B.2.2.2.2.2.2, (0 : Int32)) := by
        have q : (rM v).2.2.2.1 = nI B.2.2.2.1 := p2.2.1
        rw [q] at z1
        exact z1
      rw [x1', z1']
      simp only [Option.bind_some]
      rw [y1]
      simp only [Option.bind_some]
      refine ⟨_, _, rfl, rfl, x2.2.1, B, aZero, [], [], [], ⟨w1.p (by omega), w1.2.2.2.2.2.2, x2, z3, ⟨y2, WF.zero, WE.zero, z2⟩, c6.nil, c7.nil⟩, rfl, rfl, rfl, rfl, rfl, rfl, hS.nil⟩
  · rw [if_neg g, if_neg (show ¬ v.1 = -4 by rw [← e3]; exact g)]
    exact ⟨_, _, rfl, rfl, rfl, A, a, us, ks, sl, h, rfl, rfl, rfl, rfl, rfl, rfl, hS⟩
def aPlF : APl := ((fun p => [0, 1, 0, 2, 0, 3, 1, 0, 2].getD p 0), (fun p => [0, 0, 1, 2, 3, 4, 6, 8, 9].getD p 0), (fun p => [0, 1, 1, 0, 2, 2, 0, 0, 1].getD p 0), 9, 3, 20, 7)
theorem init7 : (MX7_init 100000).any (fun r => decide (r.2.2.1 = 0 ∧ (∀ p, p < 9 → r.2.2.2.1 p = nI (aPlF.1 p) ∧ r.2.2.2.2.1 p = nI (aPlF.2.1 p) ∧ r.2.2.2.2.2.1 p = nI (aPlF.2.2.1 p)) ∧ r.2.2.2.2.2.2.1 = nI 9 ∧ r.2.2.2.2.2.2.2.1 = nI 3 ∧ r.2.2.2.2.2.2.2.2.1 = nI 20 ∧ r.2.2.2.2.2.2.2.2.2 = nI 7)) = true := by decide +kernel
abbrev I8V : Type := (Nat → Int32) × Int32 × Int32 × Int32 × (Nat → Int32) × Int32 × Int32 × Int32 × Int32 × Int32 × (Nat → Int32) × (Nat → Int32) × (Nat → Int32) × Int32 × Int32 × Int32
theorem init8 : (MX8_init 100000).any (fun (r : I8V) => (List.range 30).all (fun x => decide (r.1 x = nI 0)) && ((List.range 9).all (fun p => decide (r.1 (30 + p) = (-4 : Int32)) && (decide (r.1 (39 + p) = (-4 : Int32)) && (decide (r.1 (48 + p) = nI (aPlF.2.1 p)) && (decide (r.1 (57 + p) = nI (aPlF.1 p)) && decide (r.2.2.2.2.1 p = nI (aPlF.2.2.1 p)))))) && (decide (r.2.1 = nI 0 ∧ r.2.2.1 = nI 0 ∧ r.2.2.2.1 = nI 9) && decide (r.2.2.2.2.2.1 = nI 3 ∧ r.2.2.2.2.2.2.1 = nI 20 ∧ r.2.2.2.2.2.2.2.1 = nI 7 ∧ r.2.2.2.2.2.2.2.2.1 = nI 0)))) = true := by decide +kernel
theorem any_some {α : Type} {o : Option α} {p : α → Bool} (h : o.any p = true) : ∃ r, o = some r ∧ p r = true := by
  cases o with
  | none => cases h
  | some r => exact ⟨r, rfl, h⟩
theorem WD.pF : WD aPlF := ⟨by decide, by decide, by decide, by decide, by decide, by decide, fun f f1 f4 => by
  rcases (show f = 1 ∨ f = 2 ∨ f = 3 ∨ f = 4 by omega) with e | e | e | e
  · subst e; decide
  · subst e; decide
  · subst e; decide
  · subst e; decide⟩
theorem repL_z {H : Nat} : repL H zLine aZero := by
  refine ⟨rfl, ?_, fun _ _ => rfl, ?_, ?_, rfl, rfl, rfl⟩
  · intro i x hx; simp [aZero] at hx
  · intro p hp h; exact absurd (show (0 : Nat) = 1 from h) (by decide)
  · intro p hp h; exact absurd (show (0 : Nat) = 3 from h) (by decide)
theorem UR_z {m s H c : Nat} {A : APl} {w : Nat → Int32} (hm : 0 < m) : UR m s H c A w zShelf [] :=
  ⟨⟨0, rfl, hm, rfl, by simp, fun k b hb => by simp at hb⟩, fun b hb => by simp at hb, fun b hb => by simp at hb, fun k b hb => by simp at hb, by simp⟩
