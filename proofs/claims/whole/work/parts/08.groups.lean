abbrev LineV : Type := (Nat → Int32) × (Nat → Int32) × (Nat → Int32) × (Nat → Int32) × (Nat → Int32) × Int32 × Int32 × Int32 × Int32
def wLine (cI : ClassId) (a : Nat → Nat) (S : LineV) : va_W := [(a 0, .inr (1, [.ref (a 1), .ref (a 2), .ref (a 3), .ref (a 4), .ref (a 5), .int S.2.2.2.2.2.1, .int S.2.2.2.2.2.2.1, .int S.2.2.2.2.2.2.2.1, .int S.2.2.2.2.2.2.2.2])), (a 1, .inl (cI, 9, .inl S.1)), (a 2, .inl (cI, 9, .inl S.2.1)), (a 3, .inl (cI, 9, .inl S.2.2.1)), (a 4, .inl (cI, 9, .inl S.2.2.2.1)), (a 5, .inl (cI, 9, .inl S.2.2.2.2.1))]
abbrev PlanV : Type := (Nat → Int32) × (Nat → Int32) × (Nat → Int32) × Int32 × Int32 × Int32 × Int32
def wPlan (cI : ClassId) (a : Nat → Nat) (S : PlanV) : va_W := [(a 0, .inr (3, [.ref (a 1), .ref (a 2), .ref (a 3), .int S.2.2.2.1, .int S.2.2.2.2.1, .int S.2.2.2.2.2.1, .int S.2.2.2.2.2.2])), (a 1, .inl (cI, 9, .inl S.1)), (a 2, .inl (cI, 9, .inl S.2.1)), (a 3, .inl (cI, 9, .inl S.2.2.1))]
abbrev TextV : Type := (Nat → Int32) × (Nat → Int32) × Int32
def wText (cI : ClassId) (a : Nat → Nat) (S : TextV) : va_W := [(a 0, .inr (6, [.ref (a 1), .ref (a 2), .int S.2.2])), (a 1, .inl (cI, 200, .inl S.1)), (a 2, .inl (cI, 3, .inl S.2.1))]
abbrev SeenV : Type := (Nat → Int32) × (Nat → Int32) × (Nat → Int32) × Int32
def wSeen (cI cZ : ClassId) (a : Nat → Nat) (S : SeenV) : va_W := [(a 0, .inr (4, [.ref (a 1), .ref (a 2), .ref (a 3), .int S.2.2.2])), (a 1, .inl (cI, 6, .inl S.1)), (a 2, .inl (cI, 6, .inl S.2.1)), (a 3, .inl (cZ, 6, .inl S.2.2.1))]
abbrev OrdV : Type := (Nat → Int32) × (Nat → Int32) × Int32
def wOrd (cI : ClassId) (a : Nat → Nat) (S : OrdV) : va_W := [(a 0, .inr (2, [.ref (a 1), .ref (a 2), .int S.2.2])), (a 1, .inl (cI, 5, .inl S.1)), (a 2, .inl (cI, 5, .inl S.2.1))]
def wMod (cI cZ : ClassId) (a : Nat → Nat) (m_w : Nat → Int32) (m_undoes : Int32) (m_kept : Int32) (m_persons : Int32) (m_family : Nat → Int32) (m_gives : Int32) (m_warm : Int32) (m_rumour : Int32) (m_seen : Int32) (m_seenOf : Nat → Int32) (m_seenBehind : Nat → Int32) (m_seenHas : Nat → Int32) (m_text : Nat → Int32) (m_texted : Int32) (m_place : Int32) (m_number : Int32) (m_readPersons : Int32) (m_readKind : Nat → Int32) (m_readComes : Nat → Int32) (m_readFamily : Nat → Int32) (m_readGives : Int32) (m_readWarm : Int32) (m_readRumour : Int32) (m_toCome : Nat → Int32) (m_order : Nat → Int32) (m_bestOrder : Nat → Int32) : va_W := [(a 0, .inr (8, [.ref (a 1), .int m_undoes, .int m_kept, .int m_persons, .ref (a 2), .int m_gives, .int m_warm, .int m_rumour, .int m_seen, .ref (a 3), .ref (a 4), .ref (a 5), .ref (a 6), .int m_texted, .int m_place, .int m_number, .int m_readPersons, .ref (a 7), .ref (a 8), .ref (a 9), .int m_readGives, .int m_readWarm, .int m_readRumour, .ref (a 10), .ref (a 11), .ref (a 12)])), (a 1, .inl (cI, 792, .inl m_w)), (a 2, .inl (cI, 9, .inl m_family)), (a 3, .inl (cI, 6, .inl m_seenOf)), (a 4, .inl (cI, 6, .inl m_seenBehind)), (a 5, .inl (cZ, 6, .inl m_seenHas)), (a 6, .inl (cI, 200, .inl m_text)), (a 7, .inl (cI, 9, .inl m_readKind)), (a 8, .inl (cI, 9, .inl m_readComes)), (a 9, .inl (cI, 9, .inl m_readFamily)), (a 10, .inl (cI, 5, .inl m_toCome)), (a 11, .inl (cI, 5, .inl m_order)), (a 12, .inl (cI, 5, .inl m_bestOrder))]
abbrev ShelfV : Type := Int32 × Int32 × (Nat → LineV)
def wShelf (cI cL : ClassId) (n : Nat) (a : Nat → Nat) (la : Nat → Nat → Nat) (S : ShelfV) : va_W := [(a 0, .inr (5, [.ref (a 1), .int S.1, .int S.2.1])), (a 1, .inl (cL, n, .inr (.inr (.inr (.inr (fun i => if i < n then some (la i 0) else none))))))] ++ ((List.range n).map (fun i => wLine cI (la i) (S.2.2 i))).flatten
def wFc (f p n g t o : Nat) : va_W := [(f, .inr (0, [.ref p, .ref n, .ref g, .ref t, .ref o]))]
def wBL (b x d f p n s u k : Nat) : va_W := [(b, .inr (7, [.ref x, .ref d, .ref f, .ref p, .ref n, .ref s, .ref u, .ref k]))]
theorem sw_out {x : Int32} (n : Nat) (h : ∀ j : Nat, j ≤ n → ¬ x = Int32.ofInt j) : x.toInt < ((0 : Nat) : Int) ∨ (n : Int) < x.toInt := by
  by_cases h1 : x.toInt < 0
  · exact Or.inl h1
  · by_cases h2 : (n : Int) < x.toInt
    · exact Or.inr h2
    · exfalso
      refine h x.toInt.toNat (by omega) ?_
      have h3 : ((x.toInt.toNat : Nat) : Int) = x.toInt := by omega
      rw [h3, Int32.ofInt_toInt]
theorem sw_le3 {j : Nat} (h : j ≤ 3) : j = 0 ∨ j = 1 ∨ j = 2 ∨ j = 3 := by omega
theorem sw_le7 {j : Nat} (h : j ≤ 7) : j = 0 ∨ j = 1 ∨ j = 2 ∨ j = 3 ∨ j = 4 ∨ j = 5 ∨ j = 6 ∨ j = 7 := by omega
theorem sw_le9 {j : Nat} (h : j ≤ 9) : j = 0 ∨ j = 1 ∨ j = 2 ∨ j = 3 ∨ j = 4 ∨ j = 5 ∨ j = 6 ∨ j = 7 ∨ j = 8 ∨ j = 9 := by omega
theorem sw_le27 {j : Nat} (h : j ≤ 27) : j = 0 ∨ j = 1 ∨ j = 2 ∨ j = 3 ∨ j = 4 ∨ j = 5 ∨ j = 6 ∨ j = 7 ∨ j = 8 ∨ j = 9 ∨ j = 10 ∨ j = 11 ∨ j = 12 ∨ j = 13 ∨ j = 14 ∨ j = 15 ∨ j = 16 ∨ j = 17 ∨ j = 18 ∨ j = 19 ∨ j = 20 ∨ j = 21 ∨ j = 22 ∨ j = 23 ∨ j = 24 ∨ j = 25 ∨ j = 26 ∨ j = 27 := by omega

theorem vp_lt {i : Int32} {n : Nat} (h : vp_in i n) : i.toNatClampNeg < n := Nat.not_le.mp fun q => h (Or.inr q)
def wShHead (cL : ClassId) (n : Nat) (a : Nat → Nat) (la : Nat → Nat → Nat) (t h : Int32) : va_W := [(a 0, .inr (5, [.ref (a 1), .int t, .int h])), (a 1, .inl (cL, n, .inr (.inr (.inr (.inr (fun i => if i < n then some (la i 0) else none))))))]
def wShRest (cI : ClassId) (n : Nat) (la : Nat → Nat → Nat) (f : Nat → LineV) (i : Nat) : va_W := (((List.range n).erase i).map (fun j => wLine cI (la j) (f j))).flatten
theorem wShelf_perm {cI cL : ClassId} {n : Nat} {a : Nat → Nat} {la : Nat → Nat → Nat} {S : ShelfV} {i : Nat} (hi : i < n) : (wShelf cI cL n a la S).Perm (wShHead cL n a la S.1 S.2.1 ++ (wLine cI (la i) (S.2.2 i) ++ wShRest cI n la S.2.2 i)) := by
  refine List.Perm.append_left _ ?_
  have h := List.perm_cons_erase (List.mem_range.mpr hi)
  exact (h.map (fun j => wLine cI (la j) (S.2.2 j))).flatten
theorem wShRest_up {cI : ClassId} {n : Nat} {la : Nat → Nat → Nat} {f : Nat → LineV} {i : Nat} {v : LineV} : wShRest cI n la (va_up f i v) i = wShRest cI n la f i := by
  unfold wShRest
  congr 1
  refine List.map_congr_left (fun j hj => ?_)
  have hne : j ≠ i := ((List.Nodup.mem_erase_iff List.nodup_range).mp hj).1
  simp [va_up, hne]
theorem sh_open {G : va_G} {A : Nat → Prop} {s : State} {H : Heap} {locs : List Loc} {cI cL : ClassId} {n : Nat} {a : Nat → Nat} {la : Nat → Nat → Nat} {S : ShelfV} {g : va_W} {i : Nat} (hi : i < n) (hW : Wd G A s [wShelf cI cL n a la S, g] H locs) : Wd G A s [wShHead cL n a la S.1 S.2.1, wLine cI (la i) (S.2.2 i), g, wShRest cI n la S.2.2 i] H locs := by
  have hp : ([wShelf cI cL n a la S, g] : List va_W).flatten.Perm ([wShHead cL n a la S.1 S.2.1, wLine cI (la i) (S.2.2 i), g, wShRest cI n la S.2.2 i] : List va_W).flatten := by
    simp only [List.flatten_cons, List.flatten_nil, List.append_nil]
    refine ((wShelf_perm hi).append_right g).trans ?_
    rw [List.append_assoc, List.append_assoc]
    exact List.Perm.append_left _ (List.Perm.append_left _ List.perm_append_comm)
  exact ⟨vP_perm hp hW.1, vD_perm hp hW.2.1, hW.2.2⟩
theorem sh_shut {G : va_G} {A : Nat → Prop} {s : State} {H : Heap} {locs : List Loc} {cI cL : ClassId} {n : Nat} {a : Nat → Nat} {la : Nat → Nat → Nat} {S : ShelfV} {g : va_W} {i : Nat} (hi : i < n) (hW : Wd G A s [wShHead cL n a la S.1 S.2.1, wLine cI (la i) (S.2.2 i), g, wShRest cI n la S.2.2 i] H locs) : Wd G A s [wShelf cI cL n a la S, g] H locs := by
  have hp : ([wShelf cI cL n a la S, g] : List va_W).flatten.Perm ([wShHead cL n a la S.1 S.2.1, wLine cI (la i) (S.2.2 i), g, wShRest cI n la S.2.2 i] : List va_W).flatten := by
    simp only [List.flatten_cons, List.flatten_nil, List.append_nil]
    refine ((wShelf_perm hi).append_right g).trans ?_
    rw [List.append_assoc, List.append_assoc]
    exact List.Perm.append_left _ (List.Perm.append_left _ List.perm_append_comm)
  exact ⟨vP_perm hp.symm hW.1, vD_perm hp.symm hW.2.1, hW.2.2⟩
theorem sh_close {G : va_G} {A : Nat → Prop} {s : State} {H : Heap} {locs : List Loc} {cI cL : ClassId} {n : Nat} {a : Nat → Nat} {la : Nat → Nat → Nat} {S : ShelfV} {g : va_W} {i : Nat} {v : LineV} (hi : i < n) (hW : Wd G A s [wShHead cL n a la S.1 S.2.1, wLine cI (la i) v, g, wShRest cI n la S.2.2 i] H locs) : Wd G A s [wShelf cI cL n a la (S.1, S.2.1, va_up S.2.2 i v), g] H locs := by
  refine sh_shut hi ?_
  show Wd G A s [wShHead cL n a la S.1 S.2.1, wLine cI (la i) (va_up S.2.2 i v i), g, wShRest cI n la (va_up S.2.2 i v) i] H locs
  rw [wShRest_up]
  have e : va_up S.2.2 i v i = v := by simp [va_up]
  rw [e]
  exact hW
