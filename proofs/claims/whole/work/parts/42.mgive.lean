theorem p_mwarm {h l : Nat} (hh : h ≤ 40) (hl : l < 2 ^ 29) {α : Type} (k : Int32 → α) : (if nI 0 ≤ nI h - nI l then k (nI h - nI l) else k (nI 0)) = k (nI (h - l)) := by
  rcases Nat.lt_or_ge h l with g | g
  · have := pk_sneg (a := h) (b := l) (by omega) g
    rw [if_neg (show ¬ nI 0 ≤ nI h - nI l from fun q => Int32.lt_irrefl (Int32.lt_of_le_of_lt q this)), show h - l = 0 by omega]
  · rw [pk_sub g, if_pos (show nI 0 ≤ nI (h - l) from nI_le (by omega) (by omega))]
theorem p_mgives_l {N : Nat} {r : Nat} (hr : r + 66 ≤ 792) {w : Nat → Int32} {H : Int32} {A : APl} {b : MSt} {head : Bool} {y : Nat} (hA : WFP A) (hK : repK r w A b) (hl : b.1.length ≤ 9) (hq : ∀ x ∈ b.1, x < A.2.2.2.1) : ∀ (n i : Nat), i ≤ b.1.length → b.1.length + 1 < n + i → MX8_givesOne_l62 N w H (nI r) (bI head) (nI b.1.length) n (nI y) (1 : Int32) (nI i) = MX8_givesOne_j128 N w H (nI r) (nI ((((vis b.1 head).drop i).find? (fun x => A.1 x != 3)).getD y)) := by
  intro n
  have h9 := hA.1
  induction n with
  | zero => intro i h1 h2; omega
  | succ n ih =>
    intro i h1 h2
    rw [MX8_givesOne_l62]
    by_cases hi : i = b.1.length
    · have hd : (vis b.1 head).drop i = [] := List.drop_eq_nil_of_le (by rw [vis_len]; omega)
      rw [hd, if_pos (by rw [hi]; exact nI_le (Nat.le_refl _) (by omega))]
      rfl
    · have hi : i < b.1.length := by omega
      have hvi := vis_at (head := head) hi
      have e0 : nI b.1.length - nI 1 = nI (b.1.length - 1) := pk_sub (by omega)
      have e1 : nI (b.1.length - 1) - nI i = nI (b.1.length - 1 - i) := pk_sub (by omega)
      have hj : (if head then b.1.length - 1 - i else i) < b.1.length := by split <;> omega
      rw [if_neg (nI_ge hi (by omega)), if_neg (by decide)]
      have hpl : ∀ (f : Int32 → Option (Nat → Int32)), (if bI head = 0 then f (nI i) else f (nI b.1.length - (1 : Int32) - nI i)) = f (nI (if head then b.1.length - 1 - i else i)) := by
        intro f
        rw [k1, e0, e1]
        cases head <;> simp [bI]
      rw [hpl (MX8_givesOne_j95 w (nI r) (nI y) 1 (nI i) (MX8_givesOne_l62 N w H (nI r) (bI head) (nI b.1.length) n))]
      generalize hjj : (if head then b.1.length - 1 - i else i) = j at hj hvi ⊢
      have hx := hK.2.2.2.1 j _ (List.getElem?_eq_getElem hj)
      have hxn := hq _ (List.getElem_mem hj)
      have hk3 := hA.2.2.1 _ hxn
      have hkk := (hK.2.2.2.2.2.2.2.2 _ hxn).2
      have hdr : (vis b.1 head).drop i = b.1[j] :: (vis b.1 head).drop (i + 1) := by
        have hiv : i < (vis b.1 head).length := by rw [vis_len]; exact hi
        rw [List.drop_eq_getElem_cons hiv]
        congr 1
        rw [List.getElem?_eq_getElem hiv, List.getElem?_eq_getElem hj] at hvi
        exact Option.some.inj hvi
      unfold MX8_givesOne_j95 MX8_givesOne_j122 MLet
      simp (disch := omega) only [k0, k1, k3, k57, nI_add, nI_clamp, MG_ok, hx, hkk, nI_eq]
      rw [hdr, List.find?_cons]
      by_cases g : A.1 b.1[j] = 3
      · have gb : (A.1 b.1[j] != 3) = false := by simp [g]
        rw [if_pos g, gb]
        exact ih (i + 1) (by omega) (by omega)
      · have gb : (A.1 b.1[j] != 3) = true := by simp [g]
        rw [if_neg g, gb]
        obtain ⟨m, rfl⟩ : ∃ m, n = m + 1 := ⟨n - 1, by omega⟩
        rw [MX8_givesOne_l62]
        by_cases c : nI b.1.length ≤ nI (i + 1)
        · rw [if_pos c]; rfl
        · rw [if_neg c, if_pos (by decide)]; rfl
def mGive (A : APl) (b : MSt) (head : Bool) : MSt := if b.1 = [] then b else (b.1.erase (who A b.1 head), fset b.2.1 (who A b.1 head) 3, fset b.2.2.1 (who A b.1 head) 0, b.2.2.2.1, b.2.2.2.2.1 + 1, upd b.2.2.2.2.2.1 (who A b.1 head) (nI b.2.2.2.1), upd b.2.2.2.2.2.2 (who A b.1 head) (nI (A.2.2.2.2.2.1 - b.2.2.2.2.1)))
theorem p_mgive1 {N : Nat} (hN : 100 ≤ N) {r : Nat} (hr : r + 66 ≤ 792) {w : Nat → Int32} {A : APl} {b : MSt} (hA : WFP A) (hK : repK r w A b) (hl : b.1.length ≤ 9) (hq : ∀ x ∈ b.1, x < A.2.2.2.1) {p : Nat} (hp : p ∈ b.1) (hlo : b.2.2.2.2.1 < 2 ^ 29) : ∃ w', MX8_givesOne_j128 N w (nI A.2.2.2.2.2.1) (nI r) (nI p) = some w' ∧ repK r w' A (b.1.erase p, fset b.2.1 p 3, fset b.2.2.1 p 0, b.2.2.2.1, b.2.2.2.2.1 + 1, upd b.2.2.2.2.2.1 p (nI b.2.2.2.1), upd b.2.2.2.2.2.2 p (nI (A.2.2.2.2.2.1 - b.2.2.2.2.1))) ∧ frm r w w' := by
  have h9 := hA.1
  have hH : A.2.2.2.2.2.1 ≤ 40 := hA.2.2.2.2.2.1
  have hp9 := hq p hp
  obtain ⟨w1, e1, q1, f1⟩ := p_mgoes hN hr h9 hK hl (fun x hx => by have := hq x hx; omega) (k := 3) hp
  have e1' : MX8_goes N w (nI r) (nI p) (3 : Int32) = some w1 := e1
  obtain ⟨r1, r2, r3, r4, r5, r6, r7, r8, r9⟩ := q1
  have r1 : w1 r = nI b.2.2.2.1 := r1
  have r2 : w1 (r + 1) = nI b.2.2.2.2.1 := r2
  unfold MX8_givesOne_j128 MLet
  rw [e1']
  simp (disch := omega) only [Option.bind_some, k0, k1, k30, nI_add, nI_clamp, MG_ok, r2]
  rw [p_mwarm hH hlo (fun t => MX8_givesOne_j193 (nI r) (nI p) w1 t)]
  unfold MX8_givesOne_j193
  have hu : upd (upd w1 (r + 30 + p) (nI b.2.2.2.1)) (r + 39 + p) (nI (A.2.2.2.2.2.1 - b.2.2.2.2.1)) (r + 1) = nI b.2.2.2.2.1 := by rw [pk_un (by omega), pk_un (by omega)]; exact r2
  simp (disch := omega) only [k0, k1, k30, k39, nI_add, nI_clamp, MG_ok, Nat.add_zero, r1, hu]
  refine ⟨_, rfl, ⟨?_, ?_, ?_, ?_, ?_, ?_, ?_, ?_, ?_⟩, ?_⟩
  · rw [pk_un (by omega), pk_un (by omega), pk_un (by omega)]; exact r1
  · exact pk_us
  · rw [pk_un (by omega), pk_un (by omega), pk_un (by omega)]; exact r3
  · intro i x hx
    have hil : i < (b.1.erase p).length := (List.getElem?_eq_some_iff.mp hx).1
    rw [List.length_erase_of_mem hp] at hil
    rw [pk_un (by omega), pk_un (by omega), pk_un (by omega)]; exact r4 i x hx
  · intro x hx
    rw [pk_un (by omega), pk_un (by omega), pk_un (by omega)]; exact r5 x hx
  · intro x hx
    rw [pk_un (by omega), pk_un (by omega), pk_un (by omega)]; exact r6 x hx
  · intro x hx
    show _ = upd b.2.2.2.2.2.1 p (nI b.2.2.2.1) x
    rw [pk_un (by omega), pk_un (by omega)]
    by_cases e : x = p
    · subst e; rw [pk_us, pk_us]
    · rw [pk_un (by omega), pk_un e]; exact r7 x hx
  · intro x hx
    show _ = upd b.2.2.2.2.2.2 p (nI (A.2.2.2.2.2.1 - b.2.2.2.2.1)) x
    rw [pk_un (by omega)]
    by_cases e : x = p
    · subst e; rw [pk_us, pk_us]
    · rw [pk_un (by omega), pk_un (by omega), pk_un e]; exact r8 x hx
  · intro x hx
    rw [pk_un (by omega), pk_un (by omega), pk_un (by omega), pk_un (by omega), pk_un (by omega), pk_un (by omega)]; exact r9 x hx
  · refine f1.tr (fun i hi => ?_)
    rw [pk_un (by omega), pk_un (by omega), pk_un (by omega)]
theorem p_mgive {N : Nat} (hN : 100 ≤ N) {r : Nat} (hr : r + 66 ≤ 792) {w : Nat → Int32} {A : APl} {b : MSt} {head : Bool} (hA : WFP A) (hK : repK r w A b) (hl : b.1.length ≤ 9) (hq : ∀ x ∈ b.1, x < A.2.2.2.1) (hlo : b.2.2.2.2.1 < 2 ^ 29) : ∃ w', MX8_givesOne N w (nI A.2.2.2.2.2.1) (nI r) (bI head) = some w' ∧ repK r w' A (mGive A b head) ∧ frm r w w' := by
  have h9 := hA.1
  have r3 := hK.2.2.1
  unfold MX8_givesOne MLet mGive
  simp (disch := omega) only [k2, nI_add, nI_clamp, MG_ok, r3]
  by_cases hb : b.1 = []
  · rw [if_pos hb, if_pos (by rw [hb]; rfl)]
    exact ⟨w, rfl, hK, frm.rfl'⟩
  · have h0 : 0 < b.1.length := List.length_pos_iff.mpr hb
    rw [if_neg hb, if_neg (show ¬ nI b.1.length = (0 : Int32) from nI_ne (b := 0) (by omega) (by omega) (by omega))]
    have e0 : nI b.1.length - nI 1 = nI (b.1.length - 1) := pk_sub (by omega)
    have hj : (if head then b.1.length - 1 else 0) < b.1.length := by split <;> omega
    have hpl : ∀ (f : Int32 → Option (Nat → Int32)), (if bI head = 0 then f (0 : Int32) else f (nI b.1.length - (1 : Int32))) = f (nI (if head then b.1.length - 1 else 0)) := by
      intro f
      rw [k1, e0]
      cases head
      · exact if_pos rfl
      · exact if_neg (by decide)
    rw [hpl (MX8_givesOne_j32 N w (nI A.2.2.2.2.2.1) (nI r) (bI head) (nI b.1.length))]
    have hv := vis_at (q := b.1) (head := head) (i := 0) h0
    simp only [Nat.sub_zero] at hv
    generalize hjj : (if head then b.1.length - 1 else 0) = j at hj hv ⊢
    have hx := hK.2.2.2.1 j _ (List.getElem?_eq_getElem hj)
    have hxn := hq _ (List.getElem_mem hj)
    have hk3 := hA.2.2.1 _ hxn
    have hkk := (hK.2.2.2.2.2.2.2.2 _ hxn).2
    have hhd : (vis b.1 head).headD 0 = b.1[j] := by
      rw [List.getElem?_eq_getElem hj, ← List.head?_eq_getElem?] at hv
      cases hvv : vis b.1 head with
      | nil => rw [hvv] at hv; cases hv
      | cons y m => rw [hvv] at hv; exact Option.some.inj hv
    have hm := who_mem (A := A) (head := head) hb
    obtain ⟨w', e', q', f'⟩ := p_mgive1 hN hr hA hK hl hq hm hlo
    refine ⟨w', ?_, q', f'⟩
    rw [← e']
    unfold MX8_givesOne_j32 MX8_givesOne_j57 MLet
    simp (disch := omega) only [k3, k57, nI_add, nI_clamp, MG_ok, hx, hkk, nI_eq]
    by_cases g : A.1 b.1[j] = 3
    · rw [if_pos g]
      have := p_mgives_l (N := N) (H := nI A.2.2.2.2.2.1) (head := head) (y := b.1[j]) hr hA hK hl hq N 0 (by omega) (by omega)
      rw [List.drop_zero] at this
      unfold who
      rw [hhd]
      exact this
    · rw [if_neg g]
      obtain ⟨m, hm⟩ : ∃ m, N = m + 1 := ⟨N - 1, by omega⟩
      have hw : who A b.1 head = b.1[j] := by
        unfold who
        cases hvv : vis b.1 head with
        | nil =>
          have := vis_len (q := b.1) (head := head)
          rw [hvv] at this
          simp at this
          omega
        | cons y l =>
          rw [hvv] at hhd
          have hy : y = b.1[j] := hhd
          subst hy
          rw [List.find?_cons]
          have gb : (A.1 b.1[j] != 3) = true := by simp [g]
          rw [gb]
          rfl
      rw [hw]
      have : ∀ m, MX8_givesOne_l62 N w (nI A.2.2.2.2.2.1) (nI r) (bI head) (nI b.1.length) (m + 1) (nI b.1[j]) (0 : Int32) (0 : Int32) = MX8_givesOne_j128 N w (nI A.2.2.2.2.2.1) (nI r) (nI b.1[j]) := by
        intro m
        rw [MX8_givesOne_l62, if_neg (show ¬ nI b.1.length ≤ (0 : Int32) from nI_nle h0 (by omega)), if_pos rfl]
      have h2 := this m
      rw [← hm] at h2
      exact h2
