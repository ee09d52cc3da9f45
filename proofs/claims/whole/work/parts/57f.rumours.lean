def bitB (s k : Nat) : Bool := decide (((nI s >>> (nI k &&& 31)) &&& (1 : Int32)) = (1 : Int32))
def pcr (s : Nat) : Nat → Nat → Nat
  | 0, _ => 0
  | k + 1, i => (if bitB s i then 1 else 0) + pcr s k (i + 1)
def pcN (s : Nat) : Nat := s % 2 + s / 2 % 2 + s / 4 % 2 + s / 8 % 2 + s / 16 % 2 + s / 32 % 2 + s / 64 % 2 + s / 128 % 2
theorem bc_ok : ∀ s, s < 256 → MJ6_bitCount_0f7a4 0 (nI s) = some (nI (pcN s)) := by decide +kernel
theorem pcr_ok : ∀ n, n < 9 → ∀ s, s < 2 ^ n → pcr s n 0 = pcN s := by decide +kernel
theorem shl_ok : ∀ n, n < 9 → (1 : Int32) <<< (nI n &&& 31) = nI (2 ^ n) := by decide +kernel
def sumN (x n : Nat) : Nat → Nat
  | 0 => 0
  | j + 1 => sumN x n j + x ^ pcN j * (10 - x) ^ (n - pcN j)
theorem sum_ok : ∀ n, n < 9 → ∀ x, x < 11 → sumN x n (2 ^ n) = 10 ^ n := by decide +kernel
theorem sum_mono {x n : Nat} : ∀ {i j : Nat}, i ≤ j → sumN x n i ≤ sumN x n j := by
  intro i j h
  induction j with
  | zero => rw [show i = 0 by omega]; exact Nat.le_refl _
  | succ j ih =>
    by_cases e : i = j + 1
    · rw [e]; exact Nat.le_refl _
    · have := ih (by omega)
      rw [sumN]
      exact Nat.le_trans this (Nat.le_add_right _ _)
def pw (x s : Nat) : Nat → Nat → Nat
  | 0, _ => 1
  | k + 1, i => (if bitB s i then x else 10 - x) * pw x s k (i + 1)
theorem pcr_le {s : Nat} : ∀ (k i : Nat), pcr s k i ≤ k := by
  intro k
  induction k with
  | zero => intro i; exact Nat.le_refl _
  | succ k ih =>
    intro i
    have := ih (i + 1)
    rw [pcr]
    split <;> omega
theorem pw_eq {x s : Nat} : ∀ (k i : Nat), pw x s k i = x ^ pcr s k i * (10 - x) ^ (k - pcr s k i) := by
  intro k
  induction k with
  | zero => intro i; rfl
  | succ k ih =>
    intro i
    have h := pcr_le (s := s) k (i + 1)
    rw [pw, pcr, ih]
    by_cases b : bitB s i = true
    · rw [if_pos b, if_pos b, show 1 + pcr s k (i + 1) = pcr s k (i + 1) + 1 by omega, show k + 1 - (pcr s k (i + 1) + 1) = k - pcr s k (i + 1) by omega, Nat.pow_succ]
      rw [Nat.mul_comm (x ^ pcr s k (i + 1)) x, Nat.mul_assoc]
    · rw [if_neg b, if_neg b, Nat.zero_add, show k + 1 - pcr s k (i + 1) = k - pcr s k (i + 1) + 1 by omega, Nat.pow_succ]
      rw [Nat.mul_left_comm, Nat.mul_comm (10 - x) ((10 - x) ^ (k - pcr s k (i + 1)))]
theorem pow10_le : ∀ n, n < 9 → 10 ^ n ≤ 100000000 := by decide
theorem pow2_le : ∀ n, n < 9 → 2 ^ n ≤ 256 := by decide
theorem pow10_pos : ∀ n, n < 9 → 1 ≤ 10 ^ n := by decide
theorem p_power_l {x n : Nat} (hn : n < 2 ^ 31) : ∀ (m k i : Nat), i + k = n → k < m → MX7_power_l4 (nI x) (nI n) m (nI (x ^ i)) (nI i) = some (nI (x ^ n)) := by
  intro m
  induction m with
  | zero => intro k i h1 h2; omega
  | succ m ih =>
    intro k i h1 h2
    rw [MX7_power_l4]
    cases k with
    | zero =>
      have e : i = n := by omega
      subst e
      rw [if_pos (nI_le (Nat.le_refl _) (by omega))]
      rfl
    | succ k =>
      rw [if_neg (nI_ge (by omega) (by omega))]
      simp only [MLet]
      rw [nI_1, nI_mul, ← Nat.pow_succ]
      exact ih k (i + 1) (by omega) (by omega)
theorem p_power {N x n : Nat} (hn : n < N) (hn2 : n < 2 ^ 31) : MX7_power N (nI x) (nI n) = some (nI (x ^ n)) :=
  p_power_l hn2 N n 0 (by omega) (by omega)
theorem gcd_step {a b : Nat} : Nat.gcd a b = Nat.gcd b (a % b) := by
  rw [Nat.gcd_comm a b, Nat.gcd_rec b a, Nat.gcd_comm]
theorem half_mod {b r : Nat} (h : r < b) (h0 : 0 < r) : 2 * (b % r) < b := by
  have h1 := Nat.mod_lt b h0
  have h2 := Nat.div_add_mod b r
  have h3 : 1 ≤ b / r := Nat.div_pos (Nat.le_of_lt h) h0
  have h4 : r * 1 ≤ r * (b / r) := Nat.mul_le_mul (Nat.le_refl r) h3
  omega
theorem p_gcd : ∀ (k m r a b : Nat), b < 2 ^ k → 2 * k + r ≤ 98 → 2 * k < m → a < 2 ^ 31 → b < 2 ^ 31 → MX7_greatestDivisor_l7 m (nI a) (nI b) (nI r) = some (nI (Nat.gcd a b)) := by
  intro k
  induction k with
  | zero =>
    intro m r a b h1 h2 h3 h4 h5
    obtain ⟨m, rfl⟩ : ∃ j, m = j + 1 := ⟨m - 1, by omega⟩
    have e : b = 0 := by omega
    subst e
    rw [MX7_greatestDivisor_l7, if_neg (show ¬ (100 : Int32) ≤ nI r from nI_ge (b := 100) (by omega) (by omega)), n0z, Nat.gcd_zero_right]
    rfl
  | succ k ih =>
    intro m r a b h1 h2 h3 h4 h5
    obtain ⟨m, rfl⟩ : ∃ j, m = j + 1 := ⟨m - 1, by omega⟩
    rw [MX7_greatestDivisor_l7, if_neg (show ¬ (100 : Int32) ≤ nI r from nI_ge (b := 100) (by omega) (by omega))]
    by_cases hb : b = 0
    · subst hb
      rw [n0z, Nat.gcd_zero_right]
      rfl
    · have hlt := Nat.mod_lt a (show b > 0 by omega)
      unfold MD
      simp only [MLet]
      rw [if_neg (show ¬ nI b = (0 : Int32) from nI_ne (b := 0) (by omega) (by omega) hb), if_neg (show ¬ nI b = (0 : Int32) from nI_ne (b := 0) (by omega) (by omega) hb), pk_rem h4 (by omega) h5, nI_1, gcd_step]
      obtain ⟨m, rfl⟩ : ∃ j, m = j + 1 := ⟨m - 1, by omega⟩
      rw [MX7_greatestDivisor_l7, if_neg (show ¬ (100 : Int32) ≤ nI (r + 1) from nI_ge (b := 100) (by omega) (by omega))]
      by_cases hr : a % b = 0
      · rw [hr, n0z, Nat.gcd_zero_right]
        rfl
      · have hh := half_mod hlt (by omega)
        unfold MD
        simp only [MLet]
        rw [if_neg (show ¬ nI (a % b) = (0 : Int32) from nI_ne (b := 0) (by omega) (by omega) hr), if_neg (show ¬ nI (a % b) = (0 : Int32) from nI_ne (b := 0) (by omega) (by omega) hr), pk_rem h5 (by omega) (by omega), nI_1, gcd_step]
        exact ih m (r + 1 + 1) (a % b) (b % (a % b)) (by rw [Nat.pow_succ] at h1; omega) (by omega) (by omega) (by omega) (by omega)
theorem p_mgcd {p4 x6 x5 : Int32} {w : Nat → Int32} : ∀ (k m a b : Nat), b < 2 ^ k → 2 * k < m → a < 2 ^ 31 → b < 2 ^ 31 → MX8_rumours_l179 p4 x6 x5 w m (nI a) (nI b) = MX8_rumours_j202 p4 x6 x5 w (nI (Nat.gcd a b)) := by
  intro k
  induction k with
  | zero =>
    intro m a b h1 h3 h4 h5
    obtain ⟨m, rfl⟩ : ∃ j, m = j + 1 := ⟨m - 1, by omega⟩
    have e : b = 0 := by omega
    subst e
    rw [MX8_rumours_l179, n0z, Nat.gcd_zero_right]
  | succ k ih =>
    intro m a b h1 h3 h4 h5
    obtain ⟨m, rfl⟩ : ∃ j, m = j + 1 := ⟨m - 1, by omega⟩
    rw [MX8_rumours_l179]
    by_cases hb : b = 0
    · subst hb
      rw [n0z, Nat.gcd_zero_right]
    · have hlt := Nat.mod_lt a (show b > 0 by omega)
      unfold MD
      simp only [MLet]
      rw [if_neg (show ¬ nI b = (0 : Int32) from nI_ne (b := 0) (by omega) (by omega) hb), if_neg (show ¬ nI b = (0 : Int32) from nI_ne (b := 0) (by omega) (by omega) hb), pk_rem h4 (by omega) h5, gcd_step]
      obtain ⟨m, rfl⟩ : ∃ j, m = j + 1 := ⟨m - 1, by omega⟩
      rw [MX8_rumours_l179]
      by_cases hr : a % b = 0
      · rw [hr, n0z, Nat.gcd_zero_right]
      · have hh := half_mod hlt (by omega)
        unfold MD
        simp only [MLet]
        rw [if_neg (show ¬ nI (a % b) = (0 : Int32) from nI_ne (b := 0) (by omega) (by omega) hr), if_neg (show ¬ nI (a % b) = (0 : Int32) from nI_ne (b := 0) (by omega) (by omega) hr), pk_rem h5 (by omega) (by omega), gcd_step]
        exact ih m (a % b) (b % (a % b)) (by rw [Nat.pow_succ] at h1; omega) (by omega) (by omega) (by omega)
def aRum (A : APl) (s : Nat) : Nat → Nat → ASt → ASt
  | 0, _, a => a
  | k + 1, i, a => aRum A s k (i + 1) (aMin A false (bitB s i) a)
theorem WF.rum {A : APl} {s : Nat} (hA : WFP A) : ∀ (k i c : Nat) (a : ASt), WF A.2.2.2.1 c a → WF A.2.2.2.1 (c + 2 * k) (aRum A s k i a) := by
  intro k
  induction k with
  | zero => intro i c a h; exact h
  | succ k ih =>
    intro i c a h
    have := ih (i + 1) (c + 2) _ (h.min (two := false) (rum := bitB s i) hA)
    rwa [show c + 2 * (k + 1) = c + 2 + 2 * k by omega]
theorem p_fed_l {N : Nat} (hN : 100 ≤ N) {P : PlanV} {A : APl} {p s : Nat} (hP : repP P A) (hA : WFP A) (hp : p < A.2.2.2.1) : ∀ (m k i c : Nat) (L : LineV) (a : ASt), k < m → i + k < 1000 → repL A.2.2.2.2.2.1 L a → WF A.2.2.2.1 c a → c + 2 * k ≤ 999999 →
    ∃ u, MX0_isFedByRumours_l7 N P (nI p) (nI (i + k)) (nI s) m (nI i) L.1 L.2.1 L.2.2.1 L.2.2.2.1 L.2.2.2.2.1 L.2.2.2.2.2.1 L.2.2.2.2.2.2.1 L.2.2.2.2.2.2.2.1 L.2.2.2.2.2.2.2.2 = some u ∧ u.1 = bI (decide ((aRum A s k i a).2.1 p = 3)) := by
  have h9 := hA.1
  intro m
  induction m with
  | zero => intro k i c L a h; omega
  | succ m ih =>
    intro k i c L a h1 h2 hL hw hc
    rw [MX0_isFedByRumours_l7]
    cases k with
    | zero =>
      have hwp := hw.2.2.2.1 p
      have e0 : MX1_whereIs N (L.1, L.2.1, L.2.2.1, L.2.2.2.1, L.2.2.2.2.1, L.2.2.2.2.2.1, L.2.2.2.2.2.2.1, L.2.2.2.2.2.2.2.1, L.2.2.2.2.2.2.2.2) (nI p) = some (nI (a.2.1 p)) := p_whereIs (N := N) hL (by omega)
      rw [if_pos (nI_le (by omega) (by omega))]
      unfold MX0_isFedByRumours_j46
      rw [e0, aRum]
      simp only [Option.bind_some]
      by_cases g : a.2.1 p = 3
      · rw [if_pos (show nI (a.2.1 p) = (3 : Int32) by rw [g]; rfl), decide_eq_true g]
        exact ⟨_, rfl, rfl⟩
      · rw [if_neg (show ¬ nI (a.2.1 p) = (3 : Int32) from nI_ne (b := 3) (by omega) (by omega) g), decide_eq_false g]
        exact ⟨_, rfl, rfl⟩
    | succ k =>
      obtain ⟨u, e, q⟩ := p_goOn (two := false) (rum := bitB s i) hN hP hA hL hw (by omega)
      have w1 := hw.min (two := false) (rum := bitB s i) hA
      have ihh := ih k (i + 1) (c + 2) u _ (by omega) (by omega) q w1 (by omega)
      rw [show i + 1 + k = i + (k + 1) by omega] at ihh
      have key : ∀ t, t = bI (bitB s i) → ∃ u, MX0_isFedByRumours_j36 N P (nI i) L.1 L.2.1 L.2.2.1 L.2.2.2.1 L.2.2.2.2.1 L.2.2.2.2.2.1 L.2.2.2.2.2.2.1 L.2.2.2.2.2.2.2.1 L.2.2.2.2.2.2.2.2 (MX0_isFedByRumours_l7 N P (nI p) (nI (i + (k + 1))) (nI s) m) t = some u ∧ u.1 = bI (decide ((aRum A s (k + 1) i a).2.1 p = 3)) := by
        intro t ht
        subst ht
        have e' : MX1_goOn N (L.1, L.2.1, L.2.2.1, L.2.2.2.1, L.2.2.2.2.1, L.2.2.2.2.2.1, L.2.2.2.2.2.2.1, L.2.2.2.2.2.2.2.1, L.2.2.2.2.2.2.2.2) P (bI (bitB s i)) 0 = some u := e
        unfold MX0_isFedByRumours_j36
        rw [e']
        simp only [Option.bind_some]
        rw [nI_1]
        exact ihh
      rw [if_neg (show ¬ nI (i + (k + 1)) ≤ nI i from nI_ge (by omega) (by omega))]
      by_cases g : ((nI s >>> (nI i &&& 31)) &&& (1 : Int32)) = (1 : Int32)
      · rw [if_pos g]
        exact key 1 (by unfold bitB; rw [decide_eq_true g]; rfl)
      · rw [if_neg g]
        exact key 0 (by unfold bitB; rw [decide_eq_false g]; rfl)
theorem p_fed {N : Nat} (hN : 100 ≤ N) {P : PlanV} {A : APl} {p s n c : Nat} {L Tr : LineV} {a : ASt} (hP : repP P A) (hA : WFP A) (hp : p < A.2.2.2.1) (hn : n ≤ 8) (hL : repL A.2.2.2.2.2.1 L a) (hw : WF A.2.2.2.1 c a) (hc : c ≤ 900000) : ∃ u, MX0_isFedByRumours N P L Tr (nI p) (nI n) (nI s) = some u ∧ u.1 = bI (decide ((aRum A s n 0 a).2.1 p = 3)) := by
  obtain ⟨L1, a1, q1⟩ := p_start (N := N) (Tr := Tr) hL hw hA.1
  obtain ⟨u, e, q⟩ := p_fed_l (s := s) hN hP hA hp N n 0 c L1 a (by omega) (by omega) q1 hw (by omega)
  rw [Nat.zero_add] at e
  refine ⟨u, ?_, q⟩
  unfold MX0_isFedByRumours
  rw [a1]
  exact e
theorem p_isIn {N s k : Nat} : MX8_isIn N (nI s) (nI k) = some (bI (bitB s k)) := by
  unfold MX8_isIn bitB
  by_cases g : ((nI s >>> (nI k &&& 31)) &&& (1 : Int32)) = (1 : Int32)
  · rw [if_pos g, decide_eq_true g]; rfl
  · rw [if_neg g, decide_eq_false g]; rfl
theorem p_mrum_l {N : Nat} (hN : 100 ≤ N) {F : Nat → Int32} {A : APl} {s x : Nat} {pp X5 : Int32} {rc : Int32 → Int32 → (Nat → Int32) → Option (Int32 × (Nat → Int32))} (hA : WFP A) (hF : rfF F A) (hx : x ≤ 10) : ∀ (m k i c y : Nat) (w : Nat → Int32) (a : ASt), k < m → i + k < 1000 → repK 66 w A (mOf a) → WF A.2.2.2.1 c a → c + 2 * k ≤ 999999 →
    ∃ w', MX8_rumours_l94 N (nI A.2.2.2.1) F (nI A.2.2.2.2.1) (nI A.2.2.2.2.2.1) pp (nI (i + k)) (nI x) X5 (nI s) rc m (nI y) (nI i) w = MX8_rumours_j143 N pp X5 (nI s) rc (nI (y * pw x s k i)) w' ∧ repK 66 w' A (mOf (aRum A s k i a)) ∧ frm 66 w w' := by
  intro m
  induction m with
  | zero => intro k i c y w a h; omega
  | succ m ih =>
    intro k i c y w a h1 h2 hK hw hc
    rw [MX8_rumours_l94]
    cases k with
    | zero =>
      rw [if_pos (nI_le (by omega) (by omega)), pw, Nat.mul_one]
      exact ⟨_, rfl, hK, frm.rfl'⟩
    | succ k =>
      obtain ⟨w1, e1, q1, f1⟩ := p_mpassBy hN (r := 66) (two := false) (rum := bitB s i) (by omega) hA hF hK hw (by omega)
      have e1' : MX8_passesBy N w (nI A.2.2.2.1) F (nI A.2.2.2.2.1) (nI A.2.2.2.2.2.1) (66 : Int32) (0 : Int32) (bI (bitB s i)) = some w1 := e1
      have v1 := hw.min (two := false) (rum := bitB s i) hA
      have key : ∀ t, t = (if bitB s i then x else 10 - x) → ∃ w', MX8_rumours_j120 N (nI A.2.2.2.1) F (nI A.2.2.2.2.1) (nI A.2.2.2.2.2.1) (nI s) (nI y) (nI i) w (MX8_rumours_l94 N (nI A.2.2.2.1) F (nI A.2.2.2.2.1) (nI A.2.2.2.2.2.1) pp (nI (i + (k + 1))) (nI x) X5 (nI s) rc m) (nI t) = MX8_rumours_j143 N pp X5 (nI s) rc (nI (y * pw x s (k + 1) i)) w' ∧ repK 66 w' A (mOf (aRum A s (k + 1) i a)) ∧ frm 66 w w' := by
        intro t ht
        obtain ⟨w2, e2, q2, f2⟩ := ih k (i + 1) (c + 2) (y * t) w1 _ (by omega) (by omega) q1 v1 (by omega)
        rw [show i + 1 + k = i + (k + 1) by omega] at e2
        refine ⟨w2, ?_, q2, f1.tr f2⟩
        unfold MX8_rumours_j120
        simp only [MLet]
        rw [p_isIn]
        simp only [Option.bind_some]
        rw [e1']
        simp only [Option.bind_some]
        rw [nI_1, nI_mul, e2, pw, ← ht, Nat.mul_assoc]
      rw [if_neg (show ¬ nI (i + (k + 1)) ≤ nI i from nI_ge (by omega) (by omega)), p_isIn]
      simp only [Option.bind_some]
      have e10 : (10 : Int32) - nI x = nI (10 - x) := pk_sub (a := 10) hx
      rw [e10]
      cases hb : bitB s i with
      | false =>
        rw [bf]
        exact key (10 - x) (by rw [hb]; rfl)
      | true =>
        rw [bt]
        exact key x (by rw [hb]; rfl)
theorem p_rum_l {N : Nat} (hN : 100000 ≤ N) {c : Nat} (hc : c ≤ 500000) {A : APl} {P : PlanV} {Nw : LineV} {U K : ShelfV} {F : Nat → Int32} {a : ASt} {us ks : List ASt} {p n x : Nat} {p4 : Int32} (hp : p < A.2.2.2.1) (hn : n < 9) (hx : x < 11) : ∀ (m k s ab : Nat) (L : LineV) (w : Nat → Int32), s + k = 2 ^ n → k < m → ab ≤ sumN x n s → Core c A P Nw U K w F a us ks →
    ∃ u ab' w', MX0_chanceOfTenths_l6 N P Nw (nI p) (nI n) (nI x) m (nI ab) (nI s) L.1 L.2.1 L.2.2.1 L.2.2.2.1 L.2.2.2.2.1 L.2.2.2.2.2.1 L.2.2.2.2.2.2.1 L.2.2.2.2.2.2.2.1 L.2.2.2.2.2.2.2.2 = some u ∧ u.1 = nI ab' ∧ ab' ≤ 10 ^ n ∧ MX8_rumours_l76 N (nI A.2.2.2.1) F (nI A.2.2.2.2.1) (nI A.2.2.2.2.2.1) (nI p) (nI n) (nI x) p4 (nI (10 ^ n)) m (nI ab) (nI s) w = MX8_rumours_j171 N p4 (nI (10 ^ n)) (nI ab') w' ∧ frm 66 w w' := by
  have t2 := pow2_le n hn
  have t10 := pow10_le n hn
  have hsum := sum_ok n hn x hx
  have hshl := shl_ok n hn
  intro m
  induction m with
  | zero => intro k s ab L w h1 h2; omega
  | succ m ih =>
    intro k s ab L w h1 h2 hab h
    obtain ⟨c1, c2, c3, c4, ⟨n1, n2, n3, n4⟩, c6, c7⟩ := id h
    have h9 := c1.1
    rw [MX0_chanceOfTenths_l6, MX8_rumours_l76, hshl]
    cases k with
    | zero =>
      have e : s = 2 ^ n := by omega
      rw [if_pos (nI_le (by omega) (by omega)), if_pos (nI_le (by omega) (by omega))]
      rw [e, hsum] at hab
      exact ⟨_, ab, w, rfl, rfl, hab, rfl, frm.rfl'⟩
    | succ k =>
      have hs : s < 2 ^ n := by omega
      have hmono := sum_mono (x := x) (n := n) (show s + 1 ≤ 2 ^ n by omega)
      rw [hsum, sumN] at hmono
      have hpc := pcr_ok n hn s hs
      have hpl := pcr_le (s := s) n 0
      have hpw := pw_eq (x := x) (s := s) n 0
      rw [hpc] at hpw hpl
      rw [← hpw] at hmono
      have hbc : MJ6_bitCount_0f7a4 N (nI s) = some (nI (pcN s)) := bc_ok s (by omega)
      have e1 : MX7_power N (nI x) (nI (pcN s)) = some (nI (x ^ pcN s)) := p_power (by omega) (by omega)
      have e10 : (10 : Int32) - nI x = nI (10 - x) := pk_sub (a := 10) (by omega)
      have en : nI n - nI (pcN s) = nI (n - pcN s) := pk_sub hpl
      have e2 : MX7_power N (nI (10 - x)) (nI (n - pcN s)) = some (nI ((10 - x) ^ (n - pcN s))) := p_power (by omega) (by omega)
      obtain ⟨w1, d1, p1, f1⟩ := p_tries (N := N) (by omega) h9 n2 n4
      obtain ⟨w2, d2, p2, f2⟩ := p_mrum_l (N := N) (s := s) (x := x) (pp := nI p) (X5 := nI ab) (rc := MX8_rumours_l76 N (nI A.2.2.2.1) F (nI A.2.2.2.2.1) (nI A.2.2.2.2.2.1) (nI p) (nI n) (nI x) p4 (nI (10 ^ n)) m) (by omega) c1 c4 (by omega) N n 0 c 1 w1 a (by omega) (by omega) p1 n2 (by omega)
      rw [Nat.zero_add, Nat.one_mul] at d2
      have v2 := WF.rum (s := s) c1 n 0 c a n2
      have hvp := v2.2.2.2.1 p
      have d2' : MX8_rumours_l94 N (nI A.2.2.2.1) F (nI A.2.2.2.2.1) (nI A.2.2.2.2.2.1) (nI p) (nI n) (nI x) (nI ab) (nI s) (MX8_rumours_l76 N (nI A.2.2.2.1) F (nI A.2.2.2.2.1) (nI A.2.2.2.2.2.1) (nI p) (nI n) (nI x) p4 (nI (10 ^ n)) m) N (1 : Int32) (0 : Int32) w1 = _ := d2
      have e3 : MX8_isWhere N w2 (66 : Int32) (nI p) (3 : Int32) = some (bI (decide ((aRum A s n 0 a).2.1 p = 3))) := p_misWhere (N := N) (r := 66) (v := 3) (by omega) p2 (by omega) hvp (by omega)
      have ff := f1.tr f2
      have hfin := h.tr ff
      obtain ⟨u, a1, q1⟩ := p_fed (N := N) (s := s) (n := n) (Tr := L) (by omega) c3 c1 hp (by omega) n1 n2 (by omega)
      have a1' : MX0_isFedByRumours N P Nw (L.1, L.2.1, L.2.2.1, L.2.2.2.1, L.2.2.2.2.1, L.2.2.2.2.2.1, L.2.2.2.2.2.2.1, L.2.2.2.2.2.2.2.1, L.2.2.2.2.2.2.2.2) (nI p) (nI n) (nI s) = some u := a1
      rw [if_neg (nI_ge (by omega) (by omega)), if_neg (nI_ge (by omega) (by omega)), hbc, d1]
      simp only [Option.bind_some]
      rw [e1, d2']
      simp only [Option.bind_some]
      rw [e10, en, e2]
      simp only [Option.bind_some, MLet]
      rw [nI_mul, ← hpw]
      unfold MX8_rumours_j143 MX8_rumours_j162 MX0_chanceOfTenths_j64
      rw [e3]
      simp only [Option.bind_some, MLet]
      have nx : ∀ (ab1 : Nat) (L' : LineV), ab1 ≤ sumN x n (s + 1) → ∃ u ab' w', MX0_chanceOfTenths_l6 N P Nw (nI p) (nI n) (nI x) m (nI ab1) (nI s + 1) L'.1 L'.2.1 L'.2.2.1 L'.2.2.2.1 L'.2.2.2.2.1 L'.2.2.2.2.2.1 L'.2.2.2.2.2.2.1 L'.2.2.2.2.2.2.2.1 L'.2.2.2.2.2.2.2.2 = some u ∧ u.1 = nI ab' ∧ ab' ≤ 10 ^ n ∧ MX8_rumours_l76 N (nI A.2.2.2.1) F (nI A.2.2.2.2.1) (nI A.2.2.2.2.2.1) (nI p) (nI n) (nI x) p4 (nI (10 ^ n)) m (nI ab1) (nI s + 1) w2 = MX8_rumours_j171 N p4 (nI (10 ^ n)) (nI ab') w' ∧ frm 66 w w' := by
        intro ab1 L' hab1
        obtain ⟨u, ab', w', z1, z2, z3, z4, z5⟩ := ih k (s + 1) ab1 L' w2 (by omega) (by omega) hab1 hfin
        rw [nI_1]
        exact ⟨u, ab', w', z1, z2, z3, z4, ff.tr z5⟩
      have hs1 : sumN x n (s + 1) = sumN x n s + pw x s n 0 := by rw [sumN, hpw]
      have l1 : ab ≤ sumN x n (s + 1) := by omega
      have l2 : ab + pw x s n 0 ≤ sumN x n (s + 1) := by omega
      by_cases hz : pw x s n 0 = 0
      · rw [hz, if_pos (show nI 0 ≤ (0 : Int32) by decide)]
        have hi0 : ∀ (q : Prop) [Decidable q] (R : Int32 → Option (Int32 × (Nat → Int32))), (if q then R (nI ab + (0 : Int32)) else R (nI ab + nI 0)) = R (nI ab) := by
          intro q _ R
          rw [k0, nI_add, Nat.add_zero]
          split <;> rfl
        rw [hi0 _ (fun t => MX8_rumours_l76 N (nI A.2.2.2.1) F (nI A.2.2.2.2.1) (nI A.2.2.2.2.2.1) (nI p) (nI n) (nI x) p4 (nI (10 ^ n)) m t (nI s + 1) w2)]
        exact nx ab L l1
      · rw [if_neg (show ¬ nI (pw x s n 0) ≤ (0 : Int32) from nI_nle (by omega) (by omega)), a1']
        simp only [Option.bind_some]
        rw [q1]
        cases decide ((aRum A s n 0 a).2.1 p = 3) with
        | false =>
          rw [bf, bf, show nI ab + (0 : Int32) = nI ab from (nI_add ab 0)]
          exact nx ab (u.2.1, u.2.2.1, u.2.2.2.1, u.2.2.2.2.1, u.2.2.2.2.2.1, u.2.2.2.2.2.2.1, u.2.2.2.2.2.2.2.1, u.2.2.2.2.2.2.2.2.1, u.2.2.2.2.2.2.2.2.2) l1
        | true =>
          rw [bt, bt, nI_add]
          exact nx (ab + pw x s n 0) (u.2.1, u.2.2.1, u.2.2.2.1, u.2.2.2.2.1, u.2.2.2.2.2.1, u.2.2.2.2.2.2.1, u.2.2.2.2.2.2.2.1, u.2.2.2.2.2.2.2.2.1, u.2.2.2.2.2.2.2.2.2) l2
theorem p_mdown_l {N : Nat} {w F : Nat → Int32} {q1 q2 q3 p1 p3 p4 : Int32} {n : Nat} (hn : n < 9) : ∀ (m k i : Nat), i + k = n → k < m → MX8_rumours_l54 N w q1 F q2 q3 p1 (nI n) p3 p4 m (nI (10 ^ i)) (nI i) = MX8_rumours_j73 N w q1 F q2 q3 p1 (nI n) p3 p4 (nI (10 ^ n)) := by
  intro m
  induction m with
  | zero => intro k i h1 h2; omega
  | succ m ih =>
    intro k i h1 h2
    rw [MX8_rumours_l54]
    cases k with
    | zero =>
      have e : i = n := by omega
      subst e
      rw [if_pos (nI_le (Nat.le_refl _) (by omega))]
    | succ k =>
      rw [if_neg (nI_ge (by omega) (by omega))]
      simp only [MLet]
      rw [nI_1, k10, nI_mul, ← Nat.pow_succ]
      exact ih k (i + 1) (by omega) (by omega)
theorem s_rumours {N : Nat} (hN : 100000 ≤ N) {c : Nat} (hc : c ≤ 500000) {A : APl} {P : PlanV} {Nw : LineV} {U K : ShelfV} {w F : Nat → Int32} {a : ASt} {us ks : List ASt} (h : Core c A P Nw U K w F a us ks) (Tr : LineV) (x y z t : Int32) : ∃ u v, MX7_rumours N P Nw Tr x y z t = some u ∧ MX8_rumours N w (nI A.2.2.2.1) F (nI A.2.2.2.2.1) (nI A.2.2.2.2.2.1) x y z t = some v ∧ u.1 = v.1 ∧ frm 66 w v.2 := by
  obtain ⟨c1, c2, c3, c4, ⟨n1, n2, n3, n4⟩, c6, c7⟩ := id h
  have h9 := c1.1
  have hi : MX8_in N y.toInt64 (0 : Int64) (8 : Int64) = some (if y < 0 ∨ 8 < y then 0 else 1) := p_in y 0 8
  have hj : MX8_in N z.toInt64 (0 : Int64) (10 : Int64) = some (if z < 0 ∨ 10 < z then 0 else 1) := p_in z 0 10
  have hk : MX8_in N t.toInt64 (0 : Int64) (1 : Int64) = some (if t < 0 ∨ 1 < t then 0 else 1) := p_in t 0 1
  unfold MX7_rumours MX8_rumours
  rcases p_has (N := N) c3 c1 x with ⟨p, hp, e, hh⟩ | ⟨-, hh⟩
  · subst e
    rw [p_isPerson c3 c1, hh, hi, hj, hk]
    simp only [Option.bind_some, b1]
    by_cases h1 : y < 0
    · rw [if_pos h1, if_pos (show y < 0 ∨ 8 < y from Or.inl h1), b0]
      exact ⟨_, _, rfl, rfl, rfl, frm.rfl'⟩
    by_cases h2 : 8 < y
    · rw [if_neg h1, if_pos h2, if_pos (show y < 0 ∨ 8 < y from Or.inr h2), b0]
      exact ⟨_, _, rfl, rfl, rfl, frm.rfl'⟩
    obtain ⟨n, _, n8, e⟩ := rng (lo := 0) (hi := 8) (by omega) (by omega) h1 h2
    rw [if_neg h1, if_neg h2, if_neg (show ¬ (y < 0 ∨ 8 < y) from fun q => q.elim h1 h2), b1]
    subst e
    by_cases h3 : z < 0
    · rw [if_pos h3, if_pos (show z < 0 ∨ 10 < z from Or.inl h3), b0]
      exact ⟨_, _, rfl, rfl, rfl, frm.rfl'⟩
    by_cases h4 : 10 < z
    · rw [if_neg h3, if_pos h4, if_pos (show z < 0 ∨ 10 < z from Or.inr h4), b0]
      exact ⟨_, _, rfl, rfl, rfl, frm.rfl'⟩
    obtain ⟨d, _, d10, e⟩ := rng (lo := 0) (hi := 10) (by omega) (by omega) h3 h4
    rw [if_neg h3, if_neg h4, if_neg (show ¬ (z < 0 ∨ 10 < z) from fun q => q.elim h3 h4), b1]
    subst e
    by_cases h5 : t < 0
    · rw [if_pos h5, if_pos (show t < 0 ∨ 1 < t from Or.inl h5), b0]
      exact ⟨_, _, rfl, rfl, rfl, frm.rfl'⟩
    by_cases h6 : 1 < t
    · rw [if_neg h5, if_neg (i32_nle h6), if_pos (show t < 0 ∨ 1 < t from Or.inr h6), b0]
      exact ⟨_, _, rfl, rfl, rfl, frm.rfl'⟩
    rw [if_neg h5, if_pos (i32_le h6), if_neg (show ¬ (t < 0 ∨ 1 < t) from fun q => q.elim h5 h6), b1]
    have t10 := pow10_le n (by omega)
    have t11 := pow10_pos n (by omega)
    have t2 := pow2_le n (by omega)
    obtain ⟨u, ab, w', z1, z2, z3, z4, z5⟩ := p_rum_l hN hc (p4 := t) hp (show n < 9 by omega) (show d < 11 by omega) N (2 ^ n) 0 0 Tr w (by omega) (by omega) (by omega) h
    have e1 : MX0_chanceOfTenths N P Nw Tr (nI p) (nI n) (nI d) = some u := z1
    have e2 : MX7_power N (10 : Int32) (nI n) = some (nI (10 ^ n)) := p_power (x := 10) (by omega) (by omega)
    have e3 : MX7_greatestDivisor N (nI ab) (nI (10 ^ n)) = some (nI (Nat.gcd ab (10 ^ n))) := p_gcd 27 N 0 ab (10 ^ n) (by omega) (by omega) (by omega) (by omega) (by omega)
    have e4 : MX8_rumours_l54 N w (nI A.2.2.2.1) F (nI A.2.2.2.2.1) (nI A.2.2.2.2.2.1) (nI p) (nI n) (nI d) t N (1 : Int32) (0 : Int32) = _ := p_mdown_l (show n < 9 by omega) N n 0 (by omega) (by omega)
    have e5 : MX8_rumours_l76 N (nI A.2.2.2.1) F (nI A.2.2.2.2.1) (nI A.2.2.2.2.2.1) (nI p) (nI n) (nI d) t (nI (10 ^ n)) N (0 : Int32) (0 : Int32) w = _ := z4
    have e6 := p_mgcd (p4 := t) (x6 := nI (10 ^ n)) (x5 := nI ab) (w := w') 27 N ab (10 ^ n) (by omega) (by omega) (by omega) (by omega)
    rw [e1, e4]
    unfold MX8_rumours_j73
    rw [e5]
    unfold MX8_rumours_j171
    rw [e6]
    simp only [Option.bind_some]
    rw [e2, z2]
    simp only [Option.bind_some]
    rw [e3]
    simp only [Option.bind_some]
    have hg1 : 1 ≤ Nat.gcd ab (10 ^ n) := Nat.gcd_pos_of_pos_right _ (by omega)
    have hg2 : Nat.gcd ab (10 ^ n) ≤ 10 ^ n := Nat.le_of_dvd (by omega) (Nat.gcd_dvd_right _ _)
    generalize Nat.gcd ab (10 ^ n) = g at hg1 hg2
    rw [if_pos (show (1 : Int32) ≤ nI g from nI_le (a := 1) (by omega) (by omega))]
    unfold MX8_rumours_j202 MD
    have hne : ¬ nI g = (0 : Int32) := nI_ne (b := 0) (by omega) (by omega) (by omega)
    by_cases h7 : t = 0
    · rw [if_pos h7, if_pos h7, if_neg hne, if_neg hne]
      exact ⟨_, _, rfl, rfl, rfl, z5⟩
    · rw [if_neg h7, if_neg h7, if_neg hne, if_neg hne]
      exact ⟨_, _, rfl, rfl, rfl, z5⟩
  · rw [p_isPerson c3 c1, hh]
    simp only [Option.bind_some, b0]
    exact ⟨_, _, rfl, rfl, rfl, frm.rfl'⟩
