/-! how many ways, and fractions -/
def kCh : Nat → Nat → Nat
  | _, 0 => 1
  | 0, _ + 1 => 0
  | n + 1, k + 1 => kCh n k + kCh n (k + 1)
theorem kCh_0 : ∀ n k, n < k → kCh n k = 0 := by
  intro n
  induction n with
  | zero => intro k h; cases k with
    | zero => omega
    | succ k => rfl
  | succ n ih =>
    intro k h
    cases k with
    | zero => omega
    | succ k => show kCh n k + kCh n (k + 1) = 0; rw [ih k (by omega), ih (k + 1) (by omega)]
theorem kCh_le : ∀ n k, kCh n k ≤ 2 ^ n := by
  intro n
  induction n with
  | zero => intro k; cases k with
    | zero => exact Nat.le_refl 1
    | succ k => exact Nat.zero_le _
  | succ n ih =>
    intro k
    cases k with
    | zero => exact Nat.one_le_two_pow
    | succ k =>
      show kCh n k + kCh n (k + 1) ≤ 2 ^ (n + 1)
      have := ih k
      have := ih (k + 1)
      rw [Nat.pow_succ]; omega
theorem kCh_lt {n : Nat} (h : n ≤ 60) (k : Nat) : kCh n k < 2 ^ 61 := Nat.lt_of_le_of_lt (kCh_le n k) (Nat.pow_lt_pow_right (by omega) (by omega))
theorem kCh_pos : ∀ n k, k ≤ n → 0 < kCh n k := by
  intro n
  induction n with
  | zero => intro k h; obtain rfl : k = 0 := by omega
            exact Nat.one_pos
  | succ n ih =>
    intro k h
    cases k with
    | zero => exact Nat.one_pos
    | succ k => show 0 < kCh n k + kCh n (k + 1); have := ih k (by omega); omega
def kPas (f g : Nat → Int64) : Prop := ∀ n k, n ≤ 60 → k ≤ n → f (n * (n + 1) / 2 + k) = lN (kCh n k) ∧ g (61 * n + k) = lN (kCh n k)
theorem q_ch6 {z : VX1} {g : Nat → Int64} (h : kPas z.1 g) {n k : Nat} (hn : n ≤ 60) (hk : k < 2 ^ 31) : fX1_choose z (nI n) (nI k) = some (lN (kCh n k)) := by
  have hm : n * (n + 1) ≤ 60 * 61 := Nat.mul_le_mul hn (by omega)
  unfold fX1_choose
  rw [if_neg (nI_pos (by omega)), if_neg (by rw [show (60 : Int32) = nI 60 from rfl, nI_ltI (by omega) (by omega)]; omega), if_neg (nI_pos hk)]
  by_cases a : k ≤ n
  · rw [if_pos (by rw [nI_leI (by omega) (by omega)]; exact a)]
    have e : (nI n * (nI n + 1)) / 2 + nI k = nI (n * (n + 1) / 2 + k) := by
      rw [nI_1, pk_mul, show (2 : Int32) = nI 2 from rfl, pk_div (by omega) (by omega) (by omega), nI_add]
    rw [e, if_neg (by rw [show (1891 : Int32) = nI 1891 from rfl, nI_leI (by omega) (by omega)]; omega), if_pos (nI_in (by omega) (by omega)), nI_clamp (by omega), (h n k hn a).1]
  · rw [if_neg (by rw [nI_leI (by omega) (by omega)]; exact a), kCh_0 n k (by omega)]; rfl
theorem q_ch7 {f g : Nat → Int64} (h : kPas f g) {n k : Nat} (hn : n ≤ 60) (hk : k < 2 ^ 31) : fX7_ways g (nI n) (nI k) = some (lN (kCh n k)) := by
  unfold fX7_ways
  rw [if_neg (nI_pos (by omega)), if_neg (nI_pos hk)]
  by_cases a : k ≤ n
  · rw [if_pos (by rw [nI_leI (by omega) (by omega)]; exact a)]
    have e : (61 : Int32) * nI n + nI k = nI (61 * n + k) := by rw [show (61 : Int32) = nI 61 from rfl, pk_mul, nI_add]
    rw [e, if_pos (nI_in (by omega) (by omega)), nI_clamp (by omega), (h n k hn a).2]
  · rw [if_neg (by rw [nI_leI (by omega) (by omega)]; exact a), kCh_0 n k (by omega)]; rfl
theorem q_ch6n {z : VX1} {n : Nat} (hn : n ≤ 60) {x : Int32} (hx : x < 0) : fX1_choose z (nI n) x = some 0 := by
  unfold fX1_choose
  rw [if_neg (nI_pos (by omega)), if_neg (by rw [show (60 : Int32) = nI 60 from rfl, nI_ltI (by omega) (by omega)]; omega), if_pos hx]
theorem q_ch7n {g : Nat → Int64} {n : Nat} (hn : n ≤ 60) {x : Int32} (hx : x < 0) : fX7_ways g (nI n) x = some 0 := by
  unfold fX7_ways
  rw [if_neg (nI_pos (by omega)), if_pos hx]
/-! common divisors -/
theorem q_half {b c : Nat} (h : c < b) (h0 : 0 < c) : 2 * (b % c) < b := by
  have h1 := Nat.mod_lt b h0
  have h2 := Nat.div_add_mod b c
  have h3 : 1 ≤ b / c := (Nat.one_le_div_iff h0).mpr (by omega)
  have h4 : c * 1 ≤ c * (b / c) := Nat.mul_le_mul_left c h3
  omega
theorem q_gcd6 {N : Nat} : ∀ (k a b m i : Nat), k ≤ 63 → a < 2 ^ 63 → b < 2 ^ k → i + 2 * k < 200 → 2 * k < m → fX0_commonDivisor_l15 N m (lN a) (lN b) (nI i) = some (lN (Nat.gcd a b)) := by
  intro k
  induction k with
  | zero =>
    intro a b m i _ ha hb hi hm
    obtain ⟨m, rfl⟩ : ∃ q, m = q + 1 := ⟨m - 1, by omega⟩
    obtain rfl : b = 0 := by simpa using hb
    show fX0_commonDivisor_b15 N _ _ _ _ = _
    unfold fX0_commonDivisor_b15
    rw [if_neg (by rw [show (200 : Int32) = nI 200 from rfl, nI_leI (by omega) (by omega)]; omega), if_pos (show lN 0 = 0 from rfl), Nat.gcd_zero_right]
  | succ k ih =>
    intro a b m i hk ha hb hi hm
    have hp : 2 ^ (k + 1) ≤ 2 ^ 63 := Nat.pow_le_pow_right (by omega) hk
    obtain ⟨m, rfl⟩ : ∃ q, m = q + 1 := ⟨m - 1, by omega⟩
    have hz : ∀ x, x < 2 ^ 63 → (lN x = 0 ↔ x = 0) := fun x hx => pk_lEQ (b := 0) hx (by omega)
    show fX0_commonDivisor_b15 N _ _ _ _ = _
    unfold fX0_commonDivisor_b15
    rw [if_neg (by rw [show (200 : Int32) = nI 200 from rfl, nI_leI (by omega) (by omega)]; omega)]
    by_cases b0 : b = 0
    · rw [if_pos ((hz b (by omega)).mpr b0), b0, Nat.gcd_zero_right]
    rw [if_neg (fun q => b0 ((hz b (by omega)).mp q)), if_neg (fun q => b0 ((hz b (by omega)).mp q)), pk_lRem ha (by omega) (by omega), nI_1]
    have hc : a % b < b := Nat.mod_lt _ (by omega)
    obtain ⟨m, rfl⟩ : ∃ q, m = q + 1 := ⟨m - 1, by omega⟩
    show fX0_commonDivisor_b15 N _ _ _ _ = _
    unfold fX0_commonDivisor_b15
    rw [if_neg (by rw [show (200 : Int32) = nI 200 from rfl, nI_leI (by omega) (by omega)]; omega)]
    have hg : Nat.gcd a b = Nat.gcd b (a % b) := by rw [Nat.gcd_comm a b, Nat.gcd_rec b a, Nat.gcd_comm]
    by_cases c0 : a % b = 0
    · rw [if_pos ((hz _ (by omega)).mpr c0), hg, c0, Nat.gcd_zero_right]
    rw [if_neg (fun q => c0 ((hz _ (by omega)).mp q)), if_neg (fun q => c0 ((hz _ (by omega)).mp q)), pk_lRem (by omega) (by omega) (by omega), nI_1]
    have h2 := q_half hc (by omega)
    rw [ih (a % b) (b % (a % b)) m (i + 1 + 1) (by omega) (by omega) (by rw [Nat.pow_succ] at hb; omega) (by omega) (by omega), hg]
    rw [Nat.gcd_comm b (a % b), Nat.gcd_rec (a % b) b, Nat.gcd_comm]
theorem q_gcd7 {N : Nat} : ∀ (k a b m : Nat), k ≤ 63 → a < 2 ^ 63 → b < 2 ^ k → 2 * k < m → fX7_common_l17 N m (lN a) (lN b) = some (lN (Nat.gcd a b)) := by
  intro k
  induction k with
  | zero =>
    intro a b m _ ha hb hm
    obtain ⟨m, rfl⟩ : ∃ q, m = q + 1 := ⟨m - 1, by omega⟩
    obtain rfl : b = 0 := by simpa using hb
    show fX7_common_b17 N _ _ _ = _
    unfold fX7_common_b17
    rw [if_pos (show lN 0 = 0 from rfl), Nat.gcd_zero_right]
  | succ k ih =>
    intro a b m hk ha hb hm
    have hp : 2 ^ (k + 1) ≤ 2 ^ 63 := Nat.pow_le_pow_right (by omega) hk
    obtain ⟨m, rfl⟩ : ∃ q, m = q + 1 := ⟨m - 1, by omega⟩
    have hz : ∀ x, x < 2 ^ 63 → (lN x = 0 ↔ x = 0) := fun x hx => pk_lEQ (b := 0) hx (by omega)
    show fX7_common_b17 N _ _ _ = _
    unfold fX7_common_b17
    by_cases b0 : b = 0
    · rw [if_pos ((hz b (by omega)).mpr b0), b0, Nat.gcd_zero_right]
    rw [if_neg (fun q => b0 ((hz b (by omega)).mp q)), if_neg (fun q => b0 ((hz b (by omega)).mp q)), pk_lRem ha (by omega) (by omega)]
    have hc : a % b < b := Nat.mod_lt _ (by omega)
    obtain ⟨m, rfl⟩ : ∃ q, m = q + 1 := ⟨m - 1, by omega⟩
    show fX7_common_b17 N _ _ _ = _
    unfold fX7_common_b17
    have hg : Nat.gcd a b = Nat.gcd b (a % b) := by rw [Nat.gcd_comm a b, Nat.gcd_rec b a, Nat.gcd_comm]
    by_cases c0 : a % b = 0
    · rw [if_pos ((hz _ (by omega)).mpr c0), hg, c0, Nat.gcd_zero_right]
    rw [if_neg (fun q => c0 ((hz _ (by omega)).mp q)), if_neg (fun q => c0 ((hz _ (by omega)).mp q)), pk_lRem (by omega) (by omega) (by omega)]
    have h2 := q_half hc (by omega)
    rw [ih (a % b) (b % (a % b)) m (by omega) (by omega) (by rw [Nat.pow_succ] at hb; omega) (by omega), hg]
    rw [Nat.gcd_comm b (a % b), Nat.gcd_rec (a % b) b, Nat.gcd_comm]
/-- a signed number with its size -/
def kSz (x : Int64) (a : Nat) : Prop := a < 2 ^ 63 ∧ (x = lN a ∨ (x = -lN a ∧ 0 < a))
theorem lN_nneg {a : Nat} (h : a < 2 ^ 63) : ¬ lN a < 0 := by rw [Int64.lt_iff_toInt_lt, pk_lT h]; have : (0 : Int64).toInt = 0 := by decide
                                                              omega
theorem lN_negneg {a : Nat} (h : a < 2 ^ 63) (h0 : 0 < a) : -lN a < 0 := by
  have e : (-lN a).toInt = -(a : Int) := by
    rw [Int64.toInt_neg, pk_lT h]
    exact Int.bmod_eq_of_le (by omega) (by omega)
  rw [Int64.lt_iff_toInt_lt, e]
  have : (0 : Int64).toInt = 0 := by decide
  omega
theorem q_abs6 {x : Int64} {a : Nat} (h : kSz x a) : (if 0 < x then x else -x) = lN a := by
  obtain ⟨ha, rfl | ⟨rfl, h0⟩⟩ := h
  · by_cases e : (0 : Int64) < lN a
    · rw [if_pos e]
    · have : a = 0 := by
        rw [show (0 : Int64) = lN 0 from rfl, pk_lLT (by omega) ha] at e; omega
      rw [if_neg e, this]; rfl
  · have := lN_negneg ha h0
    rw [if_neg (by rw [Int64.lt_iff_toInt_lt] at this ⊢; omega), Int64.neg_neg]
theorem q_abs7 {x : Int64} {a : Nat} (h : kSz x a) : (if (0 : Int64) ≤ x then x else -x) = lN a := by
  obtain ⟨ha, rfl | ⟨rfl, h0⟩⟩ := h
  · have := lN_nneg ha
    rw [if_pos (by rw [Int64.le_iff_toInt_le]; rw [Int64.lt_iff_toInt_lt] at this; omega)]
  · have := lN_negneg ha h0
    rw [if_neg (by rw [Int64.le_iff_toInt_le]; rw [Int64.lt_iff_toInt_lt] at this; omega), Int64.neg_neg]
theorem q_div6 {N a b : Nat} {x : Int64} (hN : 200 ≤ N) (hx : kSz x a) (hb : b < 2 ^ 63) : fX0_commonDivisor N x (lN b) = some (lN (Nat.gcd a b)) := by
  unfold fX0_commonDivisor
  rw [q_abs6 hx, q_abs6 (x := lN b) ⟨hb, .inl rfl⟩]
  exact q_gcd6 63 a b N 0 (by omega) hx.1 hb (by omega) (by omega)
theorem q_div7 {N a b : Nat} {x : Int64} (hN : 200 ≤ N) (hx : kSz x a) (hb : b < 2 ^ 63) : fX7_common N x (lN b) = some (lN (Nat.gcd a b)) := by
  unfold fX7_common fX7_common_b12
  have : (if (0 : Int64) ≤ x then fX7_common_l17 N N x (lN b) else fX7_common_l17 N N (-x) (lN b)) = fX7_common_l17 N N (if (0 : Int64) ≤ x then x else -x) (lN b) := by
    by_cases e : (0 : Int64) ≤ x
    · rw [if_pos e, if_pos e]
    · rw [if_neg e, if_neg e]
  rw [this, q_abs7 hx]
  exact q_gcd7 63 a b N (by omega) hx.1 hb (by omega)
theorem q_become {N a b : Nat} {x : Int64} (hN : 200 ≤ N) (hx : kSz x a) (hb : b < 2 ^ 63) (h0 : 0 < b) (q : VX0) : fX0_become N x (lN b) q = some (x / lN (Nat.gcd a b), lN b / lN (Nat.gcd a b)) := by
  have hg : 0 < Nat.gcd a b := Nat.gcd_pos_of_pos_right a h0
  have hg2 : Nat.gcd a b < 2 ^ 63 := Nat.lt_of_le_of_lt (Nat.gcd_le_right a h0) hb
  have hp : ∀ y, 0 < y → y < 2 ^ 63 → (0 : Int64) < lN y := fun y h1 h2 => (pk_lLT (a := 0) (by omega) h2).mpr h1
  unfold fX0_become
  rw [q_div6 hN hx hb]
  simp only [q_b1]
  have hz : ¬ lN (Nat.gcd a b) = 0 := fun q => by have := (pk_lEQ (b := 0) hg2 (by omega)).mp q; omega
  rw [if_neg (by have := hp b h0 hb; rw [Int64.lt_iff_toInt_lt] at this; rw [Int64.le_iff_toInt_le]; omega), if_pos (hp _ hg hg2), if_neg hz, if_neg hz]
theorem q_term {N a b : Nat} {x : Int64} (hN : 200 ≤ N) (hx : kSz x a) (hb : b < 2 ^ 63) (h0 : 0 < b) (p : Int32) : fX7_term N x (lN b) p = some (if p = 0 then x / lN (Nat.gcd a b) else lN b / lN (Nat.gcd a b)) := by
  have hg : 0 < Nat.gcd a b := Nat.gcd_pos_of_pos_right a h0
  have hg2 : Nat.gcd a b < 2 ^ 63 := Nat.lt_of_le_of_lt (Nat.gcd_le_right a h0) hb
  unfold fX7_term
  rw [q_div7 hN hx hb]
  simp only [q_b1]
  have hz : ¬ lN (Nat.gcd a b) = 0 := fun q => by have := (pk_lEQ (b := 0) hg2 (by omega)).mp q; omega
  rw [if_neg hz]
  by_cases e : p = 0
  · rw [if_pos e, if_pos e]
  · rw [if_neg e, if_neg e, if_neg hz]
theorem q_half0 (q : VX0) (p : Int32) : fX0_half q p = some (if p = 0 then q.1 else q.2) := by
  unfold fX0_half
  by_cases e : p = 0
  · rw [if_pos e, if_pos e]
  · rw [if_neg e, if_neg e]
