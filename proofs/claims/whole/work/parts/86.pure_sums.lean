/-! sums, and how a lot falls out -/
def kSum (f : Nat → Nat) : Nat → Nat
  | 0 => 0
  | n + 1 => kSum f n + f n
theorem kSum_c {f g : Nat → Nat} : ∀ n, (∀ i, i < n → f i = g i) → kSum f n = kSum g n := by
  intro n
  induction n with
  | zero => intro _; rfl
  | succ n ih => intro h; show kSum f n + f n = kSum g n + g n; rw [ih (fun i hi => h i (by omega)), h n (by omega)]
theorem kSum_le {f g : Nat → Nat} : ∀ n, (∀ i, i < n → f i ≤ g i) → kSum f n ≤ kSum g n := by
  intro n
  induction n with
  | zero => intro _; exact Nat.le_refl 0
  | succ n ih => intro h; show kSum f n + f n ≤ kSum g n + g n; have := ih (fun i hi => h i (by omega)); have := h n (by omega); omega
theorem kSum_add (f g : Nat → Nat) : ∀ n, kSum (fun i => f i + g i) n = kSum f n + kSum g n := by
  intro n
  induction n with
  | zero => rfl
  | succ n ih => show kSum (fun i => f i + g i) n + (f n + g n) = (kSum f n + f n) + (kSum g n + g n); rw [ih]; omega
theorem kSum_mul (c : Nat) (f : Nat → Nat) : ∀ n, kSum (fun i => c * f i) n = c * kSum f n := by
  intro n
  induction n with
  | zero => rfl
  | succ n ih => show kSum (fun i => c * f i) n + c * f n = c * (kSum f n + f n); rw [ih, Nat.mul_add]
theorem kSum_0 {f : Nat → Nat} : ∀ n, (∀ i, i < n → f i = 0) → kSum f n = 0 := by
  intro n
  induction n with
  | zero => intro _; rfl
  | succ n ih => intro h; show kSum f n + f n = 0; rw [ih (fun i hi => h i (by omega)), h n (by omega)]
theorem kSum_z {f : Nat → Nat} {a : Nat} : ∀ j, (∀ i, a ≤ i → i < a + j → f i = 0) → kSum f (a + j) = kSum f a := by
  intro j
  induction j with
  | zero => intro _; rfl
  | succ j ih => intro h; show kSum f (a + j) + f (a + j) = kSum f a; rw [ih (fun i h1 h2 => h i h1 (by omega)), h (a + j) (by omega) (by omega)]; rfl
theorem kSum_zz {f : Nat → Nat} {a b : Nat} (h : a ≤ b) (hz : ∀ i, a ≤ i → i < b → f i = 0) : kSum f b = kSum f a := by
  obtain ⟨j, rfl⟩ : ∃ j, b = a + j := ⟨b - a, by omega⟩
  exact kSum_z j hz
theorem kSum_swap (F : Nat → Nat → Nat) (m : Nat) : ∀ n, kSum (fun i => kSum (fun j => F i j) m) n = kSum (fun j => kSum (fun i => F i j) n) m := by
  intro n
  induction n with
  | zero => exact (kSum_0 m (fun _ _ => rfl)).symm
  | succ n ih =>
    show kSum (fun i => kSum (fun j => F i j) m) n + kSum (fun j => F n j) m = kSum (fun j => kSum (fun i => F i j) n + F n j) m
    rw [ih, kSum_add]
theorem kSum_s (f : Nat → Nat) : ∀ n, kSum f (n + 1) = f 0 + kSum (fun i => f (i + 1)) n := by
  intro n
  induction n with
  | zero => show 0 + f 0 = f 0 + 0; omega
  | succ n ih => show kSum f (n + 1) + f (n + 1) = f 0 + (kSum (fun i => f (i + 1)) n + f (n + 1)); rw [ih]; omega
theorem kSum_rev (f : Nat → Nat) : ∀ n, kSum (fun i => f (n - i)) (n + 1) = kSum f (n + 1) := by
  intro n
  induction n with
  | zero => rfl
  | succ n ih =>
    rw [kSum_s, kSum_c (g := fun i => f (n - i)) (n + 1) (fun i _ => by show f (n + 1 - (i + 1)) = f (n - i); rw [Nat.add_sub_add_right]), ih]
    show f (n + 1) + kSum f (n + 1) = kSum f (n + 1) + f (n + 1)
    omega
theorem kSum_ge {f : Nat → Nat} {i : Nat} : ∀ n, i < n → f i ≤ kSum f n := by
  intro n
  induction n with
  | zero => intro h; omega
  | succ n ih =>
    intro h
    show f i ≤ kSum f n + f n
    by_cases e : i = n
    · rw [e]; omega
    · have := ih (by omega); omega
theorem kCh_z (n : Nat) : kCh n 0 = 1 := by cases n <;> rfl
/-- r of s single ones and of j pairs, at most one name of a pair -/
def kWd (s : Nat) : Nat → Nat → Nat
  | 0, r => kCh s r
  | j + 1, 0 => kWd s j 0
  | j + 1, r + 1 => kWd s j (r + 1) + 2 * kWd s j r
theorem kWd_0 (s : Nat) : ∀ j r, s + j < r → kWd s j r = 0 := by
  intro j
  induction j with
  | zero => intro r h; exact kCh_0 s r (by omega)
  | succ j ih =>
    intro r h
    cases r with
    | zero => omega
    | succ r => show kWd s j (r + 1) + 2 * kWd s j r = 0; rw [ih (r + 1) (by omega), ih r (by omega)]
theorem kWd_le (s : Nat) : ∀ j r, kWd s j r ≤ 2 ^ s * 3 ^ j := by
  intro j
  induction j with
  | zero => intro r; show kCh s r ≤ 2 ^ s * 1; rw [Nat.mul_one]; exact kCh_le s r
  | succ j ih =>
    intro r
    have e : 2 ^ s * 3 ^ (j + 1) = 3 * (2 ^ s * 3 ^ j) := by rw [Nat.pow_succ]; ac_rfl
    rw [e]
    cases r with
    | zero => show kWd s j 0 ≤ _; have := ih 0; omega
    | succ r => show kWd s j (r + 1) + 2 * kWd s j r ≤ _; have := ih (r + 1); have := ih r; omega
/-- one part of the sum over the pairs that are there with one name -/
def kTt (s j r h : Nat) : Nat := kCh j h * 2 ^ h * (if h ≤ r then kCh s (r - h) else 0)
theorem kTt_0 (s j r : Nat) : kTt s j r 0 = kCh s r := by
  unfold kTt
  rw [kCh_z, if_pos (Nat.zero_le r), Nat.sub_zero]; simp
theorem kTt_z (s j h : Nat) : kTt s j 0 (h + 1) = 0 := by
  unfold kTt
  rw [if_neg (by omega), Nat.mul_zero]
theorem kTt_s (s j r h : Nat) : kTt s (j + 1) (r + 1) (h + 1) = kTt s j (r + 1) (h + 1) + 2 * kTt s j r h := by
  have e : ∀ X : Nat, (kCh j h + kCh j (h + 1)) * 2 ^ (h + 1) * X = kCh j (h + 1) * 2 ^ (h + 1) * X + 2 * (kCh j h * 2 ^ h * X) := by
    intro X
    rw [Nat.add_mul, Nat.add_mul, Nat.add_comm]
    congr 1
    rw [Nat.pow_succ]
    ac_rfl
  unfold kTt
  rw [Nat.add_sub_add_right]
  by_cases a : h ≤ r
  · rw [if_pos a, if_pos (by omega)]; exact e _
  · rw [if_neg a, if_neg (by omega)]; exact e _
theorem kWd_sum (s : Nat) : ∀ j r B, j < B → kSum (kTt s j r) B = kWd s j r := by
  intro j
  induction j with
  | zero =>
    intro r B hB
    obtain ⟨B, rfl⟩ : ∃ q, B = q + 1 := ⟨B - 1, by omega⟩
    rw [kSum_s, kTt_0, kSum_0 B (fun i _ => by unfold kTt; rw [kCh_0 0 (i + 1) (by omega), Nat.zero_mul, Nat.zero_mul])]
    rfl
  | succ j ih =>
    intro r B hB
    obtain ⟨B, rfl⟩ : ∃ q, B = q + 1 := ⟨B - 1, by omega⟩
    cases r with
    | zero =>
      have h1 := ih 0 (B + 1) (by omega)
      rw [kSum_s, kTt_0, kSum_0 B (fun i _ => kTt_z s j i)] at h1
      rw [kSum_s, kTt_0, kSum_0 B (fun i _ => kTt_z s (j + 1) i)]
      exact h1
    | succ r =>
      have h1 := ih (r + 1) (B + 1) (by omega)
      have h2 := ih r B (by omega)
      rw [kSum_s, kTt_0] at h1
      rw [kSum_s, kTt_0, kSum_c (g := fun i => kTt s j (r + 1) (i + 1) + 2 * kTt s j r i) B (fun i _ => kTt_s s j r i), kSum_add, kSum_mul, h2]
      show _ = kWd s j (r + 1) + 2 * kWd s j r
      rw [← h1]; omega
theorem kCh_34 : ∀ n, kSum (fun d => kCh n d * 3 ^ (n - d)) (n + 1) = 4 ^ n := by
  intro n
  induction n with
  | zero => rfl
  | succ n ih =>
    rw [kSum_s]
    have e1 : kSum (fun i => kCh (n + 1) (i + 1) * 3 ^ (n + 1 - (i + 1))) (n + 1) = kSum (fun i => kCh n i * 3 ^ (n - i) + kCh n (i + 1) * 3 ^ (n - i)) (n + 1) := by
      refine kSum_c (n + 1) (fun i _ => ?_)
      show (kCh n i + kCh n (i + 1)) * 3 ^ (n + 1 - (i + 1)) = _
      rw [Nat.add_sub_add_right, Nat.add_mul]
    have e2 : kSum (fun i => kCh n (i + 1) * 3 ^ (n - i)) (n + 1) = 3 * kSum (fun i => kCh n (i + 1) * 3 ^ (n - (i + 1))) n := by
      show kSum (fun i => kCh n (i + 1) * 3 ^ (n - i)) n + kCh n (n + 1) * 3 ^ (n - n) = _
      rw [kCh_0 n (n + 1) (by omega), Nat.zero_mul, Nat.add_zero, ← kSum_mul]
      refine kSum_c n (fun i hi => ?_)
      have : n - i = n - (i + 1) + 1 := by omega
      show kCh n (i + 1) * 3 ^ (n - i) = 3 * (kCh n (i + 1) * 3 ^ (n - (i + 1)))
      rw [this, Nat.pow_succ]; ac_rfl
    rw [e1, kSum_add, ih, e2]
    have e3 := ih
    rw [kSum_s, kCh_z, Nat.one_mul, Nat.sub_zero] at e3
    show kCh (n + 1) 0 * 3 ^ (n + 1 - 0) + (4 ^ n + 3 * kSum (fun i => kCh n (i + 1) * 3 ^ (n - (i + 1))) n) = 4 ^ (n + 1)
    rw [kCh_z, Nat.one_mul, Nat.sub_zero, Nat.pow_succ, Nat.pow_succ]
    omega
theorem kBs_sum (b : Nat) : ∀ m, kSum (kCh b) m = kBs b m := by
  intro m
  induction m with
  | zero => rfl
  | succ m ih => show kSum (kCh b) m + kCh b m = kBs b m + kCh b m; rw [ih]
/-- ways of v valid and d whole pairs in a lot of k -/
def kOn (s p d v : Nat) : Nat := kCh p d * kWd s (p - d) (v - 2 * d)
theorem kOn_le (s p d v : Nat) (h : d ≤ p) : kOn s p d v ≤ 2 ^ s * 4 ^ p := by
  unfold kOn
  have h1 : kCh p d * 3 ^ (p - d) ≤ 4 ^ p := by
    rw [← kCh_34 p]; exact kSum_ge (f := fun d => kCh p d * 3 ^ (p - d)) (p + 1) (by omega)
  refine Nat.le_trans (Nat.mul_le_mul_left _ (kWd_le s (p - d) (v - 2 * d))) ?_
  rw [show kCh p d * (2 ^ s * 3 ^ (p - d)) = 2 ^ s * (kCh p d * 3 ^ (p - d)) by ac_rfl]
  exact Nat.mul_le_mul_left _ h1
def kFf (Y : Nat → Nat → Bool) (s p b k v d : Nat) : Nat := if 2 * d ≤ v then (if Y v d = true then kOn s p d v * kCh b (k - v) else 0) else 0
theorem kFf_le {Y : Nat → Nat → Bool} {s p b k v d : Nat} : kFf Y s p b k v d ≤ 2 ^ s * (kCh p d * 3 ^ (p - d)) * kCh b (k - v) := by
  unfold kFf
  by_cases a : 2 * d ≤ v
  · rw [if_pos a]
    by_cases c : Y v d = true
    · rw [if_pos c]
      refine Nat.mul_le_mul_right _ ?_
      unfold kOn
      refine Nat.le_trans (Nat.mul_le_mul_left _ (kWd_le s (p - d) (v - 2 * d))) (Nat.le_of_eq ?_)
      ac_rfl
    · rw [if_neg c]; exact Nat.zero_le _
  · rw [if_neg a]; exact Nat.zero_le _
def kYn (Y : Nat → Nat → Bool) (s p b k : Nat) : Nat := kSum (fun v => kSum (fun d => kFf Y s p b k v d) (p + 1)) (k + 1)
theorem kYn_le {Y : Nat → Nat → Bool} {s p b k : Nat} : kYn Y s p b k ≤ 2 ^ (s + 2 * p + b) := by
  have h1 : ∀ v, kSum (fun d => kFf Y s p b k v d) (p + 1) ≤ 2 ^ s * 4 ^ p * kCh b (k - v) := by
    intro v
    refine Nat.le_trans (kSum_le (g := fun d => 2 ^ s * kCh b (k - v) * (kCh p d * 3 ^ (p - d))) (p + 1) (fun d _ => Nat.le_trans kFf_le (Nat.le_of_eq (by ac_rfl)))) ?_
    rw [kSum_mul, kCh_34]
    exact Nat.le_of_eq (by ac_rfl)
  unfold kYn
  refine Nat.le_trans (kSum_le (g := fun v => 2 ^ s * 4 ^ p * kCh b (k - v)) (k + 1) (fun v _ => h1 v)) ?_
  rw [kSum_mul, kSum_rev (kCh b) k, kBs_sum, Nat.pow_add, Nat.pow_add, Nat.pow_mul]
  exact Nat.mul_le_mul_left _ (kBs_le b (k + 1))
theorem kYn_lt {Y : Nat → Nat → Bool} {s p b k : Nat} (h : s + 2 * p + b ≤ 60) : kYn Y s p b k ≤ 2 ^ 60 := Nat.le_trans kYn_le (Nat.pow_le_pow_right (by omega) h)
theorem kYn_swap (Y : Nat → Nat → Bool) (s p b k : Nat) : kYn Y s p b k = kSum (fun d => kSum (fun v => kFf Y s p b k v d) (k + 1)) (p + 1) := kSum_swap (fun v d => kFf Y s p b k v d) (p + 1) (k + 1)
