/-! what an act makes of two fractions -/
theorem iL_mul (a b : Int) : iL a * iL b = iL (a * b) := (Int64.ofInt_mul a b).symm
theorem iL_add (a b : Int) : iL a + iL b = iL (a + b) := (Int64.ofInt_add a b).symm
theorem iL_sub (a b : Int) : iL a - iL b = iL (a - b) := (Int64.ofInt_sub a b).symm
theorem iL_neg (a : Int) : -iL a = iL (-a) := (Int64.ofInt_neg a).symm
/-- over and under, of the first p1/q1 and the second p2/q2 -/
def kPu (c : Int32) (p1 : Int) (q1 : Nat) (p2 : Int) (q2 : Nat) : Int := if c = 43 then p1 * q2 + p2 * q1 else if c = 45 then p1 * q2 - p2 * q1 else if c = 42 then p1 * p2 else if 0 ≤ p2 then p1 * q2 else (-p1) * q2
def kPl (c : Int32) (q1 : Nat) (p2 : Int) (q2 : Nat) : Nat := if c = 47 then q1 * p2.natAbs else q1 * q2
theorem q_kCu {c : Int32} {p1 p2 : Int} {q1 q2 : Nat} (h2 : p2.natAbs < 2 ^ 63) : kCu c (iL p1) (lN q1) (iL p2) (lN q2) = iL (kPu c p1 q1 p2 q2) := by
  unfold kCu kPu
  rw [← iL_nat, ← iL_nat, iL_mul, iL_mul, iL_mul, iL_add, iL_sub, iL_neg, iL_mul]
  have h0 : (0 : Int64) ≤ iL p2 ↔ 0 ≤ p2 := by rw [show (0 : Int64) = iL 0 from rfl, iL_le (by decide) h2]
  by_cases a : c = 43
  · rw [if_pos a, if_pos a]
  · rw [if_neg a, if_neg a]
    by_cases b : c = 45
    · rw [if_pos b, if_pos b]
    · rw [if_neg b, if_neg b]
      by_cases d : c = 42
      · rw [if_pos d, if_pos d]
      · rw [if_neg d, if_neg d]
        by_cases e : 0 ≤ p2
        · rw [if_pos (h0.mpr e), if_pos e]
        · rw [if_neg (fun q => e (h0.mp q)), if_neg e]
theorem q_kCl {c : Int32} {p2 : Int} {q1 q2 : Nat} (h2 : p2.natAbs < 2 ^ 63) : kCl c (lN q1) (iL p2) (lN q2) = lN (kPl c q1 p2 q2) ∧ kMl c (lN q1) (iL p2) (lN q2) = lN (kPl c q1 p2 q2) := by
  unfold kCl kMl kPl
  rw [q_abs6 (iL_sz h2), q_abs7 (iL_sz h2), lN_mul, lN_mul]
  by_cases a : c = 47
  · rw [if_pos a, if_pos a]; exact ⟨rfl, rfl⟩
  · rw [if_neg a, if_neg a]; exact ⟨rfl, rfl⟩
/-- times t1 and t2, both sides the same -/
theorem kPu_t {c : Int32} {p1 p2 : Int} {q1 q2 t1 t2 : Nat} (ht : 0 < t2) : kPu c (p1 * t1) (q1 * t1) (p2 * t2) (q2 * t2) = kPu c p1 q1 p2 q2 * ((t1 * t2 : Nat) : Int) := by
  unfold kPu
  have hs : 0 ≤ p2 * (t2 : Int) ↔ 0 ≤ p2 := by
    constructor
    · intro h
      by_cases e : 0 ≤ p2
      · exact e
      · exfalso
        have : p2 * (t2 : Int) < 0 := Int.mul_neg_of_neg_of_pos (by omega) (by omega)
        omega
    · intro h; exact Int.mul_nonneg h (by omega)
  simp only [hs, Int.natCast_mul]
  by_cases a : c = 43
  · rw [if_pos a, if_pos a, Int.add_mul]; congr 1 <;> ac_rfl
  · rw [if_neg a, if_neg a]
    by_cases b : c = 45
    · rw [if_pos b, if_pos b, Int.sub_mul]; congr 1 <;> ac_rfl
    · rw [if_neg b, if_neg b]
      by_cases d : c = 42
      · rw [if_pos d, if_pos d]; ac_rfl
      · rw [if_neg d, if_neg d]
        by_cases e : 0 ≤ p2
        · rw [if_pos e, if_pos e]; ac_rfl
        · rw [if_neg e, if_neg e, ← Int.neg_mul]; ac_rfl
theorem kPl_t {c : Int32} {p2 : Int} {q1 q2 t1 t2 : Nat} : kPl c (q1 * t1) (p2 * t2) (q2 * t2) = kPl c q1 p2 q2 * (t1 * t2) := by
  unfold kPl
  rw [Int.natAbs_mul, Int.natAbs_natCast]
  by_cases a : c = 47
  · rw [if_pos a, if_pos a]; ac_rfl
  · rw [if_neg a, if_neg a]; ac_rfl
theorem kPu_b {c : Int32} {u1 u2 : Int} {l1 l2 A B : Nat} (h1 : u1.natAbs ≤ 61 * A) (h2 : l1 ≤ A) (h3 : u2.natAbs ≤ 61 * B) (h4 : l2 ≤ B) : (kPu c u1 l1 u2 l2).natAbs ≤ 61 * (61 * (A * B)) := by
  have m1 : (u1 * (l2 : Int)).natAbs ≤ 61 * (A * B) := by
    rw [Int.natAbs_mul, Int.natAbs_natCast, ← Nat.mul_assoc]; exact Nat.mul_le_mul h1 h4
  have m2 : (u2 * (l1 : Int)).natAbs ≤ 61 * (A * B) := by
    rw [Int.natAbs_mul, Int.natAbs_natCast, Nat.mul_comm A B, ← Nat.mul_assoc]; exact Nat.mul_le_mul h3 h2
  have m3 : (u1 * u2).natAbs ≤ 61 * (61 * (A * B)) := by
    rw [Int.natAbs_mul]
    refine Nat.le_trans (Nat.mul_le_mul h1 h3) (Nat.le_of_eq ?_)
    ac_rfl
  have m4 : (-u1 * (l2 : Int)).natAbs ≤ 61 * (A * B) := by
    rw [Int.neg_mul, Int.natAbs_neg]; exact m1
  unfold kPu
  by_cases a : c = 43
  · rw [if_pos a]; omega
  · rw [if_neg a]
    by_cases b : c = 45
    · rw [if_pos b]; omega
    · rw [if_neg b]
      by_cases d : c = 42
      · rw [if_pos d]; exact m3
      · rw [if_neg d]
        by_cases e : 0 ≤ u2
        · rw [if_pos e]; omega
        · rw [if_neg e]; omega
theorem kPl_b {c : Int32} {u2 : Int} {l1 l2 A B : Nat} (h2 : l1 ≤ A) (h3 : u2.natAbs ≤ 61 * B) (h4 : l2 ≤ B) : kPl c l1 u2 l2 ≤ 61 * (A * B) := by
  unfold kPl
  by_cases a : c = 47
  · rw [if_pos a]
    refine Nat.le_trans (Nat.mul_le_mul h2 h3) (Nat.le_of_eq ?_)
    ac_rfl
  · rw [if_neg a]
    have := Nat.mul_le_mul h2 h4
    omega
/-- an act on two fractions: what both sides keep is one fraction again -/
theorem q_act {N : Nat} {c : Int32} {x y : kX} (hN : 200 ≤ N) (hx : kIt x) (hy : kIt y) (hz : c = 47 → y.1 ≠ 0) (hb : 61 * (x.2.2.2 * y.2.2.2) ≤ 61 ^ 6) : ∃ z : kX, kIt z ∧ z.2.2.2 = 61 * (x.2.2.2 * y.2.2.2) ∧ kCu c (iL (x.1 * x.2.2.1)) (lN (x.2.1 * x.2.2.1)) (iL (y.1 * y.2.2.1)) (lN (y.2.1 * y.2.2.1)) = iL (z.1 * z.2.2.1) ∧ kCl c (lN (x.2.1 * x.2.2.1)) (iL (y.1 * y.2.2.1)) (lN (y.2.1 * y.2.2.1)) = lN (z.2.1 * z.2.2.1) ∧ ∃ g : Int64, fX7_common N (kCu c (iL x.1) (lN x.2.1) (iL y.1) (lN y.2.1)) (kMl c (lN x.2.1) (iL y.1) (lN y.2.1)) = some g ∧ ¬ g = 0 ∧ kCu c (iL x.1) (lN x.2.1) (iL y.1) (lN y.2.1) / g = iL z.1 ∧ kMl c (lN x.2.1) (iL y.1) (lN y.2.1) / g = lN z.2.1 := by
  obtain ⟨p1, q1, t1, A⟩ := x
  obtain ⟨p2, q2, t2, B⟩ := y
  obtain ⟨x1, x2, x3, x4, x5⟩ := hx
  obtain ⟨y1, y2, y3, y4, y5⟩ := hy
  dsimp only at *
  have hA : 0 < A := Nat.lt_of_lt_of_le (Nat.mul_pos x1 x2) x5
  have hB' : B ≤ A * B := Nat.le_mul_of_pos_left _ hA
  have hBu : B ≤ 61 ^ 6 := by omega
  have k63 : (61 : Nat) ^ 7 < 2 ^ 63 := by decide
  have k67 : (61 : Nat) ^ 7 = 61 * 61 ^ 6 := by decide
  have u2 : (p2 * (t2 : Int)).natAbs < 2 ^ 63 := by omega
  have u2' : p2.natAbs < 2 ^ 63 := by
    rw [Int.natAbs_mul, Int.natAbs_natCast] at u2
    exact Nat.lt_of_le_of_lt (Nat.le_mul_of_pos_right _ y2) u2
  have hQ : 0 < kPl c q1 p2 q2 := by
    unfold kPl
    by_cases a : c = 47
    · rw [if_pos a]; exact Nat.mul_pos x1 (by have := hz a; omega)
    · rw [if_neg a]; exact Nat.mul_pos x1 y1
  have b1 := kPu_b (c := c) x4 x5 y4 y5
  have b2 := kPl_b (c := c) x5 y4 y5
  rw [kPu_t y2] at b1
  rw [kPl_t] at b2
  obtain ⟨z, z1, z2, z3, z4, g, g1, g2, g3, g4⟩ := q_red (N := N) (P := kPu c p1 q1 p2 q2) (Q := kPl c q1 p2 q2) (T := t1 * t2) (B := 61 * (A * B)) hN hQ (Nat.mul_pos x2 y2) hb b1 b2
  refine ⟨z, z1, z2, ?_, ?_, lN g, ?_, g2, ?_, ?_⟩
  · rw [q_kCu u2, kPu_t y2, z3]
  · rw [(q_kCl u2).1, kPl_t, z4]
  · rw [q_kCu u2', (q_kCl u2').2]; exact g1
  · rw [q_kCu u2']; exact g3
  · rw [(q_kCl u2').2]; exact g4
