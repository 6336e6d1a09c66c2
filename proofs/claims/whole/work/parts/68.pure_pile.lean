/-! fractions on the pile: p over q in lowest terms, times t what the class keeps, at most 61 times b over b -/
def iL (z : Int) : Int64 := Int64.ofInt z
theorem iL_nat (n : Nat) : iL n = lN n := Int64.ofInt_eq_ofNat
theorem iL_toInt {z : Int} (h : z.natAbs < 2 ^ 63) : (iL z).toInt = z := Int64.toInt_ofInt_of_le (by omega) (by omega)
theorem iL_sz {z : Int} (h : z.natAbs < 2 ^ 63) : kSz (iL z) z.natAbs := by
  refine ⟨h, ?_⟩
  by_cases e : 0 ≤ z
  · left; rw [← iL_nat]; congr 1; omega
  · right
    refine ⟨?_, by omega⟩
    rw [← iL_nat]
    show Int64.ofInt z = -Int64.ofInt _
    rw [← Int64.ofInt_neg]; congr 1; omega
theorem iL_lt {a b : Int} (ha : a.natAbs < 2 ^ 63) (hb : b.natAbs < 2 ^ 63) : iL a < iL b ↔ a < b := by rw [Int64.lt_iff_toInt_lt, iL_toInt ha, iL_toInt hb]
theorem iL_le {a b : Int} (ha : a.natAbs < 2 ^ 63) (hb : b.natAbs < 2 ^ 63) : iL a ≤ iL b ↔ a ≤ b := by rw [Int64.le_iff_toInt_le, iL_toInt ha, iL_toInt hb]
theorem iL_eq {a b : Int} (ha : a.natAbs < 2 ^ 63) (hb : b.natAbs < 2 ^ 63) : iL a = iL b ↔ a = b := by rw [← Int64.toInt_inj, iL_toInt ha, iL_toInt hb]
theorem iL_div {p : Int} {g : Nat} (hg : 0 < g) (hg2 : g < 2 ^ 63) (h : (p * g).natAbs < 2 ^ 63) : iL (p * g) / lN g = iL p := by
  have hp : p.natAbs < 2 ^ 63 := by
    rw [Int.natAbs_mul, Int.natAbs_natCast] at h
    exact Nat.lt_of_le_of_lt (Nat.le_mul_of_pos_right _ hg) h
  rw [← Int64.toInt_inj, Int64.toInt_div_of_ne_right _ _ (fun q => by rw [← Int64.toInt_inj, pk_lT hg2, show (-1 : Int64).toInt = -1 by decide] at q; omega), iL_toInt h, pk_lT hg2, iL_toInt hp, Int.mul_tdiv_cancel _ (by omega)]
abbrev kX : Type := Int × Nat × Nat × Nat
def kIt (x : kX) : Prop := 0 < x.2.1 ∧ 0 < x.2.2.1 ∧ Nat.gcd x.1.natAbs x.2.1 = 1 ∧ (x.1 * x.2.2.1).natAbs ≤ 61 * x.2.2.2 ∧ x.2.1 * x.2.2.1 ≤ x.2.2.2
/-- what comes out of an act, before it is told in lowest terms -/
theorem q_red {N : Nat} {P : Int} {Q T B : Nat} (hN : 200 ≤ N) (hQ : 0 < Q) (hT : 0 < T) (hB : B ≤ 61 ^ 6) (h1 : (P * T).natAbs ≤ 61 * B) (h2 : Q * T ≤ B) : ∃ x : kX, kIt x ∧ x.2.2.2 = B ∧ P * T = x.1 * x.2.2.1 ∧ Q * T = x.2.1 * x.2.2.1 ∧ ∃ g : Nat, fX7_common N (iL P) (lN Q) = some (lN g) ∧ ¬ lN g = 0 ∧ iL P / lN g = iL x.1 ∧ lN Q / lN g = lN x.2.1 := by
  have hP : P.natAbs ≤ 61 * B := by
    rw [Int.natAbs_mul, Int.natAbs_natCast] at h1
    exact Nat.le_trans (Nat.le_mul_of_pos_right _ hT) h1
  have hQ2 : Q ≤ B := Nat.le_trans (Nat.le_mul_of_pos_right _ hT) h2
  have hg : 0 < Nat.gcd P.natAbs Q := Nat.gcd_pos_of_pos_right _ hQ
  have hgQ : Nat.gcd P.natAbs Q ≤ Q := Nat.gcd_le_right _ hQ
  obtain ⟨q, hq⟩ := Nat.gcd_dvd_right P.natAbs Q
  obtain ⟨p, hp⟩ : ((Nat.gcd P.natAbs Q : Nat) : Int) ∣ P := Int.ofNat_dvd_left.mpr (Nat.gcd_dvd_left _ _)
  have hcop : Nat.gcd (P.natAbs / Nat.gcd P.natAbs Q) (Q / Nat.gcd P.natAbs Q) = 1 := by
    rw [Nat.gcd_div (Nat.gcd_dvd_left _ _) (Nat.gcd_dvd_right _ _)]; exact Nat.div_self hg
  generalize hG : Nat.gcd P.natAbs Q = g at *
  have hpa : P.natAbs / g = p.natAbs := by
    rw [hp, Int.natAbs_mul, Int.natAbs_natCast, Nat.mul_div_cancel_left _ hg]
  have hqa : Q / g = q := by rw [hq, Nat.mul_div_cancel_left _ hg]
  have hB2 : B < 2 ^ 40 := Nat.lt_of_le_of_lt hB (by decide)
  have e1 : P * T = p * ((g * T : Nat) : Int) := by rw [hp, Int.natCast_mul, Int.mul_comm (g : Int) p, Int.mul_assoc]
  have e2 : Q * T = q * (g * T) := by rw [hq, Nat.mul_comm g q, Nat.mul_assoc]
  refine ⟨(p, q, g * T, B), ⟨?_, Nat.mul_pos hg hT, ?_, ?_, ?_⟩, rfl, e1, e2, g, ?_, ?_, ?_, ?_⟩
  · show 0 < q
    rcases Nat.eq_zero_or_pos q with h | h
    · rw [h, Nat.mul_zero] at hq; omega
    · exact h
  · show Nat.gcd p.natAbs q = 1
    rw [← hpa, ← hqa]; exact hcop
  · show (p * ((g * T : Nat) : Int)).natAbs ≤ 61 * B
    rw [← e1]; exact h1
  · show q * (g * T) ≤ B
    rw [← e2]; exact h2
  · rw [q_div7 hN (iL_sz (by omega)) (by omega), hG]
  · exact fun q => by have := (lN_z (by omega)).mp q; omega
  · show iL P / lN g = iL p
    have e3 : P = p * (g : Int) := by rw [hp, Int.mul_comm]
    rw [e3]
    exact iL_div hg (by omega) (by rw [← e3]; omega)
  · show lN Q / lN g = lN q
    rw [pk_lDiv (by omega) hg (by omega), hqa]
