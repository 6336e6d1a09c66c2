/-! one draw: the place, and what stays agrees -/
theorem kOutOf_eq {f g : Nat → Int32} {p n : Nat} (hp : p < n) (h : ∀ q, q < n → f q = g q ∧ kName (f q) = true) : ∀ q, q < n - 1 → kOutOf f p n q = kOutOf g p n q ∧ kName (kOutOf f p n q) = true := by
  intro q hq
  unfold kOutOf
  by_cases a : p ≤ q ∧ q + 1 < n
  · rw [if_pos a, if_pos a]; exact h (q + 1) (by omega)
  · rw [if_neg a, if_neg a]; exact h q (by omega)
theorem q_lot {z n : Nat} (hz : z < 65537) (hn : 0 < n) (hn2 : n ≤ 60) : (nI z * 75 + 74) - (nI z * 75 + 74) / (65537 : Int32) * (65537 : Int32) = nI ((z * 75 + 74) % 65537) ∧ nI ((z * 75 + 74) % 65537) - nI ((z * 75 + 74) % 65537) / nI n * nI n = nI ((z * 75 + 74) % 65537 % n) := by
  have h1 : (z * 75 + 74) % 65537 < 65537 := Nat.mod_lt _ (by omega)
  have e : nI z * 75 + 74 = nI (z * 75 + 74) := by rw [show nI z * 75 = nI (z * 75) from pk_mul z 75]; exact nI_add _ 74
  refine ⟨?_, pk_rem (by omega) hn (by omega)⟩
  rw [e, show (65537 : Int32) = nI 65537 from rfl, pk_rem (by omega) (by omega) (by omega)]
