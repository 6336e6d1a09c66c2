/-! one act of the class and of the reference -/
theorem q_putx {n : Nat} (hn : n < 11) (x y : Int64) (k : VX2) : fX2_put (nI n) x y k = some (true, (vp_updL k.1 n x, vp_updL k.2.1 n y, k.2.2)) := by
  unfold fX2_put
  have h11 : k_in (nI n) 11 := nI_in hn (by omega)
  rw [if_neg (nI_pos (by omega)), if_neg (by rw [show (11 : Int32) = nI 11 from rfl, nI_leI (by omega) (by omega)]; omega), if_pos (by rw [show (11 : Int32) = nI 11 from rfl, nI_ltI (by omega) (by omega)]; omega)]
  simp only [if_pos h11, nI_clamp (show n < 2 ^ 31 by omega)]
/-- what the class's act comes to: upper and lower -/
def kCu (c : Int32) (a b c2 d : Int64) : Int64 := if c = 43 then a * d + c2 * b else if c = 45 then a * d - c2 * b else if c = 42 then a * c2 else if 0 ≤ c2 then a * d else (-a) * d
def kCl (c : Int32) (b c2 d : Int64) : Int64 := if c = 47 then b * (if 0 < c2 then c2 else -c2) else b * d
theorem q_comb {c : Int32} (hc : kOp c = true) {n : Nat} (hn : n ≤ 8) {k : VX2} (hk : k.2.2 = nI (n + 2)) : fX2_combine c k = if c = 47 ∧ k.1 n = 0 then some (false, (k.1, k.2.1, nI (n + 1))) else some (true, (vp_updL k.1 n (kCu c (k.1 (n + 1)) (k.2.1 (n + 1)) (k.1 n) (k.2.1 n)), vp_updL k.2.1 n (kCl c (k.2.1 (n + 1)) (k.1 n) (k.2.1 n)), nI (n + 1))) := by
  have e2 : nI (n + 2) - 2 = nI n := pk_sub (a := n + 2) (b := 2) (by omega)
  have e1 : nI (n + 2) - 1 = nI (n + 1) := pk_sub (a := n + 2) (b := 1) (by omega)
  have h1 : k_in (nI (n + 1)) 11 := nI_in (by omega) (by omega)
  have h2 : k_in (nI n) 11 := nI_in (by omega) (by omega)
  unfold fX2_combine fX2_combine_b168 fX2_combine_b198
  simp only [hk, e1, e2]
  rw [if_neg (nI_pos (by omega)), if_neg (by rw [show (11 : Int32) = nI 11 from rfl, nI_leI (by omega) (by omega)]; omega), if_pos (by rw [show (11 : Int32) = nI 11 from rfl, nI_ltI (by omega) (by omega)]; omega)]
  simp only [if_pos h1, if_pos h2, nI_clamp (show n < 2 ^ 31 by omega), nI_clamp (show n + 1 < 2 ^ 31 by omega), q_putx (show n < 11 by omega), q_b2]
  unfold kOp at hc
  simp only [Bool.or_eq_true, decide_eq_true_eq] at hc
  unfold kCu kCl
  rcases hc with ((rfl | rfl) | rfl) | rfl
  · rfl
  · rfl
  · rfl
  · have n1 : ¬ (47 : Int32) = 42 := by decide
    have n2 : ¬ (47 : Int32) = 43 := by decide
    have n3 : ¬ (47 : Int32) = 44 := by decide
    have n4 : ¬ (47 : Int32) = 45 := by decide
    simp only [if_neg n1, if_neg n2, if_neg n3, if_neg n4, if_true, true_and]
    by_cases z : k.1 n = 0
    · simp only [if_pos z]
    · simp only [if_neg z]
      by_cases s : 0 ≤ k.1 n
      · simp only [if_pos s]
      · simp only [if_neg s]
/-- what the reference's act comes to before it is told in lowest terms: the lower number -/
def kMl (c : Int32) (b c2 d : Int64) : Int64 := if c = 47 then b * (if 0 ≤ c2 then c2 else -c2) else b * d
theorem q_act7 {N : Nat} {mg : VMg} {k11 : Int32 → Int32 → Int32 → Int32 → Int32 → Int32 → VMq → Option (Bool × VMq)} {v1 v2 v3 v4 v6 c : Int32} (hc : kOp c = true) {n : Nat} (hn : n ≤ 8) (mq : VMq) {g X Y : Int64} (hg : fX7_common N (kCu c (mq.1 (n + 1)) (mq.2.1 (n + 1)) (mq.1 n) (mq.2.1 n)) (kMl c (mq.2.1 (n + 1)) (mq.1 n) (mq.2.1 n)) = some g) (hg0 : ¬ g = 0) (hX : kCu c (mq.1 (n + 1)) (mq.2.1 (n + 1)) (mq.1 n) (mq.2.1 n) / g = X) (hY : kMl c (mq.2.1 (n + 1)) (mq.1 n) (mq.2.1 n) / g = Y) : fX7_comesTo_b96 N mg k11 v1 v2 v3 v4 (nI (n + 2) + (-1)) v6 c (mq.1 (n + 1)) (mq.2.1 (n + 1)) (mq.1 n) (mq.2.1 n) mq = k11 v1 v2 v3 v4 (nI (n + 1)) (v6 + (-1)) (vp_updL mq.1 n X, vp_updL mq.2.1 n Y, mq.2.2.1, mq.2.2.2) := by
  have e1 : nI (n + 2) + (-1) = nI (n + 1) := pk_m1 (n + 1)
  have e2 : nI (n + 1) - 1 = nI n := pk_sub (a := n + 1) (b := 1) (by omega)
  have h2 : k_in (nI n) 12 := nI_in (by omega) (by omega)
  have hfin : ∀ U L : Int64, fX7_common N U L = some g → U / g = X → L / g = Y → fX7_comesTo_b209 N mg k11 v1 v2 v3 v4 (nI (n + 1)) v6 U L mq = k11 v1 v2 v3 v4 (nI (n + 1)) (v6 + (-1)) (vp_updL mq.1 n X, vp_updL mq.2.1 n Y, mq.2.2.1, mq.2.2.2) := by
    intro U L a1 a2 a3
    unfold fX7_comesTo_b209 fX7_comesTo_b324
    rw [a1]
    simp only [q_b1, if_neg hg0, e2, if_pos h2, nI_clamp (show n < 2 ^ 31 by omega), a2, a3]
  rw [e1]
  unfold fX7_comesTo_b96 fX7_comesTo_b174 fX7_comesTo_b200
  unfold kOp at hc
  simp only [Bool.or_eq_true, decide_eq_true_eq] at hc
  rcases hc with ((rfl | rfl) | rfl) | rfl
  · exact hfin _ _ hg hX hY
  · exact hfin _ _ hg hX hY
  · exact hfin _ _ hg hX hY
  · have n1 : ¬ (47 : Int32) = 42 := by decide
    have n2 : ¬ (47 : Int32) = 43 := by decide
    have n4 : ¬ (47 : Int32) = 45 := by decide
    unfold kCu kMl at hg
    unfold kCu at hX
    unfold kMl at hY
    simp only [if_neg n1, if_neg n2, if_neg n4, if_true] at hg hX hY ⊢
    by_cases s : 0 ≤ mq.1 n
    · simp only [if_pos s] at hg hX hY ⊢
      exact hfin _ _ hg hX hY
    · simp only [if_neg s] at hg hX hY ⊢
      exact hfin _ _ hg hX hY
