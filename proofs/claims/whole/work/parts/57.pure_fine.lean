/-! fine -/
theorem q_fineL {N p t s r : Nat} (hp : p ≤ 999) (ht : t ≤ 10) (hs : s ≤ 999) (hr : r < 10000) (h1 : ∀ i, i < r → t * (i + p) < 10 * s) (h2 : 10 * s ≤ t * (r + p)) : ∀ (j m i : Nat), i + j = r → j < m → fX7_fine_l38 N m (nI p) (nI t) (nI s) (nI i) = some (nI r) := by
  have hb : ∀ i, i ≤ r → t * (i + p) < 2 ^ 31 := by
    intro i hi
    have : t * (i + p) ≤ 10 * 10999 := Nat.mul_le_mul ht (by omega)
    omega
  intro j
  induction j with
  | zero =>
    intro m i hi hm
    obtain ⟨m, rfl⟩ : ∃ q, m = q + 1 := ⟨m - 1, by omega⟩
    obtain rfl : i = r := by omega
    show fX7_fine_b38 N _ _ _ _ _ = _
    unfold fX7_fine_b38
    rw [if_neg (by rw [show (10000 : Int32) = nI 10000 from rfl, nI_leI (by omega) (by omega)]; omega), nI_add, pk_mul, show (10 : Int32) * nI s = nI (10 * s) from pk_mul 10 s, if_neg (by rw [nI_ltI (hb _ (by omega)) (by omega)]; omega)]
  | succ j ih =>
    intro m i hi hm
    obtain ⟨m, rfl⟩ : ∃ q, m = q + 1 := ⟨m - 1, by omega⟩
    show fX7_fine_b38 N _ _ _ _ _ = _
    unfold fX7_fine_b38
    rw [if_neg (by rw [show (10000 : Int32) = nI 10000 from rfl, nI_leI (by omega) (by omega)]; omega), nI_add, pk_mul, show (10 : Int32) * nI s = nI (10 * s) from pk_mul 10 s, if_pos (by rw [nI_ltI (hb _ (by omega)) (by omega)]; exact h1 i (by omega)), nI_1]
    exact ih m (i + 1) (by omega) (by omega)
theorem q_fineN {N p s : Nat} (hp : p ≤ 999) (hs : s ≤ 999) (h : 0 < s) : ∀ (j m i : Nat), i + j = 10000 → j < m → fX7_fine_l38 N m (nI p) (nI 0) (nI s) (nI i) = some (-6) := by
  intro j
  induction j with
  | zero =>
    intro m i hi hm
    obtain ⟨m, rfl⟩ : ∃ q, m = q + 1 := ⟨m - 1, by omega⟩
    obtain rfl : i = 10000 := by omega
    rfl
  | succ j ih =>
    intro m i hi hm
    obtain ⟨m, rfl⟩ : ∃ q, m = q + 1 := ⟨m - 1, by omega⟩
    show fX7_fine_b38 N _ _ _ _ _ = _
    unfold fX7_fine_b38
    rw [if_neg (by rw [show (10000 : Int32) = nI 10000 from rfl, nI_leI (by omega) (by omega)]; omega), nI_add, pk_mul, show (10 : Int32) * nI s = nI (10 * s) from pk_mul 10 s, if_pos (by rw [nI_ltI (by omega) (by omega)]; omega), nI_1]
    exact ih m (i + 1) (by omega) (by omega)
theorem q_fine {N : Nat} (hN : 10001 ≤ N) (a b c : Int32) : ∃ r, fX6_fine a b c = some r ∧ fX7_fine N a b c = some r := by
  unfold fX6_fine fX7_fine
  rw [q_within, q_within, q_within, q_in, q_in, q_in]
  simp only [q_b1]
  by_cases ha : kW a 0 999 = true
  rotate_left
  · rw [if_neg ha, if_neg ha]; exact ⟨_, rfl, rfl⟩
  by_cases hb : kW b 0 10 = true
  rotate_left
  · rw [if_pos ha, if_pos ha, if_neg hb, if_neg hb]; exact ⟨_, rfl, rfl⟩
  by_cases hc : kW c 0 999 = true
  rotate_left
  · rw [if_pos ha, if_pos ha, if_pos hb, if_pos hb, if_neg hc, if_neg hc]; exact ⟨_, rfl, rfl⟩
  rw [if_pos ha, if_pos ha, if_pos hb, if_pos hb, if_pos hc, if_pos hc]
  obtain ⟨p, hp, rfl⟩ := (q_W0n (n := 999) (by omega)).mp ha
  obtain ⟨t, ht, rfl⟩ := (q_W0n (n := 10) (by omega)).mp hb
  obtain ⟨s, hs, rfl⟩ := (q_W0n (n := 999) (by omega)).mp hc
  have ht0 : nI t = 0 ↔ t = 0 := nI_eq (b := 0) (by omega) (by omega)
  have hs0 : nI s = 0 ↔ s = 0 := nI_eq (b := 0) (by omega) (by omega)
  by_cases h0 : t = 0
  · rw [if_pos (ht0.mpr h0)]
    subst h0
    by_cases h1 : s = 0
    · rw [if_pos (hs0.mpr h1)]
      subst h1
      exact ⟨_, rfl, q_fineL (r := 0) hp ht hs (by omega) (fun i hi => by omega) (by omega) 0 N 0 (by omega) (by omega)⟩
    · rw [if_neg (fun q => h1 (hs0.mp q))]
      exact ⟨_, rfl, q_fineN hp hs (by omega) 10000 N 0 (by omega) (by omega)⟩
  · rw [if_neg (fun q => h0 (ht0.mp q)), if_neg (fun q => h0 (ht0.mp q))]
    have hd : ∀ x, (s * 10 + t - 1) / t ≤ x ↔ 10 * s ≤ t * x := by
      intro x
      rw [Nat.div_le_iff_le_mul_add_pred (by omega)]
      omega
    have hc0 : (s * 10 + t - 1) / t ≤ 9990 := by
      rw [hd]
      have : 1 * 9990 ≤ t * 9990 := Nat.mul_le_mul_right _ (by omega)
      omega
    have e : (nI s * 10 + nI t - 1) / nI t = nI ((s * 10 + t - 1) / t) := by
      rw [show nI s * 10 = nI (s * 10) from pk_mul s 10, nI_add, show nI (s * 10 + t) - 1 = nI (s * 10 + t - 1) from pk_sub (b := 1) (by omega), pk_div (by omega) (by omega) (by omega)]
    rw [e]
    generalize hq : (s * 10 + t - 1) / t = q at *
    by_cases hpc : p < q
    · rw [pk_sub (by omega), if_pos (show (0 : Int32) < nI (q - p) from nI_lt (a := 0) (by omega) (by omega))]
      refine ⟨_, rfl, q_fineL hp ht hs (by omega) (fun i hi => ?_) ?_ (q - p) N 0 (by omega) (by omega)⟩
      · have := hd (i + p); omega
      · have := hd (q - p + p); omega
    · have : ¬ (0 : Int32) < nI q - nI p := by
        rw [Int32.lt_iff_toInt_lt, pk_sub_toInt (by omega) (by omega)]
        have : (0 : Int32).toInt = 0 := by decide
        omega
      rw [if_neg this]
      refine ⟨_, rfl, q_fineL (r := 0) hp ht hs (by omega) (fun i hi => by omega) ?_ 0 N 0 (by omega) (by omega)⟩
      have := hd (0 + p); omega
