/-! comes, and whether it reaches the need -/
theorem q_reckon {A : kA} {now : VX3} {mg : VMg} {N a k v d : Nat} (hN : 200 ≤ N) (hV : kV A) (hC : kC A now) (hM : kM A mg) (ha : a ≤ 61) (hk : k ≤ 61) (hv : v ≤ 61) (hd : d ≤ 61) (re : VX2) (mq : VMq) : ∃ b re' mq', fX2_reckon N 11 now.2.2.2.1 (nI a) (nI k) (nI v) (nI d) re = some (b, re') ∧ fX7_comesTo N mg (nI a) (nI k) (nI v) (nI d) mq = some (b, mq') ∧ (b = true → kEnd re' mq') := by
  have hrs := hV.2.2.1.1
  unfold fX2_reckon fX7_comesTo
  rw [hC.2.1, hM.2.2.1]
  exact q_reckonL (N := N) hN hV hC hM ha hk hv hd A.2.2.2.2.2.1 N N 0 [] (re.1, re.2.1, 0) mq (Nat.le_refl _) (by omega) (by omega) (by rw [hV.2.2.1.2.1]; rfl) (Nat.zero_le _) (by simp) rfl rfl trivial
theorem q_upper (k : VX2) : fX2_upper k = some (k.1 0) ∧ fX2_lower k = some (k.2.1 0) := by
  unfold fX2_upper fX2_lower
  have h : ¬ (11 : Int32) ≤ 0 := by decide
  have h2 : k_in (0 : Int32) 11 := by decide
  rw [if_neg h, if_neg h, if_pos h2, if_pos h2]
  exact ⟨rfl, rfl⟩
theorem kIt_b {x : kX} (h : kIt x) (hb : 61 * x.2.2.2 ≤ 61 ^ 6) : x.1.natAbs ≤ 61 ^ 6 ∧ x.2.1 ≤ 61 ^ 5 ∧ (x.1 * (x.2.2.1 : Int)).natAbs ≤ 61 ^ 6 ∧ x.2.1 * x.2.2.1 ≤ 61 ^ 5 ∧ x.2.2.1 ≤ 61 ^ 5 := by
  obtain ⟨h1, h2, h3, h4, h5⟩ := h
  have e : (61 : Nat) ^ 6 = 61 * 61 ^ 5 := by decide
  have hA : x.2.2.2 ≤ 61 ^ 5 := by omega
  refine ⟨?_, Nat.le_trans (Nat.le_mul_of_pos_right _ h2) (Nat.le_trans h5 hA), Nat.le_trans h4 hb, Nat.le_trans h5 hA, Nat.le_trans (Nat.le_mul_of_pos_left _ h1) (Nat.le_trans h5 hA)⟩
  rw [Int.natAbs_mul, Int.natAbs_natCast] at h4
  exact Nat.le_trans (Nat.le_mul_of_pos_right _ h2) (Nat.le_trans h4 hb)
theorem q_beck {N : Nat} {x : kX} (hN : 200 ≤ N) (h : kIt x) (hb : 61 * x.2.2.2 ≤ 61 ^ 6) (ru : VX0) : fX0_become N (iL (x.1 * x.2.2.1)) (lN (x.2.1 * x.2.2.1)) ru = some (iL x.1, lN x.2.1) := by
  obtain ⟨b1, b2, b3, b4, b5⟩ := kIt_b h hb
  obtain ⟨h1, h2, h3, h4, h5⟩ := h
  have k6 : (61 : Nat) ^ 6 < 2 ^ 63 := by decide
  have k5 : (61 : Nat) ^ 5 < 2 ^ 63 := by decide
  have hg : Nat.gcd (x.1 * (x.2.2.1 : Int)).natAbs (x.2.1 * x.2.2.1) = x.2.2.1 := by
    rw [Int.natAbs_mul, Int.natAbs_natCast, Nat.gcd_mul_right, h3, Nat.one_mul]
  rw [q_become hN (iL_sz (by omega)) (by omega) (Nat.mul_pos h1 h2), hg, iL_div h2 (by omega) (by omega), pk_lDiv (by omega) h2 (by omega), Nat.mul_div_cancel _ h2]
theorem q_comes {A : kA} {now : VX3} {mg : VMg} {N : Nat} (hN : 200 ≤ N) (hV : kV A) (hC : kC A now) (hM : kM A mg) (a b c d e : Int32) (re : VX2) (ru : VX0) (mq : VMq) : ∃ r re' ru' mq', fX6_comes N now a b c d e re ru = some (r, re', ru') ∧ fX7_comes N mg a b c d e mq = some (r, mq') := by
  unfold fX6_comes fX7_comes
  rw [q_number6, q_number6, q_number6, q_number6, q_part6, q_in, q_in, q_in, q_in, q_part7]
  simp only [q_b1]
  by_cases ha : kW a 0 60 = true
  rotate_left
  · rw [if_neg ha, if_neg ha]; exact ⟨_, _, _, _, rfl, rfl⟩
  by_cases hb : kW b 0 60 = true
  rotate_left
  · rw [if_pos ha, if_pos ha, if_neg hb, if_neg hb]; exact ⟨_, _, _, _, rfl, rfl⟩
  by_cases hc : kW c 0 60 = true
  rotate_left
  · rw [if_pos ha, if_pos ha, if_pos hb, if_pos hb, if_neg hc, if_neg hc]; exact ⟨_, _, _, _, rfl, rfl⟩
  by_cases hd : kW d 0 60 = true
  rotate_left
  · rw [if_pos ha, if_pos ha, if_pos hb, if_pos hb, if_pos hc, if_pos hc, if_neg hd, if_neg hd]; exact ⟨_, _, _, _, rfl, rfl⟩
  by_cases he : kW e 0 1 = true
  rotate_left
  · rw [if_pos ha, if_pos ha, if_pos hb, if_pos hb, if_pos hc, if_pos hc, if_pos hd, if_pos hd, if_neg he, if_neg he]; exact ⟨_, _, _, _, rfl, rfl⟩
  rw [if_pos ha, if_pos ha, if_pos hb, if_pos hb, if_pos hc, if_pos hc, if_pos hd, if_pos hd, if_pos he, if_pos he]
  obtain ⟨a, ha, rfl⟩ := (q_W0n (n := 60) (by omega)).mp ha
  obtain ⟨b, hb, rfl⟩ := (q_W0n (n := 60) (by omega)).mp hb
  obtain ⟨c, hc, rfl⟩ := (q_W0n (n := 60) (by omega)).mp hc
  obtain ⟨d, hd, rfl⟩ := (q_W0n (n := 60) (by omega)).mp hd
  obtain ⟨f, re', mq', e1, e2, e3⟩ := q_reckon (N := N) hN hV hC hM (show a ≤ 61 by omega) (show b ≤ 61 by omega) (show c ≤ 61 by omega) (show d ≤ 61 by omega) re mq
  rw [e1, e2]
  simp only [q_b2]
  cases f with
  | false => exact ⟨_, _, _, _, rfl, rfl⟩
  | true =>
    obtain ⟨x, x1, x2, x3, x4, x5, x6⟩ := e3 rfl
    rw [if_pos rfl, if_pos rfl, (q_upper re').1, (q_upper re').2, x3, x4, x5, x6]
    simp only [q_b1, q_beck hN x1 x2, q_half0]
    by_cases g : e = 0
    · rw [if_pos g, if_pos g]; exact ⟨_, _, _, _, rfl, rfl⟩
    · rw [if_neg g, if_neg g]; exact ⟨_, _, _, _, rfl, rfl⟩
/-- does it reach the need: both sides alike -/
theorem q_yes1 {A : kA} {now : VX3} {mg : VMg} {N a k v d : Nat} (hN : 200 ≤ N) (hV : kV A) (hC : kC A now) (hM : kM A mg) (ha : a ≤ 61) (hk : k ≤ 61) (hv : v ≤ 61) (hd : d ≤ 61) (re : VX2) (mq : VMq) : ∃ b re' mq', fX2_reachesNeed N now (nI a) (nI k) (nI v) (nI d) re = some (b, re') ∧ fX7_saysYes N mg (nI a) (nI k) (nI v) (nI d) mq = some (b, mq') := by
  obtain ⟨f, re', mq', e1, e2, e3⟩ := q_reckon (N := N) hN hV hC hM ha hk hv hd re mq
  unfold fX2_reachesNeed fX7_saysYes
  rw [e1, e2]
  simp only [q_b2]
  cases f with
  | false => exact ⟨_, _, _, rfl, rfl⟩
  | true =>
    obtain ⟨x, x1, x2, x3, x4, x5, x6⟩ := e3 rfl
    obtain ⟨b1, b2, b3, b4, b5⟩ := kIt_b x1 x2
    have hnd := hV.2.1
    have k6 : (61 : Nat) ^ 6 < 2 ^ 62 := by decide
    have k56 : 60 * (61 : Nat) ^ 5 < 2 ^ 62 := by decide
    have m1 : A.2.2.2.2.1 * (x.2.1 * x.2.2.1) ≤ 60 * 61 ^ 5 := Nat.mul_le_mul hnd b4
    have m2 : A.2.2.2.2.1 * x.2.1 ≤ 60 * 61 ^ 5 := Nat.mul_le_mul hnd b2
    rw [if_pos rfl, if_pos rfl, (q_upper re').1, (q_upper re').2, x3, x4, x5, x6, hC.2.2.2.2, hM.2.1, nI_l (by omega)]
    simp only [q_b1, lN_mul]
    have hh : iL (x.1 * x.2.2.1) < lN (A.2.2.2.2.1 * (x.2.1 * x.2.2.1)) ↔ iL x.1 < lN (A.2.2.2.2.1 * x.2.1) := by
      rw [← iL_nat, ← iL_nat, iL_lt (by omega) (by omega), iL_lt (by omega) (by omega), ← Nat.mul_assoc, Int.natCast_mul (A.2.2.2.2.1 * x.2.1) x.2.2.1]
      have ht : (0 : Int) < x.2.2.1 := by have := x1.2.1; omega
      exact ⟨fun q => Int.lt_of_mul_lt_mul_right q (by omega), fun q => Int.mul_lt_mul_of_pos_right q ht⟩
    by_cases g : iL x.1 < lN (A.2.2.2.2.1 * x.2.1)
    · rw [if_pos g, if_pos (hh.mpr g)]; exact ⟨_, _, _, rfl, rfl⟩
    · rw [if_neg g, if_neg (fun q => g (hh.mp q))]; exact ⟨_, _, _, rfl, rfl⟩
