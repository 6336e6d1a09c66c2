/-! worth: both sides -/
theorem q_worth {A : kA} {now : VX3} {mg : VMg} {N : Nat} (hN : 200 ≤ N) (hV : kV A) (hC : kC A now) (hM : kM A mg) (a b c d : Int32) (li : VX4) (re : VX2) (ru ot : VX0) (ml : VMl) (mq : VMq) : ∃ r li' re' ru' ot' ml' mq', fX6_worth N now a b c d li re ru ot = some (r, li', re', ru', ot') ∧ fX7_worth N mg a b c d ml mq = some (r, ml', mq') := by
  obtain ⟨li', e1, e2⟩ := q_readList (N := N) (by omega) hV hC li
  have e2 : kY (kTal A (kWl A)) li' := e2
  obtain ⟨ml', z1, z2⟩ := q_lay (N := N) (W := kWl A) (by omega) hV hM (by unfold kWl; omega) ml
  have hall : (kTal A (kWl A)).2.1 ≤ 60 := (kTb_tal hV (kWl A)).1
  unfold fX6_worth fX7_worth
  rw [e1, q_valid (by omega) hV hM, show nI (63 - A.2.2.2.1) = nI (kWl A) from rfl]
  simp only [q_b1]
  rw [z1]
  simp only [q_b1, q_within, q_in, q_number6, q_part6, q_part7, e2.2.1, z2.1]
  by_cases ha : kW a 1 (nI (kTal A (kWl A)).2.1) = true
  rotate_left
  · rw [if_neg ha, if_neg ha]; exact ⟨_, _, _, _, _, _, _, rfl, rfl⟩
  by_cases hb : kW b 0 60 = true
  rotate_left
  · rw [if_pos ha, if_pos ha, if_neg hb, if_neg hb]; exact ⟨_, _, _, _, _, _, _, rfl, rfl⟩
  by_cases hc : kW c 0 60 = true
  rotate_left
  · rw [if_pos ha, if_pos ha, if_pos hb, if_pos hb, if_neg hc, if_neg hc]; exact ⟨_, _, _, _, _, _, _, rfl, rfl⟩
  by_cases hd : kW d 0 1 = true
  rotate_left
  · rw [if_pos ha, if_pos ha, if_pos hb, if_pos hb, if_pos hc, if_pos hc, if_neg hd, if_neg hd]; exact ⟨_, _, _, _, _, _, _, rfl, rfl⟩
  rw [if_pos ha, if_pos ha, if_pos hb, if_pos hb, if_pos hc, if_pos hc, if_pos hd, if_pos hd]
  obtain ⟨k, hk1, hk2, rfl⟩ := q_W1n (by omega) ha
  obtain ⟨v, hv, rfl⟩ := (q_W0n (n := 60) (by omega)).mp hb
  obtain ⟨p, hp, rfl⟩ := (q_W0n (n := 60) (by omega)).mp hc
  rw [nI_1]
  obtain ⟨f1, re1, mq1, f2, f3, f4⟩ := q_reckon (N := N) (a := (kTal A (kWl A)).2.1) (k := k) (v := v) (d := p) hN hV hC hM (by omega) (by omega) (by omega) (by omega) re mq
  rw [f2, f3]
  simp only [q_b2]
  cases f1 with
  | false => exact ⟨_, _, _, _, _, _, _, rfl, rfl⟩
  | true =>
  obtain ⟨g1, re2, mq2, g2, g3, g4⟩ := q_reckon (N := N) (a := (kTal A (kWl A)).2.1) (k := k) (v := v) (d := p + 1) hN hV hC hM (by omega) (by omega) (by omega) (by omega) re1 mq1
  obtain ⟨x, x1, x2, x3, x4, x5, x6⟩ := f4 rfl
  rw [if_pos rfl, if_pos rfl, (q_upper re1).1, (q_upper re1).2, x3, x4, g3]
  simp only [q_b1, q_beck hN x1 x2, q_b2]
  rw [g2]
  simp only [q_b2]
  cases g1 with
  | false => exact ⟨_, _, _, _, _, _, _, rfl, rfl⟩
  | true =>
  obtain ⟨y, y1, y2, y3, y4, y5, y6⟩ := g4 rfl
  obtain ⟨w, w1, w2, w3, w4, w5, w6⟩ := q_joint (N := N) (a := (kTal A (kWl A)).2.1) (k := k) (v := v) (d := p) (d' := p + 1) hV hC (by omega) (by omega) (by omega) (by omega) (by omega) f2 g2
  obtain ⟨b1, b2, b3, b4, b5⟩ := kIt_b x1 x2
  obtain ⟨c1, c2, c3, c4, c5⟩ := kIt_b y1 y2
  have k6 : (61 : Nat) ^ 6 < 2 ^ 62 := by decide
  have k5 : (61 : Nat) ^ 5 < 2 ^ 62 := by decide
  obtain ⟨j1, j2, j3, j4, j5, j6, j7, j8⟩ := w1
  have hB : w.2.2.2.2 ≤ 61 ^ 5 := by
    have : (61 : Nat) ^ 6 = 61 * 61 ^ 5 := by decide
    omega
  rw [x3] at w3
  rw [x4] at w4
  rw [y3] at w5
  rw [y4] at w6
  have u1 : x.1 * (x.2.2.1 : Int) = w.1 := (iL_eq (by omega) (by omega)).mp w3
  have u2 : x.2.1 * x.2.2.1 = w.2.1 := (pk_lEQ (by omega) (by omega)).mp w4
  have u3 : y.1 * (y.2.2.1 : Int) = w.2.2.1 := (iL_eq (by omega) (by omega)).mp w5
  have u4 : y.2.1 * y.2.2.1 = w.2.2.2.1 := (pk_lEQ (by omega) (by omega)).mp w6
  have hBB : max 61 (w.2.2.2.2 * w.2.2.2.2) ≤ 61 ^ 10 := by
    refine Nat.max_le.mpr ⟨by decide, ?_⟩
    rw [show (61 : Nat) ^ 10 = 61 ^ 5 * 61 ^ 5 by decide]
    exact Nat.mul_le_mul hB hB
  have n1 : x.1.natAbs * y.2.1 ≤ 61 ^ 10 := by
    have h := Nat.le_trans j7 hBB
    rw [← u1, ← u4, Int.natAbs_mul, Int.natAbs_natCast] at h
    exact Nat.le_trans (Nat.mul_le_mul (Nat.le_mul_of_pos_right _ x1.2.1) (Nat.le_mul_of_pos_right _ y1.2.1)) h
  have n2 : y.1.natAbs * x.2.1 ≤ 61 ^ 10 := by
    have h := Nat.le_trans j8 hBB
    rw [← u3, ← u2, Int.natAbs_mul, Int.natAbs_natCast] at h
    exact Nat.le_trans (Nat.mul_le_mul (Nat.le_mul_of_pos_right _ y1.2.1) (Nat.le_mul_of_pos_right _ x1.2.1)) h
  have n3 : x.2.1 * y.2.1 ≤ 61 ^ 10 := by
    rw [show (61 : Nat) ^ 10 = 61 ^ 5 * 61 ^ 5 by decide]
    exact Nat.mul_le_mul b2 c2
  have k10 : (61 : Nat) ^ 10 < 2 ^ 61 := by decide
  have m1 : (x.1 * (y.2.1 : Int)).natAbs ≤ 61 ^ 10 := by rw [Int.natAbs_mul, Int.natAbs_natCast]; exact n1
  have m2 : (y.1 * (x.2.1 : Int)).natAbs ≤ 61 ^ 10 := by rw [Int.natAbs_mul, Int.natAbs_natCast]; exact n2
  have hx : iL x.1 * lN y.2.1 - iL y.1 * lN x.2.1 = iL (x.1 * (y.2.1 : Int) - y.1 * (x.2.1 : Int)) := by
    rw [← iL_nat, ← iL_nat, iL_mul, iL_mul, iL_sub]
  have hz : kSz (iL (x.1 * (y.2.1 : Int) - y.1 * (x.2.1 : Int))) (x.1 * (y.2.1 : Int) - y.1 * (x.2.1 : Int)).natAbs := iL_sz (by omega)
  have hpos : 0 < x.2.1 * y.2.1 := Nat.mul_pos x1.1 y1.1
  rw [if_pos rfl, if_pos rfl, (q_upper re2).1, (q_upper re2).2, y3, y4, x5, x6, y5, y6]
  unfold fX0_lessen
  simp only [q_b1, q_beck hN y1 y2, hx, lN_mul]
  rw [q_become hN hz (by omega) hpos, q_term hN hz (by omega) hpos]
  simp only [q_b1, q_half0]
  exact ⟨_, _, _, _, _, _, _, rfl, rfl⟩
