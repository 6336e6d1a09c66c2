/-! strike, worst -/
theorem q_gtm1 {n : Nat} (h : n < 2 ^ 31) : ¬ nI n ≤ -1 := by
  rw [Int32.le_iff_toInt_le, nI_toInt h]
  have : (-1 : Int32).toInt = -1 := by decide
  omega
theorem q_msk2 : ∀ M : Fin 64, ∀ s : Fin 6, (((63 : Int32) &&& (nI M.1 ^^^ (-1))) &&& (((1 : Int32) <<< (nI s.1 &&& 31)) ^^^ (-1))) = nI (63 - M.1 - (63 - M.1) / 2 ^ s.1 % 2 * 2 ^ s.1) ∧ (nI (63 - M.1) &&& (((1 : Int32) <<< (nI s.1 &&& 31)) ^^^ (-1))) = nI (63 - M.1 - (63 - M.1) / 2 ^ s.1 % 2 * 2 ^ s.1) ∧ ∀ t : Fin 6, (63 - M.1 - (63 - M.1) / 2 ^ s.1 % 2 * 2 ^ s.1) / 2 ^ t.1 % 2 ≤ (63 - M.1) / 2 ^ t.1 % 2 := by decide +kernel
/-- the mask of the list, and without a sheet -/
def kWl (A : kA) : Nat := 63 - A.2.2.2.1
def kWo (A : kA) (s : Nat) : Nat := 63 - A.2.2.2.1 - (63 - A.2.2.2.1) / 2 ^ s % 2 * 2 ^ s
def kLoss (A : kA) (s : Nat) : Nat := kGd (kTal A (kWl A)) - kGd (kTal A (kWo A s))
theorem q_struck6 {A : kA} {r : VX3} (hV : kV A) (h : kC A r) {s : Nat} (hs : s < 6) : fX3_isStruck r (nI s) = some (decide (A.2.2.2.1 / 2 ^ s % 2 = 1)) := by
  unfold fX3_isStruck
  have hb := q_bit ⟨A.2.2.2.1, hV.1⟩ ⟨s, hs⟩
  dsimp only at hb
  rw [h.2.2.2.1, hb]
  by_cases e : A.2.2.2.1 / 2 ^ s % 2 = 0
  · rw [e]; rfl
  · rw [show A.2.2.2.1 / 2 ^ s % 2 = 1 by omega]; rfl
theorem q_loss {A : kA} {now : VX3} {mg : VMg} {N s : Nat} (hN : 100 ≤ N) (hV : kV A) (hC : kC A now) (hM : kM A mg) (hs : s < 6) (ho : kOver (kTal A (kWl A)).1 = false) : (∀ li so, kY (kTal A (kWl A)) li → ∃ so', fX6_lossWithout N now li (nI s) so = some (nI (kLoss A s), so')) ∧ ∀ ml, ∃ ml', fX7_lossOf N mg (nI s) ml = some (nI (kLoss A s), ml') := by
  obtain ⟨p1, p2, p3⟩ := q_msk2 ⟨A.2.2.2.1, hV.1⟩ ⟨s, hs⟩
  dsimp only at p1 p2 p3
  have hW : kWo A s < 64 := by unfold kWo; omega
  obtain ⟨g1, g2⟩ := kGd_le (A := A) (W := kWo A s) (V := kWl A) (fun t ht => p3 ⟨t, ht⟩) ho
  refine ⟨fun li so hli => ?_, fun ml => ?_⟩
  · obtain ⟨so', e1, e2⟩ := q_read (W := kWo A s) hN hV hC hW so
    unfold fX6_lossWithout
    rw [hC.2.2.2.1, p1]
    refine ⟨so', ?_⟩
    show k_b1 (fX4_readSheets N now (nI (kWo A s)) so) _ = _
    rw [e1]
    simp only [q_b1, (q_good6 hli ho).1, (q_good6 e2 g1).1]
    rw [pk_sub g2]; rfl
  · obtain ⟨m1, e1, e2⟩ := q_lay (N := N) (W := kWl A) hN hV hM (by unfold kWl; omega) ml
    obtain ⟨m2, e3, e4⟩ := q_lay (N := N) (W := kWo A s) hN hV hM hW m1
    unfold fX7_lossOf
    have e1 : fX7_layList N mg (nI (63 - A.2.2.2.1)) ml = some m1 := e1
    have e3 : fX7_layList N mg (nI (63 - A.2.2.2.1 - (63 - A.2.2.2.1) / 2 ^ s % 2 * 2 ^ s)) m1 = some m2 := e3
    rw [q_valid hN hV hM]
    simp only [q_b1, e1, p2, e3, q_good7 e2, q_good7 e4]
    exact ⟨m2, by rw [pk_sub g2]; rfl⟩
theorem q_over7 {A : kA} {mg : VMg} {N : Nat} (hN : 100 ≤ N) (hV : kV A) (hM : kM A mg) (ml : VMl) : ∃ ml', fX7_isOverfull N mg ml = some (kOver (kTal A (kWl A)).1, ml') := by
  obtain ⟨m1, e1, e2⟩ := q_lay (N := N) (W := kWl A) hN hV hM (by unfold kWl; omega) ml
  have e1 : fX7_layList N mg (nI (63 - A.2.2.2.1)) ml = some m1 := e1
  unfold fX7_isOverfull
  rw [q_valid hN hV hM]
  simp only [q_b1, e1]
  obtain ⟨z2, z3, z4, z5, z6, z7⟩ := e2
  exact ⟨m1, by rw [z7]⟩
theorem q_strike {A : kA} {now : VX3} {mg : VMg} {N : Nat} (hN : 100 ≤ N) (hV : kV A) (hC : kC A now) (hM : kM A mg) (a : Int32) (li so : VX4) (ml : VMl) : ∃ r li' so' ml', fX6_strike N now a li so = some (r, li', so') ∧ fX7_strike N mg a ml = some (r, ml') := by
  obtain ⟨y, e1, e2⟩ := q_readList hN hV hC li
  obtain ⟨m1, e3⟩ := q_over7 (N := N) hN hV hM ml
  unfold fX6_strike fX7_strike
  rw [q_sheet6, q_sheet7, e1, e3]
  simp only [q_b1, q_b2]
  by_cases hw : kW a 0 5 = true
  rotate_left
  · rw [if_neg hw, if_neg hw]; exact ⟨_, _, _, _, rfl, rfl⟩
  rw [if_pos hw, if_pos hw]
  obtain ⟨s, hs, rfl⟩ := q_W5 hw
  obtain ⟨y1, y2, y3, y4, y5, y6, y7⟩ := id e2
  have y7 : y.2.2.2.2.2.2 = kOver (kTal A (kWl A)).1 := y7
  rw [y7]
  by_cases ho : kOver (kTal A (kWl A)).1 = true
  · rw [if_pos ho, if_pos ho]; exact ⟨_, _, _, _, rfl, rfl⟩
  rw [if_neg ho, if_neg ho]
  obtain ⟨l1, l2⟩ := q_loss (N := N) (s := s) hN hV hC hM hs ((Bool.not_eq_true _).mp ho)
  obtain ⟨so', f1⟩ := l1 y so e2
  obtain ⟨ml', f2⟩ := l2 m1
  rw [q_struck6 hV hC hs, if_pos (nI_in (c := s) (N := 6) hs (by omega)), nI_clamp (by omega), (hM.1 s hs).2.2.1, f1, f2]
  simp only [q_b1, q_b2]
  have c1 : nI (A.2.2.2.1 / 2 ^ s % 2) = 1 ↔ decide (A.2.2.2.1 / 2 ^ s % 2 = 1) = true := by
    rw [decide_eq_true_eq]; exact nI_eq (b := 1) (by omega) (by omega)
  by_cases b : decide (A.2.2.2.1 / 2 ^ s % 2 = 1) = true
  · rw [if_pos b, if_pos (c1.mpr b)]; exact ⟨_, _, _, _, rfl, rfl⟩
  · rw [if_neg b, if_neg (fun q => b (c1.mp q))]; exact ⟨_, _, _, _, rfl, rfl⟩
theorem q_worstL {A : kA} {now : VX3} {mg : VMg} {N : Nat} (hN : 100 ≤ N) (hV : kV A) (hC : kC A now) (hM : kM A mg) (ho : kOver (kTal A (kWl A)).1 = false) (li : VX4) (hli : kY (kTal A (kWl A)) li) : ∀ (j m m' s : Nat) (f c d : Int32) (so : VX4) (ml : VMl), s + j = 6 → j < m → j < m' → ((f = -6 ∧ c = -1 ∧ d = 0) ∨ ∃ t l, t < 6 ∧ l ≤ 200 ∧ f = nI t ∧ c = nI l ∧ d = nI l) → ∃ r so' ml', fX6_worst_l24 N now m f c (nI s) li so = some (r, li, so') ∧ fX7_worst_l17 N mg m' f d (nI s) ml = some (r, ml') := by
  intro j
  induction j with
  | zero =>
    intro m m' s f c d so ml hi hm hm' h
    obtain ⟨m, rfl⟩ : ∃ q, m = q + 1 := ⟨m - 1, by omega⟩
    obtain ⟨m', rfl⟩ : ∃ q, m' = q + 1 := ⟨m' - 1, by omega⟩
    obtain rfl : s = 6 := by omega
    exact ⟨f, so, ml, rfl, rfl⟩
  | succ j ih =>
    intro m m' s f c d so ml hi hm hm' h
    obtain ⟨m, rfl⟩ : ∃ q, m = q + 1 := ⟨m - 1, by omega⟩
    obtain ⟨m', rfl⟩ : ∃ q, m' = q + 1 := ⟨m' - 1, by omega⟩
    have hs : s < 6 := by omega
    show ∃ r so' ml', fX6_worst_b24 N now _ _ _ _ _ _ = _ ∧ fX7_worst_b17 N mg _ _ _ _ _ = _
    unfold fX6_worst_b24 fX7_worst_b17
    have n6 : ¬ (6 : Int32) ≤ nI s := by rw [show (6 : Int32) = nI 6 from rfl, nI_leI (by omega) (by omega)]; omega
    rw [if_neg n6, if_neg n6, q_struck6 hV hC hs, if_pos (nI_in (c := s) (N := 6) hs (by omega)), nI_clamp (by omega), (hM.1 s hs).2.2.1]
    simp only [q_b1]
    have hc1 : (-1 : Int32) ≤ c := by
      rcases h with ⟨-, rfl, -⟩ | ⟨t, l, -, hl, -, rfl, -⟩
      · decide
      · rw [Int32.le_iff_toInt_le, nI_toInt (by omega)]; have : (-1 : Int32).toInt = -1 := by decide
        omega
    have e0 : nI (A.2.2.2.1 / 2 ^ s % 2) = 0 ↔ A.2.2.2.1 / 2 ^ s % 2 = 0 := nI_eq (b := 0) (by omega) (by omega)
    by_cases b : A.2.2.2.1 / 2 ^ s % 2 = 0
    · rw [if_neg (show ¬ decide (A.2.2.2.1 / 2 ^ s % 2 = 1) = true by rw [decide_eq_true_eq]; omega), if_pos (e0.mpr b)]
      obtain ⟨l1, l2⟩ := q_loss (N := N) (s := s) hN hV hC hM hs ho
      obtain ⟨so', f1⟩ := l1 li so hli
      obtain ⟨ml', f2⟩ := l2 ml
      rw [f1, f2]
      simp only [q_b2]
      have hl2 : kLoss A s ≤ 200 := by have := kGd_b hV (kWl A); unfold kLoss; omega
      unfold fX6_worst_b50 fX6_worst_b63 fX7_worst_b49 fX7_worst_b54 fX7_worst_b66 fX7_worst_b78 fX7_worst_b79
      rw [nI_1]
      rcases h with ⟨rfl, rfl, rfl⟩ | ⟨t, l, ht, hl, rfl, rfl, rfl⟩
      · rw [if_neg (q_gtm1 (show kLoss A s < 2 ^ 31 by omega)), if_pos (show (-6 : Int32) < 0 by decide), if_pos rfl, if_pos rfl]
        exact ih m m' (s + 1) (nI s) (nI (kLoss A s)) (nI (kLoss A s)) so' ml' (by omega) (by omega) (by omega) (.inr ⟨s, kLoss A s, hs, hl2, rfl, rfl, rfl⟩)
      · rw [if_neg (nI_pos (show t < 2 ^ 31 by omega))]
        by_cases a : nI (kLoss A s) ≤ nI l
        · rw [if_pos a, if_pos a, if_neg (show ¬ false = true by decide), if_neg (show ¬ false = true by decide)]
          exact ih m m' (s + 1) (nI t) (nI l) (nI l) so' ml' (by omega) (by omega) (by omega) (.inr ⟨t, l, ht, hl, rfl, rfl, rfl⟩)
        · rw [if_neg a, if_neg a, if_pos rfl, if_pos rfl]
          exact ih m m' (s + 1) (nI s) (nI (kLoss A s)) (nI (kLoss A s)) so' ml' (by omega) (by omega) (by omega) (.inr ⟨s, kLoss A s, hs, hl2, rfl, rfl, rfl⟩)
    · rw [if_pos (show decide (A.2.2.2.1 / 2 ^ s % 2 = 1) = true by rw [decide_eq_true_eq]; omega), if_neg (fun q => b (e0.mp q))]
      unfold fX6_worst_b50 fX6_worst_b63 fX7_worst_b79
      rw [if_pos hc1, nI_1]
      exact ih m m' (s + 1) f c d so ml (by omega) (by omega) (by omega) h
theorem q_worst {A : kA} {now : VX3} {mg : VMg} {N : Nat} (hN : 100 ≤ N) (hV : kV A) (hC : kC A now) (hM : kM A mg) (li so : VX4) (ml : VMl) : ∃ r li' so' ml', fX6_worst N now li so = some (r, li', so') ∧ fX7_worst N mg ml = some (r, ml') := by
  obtain ⟨y, e1, e2⟩ := q_readList hN hV hC li
  obtain ⟨m1, e3⟩ := q_over7 (N := N) hN hV hM ml
  unfold fX6_worst fX7_worst
  rw [e1, e3]
  simp only [q_b1, q_b2]
  obtain ⟨y1, y2, y3, y4, y5, y6, y7⟩ := id e2
  have y7 : y.2.2.2.2.2.2 = kOver (kTal A (kWl A)).1 := y7
  rw [y7]
  by_cases ho : kOver (kTal A (kWl A)).1 = true
  · rw [if_pos ho, if_pos ho]; exact ⟨_, _, _, _, rfl, rfl⟩
  rw [if_neg ho, if_neg ho]
  obtain ⟨r, so', ml', f1, f2⟩ := q_worstL (N := N) hN hV hC hM ((Bool.not_eq_true _).mp ho) y e2 6 N N 0 (-6) (-1) 0 so m1 (by omega) (by omega) (by omega) (.inl ⟨rfl, rfl, rfl⟩)
  exact ⟨r, y, so', ml', f1, f2⟩
