/-! the heap: both sides -/
theorem q_bar {A : kA} {mg : VMg} {N : Nat} (hN : 100 ≤ N) (hV : kV A) (hM : kM A mg) (a : Int32) (f : Bool) (ml : VMl) : ∃ ml', kZ (kTal A (kWl A)) ml' ∧ fX7_barOfLot N mg a f ml = some (if kW a 1 (nI (kTal A (kWl A)).2.1) = true ∧ f = true then (if kOver (kTal A (kWl A)).1 = true then -3 else 0) else -2, ml') := by
  obtain ⟨ml', e1, e2⟩ := q_lay (W := kWl A) hN hV hM (by unfold kWl; omega) ml
  refine ⟨ml', e2, ?_⟩
  unfold fX7_barOfLot
  rw [q_valid hN hV hM]
  simp only [q_b1]
  rw [show nI (63 - A.2.2.2.1) = nI (kWl A) from rfl, e1]
  simp only [q_b1, q_in, e2.1, e2.2.2.2.2.2]
  by_cases hw : kW a 1 (nI (kTal A (kWl A)).2.1) = true
  · rw [if_pos hw]
    by_cases hf : f = true
    · rw [if_pos hf, if_pos (And.intro hw hf)]
      by_cases ho : kOver (kTal A (kWl A)).1 = true
      · rw [if_pos ho, if_pos ho]
      · rw [if_neg ho, if_neg ho]
    · rw [if_neg hf, if_neg (fun q => hf q.2)]
  · rw [if_neg hw, if_neg (fun q => hw q.1)]
theorem q_h122 {N : Nat} {mg : VMg} {v1 v2 v3 v5 v6 : Int32} : ∀ (j m i : Nat) (ml : VMl) (mq : VMq) (mr : Nat → Int32), i + j = 26 → j < m → (∀ q, q < i → ml.1 q = 0) → ∃ ml', fX7_heap_l122 N mg m v1 v2 v3 v5 v6 (nI i) ml mq mr = fX7_heap_l155 N mg N v2 v3 v5 v6 v1 0 0 0 ml' mq mr ∧ ∀ q, q < 26 → ml'.1 q = 0 := by
  intro j
  induction j with
  | zero =>
    intro m i ml mq mr hi hm h
    obtain ⟨m, rfl⟩ : ∃ q, m = q + 1 := ⟨m - 1, by omega⟩
    obtain rfl : i = 26 := by omega
    refine ⟨ml, ?_, h⟩
    show fX7_heap_b122 N mg _ _ _ _ _ _ _ _ _ _ = _
    unfold fX7_heap_b122
    rw [if_pos (show (26 : Int32) ≤ nI 26 by decide)]
  | succ j ih =>
    intro m i ml mq mr hi hm h
    obtain ⟨m, rfl⟩ : ∃ q, m = q + 1 := ⟨m - 1, by omega⟩
    show ∃ ml', fX7_heap_b122 N mg _ _ _ _ _ _ _ _ _ _ = _ ∧ _
    unfold fX7_heap_b122
    rw [if_neg (by rw [show (26 : Int32) = nI 26 from rfl, nI_leI (by omega) (by omega)]; omega), if_pos (nI_in (by omega) (by omega)), nI_clamp (by omega), nI_1]
    refine ih m (i + 1) _ mq mr (by omega) (by omega) (fun q hq => ?_)
    show upd ml.1 i 0 q = 0
    unfold upd
    by_cases a : q = i
    · rw [if_pos a]
    · rw [if_neg a]; exact h q (by omega)
theorem q_heap {A : kA} {now : VX3} {mg : VMg} {N : Nat} (hN : 200 ≤ N) (hV : kV A) (hC : kC A now) (hM : kM A mg) (a b c : Int32) (li so : VX4) (re : VX2) (le : Nat → Int32) (ml : VMl) (mq : VMq) (mr : Nat → Int32) : ∃ r li' so' re' le' ml' mq' mr', fX6_heap N now a b c li so re le = some (r, li', so', re', le') ∧ fX7_heap N mg a b c ml mq mr = some (r, ml', mq', mr') := by
  obtain ⟨li', e1, e2⟩ := q_readList (N := N) (by omega) hV hC li
  have e2' : kY (kTal A (kWl A)) li' := e2
  obtain ⟨y1, y2, y3, y4, y5, y6, y7⟩ := id e2'
  have hall : (kTal A (kWl A)).2.1 ≤ 60 := (kTb_tal hV (kWl A)).1
  have hm27 : ∀ f : Bool, ¬ (kW b 1 (nI (kTal A (kWl A)).2.1) = true ∧ f = true) → ∃ ml', fX7_heap_b27 N mg a b c b f ml mq mr = some (-2, ml', mq, mr) := by
    intro f hf
    obtain ⟨ml', -, g⟩ := q_bar (N := N) (by omega) hV hM b f ml
    refine ⟨ml', ?_⟩
    unfold fX7_heap_b27
    rw [g, if_neg hf]
    simp only [q_b2]
    rw [if_neg (show ¬ (0 : Int32) ≤ -2 by decide)]
  unfold fX6_heap fX7_heap fX7_heap_b26
  rw [e1]
  simp only [q_b1, q_within, q_in, y2, y7]
  by_cases ha : kW a 0 9999 = true
  rotate_left
  · rw [if_neg ha, if_neg ha]
    obtain ⟨ml', g⟩ := hm27 false (fun q => by cases q.2)
    rw [g]; exact ⟨_, _, _, _, _, _, _, _, rfl, rfl⟩
  rw [if_pos ha, if_pos ha]
  by_cases hb : kW b 1 (nI (kTal A (kWl A)).2.1) = true
  rotate_left
  · rw [if_neg hb]
    obtain ⟨ml1, g1⟩ := hm27 true (fun q => hb q.1)
    obtain ⟨ml2, g2⟩ := hm27 false (fun q => hb q.1)
    rw [g1, g2]
    by_cases hc : kW c 0 2 = true
    · rw [if_pos hc]; exact ⟨_, _, _, _, _, _, _, _, rfl, rfl⟩
    · rw [if_neg hc]; exact ⟨_, _, _, _, _, _, _, _, rfl, rfl⟩
  rw [if_pos hb]
  by_cases hc : kW c 0 2 = true
  rotate_left
  · rw [if_neg hc, if_neg hc]
    obtain ⟨ml', g⟩ := hm27 false (fun q => by cases q.2)
    rw [g]; exact ⟨_, _, _, _, _, _, _, _, rfl, rfl⟩
  rw [if_pos hc, if_pos hc]
  obtain ⟨ml', z0, g⟩ := q_bar (N := N) (by omega) hV hM b true ml
  unfold fX7_heap_b27
  rw [g, if_pos (And.intro hb rfl)]
  simp only [q_b2]
  by_cases ho : kOver (kTal A (kWl A)).1 = true
  · rw [if_pos ho, if_pos ho, if_neg (show ¬ (0 : Int32) ≤ -3 by decide)]
    exact ⟨_, _, _, _, _, _, _, _, rfl, rfl⟩
  rw [if_neg ho, if_neg ho, if_pos (show (0 : Int32) ≤ 0 by decide)]
  obtain ⟨z, hz, rfl⟩ := (q_W0n (n := 9999) (by omega)).mp ha
  obtain ⟨k, hk1, hk2, rfl⟩ := (q_W (b := 1) (c := (kTal A (kWl A)).2.1) (by
    by_cases h0 : (kTal A (kWl A)).2.1 = 0
    · exfalso
      rw [h0] at hb
      unfold kW at hb
      simp only [Bool.and_eq_true, decide_eq_true_eq, Int32.le_iff_toInt_le] at hb
      have h1 : (1 : Int32).toInt = 1 := by decide
      have h2 : (nI 0).toInt = 0 := by decide
      omega
    · omega) (by omega)).mp hb
  rw [z0.1]
  unfold fX6_drawHeap fX6_numberList fX4_clear
  obtain ⟨le1, mr1, r1, r2, r3⟩ := q_rows (N := N) (v1 := nI z) (v2 := nI k) (v3 := c) (v5 := nI (kTal A (kWl A)).2.1) (by omega) hV hC hM 6 N N 0 le mr ml' mq (by omega) (by omega) (by omega) (fun q hq => absurd hq (Nat.not_lt_zero q))
  have k0 : nI (kNn A 0) = (0 : Int32) := rfl
  have k00 : nI 0 = (0 : Int32) := rfl
  rw [k0, k00] at r1 r2
  rw [r1, r2]
  obtain ⟨f, c1, c2⟩ := q_clear (N := N) 26 N 0 so (by omega) (by omega) (fun q hq => by omega)
  obtain ⟨ml2, d1, d2⟩ := q_h122 (N := N) (mg := mg) (v1 := nI z) (v2 := nI k) (v3 := c) (v5 := nI (kTal A (kWl A)).2.1) (v6 := nI (kNn A 6)) 26 N 0 ml' mq mr1 (by omega) (by omega) (fun q hq => by omega)
  rw [k00] at c1 d1
  simp only [q_b2, c1, q_b1, d1]
  have hkn : kNn A 6 = (kTal A (kWl A)).2.1 := rfl
  obtain ⟨T', so2, le2, ml3, mr2, t1, t2, t3, t4, t5⟩ := q_draws (now := now) (mg := mg) (N := N) (k := k) (v3 := c) (v5 := nI (kTal A (kWl A)).2.1) hN (by omega) k N N 0 (kNn A 6) z ((fun _ => 0, 0, 0, 0) : kT) (f, 0, 0, 0, 0, 0, false) le1 mr1 ml2 mq (by omega) (by omega) (by omega) (by omega) (by omega) (by omega) ⟨Nat.le_refl 0, fun _ => Nat.le_refl 0, Nat.le_refl 0, Nat.le_refl 0⟩ rfl ⟨c2, rfl, rfl, rfl, by show 0 = nI (kN kOne (fun _ => 0) 26); rw [kN_0 (by decide)]; rfl, by show 0 = nI (kN kTwo' (fun _ => 0) 26); rw [kN_0 (by decide)]; rfl, by show false = decide (0 < kN kTri (fun _ => 0) 26); rw [kN_0 (by decide)]; rfl⟩ d2 r3
  have p0 : nI (kPr2 ((fun _ => 0, 0, 0, 0) : kT)) = 0 := by show nI (kN kTwo' (fun _ => 0) 26) = 0; rw [kN_0 (by decide)]; rfl
  have v0 : nI (kVd ((fun _ => 0, 0, 0, 0) : kT)) = 0 := rfl
  rw [p0, v0, k00] at t5
  rw [k00] at t4
  rw [t4, t5]
  simp only [q_b2]
  have hval : fX4_valid so2 = some (nI (kVd T')) := by
    unfold fX4_valid
    rw [t3.2.1, t3.2.2.1, pk_sub t1.2.2.1]; rfl
  have hpr : so2.2.2.2.2.2.1 = nI (kPr2 T') := t3.2.2.2.2.2.1
  unfold kHe fX6_someSaysYes
  rw [hval, hpr]
  simp only [q_b1]
  by_cases w0 : c = 0
  · rw [if_pos w0, if_pos w0]
    exact ⟨_, _, _, _, _, _, _, _, rfl, rfl⟩
  rw [if_neg w0, if_neg w0]
  by_cases w1 : c = 1
  · rw [if_pos w1, if_pos w1]
    exact ⟨_, _, _, _, _, _, _, _, rfl, rfl⟩
  rw [if_neg w1, if_neg w1]
  obtain ⟨bb, re2, mq2, u1, u2⟩ := q_yes1 (N := N) (a := (kTal A (kWl A)).2.1) (k := k) (v := kVd T') (d := kPr2 T') hN hV hC hM (by omega) (by omega) (by unfold kVd; have := t1.1; omega) (by have : kPr2 T' ≤ 26 := kN_le 26; omega) re mq
  have hso : so2.2.1 = nI k := by rw [t3.2.1, t2]
  rw [y2, hso, u1, u2]
  simp only [q_b2]
  by_cases w2 : bb = true
  · rw [if_pos w2, if_pos w2]
    exact ⟨_, _, _, _, _, _, _, _, rfl, rfl⟩
  · rw [if_neg w2, if_neg w2]
    exact ⟨_, _, _, _, _, _, _, _, rfl, rfl⟩
