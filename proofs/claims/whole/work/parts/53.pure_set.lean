/-! struck sheets as bits; set, names, rule -/
def kVa (M : Nat) : Nat → Int32
  | 0 => 0
  | i + 1 => kVa M i ||| (if M / 2 ^ i % 2 = 0 then ((1 : Int32) <<< (nI i &&& 31)) else 0)
theorem q_va : ∀ M : Fin 64, kVa M.1 6 = nI (63 - M.1) := by decide +kernel
theorem q_bit : ∀ M : Fin 64, ∀ s : Fin 6, ((nI M.1 >>> (nI s.1 &&& 31)) &&& 1) = nI (M.1 / 2 ^ s.1 % 2) := by decide +kernel
theorem q_put : ∀ M : Fin 64, ∀ s : Fin 6, ∀ v : Fin 2, ((nI M.1 &&& (((1 : Int32) <<< (nI s.1 &&& 31)) ^^^ (-1))) ||| (nI v.1 <<< (nI s.1 &&& 31))) = nI (M.1 - M.1 / 2 ^ s.1 % 2 * 2 ^ s.1 + v.1 * 2 ^ s.1) ∧ M.1 - M.1 / 2 ^ s.1 % 2 * 2 ^ s.1 + v.1 * 2 ^ s.1 < 64 ∧ ∀ t : Fin 6, (M.1 - M.1 / 2 ^ s.1 % 2 * 2 ^ s.1 + v.1 * 2 ^ s.1) / 2 ^ t.1 % 2 = if t.1 = s.1 then v.1 else M.1 / 2 ^ t.1 % 2 := by decide +kernel
theorem q_validL {A : kA} {mg : VMg} {N : Nat} (hM : kM A mg) : ∀ (j m i : Nat), i + j = 6 → j < m → fX7_valid_l4 N mg m (kVa A.2.2.2.1 i) (nI i) = some (kVa A.2.2.2.1 6) := by
  intro j
  induction j with
  | zero =>
    intro m i hi hm
    obtain ⟨m, rfl⟩ : ∃ q, m = q + 1 := ⟨m - 1, by omega⟩
    obtain rfl : i = 6 := by omega
    rfl
  | succ j ih =>
    intro m i hi hm
    obtain ⟨m, rfl⟩ : ∃ q, m = q + 1 := ⟨m - 1, by omega⟩
    show fX7_valid_b4 N mg _ _ _ = _
    unfold fX7_valid_b4 fX7_valid_b27
    have e0 : (nI (A.2.2.2.1 / 2 ^ i % 2) = 0) ↔ A.2.2.2.1 / 2 ^ i % 2 = 0 := nI_eq (b := 0) (by omega) (by omega)
    rw [if_neg (by rw [show (6 : Int32) = nI 6 from rfl, nI_leI (by omega) (by omega)]; omega), if_pos (nI_in (by omega) (by omega)), nI_clamp (by omega), (hM.1 i (by omega)).2.2.1, nI_1, ← ih m (i + 1) (by omega) (by omega)]
    by_cases h : A.2.2.2.1 / 2 ^ i % 2 = 0
    · rw [if_pos (e0.mpr h)]; simp only [kVa, if_pos h]
    · rw [if_neg (fun q => h (e0.mp q))]; simp only [kVa, if_neg h]
theorem q_valid {A : kA} {mg : VMg} {N : Nat} (hN : 100 ≤ N) (hV : kV A) (hM : kM A mg) : fX7_valid N mg = some (nI (63 - A.2.2.2.1)) := by
  rw [← q_va ⟨A.2.2.2.1, hV.1⟩]
  exact q_validL hM 6 N 0 (by omega) (by omega)
theorem q_set {A : kA} {now : VX3} {mg : VMg} (hV : kV A) (hC : kC A now) (hM : kM A mg) (a b c : Int32) : ∃ r now' mg', fX6_set a b c now = some (r, now') ∧ fX7_set a b c mg = some (r, mg') ∧ (now'.2.2.2.2.2.2 = now.2.2.2.2.2.2) ∧ ∃ A, kV A ∧ kC A now' ∧ kM A mg' := by
  unfold fX6_set fX7_set
  rw [q_sheet6, q_sheet7, q_within, q_in]
  simp only [q_b1]
  by_cases hw : kW a 0 5 = true
  rotate_left
  · rw [if_neg hw, if_neg hw]; exact ⟨_, _, _, rfl, rfl, rfl, A, hV, hC, hM⟩
  rw [if_pos hw, if_pos hw]
  by_cases hb : kW b 0 1 = true
  rotate_left
  · rw [if_neg hb, if_neg hb]; exact ⟨_, _, _, rfl, rfl, rfl, A, hV, hC, hM⟩
  rw [if_pos hb, if_pos hb]
  obtain ⟨s, hs, rfl⟩ := q_W5 hw
  have h6 : k_in (nI s) 6 := nI_in hs (by omega)
  obtain ⟨v1, v2, v3, v4⟩ := id hV
  obtain ⟨c1, c2, c3, c4, c5⟩ := id hC
  obtain ⟨m1, m2, m3, m4⟩ := id hM
  unfold fX6_set_b29 fX7_set_b29 fX7_set_b57
  rw [q_within, q_within, q_in, q_in]
  simp only [q_b1, if_pos h6, nI_clamp (show s < 2 ^ 31 by omega)]
  rcases q_W01.mp hb with rfl | rfl
  · rw [if_pos rfl, if_pos rfl, if_pos rfl]
    by_cases hc : kW c 0 4 = true
    rotate_left
    · rw [if_neg hc, if_neg hc]; exact ⟨_, _, _, rfl, rfl, rfl, A, hV, hC, hM⟩
    rw [if_pos hc, if_pos hc]
    obtain ⟨g, hg, rfl⟩ := (q_W0n (n := 4) (by omega)).mp hc
    unfold fX3_giveTo
    rw [q_gathererOf hC hs]
    simp only [q_b1, q_b2]
    rw [if_neg (nI_pos (by omega)), if_neg (by rw [show (6 : Int32) = nI 6 from rfl, nI_leI (by omega) (by omega)]; omega), if_pos h6, nI_clamp (by omega), (m1 s hs).2.1]
    refine ⟨_, _, _, rfl, rfl, rfl, (A.1, A.2.1, fun q => if q = s then g else A.2.2.1 q, A.2.2.2.1, A.2.2.2.2.1, A.2.2.2.2.2.1, A.2.2.2.2.2.2), ⟨v1, v2, v3, fun q hq => ⟨(v4 q hq).1, ?_, (v4 q hq).2.2⟩⟩, ⟨fun q hq => ⟨(c1 q hq).1, ?_, (c1 q hq).2.2⟩, c2, c3, c4, c5⟩, ⟨fun q hq => ⟨(m1 q hq).1, ?_, (m1 q hq).2.2⟩, m2, m3, m4⟩⟩
    · show (if q = s then g else A.2.2.1 q) < 5
      by_cases h : q = s
      · rw [if_pos h]; omega
      · rw [if_neg h]; exact (v4 q hq).2.1
    · show upd now.2.2.1 s (nI g) q = nI (if q = s then g else A.2.2.1 q)
      unfold upd
      by_cases h : q = s
      · rw [if_pos h, if_pos h]
      · rw [if_neg h, if_neg h]; exact (c1 q hq).2.1
    · show upd mg.1 s (nI g) q = nI (if q = s then g else A.2.2.1 q)
      unfold upd
      by_cases h : q = s
      · rw [if_pos h, if_pos h]
      · rw [if_neg h, if_neg h]; exact (m1 q hq).2.1
  · have h10 : ¬ (1 : Int32) = 0 := by decide
    simp only [if_neg h10]
    by_cases hc : kW c 0 1 = true
    rotate_left
    · rw [if_neg hc, if_neg hc]; exact ⟨_, _, _, rfl, rfl, rfl, A, hV, hC, hM⟩
    rw [if_pos hc, if_pos hc]
    obtain ⟨g, hg, rfl⟩ := (q_W0n (n := 1) (by omega)).mp hc
    obtain ⟨p1, p2, p3⟩ := q_put ⟨A.2.2.2.1, hV.1⟩ ⟨s, hs⟩ ⟨g, by omega⟩
    have hbit := q_bit ⟨A.2.2.2.1, hV.1⟩ ⟨s, hs⟩
    dsimp only at p1 p2 p3 hbit
    unfold fX3_strikeOut
    simp only [q_b2]
    rw [c4, p1, hbit, (m1 s hs).2.2.1]
    refine ⟨_, _, _, rfl, rfl, rfl, (A.1, A.2.1, A.2.2.1, A.2.2.2.1 - A.2.2.2.1 / 2 ^ s % 2 * 2 ^ s + g * 2 ^ s, A.2.2.2.2.1, A.2.2.2.2.2.1, A.2.2.2.2.2.2), ⟨p2, v2, v3, v4⟩, ⟨c1, c2, c3, rfl, c5⟩, ⟨fun q hq => ⟨(m1 q hq).1, (m1 q hq).2.1, ?_, (m1 q hq).2.2.2⟩, m2, m3, m4⟩⟩
    show upd mg.2.1 s (nI g) q = nI ((A.2.2.2.1 - A.2.2.2.1 / 2 ^ s % 2 * 2 ^ s + g * 2 ^ s) / 2 ^ q % 2)
    have := p3 ⟨q, hq⟩
    dsimp only at this
    rw [this]
    unfold upd
    by_cases h : q = s
    · rw [if_pos h, if_pos h]
    · rw [if_neg h, if_neg h]; exact (m1 q hq).2.2.1
