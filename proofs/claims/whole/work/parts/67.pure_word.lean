/-! shared, word -/
def kHas (A : kA) (g : Nat) : Bool := decide (0 < (kTal A (kWg A g)).2.1)
def kCnt (A : kA) : Nat → Nat
  | 0 => 0
  | g + 1 => kCnt A g + (if kHas A g = true then 1 else 0)
theorem kCnt_le (A : kA) : ∀ g, kCnt A g ≤ g := by
  intro g
  induction g with
  | zero => exact Nat.le_refl 0
  | succ g ih =>
    show kCnt A g + (if kHas A g = true then 1 else 0) ≤ g + 1
    by_cases e : kHas A g = true
    · rw [if_pos e]; omega
    · rw [if_neg e]; omega
theorem q_withL {A : kA} {now : VX3} {N : Nat} (hN : 100 ≤ N) (hV : kV A) (hC : kC A now) : ∀ (j m g : Nat) (so : VX4), g + j = 5 → j < m → ∃ so', fX6_gatherersWithNames_l4 N now m (nI (kCnt A g)) (nI g) so = some (nI (kCnt A 5), so') := by
  intro j
  induction j with
  | zero =>
    intro m g so hi hm
    obtain ⟨m, rfl⟩ : ∃ q, m = q + 1 := ⟨m - 1, by omega⟩
    obtain rfl : g = 5 := by omega
    exact ⟨so, rfl⟩
  | succ j ih =>
    intro m g so hi hm
    obtain ⟨m, rfl⟩ : ∃ q, m = q + 1 := ⟨m - 1, by omega⟩
    show ∃ so', fX6_gatherersWithNames_b4 N now _ _ _ _ = _
    unfold fX6_gatherersWithNames_b4 fX6_gatherersWithNames_b20
    have n5 : ¬ (5 : Int32) ≤ nI g := by rw [show (5 : Int32) = nI 5 from rfl, nI_leI (by omega) (by omega)]; omega
    obtain ⟨so1, f1⟩ := q_has (N := N) hN hV hC (show g < 5 by omega) so
    rw [if_neg n5, f1]
    simp only [q_b2, nI_1]
    have hk : kCnt A (g + 1) = kCnt A g + (if kHas A g = true then 1 else 0) := rfl
    by_cases e : 0 < (kTal A (kWg A g)).2.1
    · rw [if_pos (show kHas A g = true from decide_eq_true e)] at hk
      rw [if_pos (decide_eq_true e), ← hk]
      exact ih m (g + 1) so1 (by omega) (by omega)
    · rw [if_neg (show ¬ kHas A g = true from fun q => e (of_decide_eq_true q))] at hk
      rw [if_neg (fun q => e (of_decide_eq_true q)), ← Nat.add_zero (kCnt A g), ← hk]
      exact ih m (g + 1) so1 (by omega) (by omega)
theorem q_sharedL {A : kA} {mg : VMg} {N : Nat} {mc : Nat → Int64} {f : Nat → Int64} (hN : 200 ≤ N) (hV : kV A) (hM : kM A mg) (hP : kPas f mc) {a : Nat} (ha : a < 5) (p : Int32) : ∀ (j m g : Nat) (ml : VMl) (mh : VMh) (ms : VMs), g + j = 5 → j < m → ∃ ml' mh' ms', fX7_shared_l27 N mg mc m (nI a) p (nI (kCnt A g)) (nI g) ml mh ms = some (if (kOq A a).1 * (nI (kCnt A 5)).toInt64 < (kOq A a).2 then (if p = 0 then (kOq A a).1 * (nI (kCnt A 5)).toInt64 / lN (Nat.gcd (kOu A a / kOg A a * kCnt A 5) (kOl A a / kOg A a)) else (kOq A a).2 / lN (Nat.gcd (kOu A a / kOg A a * kCnt A 5) (kOl A a / kOg A a))) else 1, ml', mh', ms') := by
  intro j
  induction j with
  | zero =>
    intro m g ml mh ms hi hm
    obtain ⟨m, rfl⟩ : ∃ q, m = q + 1 := ⟨m - 1, by omega⟩
    obtain rfl : g = 5 := by omega
    show ∃ ml' mh' ms', fX7_shared_b27 N mg mc _ _ _ _ _ _ _ _ = _
    unfold fX7_shared_b27
    obtain ⟨ml1, f3⟩ := q_odds7 (N := N) hN hV hM hP ha ml mh ms
    obtain ⟨b1, b2, b3, b4⟩ := kOq_b hV a
    have h5 := kCnt_le A 5
    have e : (kOq A a).1 * (nI (kCnt A 5)).toInt64 = lN (kOu A a / kOg A a * kCnt A 5) := by
      rw [nI_l (by omega)]; exact lN_mul _ _
    have hb : kOu A a / kOg A a * kCnt A 5 ≤ 2 ^ 60 * 5 := Nat.mul_le_mul b1 h5
    rw [if_pos (show (5 : Int32) ≤ nI 5 by decide), f3]
    simp only [q_b3]
    by_cases c : (kOq A a).1 * (nI (kCnt A 5)).toInt64 < (kOq A a).2
    · rw [if_pos c, if_pos c, e]
      show ∃ ml' mh' ms', k_b1 (fX7_term N _ (lN (kOl A a / kOg A a)) p) _ = _
      rw [q_term hN ⟨by omega, .inl rfl⟩ (by omega) b2]
      exact ⟨_, _, _, rfl⟩
    · rw [if_neg c, if_neg c]; exact ⟨_, _, _, rfl⟩
  | succ j ih =>
    intro m g ml mh ms hi hm
    obtain ⟨m, rfl⟩ : ∃ q, m = q + 1 := ⟨m - 1, by omega⟩
    show ∃ ml' mh' ms', fX7_shared_b27 N mg mc _ _ _ _ _ _ _ _ = _
    unfold fX7_shared_b27 fX7_shared_b52
    have n5 : ¬ (5 : Int32) ≤ nI g := by rw [show (5 : Int32) = nI 5 from rfl, nI_leI (by omega) (by omega)]; omega
    have hb := (kTb_tal hV (kWg A g)).1
    rw [if_neg n5, q_his (by omega) hV hM (by omega)]
    simp only [q_b1, nI_1]
    have hk : kCnt A (g + 1) = kCnt A g + (if kHas A g = true then 1 else 0) := rfl
    by_cases e : 0 < (kTal A (kWg A g)).2.1
    · rw [if_pos (show kHas A g = true from decide_eq_true e)] at hk
      rw [if_neg (show ¬ nI (kTal A (kMk (kSg A g) 6)).2.1 ≤ 0 by rw [show (0 : Int32) = nI 0 from rfl, nI_leI (by unfold kWg at hb; omega) (by omega)]; unfold kWg at e; omega), show nI (kCnt A g) + bI true = nI (kCnt A (g + 1)) by rw [hk]; exact nI_1 _]
      exact ih m (g + 1) ml _ ms (by omega) (by omega)
    · rw [if_neg (show ¬ kHas A g = true from fun q => e (of_decide_eq_true q))] at hk
      rw [if_pos (show nI (kTal A (kMk (kSg A g) 6)).2.1 ≤ 0 by rw [show (0 : Int32) = nI 0 from rfl, nI_leI (by unfold kWg at hb; omega) (by omega)]; unfold kWg at e; omega), show nI (kCnt A g) + bI false = nI (kCnt A (g + 1)) by rw [hk]; exact nI_add _ 0]
      exact ih m (g + 1) ml _ ms (by omega) (by omega)
theorem q_shared {A : kA} {now : VX3} {mg : VMg} {N : Nat} {lo : VX1} {mc : Nat → Int64} (hN : 200 ≤ N) (hV : kV A) (hC : kC A now) (hM : kM A mg) (hP : kPas lo.1 mc) (a b : Int32) (li so : VX4) (ru : VX0) (ml : VMl) (mh : VMh) (ms : VMs) : ∃ r li' so' ru' ml' mh' ms', fX6_shared N now lo a b li so ru = some (r, li', so', ru') ∧ fX7_shared N mg mc a b ml mh ms = some (r, ml', mh', ms') := by
  obtain ⟨y, e1, e2⟩ := q_readList (by omega : 100 ≤ N) hV hC li
  unfold fX6_shared fX7_shared
  rw [q_gat6, q_gat7, q_part6, q_part7, e1]
  simp only [q_b1]
  by_cases hw : kW a 0 4 = true
  rotate_left
  · rw [if_neg hw, if_neg hw]; exact ⟨_, _, _, _, _, _, _, rfl, rfl⟩
  by_cases hb : kW b 0 1 = true
  rotate_left
  · rw [if_pos hw, if_pos hw, if_neg hb, if_neg hb]; exact ⟨_, _, _, _, _, _, _, rfl, rfl⟩
  rw [if_pos hw, if_pos hw, if_pos hb, if_pos hb]
  obtain ⟨g, hg, rfl⟩ := (q_W0n (n := 4) (by omega)).mp hw
  obtain ⟨so1, f1, -⟩ := q_odds6 (N := N) hN hV hC hP (show g < 5 by omega) e2 so ru
  obtain ⟨so2, f2⟩ := q_withL (N := N) (by omega) hV hC 5 N 0 so1 (by omega) (by omega)
  obtain ⟨ml', mh', ms', f3⟩ := q_sharedL (N := N) hN hV hM hP (show g < 5 by omega) b 5 N 0 ml mh ms (by omega) (by omega)
  have f2 : fX6_gatherersWithNames N now so1 = some (nI (kCnt A 5), so2) := f2
  rw [f1]
  simp only [q_b2, f2, q_b1]
  obtain ⟨b1, b2, b3, b4⟩ := kOq_b hV g
  have h5 := kCnt_le A 5
  have e : (kOq A g).1 * (nI (kCnt A 5)).toInt64 = lN (kOu A g / kOg A g * kCnt A 5) := by
    rw [nI_l (by omega)]; exact lN_mul _ _
  have hbd : kOu A g / kOg A g * kCnt A 5 ≤ 2 ^ 60 * 5 := Nat.mul_le_mul b1 h5
  have f3 : fX7_shared_l27 N mg mc N (nI g) b 0 0 ml mh ms = _ := f3
  rw [f3, e]
  have hlt : lN (kOu A g / kOg A g * kCnt A 5) < (kOq A g).2 ↔ kOu A g / kOg A g * kCnt A 5 < kOl A g / kOg A g := pk_lLT (by omega) (by omega)
  have hlt2 : (kOq A g).2 < lN (kOu A g / kOg A g * kCnt A 5) ↔ kOl A g / kOg A g < kOu A g / kOg A g * kCnt A 5 := pk_lLT (by omega) (by omega)
  have hself : fX0_become N (lN (kOl A g / kOg A g)) (lN (kOl A g / kOg A g)) (kOq A g) = some (1, 1) := by
    rw [q_become hN ⟨by omega, .inl rfl⟩ (by omega) b2, Nat.gcd_self, pk_lDiv (by omega) b2 (by omega), Nat.div_self b2]; rfl
  simp only [hlt, hlt2]
  by_cases c : kOu A g / kOg A g * kCnt A 5 < kOl A g / kOg A g
  · rw [if_pos c, if_neg (by omega)]
    show ∃ r li' so' ru' ml'_1 mh'_1 ms'_1, k_b1 (fX0_become N _ (lN (kOl A g / kOg A g)) _) _ = _ ∧ _
    rw [q_become hN ⟨by omega, .inl rfl⟩ (by omega) b2]
    simp only [q_b1, q_half0]
    exact ⟨_, _, _, _, _, _, _, rfl, rfl⟩
  · rw [if_neg c]
    have h : (if kOl A g / kOg A g < kOu A g / kOg A g * kCnt A 5 then (kOq A g).2 else lN (kOu A g / kOg A g * kCnt A 5)) = lN (kOl A g / kOg A g) := by
      by_cases d : kOl A g / kOg A g < kOu A g / kOg A g * kCnt A 5
      · rw [if_pos d]; rfl
      · rw [if_neg d]; congr 1; omega
    rw [h]
    show ∃ r li' so' ru' ml'_1 mh'_1 ms'_1, k_b1 (fX0_become N _ (lN (kOl A g / kOg A g)) _) _ = _ ∧ _
    rw [hself]
    simp only [q_b1, q_half0, ite_self]
    exact ⟨_, _, _, _, _, _, _, rfl, rfl⟩
theorem q_word {A : kA} {now : VX3} {mg : VMg} {N : Nat} (hN : 200 ≤ N) (hV : kV A) (hC : kC A now) (hM : kM A mg) (a b c : Int32) (li : VX4) (ru : VX0) (ml : VMl) : ∃ r li' ru' ml', fX6_word N now a b c li ru = some (r, li', ru') ∧ fX7_word N mg a b c ml = some (r, ml') := by
  obtain ⟨y, e1, e2⟩ := q_readList (by omega : 100 ≤ N) hV hC li
  obtain ⟨z, e3, e4⟩ := q_lay (N := N) (W := 63 - A.2.2.2.1) (by omega) hV hM (by omega) ml
  unfold fX6_word fX7_word
  rw [q_within, q_within, q_in, q_in, q_part6, q_part7, e1, q_valid (by omega) hV hM]
  simp only [q_b1, e3]
  by_cases ha : kW a 0 10 = true
  rotate_left
  · rw [if_neg ha, if_neg ha]; exact ⟨_, _, _, _, rfl, rfl⟩
  by_cases hb : kW b 0 10 = true
  rotate_left
  · rw [if_pos ha, if_pos ha, if_neg hb, if_neg hb]; exact ⟨_, _, _, _, rfl, rfl⟩
  by_cases hc : kW c 0 1 = true
  rotate_left
  · rw [if_pos ha, if_pos ha, if_pos hb, if_pos hb, if_neg hc, if_neg hc]; exact ⟨_, _, _, _, rfl, rfl⟩
  rw [if_pos ha, if_pos ha, if_pos hb, if_pos hb, if_pos hc, if_pos hc]
  obtain ⟨p, hp, rfl⟩ := (q_W0n (n := 10) (by omega)).mp ha
  obtain ⟨q, hq, rfl⟩ := (q_W0n (n := 10) (by omega)).mp hb
  have h := kTb_tal hV (63 - A.2.2.2.1)
  have h1 := h.1
  have h2 := h.2.2.1
  unfold fX4_valid
  rw [e2.2.1, e2.2.2.1, e4.1, e4.2.1]
  generalize hx : (kTal A (63 - A.2.2.2.1)).2.1 = n at *
  generalize hy : (kTal A (63 - A.2.2.2.1)).2.2.1 = d at *
  by_cases h0 : n = 0
  · rw [if_pos (by rw [h0]; rfl), if_pos (by rw [h0]; rfl)]; exact ⟨_, _, _, _, rfl, rfl⟩
  have hn : ¬ nI n = 0 := fun q => h0 ((nI_eq (b := 0) (by omega) (by omega)).mp q)
  have m1 : (n - d) * p ≤ 60 * 10 := Nat.mul_le_mul (by omega) hp
  have m2 : d * q ≤ 60 * 10 := Nat.mul_le_mul (by omega) hq
  rw [if_neg hn, if_neg hn, pk_sub h2, pk_mul, pk_mul, nI_l (by omega), nI_l (show d * q < 2 ^ 31 by omega)]
  simp only [q_b1]
  rw [nI_l (by omega), nI_l (by omega), nI_l (by omega), nI_l (by omega), lN_mul, lN_mul, lN_add]
  by_cases z0 : (n - d) * p + d * q = 0
  · rw [if_pos (by rw [z0]; rfl)]
    have z1 : (n - d) * p = 0 := by omega
    rw [z0, z1]
    have hB : fX0_become N (lN 0) (lN 0) ru = some (0, 1) := by
      unfold fX0_become fX0_become_b20
      rw [q_div6 hN (a := 0) (b := 0) ⟨by omega, .inl rfl⟩ (by omega)]
      simp only [q_b1]
      rw [if_pos (show lN 0 ≤ 0 by decide)]
    rw [hB]
    simp only [q_b1, q_half0]
    rcases q_W01.mp hc with rfl | rfl
    · exact ⟨_, _, _, _, rfl, rfl⟩
    · exact ⟨_, _, _, _, rfl, rfl⟩
  · rw [if_neg (fun q => z0 ((lN_z (by omega)).mp q)), q_become hN ⟨by omega, .inl rfl⟩ (by omega) (by omega), q_term hN ⟨by omega, .inl rfl⟩ (by omega) (by omega)]
    simp only [q_b1, q_half0]
    exact ⟨_, _, _, _, rfl, rfl⟩
