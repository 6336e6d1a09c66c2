/-! enough and against: both sides -/
theorem q_enoughL {A : kA} {now : VX3} {mg : VMg} {N : Nat} {lo : VX1} {mc : Nat → Int64} {li : VX4} {ml : VMl} {a : Int32} (hN : 200 ≤ N) (hV : kV A) (hC : kC A now) (hM : kM A mg) (hP : kPas lo.1 mc) (ho : kOver (kTal A (kWl A)).1 = false) (hli : kY (kTal A (kWl A)) li) (hml : kZ (kTal A (kWl A)) ml) (hL : kLz (kSn (kTal A (kWl A))) (kTal A (kWl A)).2.2.1 (kPn (kTal A (kWl A))) lo) : ∀ (j m m' k : Nat) (re : VX2) (mq : VMq), k + j = (kTal A (kWl A)).2.1 + 1 → j < m → j < m' → ∃ r re' mq', fX6_enough_l47 N now m a (nI k) li lo re = some (r, li, lo, re') ∧ fX7_enough_l41 N mg mc m' a (nI k) ml mq = some (r, ml, mq') := by
  have hall : (kTal A (kWl A)).2.1 ≤ 60 := (kTb_tal hV (kWl A)).1
  intro j
  induction j with
  | zero =>
    intro m m' k re mq hk hm hm'
    obtain ⟨m, rfl⟩ : ∃ q, m = q + 1 := ⟨m - 1, by omega⟩
    obtain ⟨m', rfl⟩ : ∃ q, m' = q + 1 := ⟨m' - 1, by omega⟩
    refine ⟨-6, re, mq, ?_, ?_⟩
    · show fX6_enough_b47 N now _ _ _ _ _ _ = _
      unfold fX6_enough_b47
      rw [hli.2.1, if_pos (by rw [nI_ltI (by omega) (by omega)]; omega)]
    · show fX7_enough_b41 N mg mc _ _ _ _ _ = _
      unfold fX7_enough_b41
      rw [hml.1, if_pos (by rw [nI_ltI (by omega) (by omega)]; omega)]
  | succ j ih =>
    intro m m' k re mq hk hm hm'
    obtain ⟨m, rfl⟩ : ∃ q, m = q + 1 := ⟨m - 1, by omega⟩
    obtain ⟨m', rfl⟩ : ∃ q, m' = q + 1 := ⟨m' - 1, by omega⟩
    obtain ⟨x, n, hx, w1, w2⟩ := q_wrongW (N := N) (k := k) hN hV hC hM hP ho hli hml hL (by omega)
    obtain ⟨re1, w1⟩ := w1 re
    obtain ⟨mq1, w2⟩ := w2 mq
    show ∃ r re' mq', fX6_enough_b47 N now _ _ _ _ _ _ = _ ∧ fX7_enough_b41 N mg mc _ _ _ _ _ = _
    unfold fX6_enough_b47 fX7_enough_b41 fX6_thousandths
    rw [w1, w2, hli.2.1, hml.1, if_neg (by rw [nI_ltI (by omega) (by omega)]; omega), if_neg (by rw [nI_ltI (by omega) (by omega)]; omega), q_ch6 hP hall (by omega), q_ch7 hP hall (by omega)]
    simp only [q_b1, q_b2]
    split
    · rw [nI_1]
      exact ih m m' (k + 1) re1 mq1 (by omega) (by omega) (by omega)
    · exact ⟨_, _, _, rfl, rfl⟩
theorem q_enough {A : kA} {now : VX3} {mg : VMg} {N : Nat} {lo : VX1} {mc : Nat → Int64} (hN : 200 ≤ N) (hV : kV A) (hC : kC A now) (hM : kM A mg) (hP : kPas lo.1 mc) (a : Int32) (li : VX4) (re : VX2) (ml : VMl) (mq : VMq) : ∃ r li' lo' re' ml' mq', fX6_enough N now a li lo re = some (r, li', lo', re') ∧ fX7_enough N mg mc a ml mq = some (r, ml', mq') ∧ lo'.1 = lo.1 := by
  obtain ⟨li', e1, e2⟩ := q_readList (N := N) (by omega) hV hC li
  have e2 : kY (kTal A (kWl A)) li' := e2
  obtain ⟨ml', z1, z2⟩ := q_lay (N := N) (W := kWl A) (by omega) hV hM (by unfold kWl; omega) ml
  have hall : (kTal A (kWl A)).2.1 ≤ 60 := (kTb_tal hV (kWl A)).1
  unfold fX6_enough fX7_enough
  rw [q_within, q_in, q_valid (by omega) hV hM, show nI (63 - A.2.2.2.1) = nI (kWl A) from rfl, e1]
  simp only [q_b1]
  rw [z1]
  simp only [q_b1, e2.2.2.2.2.2.2, z2.2.2.2.2.2, e2.2.1, z2.1]
  by_cases ha : kW a 0 1000 = true
  rotate_left
  · rw [if_neg ha, if_neg ha]; exact ⟨_, _, _, _, _, _, rfl, rfl, rfl⟩
  rw [if_pos ha, if_pos ha]
  by_cases ho : kOver (kTal A (kWl A)).1 = true
  · rw [if_pos ho, if_pos ho]; exact ⟨_, _, _, _, _, _, rfl, rfl, rfl⟩
  rw [if_neg ho, if_neg ho]
  have ho' := (Bool.not_eq_true _).mp ho
  have hsz := kSz_all hV ho'
  by_cases h0 : nI (kTal A (kWl A)).2.1 = 0
  · rw [if_pos h0, if_pos h0]; exact ⟨_, _, _, _, _, _, rfl, rfl, rfl⟩
  rw [if_neg h0, if_neg h0]
  have h0' : (kTal A (kWl A)).2.1 ≠ 0 := fun q => h0 (by rw [q]; rfl)
  obtain ⟨lo', l1, l2, l3⟩ := q_laylist (N := N) (by omega) hP e2 ho' (by omega)
  have hP' : kPas lo'.1 mc := by rw [l2]; exact hP
  rw [l1]
  simp only [q_b1]
  obtain ⟨r, re', mq', r1, r2⟩ := q_enoughL (N := N) (a := a) hN hV hC hM hP' ho' e2 z2 l3 (kTal A (kWl A)).2.1 N N 1 re mq (by omega) (by omega) (by omega)
  exact ⟨r, li', lo', re', ml', mq', r1, r2, l2⟩
theorem q_againstL {A : kA} {now : VX3} {mg : VMg} {N k B E w : Nat} {mc : Nat → Int64} {li : VX4} {ml : VMl} (hN : 200 ≤ N) (hV : kV A) (hC : kC A now) (hM : kM A mg) (ho : kOver (kTal A (kWl A)).1 = false) (hli : kY (kTal A (kWl A)) li) (hml : kZ (kTal A (kWl A)) ml) (hk : k ≤ (kTal A (kWl A)).2.1) (hw : w < 2) (hB1 : B ≤ E) (hB2 : B + (kTal A (kWl A)).2.1 ≤ 60) (hB3 : B < E → B + (kTal A (kWl A)).2.1 = 60) (hE : E ≤ 30) (hw1 : w = 1 → B ≤ (kTal A (kWl A)).2.2.2) : ∀ (j m m' x : Nat) (lo : VX1) (re : VX2) (mq : VMq), x + j = B + 1 → j < m → j < m' → kPas lo.1 mc → ∃ r lo' re' mq', fX6_against_l80 N now m (nI w) (nI k) (nI B) (nI x) li lo re = some (r, li, lo', re') ∧ fX7_against_l45 N mg mc m' (nI w) (nI k) (nI E) (nI x) ml mq = some (r, ml, mq') ∧ lo'.1 = lo.1 := by
  have hall : (kTal A (kWl A)).2.1 ≤ 60 := (kTb_tal hV (kWl A)).1
  have hsz := kSz_all hV ho
  intro j
  induction j with
  | zero =>
    intro m m' x lo re mq hx hm hm' hP
    obtain ⟨m, rfl⟩ : ∃ q, m = q + 1 := ⟨m - 1, by omega⟩
    obtain ⟨m', rfl⟩ : ∃ q, m' = q + 1 := ⟨m' - 1, by omega⟩
    refine ⟨-6, lo, re, mq, ?_, ?_, rfl⟩
    · show fX6_against_b80 N now _ _ _ _ _ _ _ _ = _
      unfold fX6_against_b80
      rw [if_pos (by rw [nI_ltI (by omega) (by omega)]; omega)]
    · show fX7_against_b45 N mg mc _ _ _ _ _ _ _ = _
      unfold fX7_against_b45
      rw [hml.1, nI_add]
      by_cases e : E < x
      · rw [if_pos (by rw [nI_ltI (by omega) (by omega)]; omega)]
      · rw [if_neg (by rw [nI_ltI (by omega) (by omega)]; omega), if_pos (by rw [show (60 : Int32) = nI 60 from rfl, nI_ltI (by omega) (by omega)]; omega)]
  | succ j ih =>
    intro m m' x lo re mq hx hm hm' hP
    obtain ⟨m, rfl⟩ : ∃ q, m = q + 1 := ⟨m - 1, by omega⟩
    obtain ⟨m', rfl⟩ : ∃ q, m' = q + 1 := ⟨m' - 1, by omega⟩
    have hgo : ∀ s b p : Nat, s + 2 * p + b = (kTal A (kWl A)).2.1 + x → ∀ (S1 S2 S3 : Int32), S1 = nI s → S2 = nI b → S3 = nI p → ∃ r lo' re' mq', (k_b1 (fX1_lay N S1 S2 S3 lo) fun lo_3 => k_b2 (fX6_waysToYes N now lo_3 (nI k) re) fun x_5 re_6 => k_b1 (fX1_all lo_3) fun x_8 => k_b1 (fX1_choose lo_3 x_8 (nI k)) fun x_10 => if x_10 ≤ ((2 : Int64) * x_5) then fX6_against_l80 N now m (nI w) (nI k) (nI B) (nI x + 1) li lo_3 re_6 else some (nI x, li, lo_3, re_6)) = some (r, li, lo', re') ∧ (k_b2 (fX7_yesOf N mg mc S3 S1 S2 (nI k) mq) fun x_7 mq_8 => k_b1 (fX7_ways mc (nI ((kTal A (kWl A)).2.1 + x)) (nI k)) fun x_1 => if x_1 ≤ ((2 : Int64) * x_7) then fX7_against_l45 N mg mc m' (nI w) (nI k) (nI E) (nI x + 1) ml mq_8 else some (nI x, ml, mq_8)) = some (r, ml, mq') ∧ lo'.1 = lo.1 := by
      rintro s b p hs S1 S2 S3 rfl rfl rfl
      obtain ⟨lo1, l1, l2, l3⟩ := q_laid (N := N) (s := s) (b := b) (p := p) (z := lo) (by omega) (by omega) hP
      have hP' : kPas lo1.1 mc := by rw [l2]; exact hP
      obtain ⟨re1, w1⟩ := q_waysYes (N := N) (k := k) hN hV hC hM hP' l3 (by omega) (by omega) re
      obtain ⟨mq1, w2⟩ := q_yesOf (N := N) (s := s) (b := b) (p := p) (k := k) hN hV hC hM hP (by omega) (by omega) mq
      rw [l1, w2]
      simp only [q_b1, q_b2]
      rw [w1]
      simp only [q_b2]
      rw [(q_alln l3).2, ← hs]
      simp only [q_b1]
      rw [q_ch6 hP' (by omega) (by omega), q_ch7 hP (by omega) (by omega)]
      simp only [q_b1]
      split
      · rw [nI_1]
        obtain ⟨r, lo2, re2, mq2, r1, r2, r3⟩ := ih m m' (x + 1) lo1 re1 mq1 (by omega) (by omega) (by omega) hP'
        exact ⟨r, lo2, re2, mq2, r1, r2, by rw [r3, l2]⟩
      · exact ⟨_, _, _, _, rfl, rfl, l2⟩
    show ∃ r lo' re' mq', fX6_against_b80 N now _ _ _ _ _ _ _ _ = _ ∧ fX7_against_b45 N mg mc _ _ _ _ _ _ _ = _ ∧ _
    unfold fX6_against_b80 fX7_against_b45 fX6_against_b97 fX7_against_b124 fX4_singles
    have hsn : (kTal A (kWl A)).2.2.2 + kN kOne (kTal A (kWl A)).1 26 = kSn (kTal A (kWl A)) := rfl
    have hpn : kN kTwo (kTal A (kWl A)).1 26 = kPn (kTal A (kWl A)) := rfl
    simp only [hml.1, hml.2.1, hml.2.2.1, hml.2.2.2.1, hml.2.2.2.2.1, (q_good6 hli ho).2, hli.2.2.1, hli.2.2.2.1, hli.2.2.2.2.1, nI_add, hsn, hpn]
    have c1 : ¬ nI B < nI x := by rw [nI_ltI (by omega) (by omega)]; omega
    have c2 : ¬ nI E < nI x := by rw [nI_ltI (by omega) (by omega)]; omega
    have c3 : ¬ (60 : Int32) < nI ((kTal A (kWl A)).2.1 + x) := by rw [show (60 : Int32) = nI 60 from rfl, nI_ltI (by omega) (by omega)]; omega
    rw [if_neg c1, if_neg c2, if_neg c3]
    rcases (show w = 0 ∨ w = 1 by omega) with rfl | rfl
    · rw [if_neg (show ¬ nI 0 = 1 by decide), if_pos (show nI 0 = 0 from rfl)]
      simp only [q_b1]
      rw [show (nI (kSn (kTal A (kWl A))) - 0 : Int32) = nI (kSn (kTal A (kWl A))) from pk_sub (b := 0) (Nat.zero_le _), show (nI ((kTal A (kWl A)).2.2.1 + x) - 0 : Int32) = nI ((kTal A (kWl A)).2.2.1 + x) from pk_sub (b := 0) (Nat.zero_le _), show (nI (kPn (kTal A (kWl A))) + 0 : Int32) = nI (kPn (kTal A (kWl A))) from nI_add _ 0]
      exact hgo (kSn (kTal A (kWl A))) ((kTal A (kWl A)).2.2.1 + x) (kPn (kTal A (kWl A))) (by omega) _ _ _ rfl rfl rfl
    · have hxs : x ≤ kSn (kTal A (kWl A)) := by
        have := hw1 rfl
        unfold kSn; omega
      rw [if_pos (show nI 1 = 1 from rfl), if_neg (show ¬ nI 1 = 0 by decide)]
      simp only [q_b1]
      rw [pk_sub hxs, show nI ((kTal A (kWl A)).2.2.1 + x) - nI x = nI (kTal A (kWl A)).2.2.1 by rw [pk_sub (by omega)]; congr 1; omega]
      exact hgo (kSn (kTal A (kWl A)) - x) (kTal A (kWl A)).2.2.1 (kPn (kTal A (kWl A)) + x) (by omega) _ _ _ rfl rfl rfl
theorem q_against {A : kA} {now : VX3} {mg : VMg} {N : Nat} {lo : VX1} {mc : Nat → Int64} (hN : 200 ≤ N) (hV : kV A) (hC : kC A now) (hM : kM A mg) (hP : kPas lo.1 mc) (a b : Int32) (li : VX4) (re : VX2) (ml : VMl) (mq : VMq) : ∃ r li' lo' re' ml' mq', fX6_against N now a b li lo re = some (r, li', lo', re') ∧ fX7_against N mg mc a b ml mq = some (r, ml', mq') ∧ lo'.1 = lo.1 := by
  obtain ⟨li', e1, e2⟩ := q_readList (N := N) (by omega) hV hC li
  have e2 : kY (kTal A (kWl A)) li' := e2
  obtain ⟨ml', z1, z2⟩ := q_bar (N := N) (by omega) hV hM b (kW a 0 1) ml
  have hall : (kTal A (kWl A)).2.1 ≤ 60 := (kTb_tal hV (kWl A)).1
  have hdots : (kTal A (kWl A)).2.2.2 ≤ 60 := Nat.le_trans (kTb_tal hV (kWl A)).2.2.2 hall
  unfold fX6_against fX7_against fX6_against_b77 fX7_against_b31 fX7_against_b40
  rw [e1, q_in]
  simp only [q_b1, q_within, e2.2.1, e2.2.2.2.1, e2.2.2.2.2.2.2]
  rw [z2]
  simp only [q_b2, z1.2.2.1]
  by_cases ha : kW a 0 1 = true
  rotate_left
  · have hx : ¬ (kW b 1 (nI (kTal A (kWl A)).2.1) = true ∧ kW a 0 1 = true) := fun q => ha q.2
    rw [if_neg ha, if_neg hx, if_neg (show ¬ (0 : Int32) ≤ -2 by decide)]
    exact ⟨_, _, _, _, _, _, rfl, rfl, rfl⟩
  by_cases hb : kW b 1 (nI (kTal A (kWl A)).2.1) = true
  rotate_left
  · have hx : ¬ (kW b 1 (nI (kTal A (kWl A)).2.1) = true ∧ kW a 0 1 = true) := fun q => hb q.1
    rw [if_pos ha, if_neg hb, if_neg hx, if_neg (show ¬ (0 : Int32) ≤ -2 by decide)]
    exact ⟨_, _, _, _, _, _, rfl, rfl, rfl⟩
  rw [if_pos ha, if_pos hb, if_pos (And.intro hb ha)]
  by_cases ho : kOver (kTal A (kWl A)).1 = true
  · rw [if_pos ho, if_pos ho, if_neg (show ¬ (0 : Int32) ≤ -3 by decide)]
    exact ⟨_, _, _, _, _, _, rfl, rfl, rfl⟩
  rw [if_neg ho, if_neg ho, if_pos (show (0 : Int32) ≤ 0 by decide)]
  have ho' := (Bool.not_eq_true _).mp ho
  obtain ⟨k, hk1, hk2, rfl⟩ := q_W1n (by omega) hb
  have hm1 : ∃ B, B = (if 60 - (kTal A (kWl A)).2.1 < 30 then 60 - (kTal A (kWl A)).2.1 else 30) ∧ (if (60 : Int32) - nI (kTal A (kWl A)).2.1 < 30 then (60 : Int32) - nI (kTal A (kWl A)).2.1 else 30) = nI B := by
    refine ⟨_, rfl, ?_⟩
    rw [show (60 : Int32) - nI (kTal A (kWl A)).2.1 = nI (60 - (kTal A (kWl A)).2.1) from pk_sub (a := 60) hall]
    by_cases c : 60 - (kTal A (kWl A)).2.1 < 30
    · rw [if_pos c, if_pos (by rw [show (30 : Int32) = nI 30 from rfl, nI_ltI (by omega) (by omega)]; omega)]
    · rw [if_neg c, if_neg (by rw [show (30 : Int32) = nI 30 from rfl, nI_ltI (by omega) (by omega)]; omega)]; rfl
  obtain ⟨B, hB, hBe⟩ := hm1
  rw [hBe]
  have hB1 : B ≤ 30 ∧ B + (kTal A (kWl A)).2.1 ≤ 60 ∧ (B < 30 → B + (kTal A (kWl A)).2.1 = 60) := by
    by_cases c : 60 - (kTal A (kWl A)).2.1 < 30
    · rw [if_pos c] at hB; omega
    · rw [if_neg c] at hB; omega
  rcases q_W01.mp ha with rfl | rfl
  · rw [if_neg (show ¬ (0 : Int32) = 1 by decide), if_pos (show (0 : Int32) = 0 from rfl)]
    obtain ⟨r, lo', re', mq', r1, r2, r3⟩ := q_againstL (N := N) (k := k) (B := B) (E := 30) (w := 0) hN hV hC hM ho' e2 z1 hk2 (by omega) (by omega) (by omega) (by omega) (by omega) (fun q => by omega) (B + 1) N N 0 lo re mq (by omega) (by omega) (by omega) hP
    exact ⟨r, li', lo', re', ml', mq', r1, r2, r3⟩
  · rw [if_pos (show (1 : Int32) = 1 from rfl), if_neg (show ¬ (1 : Int32) = 0 by decide)]
    have hd30 : nI (kTal A (kWl A)).2.2.2 ≤ 30 ↔ (kTal A (kWl A)).2.2.2 ≤ 30 := by rw [show (30 : Int32) = nI 30 from rfl, nI_leI (by omega) (by omega)]
    have hmn : (if nI (kTal A (kWl A)).2.2.2 < nI B then nI (kTal A (kWl A)).2.2.2 else nI B) = nI (if (kTal A (kWl A)).2.2.2 < B then (kTal A (kWl A)).2.2.2 else B) := by
      by_cases c : (kTal A (kWl A)).2.2.2 < B
      · rw [if_pos c, if_pos (by rw [nI_ltI (by omega) (by omega)]; omega)]
      · rw [if_neg c, if_neg (by rw [nI_ltI (by omega) (by omega)]; omega)]
    rw [hmn]
    have hBB : ∃ B2, B2 = (if (kTal A (kWl A)).2.2.2 < B then (kTal A (kWl A)).2.2.2 else B) := ⟨_, rfl⟩
    obtain ⟨B2, hB2⟩ := hBB
    rw [← hB2]
    have hB3 : B2 ≤ B ∧ B2 ≤ (kTal A (kWl A)).2.2.2 ∧ (B2 < (kTal A (kWl A)).2.2.2 → B2 = B) := by
      by_cases c : (kTal A (kWl A)).2.2.2 < B
      · rw [if_pos c] at hB2; omega
      · rw [if_neg c] at hB2; omega
    by_cases c : (kTal A (kWl A)).2.2.2 ≤ 30
    · rw [if_pos (hd30.mpr c)]
      obtain ⟨r, lo', re', mq', r1, r2, r3⟩ := q_againstL (N := N) (k := k) (B := B2) (E := (kTal A (kWl A)).2.2.2) (w := 1) hN hV hC hM ho' e2 z1 hk2 (by omega) (by omega) (by omega) (by omega) (by omega) (fun q => by omega) (B2 + 1) N N 0 lo re mq (by omega) (by omega) (by omega) hP
      exact ⟨r, li', lo', re', ml', mq', r1, r2, r3⟩
    · rw [if_neg (fun q => c (hd30.mp q))]
      obtain ⟨r, lo', re', mq', r1, r2, r3⟩ := q_againstL (N := N) (k := k) (B := B2) (E := 30) (w := 1) hN hV hC hM ho' e2 z1 hk2 (by omega) (by omega) (by omega) (by omega) (by omega) (fun q => by omega) (B2 + 1) N N 0 lo re mq (by omega) (by omega) (by omega) hP
      exact ⟨r, li', lo', re', ml', mq', r1, r2, r3⟩
