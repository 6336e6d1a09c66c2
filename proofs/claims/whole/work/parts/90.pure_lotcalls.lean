/-! yes and wrong: both sides -/
theorem kSum_off {f : Nat → Nat} {j v : Nat} : ∀ n, n ≤ j → kSum (kUp f j v) n = kSum f n := by
  intro n
  induction n with
  | zero => intro _; rfl
  | succ n ih => intro h; show kSum (kUp f j v) n + (if n = j then v else f n) = _; rw [ih (by omega), if_neg (show ¬ n = j by omega)]; rfl
theorem kSum_up {f : Nat → Nat} {j v : Nat} : ∀ n, j < n → kSum (kUp f j v) n + f j = kSum f n + v := by
  intro n
  induction n with
  | zero => intro h; omega
  | succ n ih =>
    intro h
    show kSum (kUp f j v) n + (if n = j then v else f n) + f j = kSum f n + f n + v
    by_cases e : n = j
    · subst e; rw [kSum_off n (by omega), if_pos rfl]; omega
    · rw [if_neg e]; have := ih (by omega); omega
def kTw (T : kT) : Prop := T.2.1 = T.2.2.2 + T.2.2.1 + kSum T.1 26
theorem kTw_add {T : kT} {c : Int32} (hc : kName c = true) (h : kTw T) : kTw (kAdd T c) := by
  unfold kTw at h ⊢
  unfold kAdd
  by_cases e : c = 46
  · rw [if_pos e]; show T.2.1 + 1 = T.2.2.2 + 1 + T.2.2.1 + kSum T.1 26; omega
  rw [if_neg e]
  by_cases e2 : kBad c = true
  · rw [if_pos e2]; show T.2.1 + 1 = T.2.2.2 + (T.2.2.1 + 1) + kSum T.1 26; omega
  rw [if_neg e2]
  obtain ⟨-, j, hj, -, ej⟩ := kName_let hc e e2
  rw [ej, nI_clamp (by omega)]
  have := kSum_up (f := T.1) (v := T.1 j + 1) 26 hj
  show T.2.1 + 1 = T.2.2.2 + T.2.2.1 + kSum (kUp T.1 j (T.1 j + 1)) 26
  omega
theorem kTw_in {A : kA} {s : Nat} {T : kT} (hV : kV A) (hs : s < 6) (h : kTw T) : ∀ i, i ≤ A.1 s → kTw (kIn A s T i) := by
  intro i
  induction i with
  | zero => intro _; exact h
  | succ i ih => intro hi; exact kTw_add ((hV.2.2.2 s hs).2.2 i (by omega)) (ih (by omega))
theorem kTw_out {A : kA} (hV : kV A) {W : Nat} : ∀ s, s ≤ 6 → kTw (kOut A W s) := by
  intro s
  induction s with
  | zero => intro _; exact (kSum_0 26 (fun _ _ => rfl)).symm ▸ rfl
  | succ s ih =>
    intro hs
    show kTw (if W / 2 ^ s % 2 = 0 then kOut A W s else kIn A s (kOut A W s) (A.1 s))
    by_cases e : W / 2 ^ s % 2 = 0
    · rw [if_pos e]; exact ih (by omega)
    · rw [if_neg e]; exact kTw_in hV (by omega) (ih (by omega)) _ (Nat.le_refl _)
theorem kSum_12 {f : Nat → Nat} : ∀ n, kN kTri f n = 0 → kSum f n = kN kOne f n + 2 * kN kTwo f n := by
  intro n
  induction n with
  | zero => intro _; rfl
  | succ n ih =>
    intro h
    have h : kN kTri f n + (if kTri (f n) = true then 1 else 0) = 0 := h
    have h1 : ¬ kTri (f n) = true := by
      intro q
      rw [if_pos q] at h; omega
    rw [if_neg h1] at h
    have h2 : ¬ 3 ≤ f n := fun q => h1 (decide_eq_true q)
    have := ih (by omega)
    show kSum f n + f n = kN kOne f n + (if kOne (f n) = true then 1 else 0) + 2 * (kN kTwo f n + (if kTwo (f n) = true then 1 else 0))
    unfold kOne kTwo at this ⊢
    simp only [decide_eq_true_eq]
    by_cases a : f n = 1
    · rw [if_pos a, if_neg (by omega)]; omega
    · by_cases b : f n = 2
      · rw [if_neg a, if_pos b]; omega
      · rw [if_neg a, if_neg b]; omega
def kSn (T : kT) : Nat := T.2.2.2 + kN kOne T.1 26
def kPn (T : kT) : Nat := kN kTwo T.1 26
theorem kSz_all {A : kA} (hV : kV A) (ho : kOver (kTal A (kWl A)).1 = false) : kSn (kTal A (kWl A)) + 2 * kPn (kTal A (kWl A)) + (kTal A (kWl A)).2.2.1 = (kTal A (kWl A)).2.1 := by
  have h1 : kTw (kTal A (kWl A)) := kTw_out hV 6 (by omega)
  unfold kTw at h1
  rw [kSum_12 26 (kOver0 ho)] at h1
  unfold kSn kPn
  omega
theorem q_laylist {N : Nat} {T : kT} {li : VX4} {lo : VX1} {g : Nat → Int64} (hN : 100 ≤ N) (hP : kPas lo.1 g) (hli : kY T li) (ho : kOver T.1 = false) (hsz : kSn T + 2 * kPn T + T.2.2.1 ≤ 60) : ∃ lo', fX6_layList N li lo = some lo' ∧ lo'.1 = lo.1 ∧ kLz (kSn T) T.2.2.1 (kPn T) lo' := by
  obtain ⟨lo', e1, e2, e3⟩ := q_laid (N := N) (s := kSn T) (b := T.2.2.1) (p := kPn T) (z := lo) hN hsz hP
  refine ⟨lo', ?_, e2, e3⟩
  unfold fX6_layList fX4_singles
  rw [(q_good6 hli ho).2, hli.2.2.1, hli.2.2.2.1, hli.2.2.2.2.1, nI_add]
  simp only [q_b1]
  rw [show nI (T.2.2.2 + kN kOne T.1 26) = nI (kSn T) from rfl, show nI (kN kTwo T.1 26) = nI (kPn T) from rfl, e1]
  simp only [q_b1]
theorem q_yesNow {A : kA} {now : VX3} {mg : VMg} {N k : Nat} {f mc : Nat → Int64} {T : kT} {ml : VMl} (hN : 200 ≤ N) (hV : kV A) (hC : kC A now) (hM : kM A mg) (hP : kPas f mc) (hml : kZ T ml) (hsz : kSn T + 2 * kPn T + T.2.2.1 ≤ 60) (hk : k ≤ 60) (mq : VMq) : ∃ mq', fX7_yesNow N mg mc ml (nI k) mq = some (lN (kYn (kYs N mg (kSn T + 2 * kPn T + T.2.2.1) k) (kSn T) (kPn T) T.2.2.1 k), mq') := by
  obtain ⟨mq', e⟩ := q_yesOf (N := N) (s := kSn T) (b := T.2.2.1) (p := kPn T) hN hV hC hM hP hsz hk mq
  refine ⟨mq', ?_⟩
  unfold fX7_yesNow
  rw [hml.2.1, hml.2.2.1, hml.2.2.2.1, hml.2.2.2.2.1, nI_add, show nI (T.2.2.2 + kN kOne T.1 26) = nI (kSn T) from rfl, show nI (kN kTwo T.1 26) = nI (kPn T) from rfl, e]
  rfl
theorem q_lotRef {A : kA} {now : VX3} {N : Nat} (hN : 100 ≤ N) (hV : kV A) (hC : kC A now) (a b : Int32) (li : VX4) : ∃ li', kY (kTal A (kWl A)) li' ∧ fX6_lotRefusal N now a b li = some (if kW a 1 (nI (kTal A (kWl A)).2.1) = true ∧ kW b 0 1 = true then (if kOver (kTal A (kWl A)).1 = true then -3 else 0) else -2, li') := by
  obtain ⟨li', e1, e2⟩ := q_readList hN hV hC li
  have e2 : kY (kTal A (kWl A)) li' := e2
  refine ⟨li', e2, ?_⟩
  unfold fX6_lotRefusal
  rw [e1]
  simp only [q_b1, q_within, q_part6, e2.2.1, e2.2.2.2.2.2.2]
  by_cases hw : kW a 1 (nI (kTal A (kWl A)).2.1) = true
  · rw [if_pos hw]
    by_cases hf : kW b 0 1 = true
    · rw [if_pos hf, if_pos (And.intro hw hf)]
      by_cases ho : kOver (kTal A (kWl A)).1 = true
      · rw [if_pos ho, if_pos ho]
      · rw [if_neg ho, if_neg ho]
    · rw [if_neg hf, if_neg (fun q => hf q.2)]
  · rw [if_neg hw, if_neg (fun q => hw q.1)]
theorem q_W1n {a : Int32} {n : Nat} (hn : n < 2 ^ 31) (h : kW a 1 (nI n) = true) : ∃ k, 1 ≤ k ∧ k ≤ n ∧ a = nI k := by
  by_cases h0 : n = 0
  · exfalso
    rw [h0] at h
    unfold kW at h
    simp only [Bool.and_eq_true, decide_eq_true_eq, Int32.le_iff_toInt_le] at h
    have h1 : (1 : Int32).toInt = 1 := by decide
    have h2 : (nI 0).toInt = 0 := by decide
    omega
  · exact (q_W (b := 1) (c := n) (by omega) hn).mp h
theorem q_yes {A : kA} {now : VX3} {mg : VMg} {N : Nat} {lo : VX1} {mc : Nat → Int64} (hN : 200 ≤ N) (hV : kV A) (hC : kC A now) (hM : kM A mg) (hP : kPas lo.1 mc) (a b : Int32) (li : VX4) (re : VX2) (ru : VX0) (ml : VMl) (mq : VMq) : ∃ r li' lo' re' ru' ml' mq', fX6_yes N now a b li lo re ru = some (r, li', lo', re', ru') ∧ fX7_yes N mg mc a b ml mq = some (r, ml', mq') ∧ lo'.1 = lo.1 := by
  obtain ⟨li', k1, k2⟩ := q_lotRef (N := N) (by omega) hV hC a b li
  obtain ⟨ml', z1, z2⟩ := q_bar (N := N) (by omega) hV hM a (kW b 0 1) ml
  unfold fX6_yes fX7_yes
  rw [q_part7, k2]
  simp only [q_b1, q_b2]
  rw [z2]
  simp only [q_b2]
  by_cases hw : kW a 1 (nI (kTal A (kWl A)).2.1) = true ∧ kW b 0 1 = true
  rotate_left
  · rw [if_neg hw, if_neg (show ¬ (-2 : Int32) = 0 by decide), if_neg (show ¬ (0 : Int32) ≤ -2 by decide)]
    exact ⟨_, _, _, _, _, _, _, rfl, rfl, rfl⟩
  rw [if_pos hw]
  by_cases ho : kOver (kTal A (kWl A)).1 = true
  · rw [if_pos ho, if_neg (show ¬ (-3 : Int32) = 0 by decide), if_neg (show ¬ (0 : Int32) ≤ -3 by decide)]
    exact ⟨_, _, _, _, _, _, _, rfl, rfl, rfl⟩
  have ho' := (Bool.not_eq_true _).mp ho
  have hall : (kTal A (kWl A)).2.1 ≤ 60 := (kTb_tal hV (kWl A)).1
  have hsz := kSz_all hV ho'
  obtain ⟨k, hk1, hk2, rfl⟩ := q_W1n (by omega) hw.1
  rw [if_neg ho, if_pos (show (0 : Int32) = 0 from rfl), if_pos (show (0 : Int32) ≤ 0 by decide)]
  obtain ⟨lo', l1, l2, l3⟩ := q_laylist (N := N) (by omega) hP k1 ho' (by omega)
  have hP' : kPas lo'.1 mc := by rw [l2]; exact hP
  obtain ⟨re', w1⟩ := q_waysYes (N := N) (k := k) hN hV hC hM hP' l3 (by omega) (by omega) re
  obtain ⟨mq', w2⟩ := q_yesNow (N := N) (k := k) hN hV hC hM hP z1 (by omega) (by omega) mq
  have hS := kYn_lt (Y := kYs N mg (kSn (kTal A (kWl A)) + 2 * kPn (kTal A (kWl A)) + (kTal A (kWl A)).2.2.1) k) (k := k) (show kSn (kTal A (kWl A)) + 2 * kPn (kTal A (kWl A)) + (kTal A (kWl A)).2.2.1 ≤ 60 by omega)
  have hc0 := kCh_pos (kTal A (kWl A)).2.1 k hk2
  have hc1 := kCh_lt hall k
  rw [l1]
  simp only [q_b1]
  rw [w1, w2]
  simp only [q_b2]
  rw [k1.2.1, z1.1, q_ch6 hP' hall (by omega), q_ch7 hP hall (by omega)]
  simp only [q_b1]
  rw [q_become hN ⟨by omega, .inl rfl⟩ (by omega) hc0, q_term hN ⟨by omega, .inl rfl⟩ (by omega) hc0]
  simp only [q_b1, q_half0]
  exact ⟨_, _, _, _, _, _, _, rfl, rfl, l2⟩
/-- in how many ways it is wrong -/
theorem q_wrongW {A : kA} {now : VX3} {mg : VMg} {N k : Nat} {lo : VX1} {mc : Nat → Int64} {li : VX4} {ml : VMl} (hN : 200 ≤ N) (hV : kV A) (hC : kC A now) (hM : kM A mg) (hP : kPas lo.1 mc) (ho : kOver (kTal A (kWl A)).1 = false) (hli : kY (kTal A (kWl A)) li) (hml : kZ (kTal A (kWl A)) ml) (hL : kLz (kSn (kTal A (kWl A))) (kTal A (kWl A)).2.2.1 (kPn (kTal A (kWl A))) lo) (hk : k ≤ (kTal A (kWl A)).2.1) : ∃ x n, kSz x n ∧ (∀ re, ∃ re', fX6_waysToBeWrong N now li lo (nI k) re = some (x, re')) ∧ ∀ mq, ∃ mq', fX7_wrongNow N mg mc ml (nI k) mq = some (x, mq') := by
  have hall : (kTal A (kWl A)).2.1 ≤ 60 := (kTb_tal hV (kWl A)).1
  have hsz := kSz_all hV ho
  have hS := kYn_lt (Y := kYs N mg (kSn (kTal A (kWl A)) + 2 * kPn (kTal A (kWl A)) + (kTal A (kWl A)).2.2.1) k) (k := k) (show kSn (kTal A (kWl A)) + 2 * kPn (kTal A (kWl A)) + (kTal A (kWl A)).2.2.1 ≤ 60 by omega)
  have hc1 := kCh_lt hall k
  generalize hSS : kYn (kYs N mg (kSn (kTal A (kWl A)) + 2 * kPn (kTal A (kWl A)) + (kTal A (kWl A)).2.2.1) k) (kSn (kTal A (kWl A))) (kPn (kTal A (kWl A))) (kTal A (kWl A)).2.2.1 k = S at hS
  have hx : lN (kCh (kTal A (kWl A)).2.1 k) - lN S = iL ((kCh (kTal A (kWl A)).2.1 k : Int) - (S : Int)) := by
    rw [← iL_nat, ← iL_nat, iL_sub]
  refine ⟨if nI (kGd (kTal A (kWl A))) < nI A.2.2.2.2.1 then lN S else lN (kCh (kTal A (kWl A)).2.1 k) - lN S, if nI (kGd (kTal A (kWl A))) < nI A.2.2.2.2.1 then S else ((kCh (kTal A (kWl A)).2.1 k : Int) - (S : Int)).natAbs, ?_, ?_, ?_⟩
  · by_cases c : nI (kGd (kTal A (kWl A))) < nI A.2.2.2.2.1
    · rw [if_pos c, if_pos c]; exact ⟨by omega, .inl rfl⟩
    · rw [if_neg c, if_neg c, hx]; exact iL_sz (by omega)
  · intro re
    obtain ⟨re', w1⟩ := q_waysYes (N := N) (k := k) hN hV hC hM hP hL (by omega) (by omega) re
    refine ⟨re', ?_⟩
    unfold fX6_waysToBeWrong
    rw [w1, hSS, (q_good6 hli ho).1, hC.2.2.2.2, hli.2.1]
    simp only [q_b2, q_b1]
    by_cases c : nI (kGd (kTal A (kWl A))) < nI A.2.2.2.2.1
    · rw [if_pos c, if_pos c]
    · rw [if_neg c, if_neg c, q_ch6 hP hall (by omega)]; rfl
  · intro mq
    obtain ⟨mq', w2⟩ := q_yesNow (N := N) (k := k) hN hV hC hM hP hml (by omega) (by omega) mq
    refine ⟨mq', ?_⟩
    unfold fX7_wrongNow
    rw [w2, hSS, q_good7 hml, hM.2.1, hml.1]
    simp only [q_b2, q_b1]
    by_cases c : nI (kGd (kTal A (kWl A))) < nI A.2.2.2.2.1
    · rw [if_pos c, if_pos c]
    · rw [if_neg c, if_neg c, q_ch7 hP hall (by omega)]; rfl
theorem q_wrong {A : kA} {now : VX3} {mg : VMg} {N : Nat} {lo : VX1} {mc : Nat → Int64} (hN : 200 ≤ N) (hV : kV A) (hC : kC A now) (hM : kM A mg) (hP : kPas lo.1 mc) (a b : Int32) (li : VX4) (re : VX2) (ru : VX0) (ml : VMl) (mq : VMq) : ∃ r li' lo' re' ru' ml' mq', fX6_wrong N now a b li lo re ru = some (r, li', lo', re', ru') ∧ fX7_wrong N mg mc a b ml mq = some (r, ml', mq') ∧ lo'.1 = lo.1 := by
  obtain ⟨li', k1, k2⟩ := q_lotRef (N := N) (by omega) hV hC a b li
  obtain ⟨ml', z1, z2⟩ := q_bar (N := N) (by omega) hV hM a (kW b 0 1) ml
  unfold fX6_wrong fX7_wrong
  rw [q_part7, k2]
  simp only [q_b1, q_b2]
  rw [z2]
  simp only [q_b2]
  by_cases hw : kW a 1 (nI (kTal A (kWl A)).2.1) = true ∧ kW b 0 1 = true
  rotate_left
  · rw [if_neg hw, if_neg (show ¬ (-2 : Int32) = 0 by decide), if_neg (show ¬ (0 : Int32) ≤ -2 by decide)]
    exact ⟨_, _, _, _, _, _, _, rfl, rfl, rfl⟩
  rw [if_pos hw]
  by_cases ho : kOver (kTal A (kWl A)).1 = true
  · rw [if_pos ho, if_neg (show ¬ (-3 : Int32) = 0 by decide), if_neg (show ¬ (0 : Int32) ≤ -3 by decide)]
    exact ⟨_, _, _, _, _, _, _, rfl, rfl, rfl⟩
  have ho' := (Bool.not_eq_true _).mp ho
  have hall : (kTal A (kWl A)).2.1 ≤ 60 := (kTb_tal hV (kWl A)).1
  have hsz := kSz_all hV ho'
  obtain ⟨k, hk1, hk2, rfl⟩ := q_W1n (by omega) hw.1
  rw [if_neg ho, if_pos (show (0 : Int32) = 0 from rfl), if_pos (show (0 : Int32) ≤ 0 by decide)]
  obtain ⟨lo', l1, l2, l3⟩ := q_laylist (N := N) (by omega) hP k1 ho' (by omega)
  have hP' : kPas lo'.1 mc := by rw [l2]; exact hP
  obtain ⟨x, n, hx, w1, w2⟩ := q_wrongW (N := N) (k := k) hN hV hC hM hP' ho' k1 z1 l3 hk2
  obtain ⟨re', w1⟩ := w1 re
  obtain ⟨mq', w2⟩ := w2 mq
  have hc0 := kCh_pos (kTal A (kWl A)).2.1 k hk2
  have hc1 := kCh_lt hall k
  rw [l1]
  simp only [q_b1]
  rw [w1, w2]
  simp only [q_b2]
  rw [k1.2.1, z1.1, q_ch6 hP' hall (by omega), q_ch7 hP hall (by omega)]
  simp only [q_b1]
  rw [q_become hN hx (by omega) hc0, q_term hN hx (by omega) hc0]
  simp only [q_b1, q_half0]
  exact ⟨_, _, _, _, _, _, _, rfl, rfl, l2⟩
