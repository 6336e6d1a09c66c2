/-! bySheets as a whole -/
theorem q_by5 {A : kA} {mg : VMg} {N : Nat} {p1 p2 : Int32} (hN : 100 ≤ N) (hV : kV A) (hM : kM A mg) : ∀ (j m s : Nat) (ml : VMl) (mq : VMq), s + j = 6 → j < m → fX7_bySheets_l5 N mg m p1 p2 (nI (kMk (kFi A) s)) (nI s) ml mq = fX7_bySheets_b5 N mg (fun _ _ _ _ _ _ => none) p1 p2 (nI (kWf A)) (nI 6) ml mq := by
  intro j
  induction j with
  | zero =>
    intro m s ml mq hi hm
    obtain ⟨m, rfl⟩ : ∃ q, m = q + 1 := ⟨m - 1, by omega⟩
    obtain rfl : s = 6 := by omega
    show fX7_bySheets_b5 N mg _ _ _ _ _ _ _ = fX7_bySheets_b5 N mg _ _ _ _ _ _ _
    unfold fX7_bySheets_b5
    have h6 : (6 : Int32) ≤ nI 6 := by decide
    rw [if_pos h6, if_pos h6]
    rfl
  | succ j ih =>
    intro m s ml mq hi hm
    obtain ⟨m, rfl⟩ : ∃ q, m = q + 1 := ⟨m - 1, by omega⟩
    have hs : s < 6 := by omega
    have hz := (hV.2.2.2 s hs).1
    have hk6 : k_in (nI s) 6 := nI_in hs (by omega)
    rw [← ih m (s + 1) ml mq (by omega) (by omega)]
    show fX7_bySheets_b5 N mg _ _ _ _ _ _ _ = _
    unfold fX7_bySheets_b5 fX7_bySheets_b40 fX7_bySheets_b41
    have n6 : ¬ (6 : Int32) ≤ nI s := by rw [show (6 : Int32) = nI 6 from rfl, nI_leI (by omega) (by omega)]; omega
    have e0 : nI (A.2.2.2.1 / 2 ^ s % 2) = 0 ↔ A.2.2.2.1 / 2 ^ s % 2 = 0 := nI_eq (b := 0) (by omega) (by omega)
    have e1 : nI (A.1 s) ≤ 0 ↔ A.1 s = 0 := by rw [show (0 : Int32) = nI 0 from rfl, nI_leI (by omega) (by omega)]; omega
    rw [if_neg n6]
    simp only [if_pos hk6, nI_clamp (show s < 2 ^ 31 by omega)]
    rw [(hM.1 s hs).2.2.1, (hM.1 s hs).1, nI_1, q_or0 (show kMk (kFi A) s < 2 ^ 31 by have := kMk_64 (kFi A) (show s ≤ 6 by omega); omega)]
    by_cases a : A.2.2.2.1 / 2 ^ s % 2 = 0
    · rw [if_pos (e0.mpr a)]
      by_cases c : A.1 s = 0
      · rw [if_pos (e1.mpr c), kMk_no (kFi A) (s := s) (by unfold kFi; simp; omega)]
      · rw [if_neg (fun q => c (e1.mp q)), kMk_or (kFi A) hs (by unfold kFi; simp; omega)]
    · rw [if_neg (fun q => a (e0.mp q)), kMk_no (kFi A) (s := s) (by unfold kFi; simp; omega)]
theorem kCt_s (F t w : Nat) : kCt F t (w + 1) = kCt F t w + (if kSub w F = true ∧ kBcs w 6 = t ∧ 0 < w then 1 else 0) := rfl
theorem kCt_z (F t : Nat) : kCt F t 0 = 0 := rfl
theorem kCt_1 (F t : Nat) : kCt F t 1 = 0 := by
  have h := kCt_s F t 0
  rw [if_neg (fun q => absurd q.2.2 (Nat.lt_irrefl 0)), kCt_z] at h
  exact h
theorem q_bc6N {W : Nat} (hW : W < 64) : fJ6_bitCount_0f7a4 (nI W) = some (nI (kBcs W 6)) := q_bc6 ⟨W, hW⟩
theorem q_filled {A : kA} {now : VX3} {N : Nat} (hN : 100 ≤ N) (hV : kV A) (hC : kC A now) : fX6_filledSheets N now = some (nI (kWf A)) := q_filledL hV hC 6 N 0 (by omega) (by omega)
theorem q_by50 {A : kA} {mg : VMg} {N : Nat} {p1 p2 : Int32} (hN : 100 ≤ N) (hV : kV A) (hM : kM A mg) (ml : VMl) (mq : VMq) : fX7_bySheets N mg p1 p2 ml mq = fX7_bySheets_b5 N mg (fun _ _ _ _ _ _ => none) p1 p2 (nI (kWf A)) (nI 6) ml mq := q_by5 hN hV hM 6 N 0 ml mq (by omega) (by omega)
theorem q_sheetsYes0 {A : kA} {now : VX3} {mg : VMg} {N t : Nat} {p2 : Int32} {li : VX4} (hN : 200 ≤ N) (hV : kV A) (hC : kC A now) (hM : kM A mg) (ho : kOver (kTal A (kWl A)).1 = false) (hli : kY (kTal A (kWl A)) li) (ht : t ≤ 6) (so : VX4) (re : VX2) (ml : VMl) (mq : VMq) : ∃ y' so' re' ml' mq', y' ≤ 64 ∧ fX6_sheetWaysToYes N now li (nI (kWf A)) (nI t) so re = some (nI y', so', re') ∧ fX7_bySheets_l103 N mg N (nI t) p2 (nI (kWf A)) (nI (kTal A (kWl A)).2.1) 0 0 1 ml mq = k_b1 (fX7_term N (lN y') (lN (kCt (kWf A) t 64)) p2) fun x => some (x, ml', mq') := by
  obtain ⟨y', so', re', ml', mq', y1, f1, f2⟩ := q_sheetsYes (N := N) (t := t) (p2 := p2) hN hV hC hM ho hli ht 63 N N 1 0 so re ml mq (by omega) (by omega) (by omega) (by omega) (by omega)
  rw [kCt_1] at f2
  simp only [show nI 0 = (0 : Int32) from rfl, show nI 1 = (1 : Int32) from rfl, show lN 0 = (0 : Int64) from rfl] at f1 f2
  exact ⟨y', so', re', ml', mq', y1, f1, f2⟩
theorem q_ctN {F t : Nat} (hF : F < 64) (ht : t < 7) (h0 : 0 < t) : kCt F t 64 = kCh (kBcs F 6) t := q_ct ⟨F, hF⟩ ⟨t, ht⟩ h0
theorem q_bySheets {A : kA} {now : VX3} {mg : VMg} {N : Nat} {lo : VX1} {mc : Nat → Int64} (hN : 200 ≤ N) (hV : kV A) (hC : kC A now) (hM : kM A mg) (hP : kPas lo.1 mc) (a b : Int32) (li so : VX4) (re : VX2) (ru : VX0) (ml : VMl) (mq : VMq) : ∃ r li' so' re' ru' ml' mq', fX6_bySheets N now lo a b li so re ru = some (r, li', so', re', ru') ∧ fX7_bySheets N mg a b ml mq = some (r, ml', mq') := by
  have hF : kWf A < 64 := kMk_64 _ (by omega)
  obtain ⟨y, e1, e2⟩ := q_readList (by omega : 100 ≤ N) hV hC li
  have e2 : kY (kTal A (kWl A)) y := e2
  obtain ⟨z, e3, e4⟩ := q_lay (N := N) (W := kWf A) (by omega : 100 ≤ N) hV hM hF ml
  rw [kWf_tal hV] at e4
  have h5 : fX7_bySheets N mg a b ml mq = fX7_bySheets_b5 N mg (fun _ _ _ _ _ _ => none) a b (nI (kWf A)) (nI 6) ml mq := q_by50 (by omega : 100 ≤ N) hV hM ml mq
  have hf := q_filled (N := N) (by omega) hV hC
  rw [h5]
  unfold fX6_bySheets fX7_bySheets_b5
  rw [e1, hf, if_pos (show (6 : Int32) ≤ nI 6 by decide), q_bc7 (by omega) hF]
  simp only [q_b1]
  rw [q_bc6N hF]
  simp only [q_b1]
  rw [q_within, q_in, q_part6, q_part7]
  simp only [q_b1]
  have hbl := kBcs_le (kWf A) 6
  by_cases ha : kW a 1 (nI (kBcs (kWf A) 6)) = true
  rotate_left
  · rw [if_neg ha, if_neg ha]; exact ⟨_, _, _, _, _, _, _, rfl, rfl⟩
  by_cases hb : kW b 0 1 = true
  rotate_left
  · rw [if_pos ha, if_pos ha, if_neg hb, if_neg hb]; exact ⟨_, _, _, _, _, _, _, rfl, rfl⟩
  rw [if_pos ha, if_pos ha, if_pos hb, if_pos hb, e3]
  simp only [q_b1]
  rw [e2.2.2.2.2.2.2, e4.2.2.2.2.2]
  by_cases ho : kOver (kTal A (kWl A)).1 = true
  · rw [if_pos ho, if_pos ho]; exact ⟨_, _, _, _, _, _, _, rfl, rfl⟩
  rw [if_neg ho, if_neg ho]
  obtain ⟨t, t1, t2, rfl⟩ : ∃ t, 1 ≤ t ∧ t ≤ kBcs (kWf A) 6 ∧ a = nI t := by
    by_cases h1 : 1 ≤ kBcs (kWf A) 6
    · exact (q_W (b := 1) h1 (by omega)).mp ha
    · exfalso
      unfold kW at ha
      rw [Bool.and_eq_true, decide_eq_true_eq, decide_eq_true_eq, Int32.le_iff_toInt_le, Int32.le_iff_toInt_le, nI_toInt (by omega), show (1 : Int32).toInt = 1 by decide] at ha
      omega
  obtain ⟨y', so', re', ml', mq', y1, f1, f2⟩ := q_sheetsYes0 (N := N) (t := t) (p2 := b) hN hV hC hM ((Bool.not_eq_true _).mp ho) e2 (by omega) so re z mq
  have hct := q_ctN (F := kWf A) (t := t) hF (by omega) (by omega)
  have hpos := kCh_pos (kBcs (kWf A) 6) t t2
  have hlt := kCh_lt (show kBcs (kWf A) 6 ≤ 60 by omega) t
  rw [hct, q_term hN ⟨by omega, .inl rfl⟩ (by omega) hpos] at f2
  rw [f1, e4.1]
  simp only [q_b3]
  rw [q_ch6 hP (by omega) (by omega), nI_l (by omega)]
  simp only [q_b1]
  rw [q_become hN ⟨by omega, .inl rfl⟩ (by omega) hpos]
  simp only [q_b1, q_half0]
  rw [f2]
  simp only [q_b1]
  by_cases e : b = 0
  · simp only [if_pos e]; exact ⟨_, _, _, _, _, _, _, rfl, rfl⟩
  · simp only [if_neg e]; exact ⟨_, _, _, _, _, _, _, rfl, rfl⟩
