/-! bySheets -/
def kFi (A : kA) (s : Nat) : Bool := decide (A.2.2.2.1 / 2 ^ s % 2 = 0) && decide (0 < A.1 s)
def kWf (A : kA) : Nat := kMk (kFi A) 6
theorem q_63bit1 : ∀ M : Fin 64, ∀ s : Fin 6, M.1 / 2 ^ s.1 % 2 = 1 → (63 - M.1) / 2 ^ s.1 % 2 = 0 := by decide +kernel
theorem kWf_sub {A : kA} (hV : kV A) : ∀ s, s < 6 → kWf A / 2 ^ s % 2 ≤ kWl A / 2 ^ s % 2 := by
  intro s hs
  unfold kWf
  rw [kMk_bit (kFi A) 6 (by omega) s hs]
  by_cases a : kFi A s = true
  · rw [if_pos a]
    unfold kFi at a
    simp only [Bool.and_eq_true, decide_eq_true_eq] at a
    have := q_63bit ⟨A.2.2.2.1, hV.1⟩ ⟨s, hs⟩ a.1
    dsimp only at this
    unfold kWl
    omega
  · rw [if_neg a]; omega
theorem kWf_tal {A : kA} (hV : kV A) : kTal A (kWf A) = kTal A (kWl A) := by
  have h : ∀ s, s ≤ 6 → kOut A (kWf A) s = kOut A (kWl A) s := by
    intro s
    induction s with
    | zero => intro _; rfl
    | succ s ih =>
      intro hs
      have hb := kMk_bit (kFi A) 6 (by omega) s (by omega)
      have i1 := ih (by omega)
      show (if kWf A / 2 ^ s % 2 = 0 then kOut A (kWf A) s else kIn A s (kOut A (kWf A) s) (A.1 s)) = (if kWl A / 2 ^ s % 2 = 0 then kOut A (kWl A) s else kIn A s (kOut A (kWl A) s) (A.1 s))
      rw [i1]
      have hb : kWf A / 2 ^ s % 2 = if kFi A s = true then 1 else 0 := hb
      by_cases a : A.2.2.2.1 / 2 ^ s % 2 = 0
      · have h1 := q_63bit ⟨A.2.2.2.1, hV.1⟩ ⟨s, by omega⟩ a
        have h1 : kWl A / 2 ^ s % 2 = 1 := h1
        by_cases z : 0 < A.1 s
        · rw [if_pos (show kFi A s = true by unfold kFi; simp [a, z])] at hb
          rw [if_neg (by omega), if_neg (by omega)]
        · rw [if_neg (show ¬ kFi A s = true by unfold kFi; simp [z])] at hb
          rw [if_pos hb, if_neg (by omega), show A.1 s = 0 by omega]; rfl
      · have h1 := q_63bit1 ⟨A.2.2.2.1, hV.1⟩ ⟨s, by omega⟩ (by show A.2.2.2.1 / 2 ^ s % 2 = 1; omega)
        have h1 : kWl A / 2 ^ s % 2 = 0 := h1
        rw [if_neg (show ¬ kFi A s = true by unfold kFi; simp [a])] at hb
        rw [if_pos hb, if_pos h1]
  exact h 6 (by omega)
theorem q_filledL {A : kA} {now : VX3} {N : Nat} (hV : kV A) (hC : kC A now) : ∀ (j m s : Nat), s + j = 6 → j < m → fX6_filledSheets_l4 N now m (nI (kMk (kFi A) s)) (nI s) = some (nI (kWf A)) := by
  intro j
  induction j with
  | zero =>
    intro m s hi hm
    obtain ⟨m, rfl⟩ : ∃ q, m = q + 1 := ⟨m - 1, by omega⟩
    obtain rfl : s = 6 := by omega
    rfl
  | succ j ih =>
    intro m s hi hm
    obtain ⟨m, rfl⟩ : ∃ q, m = q + 1 := ⟨m - 1, by omega⟩
    have hs : s < 6 := by omega
    have hz := (hV.2.2.2 s hs).1
    show fX6_filledSheets_b4 N now _ _ _ = _
    unfold fX6_filledSheets_b4 fX6_filledSheets_b38
    have n6 : ¬ (6 : Int32) ≤ nI s := by rw [show (6 : Int32) = nI 6 from rfl, nI_leI (by omega) (by omega)]; omega
    rw [if_neg n6, q_struck6 hV hC hs, q_sizeOf hC hs, nI_1, ← ih m (s + 1) (by omega) (by omega)]
    simp only [q_b1]
    have e1 : nI (A.1 s) ≤ 0 ↔ A.1 s = 0 := by rw [show (0 : Int32) = nI 0 from rfl, nI_leI (by omega) (by omega)]; omega
    by_cases a : A.2.2.2.1 / 2 ^ s % 2 = 1
    · rw [if_pos (decide_eq_true a), kMk_no (kFi A) (s := s) (by unfold kFi; simp; omega)]
    · rw [if_neg (fun q => a (of_decide_eq_true q))]
      by_cases c : A.1 s = 0
      · rw [if_pos (e1.mpr c), kMk_no (kFi A) (s := s) (by unfold kFi; simp; omega)]
      · rw [if_neg (fun q => c (e1.mp q)), kMk_or (kFi A) hs (by unfold kFi; simp; omega)]
def kBcs (W : Nat) : Nat → Nat
  | 0 => 0
  | t + 1 => kBcs W t + W / 2 ^ t % 2
theorem kBcs_le (W : Nat) : ∀ t, kBcs W t ≤ t := by
  intro t
  induction t with
  | zero => exact Nat.le_refl 0
  | succ t ih => show kBcs W t + W / 2 ^ t % 2 ≤ t + 1; omega
theorem q_bc6 : ∀ W : Fin 64, fJ6_bitCount_0f7a4 (nI W.1) = some (nI (kBcs W.1 6)) := by decide +kernel
theorem q_bc7L {N W : Nat} (hW : W < 64) : ∀ (j m i : Nat), i + j = 6 → j < m → fX7_bits_l4 N m (nI W) (nI (kBcs W i)) (nI i) = some (nI (kBcs W 6)) := by
  intro j
  induction j with
  | zero =>
    intro m i hi hm
    obtain ⟨m, rfl⟩ : ∃ q, m = q + 1 := ⟨m - 1, by omega⟩
    obtain rfl : i = 6 := by omega
    rfl
  | succ j ih =>
    intro m i hi hm
    obtain ⟨m, rfl⟩ : ∃ q, m = q + 1 := ⟨m - 1, by omega⟩
    have hb := q_bit ⟨W, hW⟩ ⟨i, by omega⟩
    dsimp only at hb
    show fX7_bits_b4 N _ _ _ _ = _
    unfold fX7_bits_b4
    rw [if_neg (by rw [show (6 : Int32) = nI 6 from rfl, nI_leI (by omega) (by omega)]; omega), hb, nI_add, nI_1]
    exact ih m (i + 1) (by omega) (by omega)
theorem q_bc7 {N W : Nat} (hN : 100 ≤ N) (hW : W < 64) : fX7_bits N (nI W) = some (nI (kBcs W 6)) := q_bc7L hW 6 N 0 (by omega) (by omega)
def kSub (w F : Nat) : Bool := decide ((nI w &&& (nI F ^^^ (-1))) = 0)
theorem q_sub : ∀ w : Fin 64, ∀ F : Fin 64, kSub w.1 F.1 = true → ∀ s : Fin 6, w.1 / 2 ^ s.1 % 2 ≤ F.1 / 2 ^ s.1 % 2 := by decide +kernel
def kCt (F t : Nat) : Nat → Nat
  | 0 => 0
  | w + 1 => kCt F t w + (if kSub w F = true ∧ kBcs w 6 = t ∧ 0 < w then 1 else 0)
theorem kCt_le (F t : Nat) : ∀ w, kCt F t w ≤ w := by
  intro w
  induction w with
  | zero => exact Nat.le_refl 0
  | succ w ih =>
    show kCt F t w + (if kSub w F = true ∧ kBcs w 6 = t ∧ 0 < w then 1 else 0) ≤ w + 1
    by_cases e : kSub w F = true ∧ kBcs w 6 = t ∧ 0 < w
    · rw [if_pos e]; omega
    · rw [if_neg e]; omega
theorem q_ct : ∀ F : Fin 64, ∀ t : Fin 7, 0 < t.1 → kCt F.1 t.1 64 = kCh (kBcs F.1 6) t.1 := by decide +kernel
theorem q_sheetsYes {A : kA} {now : VX3} {mg : VMg} {N t : Nat} {p2 : Int32} {li : VX4} (hN : 200 ≤ N) (hV : kV A) (hC : kC A now) (hM : kM A mg) (ho : kOver (kTal A (kWl A)).1 = false) (hli : kY (kTal A (kWl A)) li) (ht : t ≤ 6) : ∀ (j m m' w y : Nat) (so : VX4) (re : VX2) (ml : VMl) (mq : VMq), w + j = 64 → 0 < w → j < m → j < m' → y ≤ w → ∃ y' so' re' ml' mq', y' ≤ 64 ∧ fX6_sheetWaysToYes_l5 N now li m (nI (kWf A)) (nI t) (nI y) (nI w) so re = some (nI y', so', re') ∧ fX7_bySheets_l103 N mg m' (nI t) p2 (nI (kWf A)) (nI (kTal A (kWl A)).2.1) (lN y) (lN (kCt (kWf A) t w)) (nI w) ml mq = k_b1 (fX7_term N (lN y') (lN (kCt (kWf A) t 64)) p2) fun x => some (x, ml', mq') := by
  have hF : kWf A < 64 := kMk_64 _ (by omega)
  have hall := (kTb_tal hV (kWl A)).1
  intro j
  induction j with
  | zero =>
    intro m m' w y so re ml mq hi hw hm hm' hy
    obtain ⟨m, rfl⟩ : ∃ q, m = q + 1 := ⟨m - 1, by omega⟩
    obtain ⟨m', rfl⟩ : ∃ q, m' = q + 1 := ⟨m' - 1, by omega⟩
    obtain rfl : w = 64 := by omega
    refine ⟨y, so, re, ml, mq, hy, ?_, ?_⟩
    · show fX6_sheetWaysToYes_b5 N now li _ _ _ _ _ _ _ = _
      unfold fX6_sheetWaysToYes_b5
      rw [if_pos (show (63 : Int32) < nI 64 by decide)]
    · show fX7_bySheets_b103 N mg _ _ _ _ _ _ _ _ _ _ = _
      unfold fX7_bySheets_b103
      rw [if_pos (show (64 : Int32) ≤ nI 64 by decide)]
  | succ j ih =>
    intro m m' w y so re ml mq hi hw hm hm' hy
    obtain ⟨m, rfl⟩ : ∃ q, m = q + 1 := ⟨m - 1, by omega⟩
    obtain ⟨m', rfl⟩ : ∃ q, m' = q + 1 := ⟨m' - 1, by omega⟩
    have hct : kCt (kWf A) t (w + 1) = kCt (kWf A) t w + (if kSub w (kWf A) = true ∧ kBcs w 6 = t ∧ 0 < w then 1 else 0) := rfl
    show ∃ y' so' re' ml' mq', y' ≤ 64 ∧ fX6_sheetWaysToYes_b5 N now li _ _ _ _ _ _ _ = _ ∧ fX7_bySheets_b103 N mg _ _ _ _ _ _ _ _ _ _ = _
    unfold fX6_sheetWaysToYes_b5 fX7_bySheets_b103 fX6_sheetWaysToYes_b56 fX6_sheetWaysToYes_b58 fX7_bySheets_b173 fX7_bySheets_b176
    rw [if_neg (show ¬ (63 : Int32) < nI w by rw [show (63 : Int32) = nI 63 from rfl, nI_ltI (by omega) (by omega)]; omega), if_neg (show ¬ (64 : Int32) ≤ nI w by rw [show (64 : Int32) = nI 64 from rfl, nI_leI (by omega) (by omega)]; omega), q_bc6 ⟨w, by omega⟩, q_bc7 (by omega) (show w < 64 by omega)]
    simp only [q_b1, nI_1]
    by_cases c1 : kSub w (kWf A) = true
    rotate_left
    · have c2 : ¬ (nI w &&& (nI (kWf A) ^^^ (-1))) = 0 := fun q => c1 (decide_eq_true q)
      rw [if_neg (fun q => c1 q.1)] at hct
      rw [if_neg c2, if_neg c2]
      have := ih m m' (w + 1) y so re ml mq (by omega) (by omega) (by omega) (by omega) (by omega)
      rw [hct] at this
      exact this
    have c2 : (nI w &&& (nI (kWf A) ^^^ (-1))) = 0 := of_decide_eq_true c1
    rw [if_pos c2, if_pos c2]
    have hbl := kBcs_le w 6
    have c4 : nI (kBcs w 6) = nI t ↔ kBcs w 6 = t := nI_eq (by omega) (by omega)
    by_cases c3 : kBcs w 6 = t
    rotate_left
    · rw [if_neg (fun q => c3 q.2.1)] at hct
      rw [if_neg (fun q => c3 (c4.mp q)), if_neg (fun q => c3 (c4.mp q))]
      have := ih m m' (w + 1) y so re ml mq (by omega) (by omega) (by omega) (by omega) (by omega)
      rw [hct] at this
      exact this
    rw [if_pos ⟨c1, c3, hw⟩] at hct
    rw [if_pos (c4.mpr c3), if_pos (c4.mpr c3)]
    have hs := q_sub ⟨w, by omega⟩ ⟨kWf A, hF⟩ c1
    obtain ⟨o1, -⟩ := kGd_le (A := A) (W := w) (V := kWl A) (fun s h => Nat.le_trans (hs ⟨s, h⟩) (kWf_sub hV s h)) ho
    obtain ⟨so1, r1, r2⟩ := q_read (W := w) (by omega : 100 ≤ N) hV hC (by omega) so
    obtain ⟨ml1, r3, r4⟩ := q_lay (N := N) (W := w) (by omega) hV hM (by omega) ml
    have hb := kTb_tal hV w
    have hb1 := hb.1
    have hb2 := hb.2.2.1
    have htw : kN kTwo (kTal A w).1 26 ≤ 26 := kN_le 26
    obtain ⟨b, re1, mq1, s1, s2⟩ := q_yes1 (N := N) hN hV hC hM (a := (kTal A (kWl A)).2.1) (k := (kTal A w).2.1) (v := (kTal A w).2.1 - (kTal A w).2.2.1) (d := kN kTwo (kTal A w).1 26) (by omega) (by omega) (by omega) (by omega) re mq
    unfold fX6_someSaysYes fX4_valid
    rw [r1, r3]
    simp only [q_b1, q_b2]
    rw [hli.2.1, r2.2.1, r2.2.2.1, (q_good6 r2 o1).2, r4.1, r4.2.1, r4.2.2.2.2.1, pk_sub hb2, s1, s2]
    simp only [q_b2, lN_1]
    cases b with
    | true =>
      have := ih m m' (w + 1) (y + 1) so1 re1 ml1 mq1 (by omega) (by omega) (by omega) (by omega) (by omega)
      rw [hct] at this
      simpa [lN_1, nI_1, bI, lN_add, nI_add] using this
    | false =>
      have := ih m m' (w + 1) y so1 re1 ml1 mq1 (by omega) (by omega) (by omega) (by omega) (by omega)
      rw [hct] at this
      have e1 : nI y + bI false = nI y := nI_add y 0
      have e2 : lN y + 0 = lN y := lN_add y 0
      simpa [e1, e2] using this
