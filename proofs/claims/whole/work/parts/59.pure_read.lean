/-! the class reads the sheets of a mask -/
theorem q_clear {N : Nat} : ∀ (j m i : Nat) (y : VX4), i + j = 26 → j < m → (∀ q, q < i → y.1 q = 0) → ∃ f, fX4_clear_l2 N m (nI i) y = some (f, 0, 0, 0, 0, 0, false) ∧ ∀ q, q < 26 → f q = 0 := by
  intro j
  induction j with
  | zero =>
    intro m i y hi hm hy
    obtain ⟨m, rfl⟩ : ∃ q, m = q + 1 := ⟨m - 1, by omega⟩
    obtain rfl : i = 26 := by omega
    exact ⟨y.1, rfl, hy⟩
  | succ j ih =>
    intro m i y hi hm hy
    obtain ⟨m, rfl⟩ : ∃ q, m = q + 1 := ⟨m - 1, by omega⟩
    show ∃ f, fX4_clear_b2 N _ _ _ = _ ∧ _
    unfold fX4_clear_b2
    rw [if_neg (by rw [show (26 : Int32) = nI 26 from rfl, nI_leI (by omega) (by omega)]; omega), if_pos (nI_in (by omega) (by omega)), nI_clamp (by omega), nI_1]
    refine ih m (i + 1) _ (by omega) (by omega) (fun q hq => ?_)
    show upd y.1 i 0 q = 0
    unfold upd
    by_cases a : q = i
    · rw [if_pos a]
    · rw [if_neg a]; exact hy q (by omega)
theorem kN_0 {P : Nat → Bool} (h : P 0 = false) : ∀ n, kN P (fun _ => 0) n = 0 := by
  intro n
  induction n with
  | zero => rfl
  | succ n ih => show kN P _ n + (if P 0 = true then 1 else 0) = 0; rw [ih, h]; rfl
theorem q_read34 {N W s : Nat} {A : kA} {g : VX3} {T : kT} {k6 : Int32 → Int32 → VX4 → Option VX4} {v2 : Int32} (hV : kV A) (hC : kC A g) (hs : s < 6) (hT : kTb T (10 * s)) : ∀ (j m i : Nat) (y : VX4), i + j = A.1 s → j < m → kY (kIn A s T i) y → ∃ y', fX4_readSheets_l34 N g k6 m v2 (nI s) (nI (A.1 s)) (nI i) y = k6 v2 (nI (s + 1)) y' ∧ kY (kIn A s T (A.1 s)) y' := by
  have hz := (hV.2.2.2 s hs).1
  intro j
  induction j with
  | zero =>
    intro m i y hi hm hy
    obtain ⟨m, rfl⟩ : ∃ q, m = q + 1 := ⟨m - 1, by omega⟩
    have : i = A.1 s := by omega
    subst this
    show ∃ y', fX4_readSheets_b34 N g _ _ _ _ _ _ _ = _ ∧ _
    unfold fX4_readSheets_b34
    rw [if_pos (by rw [nI_leI (by omega) (by omega)]; omega), nI_1]
    exact ⟨y, rfl, hy⟩
  | succ j ih =>
    intro m i y hi hm hy
    obtain ⟨m, rfl⟩ : ∃ q, m = q + 1 := ⟨m - 1, by omega⟩
    show ∃ y', fX4_readSheets_b34 N g _ _ _ _ _ _ _ = _ ∧ _
    unfold fX4_readSheets_b34
    rw [if_neg (by rw [nI_leI (by omega) (by omega)]; omega), q_signOf hV hC hs (show i < A.1 s by omega)]
    obtain ⟨y2, e1, e2⟩ := q_add (n := 10 * s + i) (by omega) (kTb_in hT i) hy ((hV.2.2.2 s hs).2.2 i (by omega))
    simp only [q_b1, e1, nI_1]
    exact ih m (i + 1) y2 (by omega) (by omega) e2
theorem q_read6 {N W : Nat} {A : kA} {g : VX3} (hN : 100 ≤ N) (hV : kV A) (hC : kC A g) (hW : W < 64) : ∀ (j m s : Nat) (y : VX4), s + j = 6 → j < m → kY (kOut A W s) y → ∃ y', fX4_readSheets_l6 N g m (nI W) (nI s) y = some y' ∧ kY (kTal A W) y' := by
  intro j
  induction j with
  | zero =>
    intro m s y hi hm hy
    obtain ⟨m, rfl⟩ : ∃ q, m = q + 1 := ⟨m - 1, by omega⟩
    obtain rfl : s = 6 := by omega
    exact ⟨y, rfl, hy⟩
  | succ j ih =>
    intro m s y hi hm hy
    obtain ⟨m, rfl⟩ : ∃ q, m = q + 1 := ⟨m - 1, by omega⟩
    have hs : s < 6 := by omega
    have hz := (hV.2.2.2 s hs).1
    show ∃ y', fX4_readSheets_b6 N g _ _ _ _ = _ ∧ _
    unfold fX4_readSheets_b6 fX4_readSheets_b29
    have hb := q_bit ⟨W, hW⟩ ⟨s, hs⟩
    dsimp only at hb
    rw [if_neg (by rw [show (6 : Int32) = nI 6 from rfl, nI_leI (by omega) (by omega)]; omega), hb]
    have e0 : nI (W / 2 ^ s % 2) = 0 ↔ W / 2 ^ s % 2 = 0 := nI_eq (b := 0) (by omega) (by omega)
    by_cases e : W / 2 ^ s % 2 = 0
    · rw [if_pos (e0.mpr e)]
      obtain ⟨N, rfl⟩ : ∃ q, N = q + 1 := ⟨N - 1, by omega⟩
      show ∃ y', fX4_readSheets_b34 (N + 1) g _ _ _ _ _ _ _ = _ ∧ _
      unfold fX4_readSheets_b34
      rw [if_pos (show (0 : Int32) ≤ 0 by decide), nI_1]
      refine ih m (s + 1) y (by omega) (by omega) ?_
      show kY (if W / 2 ^ s % 2 = 0 then kOut A W s else _) y
      rw [if_pos e]; exact hy
    · rw [if_neg (fun q => e (e0.mp q)), q_sizeOf hC hs, q_b1]
      obtain ⟨y2, e1, e2⟩ := q_read34 (N := N) (W := W) (k6 := fX4_readSheets_l6 N g m) (v2 := nI W) hV hC hs (kTb_out hV s (by omega)) (A.1 s) N 0 y (by omega) (by omega) hy
      rw [show (0 : Int32) = nI 0 from rfl, e1]
      refine ih m (s + 1) y2 (by omega) (by omega) ?_
      show kY (if W / 2 ^ s % 2 = 0 then kOut A W s else _) y2
      rw [if_neg e]; exact e2
theorem q_read {N W : Nat} {A : kA} {g : VX3} (hN : 100 ≤ N) (hV : kV A) (hC : kC A g) (hW : W < 64) (y : VX4) : ∃ y', fX4_readSheets N g (nI W) y = some y' ∧ kY (kTal A W) y' := by
  unfold fX4_readSheets fX4_clear
  obtain ⟨f, e1, e2⟩ := q_clear (N := N) 26 N 0 y (by omega) (by omega) (fun q hq => by omega)
  rw [show (0 : Int32) = nI 0 from rfl, e1, q_b1]
  refine q_read6 hN hV hC hW 6 N 0 _ (by omega) (by omega) ⟨e2, rfl, rfl, rfl, ?_, ?_, ?_⟩
  · show 0 = nI (kN kOne (fun _ => 0) 26); rw [kN_0 (by decide)]; rfl
  · show 0 = nI (kN kTwo' (fun _ => 0) 26); rw [kN_0 (by decide)]; rfl
  · show false = decide (0 < kN kTri (fun _ => 0) 26); rw [kN_0 (by decide)]; rfl
theorem q_readList {N : Nat} {A : kA} {g : VX3} (hN : 100 ≤ N) (hV : kV A) (hC : kC A g) (y : VX4) : ∃ y', fX6_readList N g y = some y' ∧ kY (kTal A (63 - A.2.2.2.1)) y' := by
  obtain ⟨y', e1, e2⟩ := q_read (W := 63 - A.2.2.2.1) hN hV hC (by omega) y
  refine ⟨y', ?_, e2⟩
  unfold fX6_readList
  rw [hC.2.2.2.1, (q_msk ⟨A.2.2.2.1, hV.1⟩).1, e1]
  rfl
