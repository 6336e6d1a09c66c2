/-! the reference lays the list of a mask -/
def kZ0 (T : kT) (y : VMl) : Prop := (∀ j, j < 26 → y.1 j = nI (T.1 j)) ∧ y.2.1 = nI T.2.1 ∧ y.2.2.1 = nI T.2.2.1 ∧ y.2.2.2.1 = nI T.2.2.2 ∧ y.2.2.2.2.1 = 0 ∧ y.2.2.2.2.2.1 = 0 ∧ y.2.2.2.2.2.2 = false
def kZ (T : kT) (y : VMl) : Prop := y.2.1 = nI T.2.1 ∧ y.2.2.1 = nI T.2.2.1 ∧ y.2.2.2.1 = nI T.2.2.2 ∧ y.2.2.2.2.1 = nI (kN kOne T.1 26) ∧ y.2.2.2.2.2.1 = nI (kN kTwo T.1 26) ∧ y.2.2.2.2.2.2 = kOver T.1
theorem q_m182 {N : Nat} {mg : VMg} {T : kT} (hf : ∀ j, T.1 j ≤ 60) : ∀ (j m i : Nat) (y : VMl), i + j = 26 → j < m → (∀ q, q < 26 → y.1 q = nI (T.1 q)) → y.2.1 = nI T.2.1 → y.2.2.1 = nI T.2.2.1 → y.2.2.2.1 = nI T.2.2.2 → y.2.2.2.2.1 = nI (kN kOne T.1 i) → y.2.2.2.2.2.1 = nI (kN kTwo T.1 i) → y.2.2.2.2.2.2 = decide (0 < kN kTri T.1 i) → ∃ y', fX7_layList_l182 N mg m (nI i) y = some y' ∧ kZ T y' := by
  intro j
  induction j with
  | zero =>
    intro m i y hi hm h1 h2 h3 h4 h5 h6 h7
    obtain ⟨m, rfl⟩ : ∃ q, m = q + 1 := ⟨m - 1, by omega⟩
    obtain rfl : i = 26 := by omega
    exact ⟨y, rfl, h2, h3, h4, h5, h6, h7⟩
  | succ j ih =>
    intro m i y hi hm h1 h2 h3 h4 h5 h6 h7
    obtain ⟨m, rfl⟩ : ∃ q, m = q + 1 := ⟨m - 1, by omega⟩
    have hk : k_in (nI i) 26 := nI_in (by omega) (by omega)
    have hfi := hf i
    have c1 : nI (T.1 i) = 1 ↔ kOne (T.1 i) = true := by rw [show (1 : Int32) = nI 1 from rfl, nI_eq (by omega) (by omega)]; unfold kOne; rw [decide_eq_true_eq]
    have c2 : nI (T.1 i) = 2 ↔ kTwo (T.1 i) = true := by rw [show (2 : Int32) = nI 2 from rfl, nI_eq (by omega) (by omega)]; unfold kTwo; rw [decide_eq_true_eq]
    have c3 : nI (T.1 i) ≤ 2 ↔ ¬ kTri (T.1 i) = true := by rw [show (2 : Int32) = nI 2 from rfl, nI_leI (by omega) (by omega)]; unfold kTri; rw [decide_eq_true_eq]; omega
    show ∃ y', fX7_layList_b182 N mg _ _ _ = _ ∧ _
    unfold fX7_layList_b182 fX7_layList_b208 fX7_layList_b232 fX7_layList_b254 fX7_layList_b259
    rw [if_neg (by rw [show (26 : Int32) = nI 26 from rfl, nI_leI (by omega) (by omega)]; omega)]
    simp only [if_pos hk, nI_clamp (show i < 2 ^ 31 by omega), h1 i (by omega), c1, c2, c3, nI_1]
    have hr : ∀ (z : VMl), (∀ q, q < 26 → z.1 q = nI (T.1 q)) → z.2.1 = nI T.2.1 → z.2.2.1 = nI T.2.2.1 → z.2.2.2.1 = nI T.2.2.2 → z.2.2.2.2.1 = nI (kN kOne T.1 i + (if kOne (T.1 i) = true then 1 else 0)) → z.2.2.2.2.2.1 = nI (kN kTwo T.1 i + (if kTwo (T.1 i) = true then 1 else 0)) → z.2.2.2.2.2.2 = (decide (0 < kN kTri T.1 i) || kTri (T.1 i)) → ∃ y', fX7_layList_l182 N mg m (nI (i + 1)) z = some y' ∧ kZ T y' := by
      intro z z1 z2 z3 z4 z5 z6 z7
      refine ih m (i + 1) z (by omega) (by omega) z1 z2 z3 z4 z5 z6 ?_
      rw [z7]
      show _ = decide (0 < kN kTri T.1 i + (if kTri (T.1 i) = true then 1 else 0))
      by_cases a : kTri (T.1 i) = true
      · rw [if_pos a, a]; simp
      · rw [if_neg a, (Bool.not_eq_true _).mp a]; simp
    have s1 : ∀ b : Bool, (b = true ↔ kOne (T.1 i) = true) → y.2.2.2.2.1 + bI b = nI (kN kOne T.1 i + (if kOne (T.1 i) = true then 1 else 0)) := by
      intro b hb
      rw [h5]
      cases b with
      | true => rw [if_pos (hb.mp rfl)]; exact nI_1 _
      | false => rw [if_neg (fun q => by have := hb.mpr q; cases this)]; exact nI_add _ 0
    have s2 : ∀ b : Bool, (b = true ↔ kTwo (T.1 i) = true) → y.2.2.2.2.2.1 + bI b = nI (kN kTwo T.1 i + (if kTwo (T.1 i) = true then 1 else 0)) := by
      intro b hb
      rw [h6]
      cases b with
      | true => rw [if_pos (hb.mp rfl)]; exact nI_1 _
      | false => rw [if_neg (fun q => by have := hb.mpr q; cases this)]; exact nI_add _ 0
    by_cases a1 : kOne (T.1 i) = true
    · have t1 := s1 true (by simp [a1])
      rw [if_pos a1]
      by_cases a2 : kTwo (T.1 i) = true
      · have t2 := s2 true (by simp [a2])
        rw [if_pos a2]
        by_cases a3 : y.2.2.2.2.2.2 = true
        · rw [if_pos a3]; exact hr _ h1 h2 h3 h4 t1 t2 (by rw [← h7, a3]; rfl)
        · rw [if_neg a3]
          by_cases a4 : kTri (T.1 i) = true
          · rw [if_neg (fun q => q a4)]; exact hr _ h1 h2 h3 h4 t1 t2 (by rw [a4, Bool.or_true])
          · rw [if_pos a4]; exact hr _ h1 h2 h3 h4 t1 t2 (by rw [← h7, (Bool.not_eq_true _).mp a3, (Bool.not_eq_true _).mp a4]; rfl)
      · have t2 := s2 false (by simp [a2])
        rw [if_neg a2]
        by_cases a3 : y.2.2.2.2.2.2 = true
        · rw [if_pos a3]; exact hr _ h1 h2 h3 h4 t1 t2 (by rw [← h7, a3]; rfl)
        · rw [if_neg a3]
          by_cases a4 : kTri (T.1 i) = true
          · rw [if_neg (fun q => q a4)]; exact hr _ h1 h2 h3 h4 t1 t2 (by rw [a4, Bool.or_true])
          · rw [if_pos a4]; exact hr _ h1 h2 h3 h4 t1 t2 (by rw [← h7, (Bool.not_eq_true _).mp a3, (Bool.not_eq_true _).mp a4]; rfl)
    · have t1 := s1 false (by simp [a1])
      rw [if_neg a1]
      by_cases a2 : kTwo (T.1 i) = true
      · have t2 := s2 true (by simp [a2])
        rw [if_pos a2]
        by_cases a3 : y.2.2.2.2.2.2 = true
        · rw [if_pos a3]; exact hr _ h1 h2 h3 h4 t1 t2 (by rw [← h7, a3]; rfl)
        · rw [if_neg a3]
          by_cases a4 : kTri (T.1 i) = true
          · rw [if_neg (fun q => q a4)]; exact hr _ h1 h2 h3 h4 t1 t2 (by rw [a4, Bool.or_true])
          · rw [if_pos a4]; exact hr _ h1 h2 h3 h4 t1 t2 (by rw [← h7, (Bool.not_eq_true _).mp a3, (Bool.not_eq_true _).mp a4]; rfl)
      · have t2 := s2 false (by simp [a2])
        rw [if_neg a2]
        by_cases a3 : y.2.2.2.2.2.2 = true
        · rw [if_pos a3]; exact hr _ h1 h2 h3 h4 t1 t2 (by rw [← h7, a3]; rfl)
        · rw [if_neg a3]
          by_cases a4 : kTri (T.1 i) = true
          · rw [if_neg (fun q => q a4)]; exact hr _ h1 h2 h3 h4 t1 t2 (by rw [a4, Bool.or_true])
          · rw [if_pos a4]; exact hr _ h1 h2 h3 h4 t1 t2 (by rw [← h7, (Bool.not_eq_true _).mp a3, (Bool.not_eq_true _).mp a4]; rfl)
theorem kLet_not {c : Int32} (h : kLet c = true) : ¬ c = 46 ∧ ¬ kBad c = true := by
  obtain ⟨j, h4, h5, rfl⟩ := (q_W (b := 65) (c := 90) (by omega) (by omega)).mp h
  refine ⟨?_, ?_⟩
  · rw [show (46 : Int32) = nI 46 from rfl, nI_eq (by omega) (by omega)]; omega
  · unfold kBad
    rw [Bool.or_eq_true, Bool.or_eq_true, decide_eq_true_eq, decide_eq_true_eq, decide_eq_true_eq, show (115 : Int32) = nI 115 from rfl, show (109 : Int32) = nI 109 from rfl, show (117 : Int32) = nI 117 from rfl, nI_eq (by omega) (by omega), nI_eq (by omega) (by omega), nI_eq (by omega) (by omega)]
    omega
theorem kBad46 : kBad 46 = false := by decide
theorem q_m121 {N : Nat} {mg : VMg} {T : kT} {k53 : Int32 → Int32 → VMl → Option VMl} {k61 : Int32 → Int32 → Int32 → VMl → Option VMl} {v1 v2 v3 c : Int32} {y : VMl} (h : kZ0 T y) (hc : kName c = true) : ∃ y', fX7_layList_b121 N mg k53 k61 v1 v2 v3 c y.2.2.1 (kBad c) (y.1, y.2.1 + 1, y.2.2.1, y.2.2.2.1, y.2.2.2.2.1, y.2.2.2.2.2.1, y.2.2.2.2.2.2) = k61 v1 v2 (v3 + 1) y' ∧ kZ0 (kAdd T c) y' := by
  obtain ⟨y1, y2, y3, y4, y5, y6, y7⟩ := id h
  unfold fX7_layList_b121 fX7_layList_b142 fX7_layList_b168
  rw [q_let7]
  simp only [q_b1]
  unfold kAdd
  by_cases e : c = 46
  · subst e
    rw [if_pos rfl, if_neg (show ¬ kLet 46 = true by decide), if_pos rfl]
    exact ⟨_, rfl, y1, by dsimp only; rw [y2, nI_1], by rw [kBad46]; dsimp only; rw [y3]; exact nI_add _ 0, by dsimp only; rw [y4]; exact nI_add _ 1, y5, y6, y7⟩
  rw [if_neg e, if_neg e]
  by_cases e2 : kBad c = true
  · rw [if_neg (fun q => (kLet_not q).2 e2), if_pos e2, e2]
    exact ⟨_, rfl, y1, by dsimp only; rw [y2, nI_1], by dsimp only; rw [y3]; exact nI_add _ 1, by dsimp only; rw [y4]; exact nI_add _ 0, y5, y6, y7⟩
  obtain ⟨hl, j, hj, -, ej⟩ := kName_let hc e e2
  rw [if_pos hl, if_neg e2, (Bool.not_eq_true _).mp e2]
  have hk : k_in (nI j) 26 := nI_in hj (by omega)
  simp only [ej, if_pos hk, nI_clamp (show j < 2 ^ 31 by omega), y1 j hj, nI_1]
  refine ⟨_, rfl, fun q hq => ?_, by dsimp only; rw [y2, nI_1], by dsimp only; rw [y3]; exact nI_add _ 0, by dsimp only; rw [y4]; exact nI_add _ 0, y5, y6, y7⟩
  dsimp only
  unfold upd kUp
  by_cases a : q = j
  · rw [if_pos a, if_pos a]
  · rw [if_neg a, if_neg a]; exact y1 q hq
theorem q_m61 {N W s : Nat} {A : kA} {mg : VMg} {T : kT} {k53 : Int32 → Int32 → VMl → Option VMl} (hV : kV A) (hM : kM A mg) (hW : W < 64) (hs : s < 6) (hb1 : W / 2 ^ s % 2 = 1) : ∀ (j m i : Nat) (y : VMl), i + j = A.1 s → j < m → kZ0 (kIn A s T i) y → ∃ y', fX7_layList_l61 N mg k53 m (nI W) (nI s) (nI i) y = k53 (nI W) (nI (s + 1)) y' ∧ kZ0 (kIn A s T (A.1 s)) y' := by
  have hz := (hV.2.2.2 s hs).1
  have hk6 : k_in (nI s) 6 := nI_in hs (by omega)
  intro j
  induction j with
  | zero =>
    intro m i y hi hm hy
    obtain ⟨m, rfl⟩ : ∃ q, m = q + 1 := ⟨m - 1, by omega⟩
    have : i = A.1 s := by omega
    subst this
    show ∃ y', fX7_layList_b61 N mg _ _ _ _ _ _ = _ ∧ _
    unfold fX7_layList_b61 fX7_layList_b174
    rw [if_pos hk6, nI_clamp (by omega), (hM.1 s hs).1, if_pos (by rw [nI_leI (by omega) (by omega)]; omega), nI_1]
    exact ⟨y, rfl, hy⟩
  | succ j ih =>
    intro m i y hi hm hy
    obtain ⟨m, rfl⟩ : ∃ q, m = q + 1 := ⟨m - 1, by omega⟩
    have hb := q_bit ⟨W, hW⟩ ⟨s, hs⟩
    dsimp only at hb
    have e : (10 : Int32) * nI s + nI i = nI (s * 10 + i) := by rw [show (10 : Int32) = nI 10 from rfl, pk_mul, nI_add, Nat.mul_comm]
    obtain ⟨y', e1, e2⟩ := q_m121 (N := N) (mg := mg) (k53 := k53) (k61 := fX7_layList_l61 N mg k53 m) (v1 := nI W) (v2 := nI s) (v3 := nI i) hy ((hV.2.2.2 s hs).2.2 i (by omega))
    obtain ⟨y'', e3, e4⟩ := ih m (i + 1) y' (by omega) (by omega) e2
    refine ⟨y'', ?_, e4⟩
    show fX7_layList_b61 N mg _ _ _ _ _ _ = _
    unfold fX7_layList_b61
    rw [if_pos hk6, nI_clamp (by omega), (hM.1 s hs).1, if_neg (by rw [nI_leI (by omega) (by omega)]; omega), hb, hb1, if_pos (show nI 1 = 1 from rfl), e, if_pos (nI_in (by omega) (by omega)), nI_clamp (by omega), (hM.1 s hs).2.2.2 i (by omega)]
    simp only [q_b1, q_bad7]
    rw [← e3, ← nI_1, ← e1]
    by_cases a : kBad (A.2.1 (s * 10 + i)) = true
    · rw [if_pos a, a]
    · rw [if_neg a, (Bool.not_eq_true _).mp a]
theorem q_m53 {N W : Nat} {A : kA} {mg : VMg} (hN : 100 ≤ N) (hV : kV A) (hM : kM A mg) (hW : W < 64) : ∀ (j m s : Nat) (y : VMl), s + j = 6 → j < m → kZ0 (kOut A W s) y → ∃ y', fX7_layList_l53 N mg m (nI W) (nI s) y = some y' ∧ kZ (kTal A W) y' := by
  intro j
  induction j with
  | zero =>
    intro m s y hi hm hy
    obtain ⟨m, rfl⟩ : ∃ q, m = q + 1 := ⟨m - 1, by omega⟩
    obtain rfl : s = 6 := by omega
    obtain ⟨y1, y2, y3, y4, y5, y6, y7⟩ := id hy
    have hb := kTb_out hV (W := W) 6 (by omega)
    exact q_m182 (T := kTal A W) (fun j => Nat.le_trans (hb.2.1 j) hb.1) 26 N 0 y (by omega) (by omega) y1 y2 y3 y4 y5 y6 y7
  | succ j ih =>
    intro m s y hi hm hy
    obtain ⟨m, rfl⟩ : ∃ q, m = q + 1 := ⟨m - 1, by omega⟩
    have hs : s < 6 := by omega
    have hz := (hV.2.2.2 s hs).1
    have hk6 : k_in (nI s) 6 := nI_in hs (by omega)
    show ∃ y', fX7_layList_b53 N mg _ _ _ _ = _ ∧ _
    unfold fX7_layList_b53
    rw [if_neg (by rw [show (6 : Int32) = nI 6 from rfl, nI_leI (by omega) (by omega)]; omega)]
    have hb := q_bit ⟨W, hW⟩ ⟨s, hs⟩
    dsimp only at hb
    by_cases e : W / 2 ^ s % 2 = 0
    · have hgo : fX7_layList_l61 N mg (fX7_layList_l53 N mg m) N (nI W) (nI s) 0 y = fX7_layList_l53 N mg m (nI W) (nI (s + 1)) y := by
        obtain ⟨N', rfl⟩ : ∃ q, N = q + 1 := ⟨N - 1, by omega⟩
        show fX7_layList_b61 (N' + 1) mg _ _ _ _ _ _ = _
        unfold fX7_layList_b61 fX7_layList_b174
        rw [if_pos hk6, nI_clamp (by omega), hb, e, nI_1]
        by_cases a : mg.2.2.1 s ≤ 0
        · rw [if_pos a]
        · rw [if_neg a, if_neg (show ¬ nI 0 = 1 by decide)]
      rw [hgo]
      refine ih m (s + 1) y (by omega) (by omega) ?_
      show kZ0 (if W / 2 ^ s % 2 = 0 then kOut A W s else _) y
      rw [if_pos e]; exact hy
    · obtain ⟨y2, e1, e2⟩ := q_m61 (N := N) (k53 := fX7_layList_l53 N mg m) hV hM hW hs (by omega) (A.1 s) N 0 y (by omega) (by omega) hy
      rw [show (0 : Int32) = nI 0 from rfl, e1]
      refine ih m (s + 1) y2 (by omega) (by omega) ?_
      show kZ0 (if W / 2 ^ s % 2 = 0 then kOut A W s else _) y2
      rw [if_neg e]; exact e2
theorem q_m32 {N W : Nat} {A : kA} {mg : VMg} (hN : 100 ≤ N) (hV : kV A) (hM : kM A mg) (hW : W < 64) : ∀ (j m i : Nat) (f : Nat → Int32), i + j = 26 → j < m → (∀ q, q < i → f q = 0) → ∃ y', fX7_layList_l32 N mg m (nI W) (nI i) (f, 0, 0, 0, 0, 0, false) = some y' ∧ kZ (kTal A W) y' := by
  intro j
  induction j with
  | zero =>
    intro m i f hi hm hf
    obtain ⟨m, rfl⟩ : ∃ q, m = q + 1 := ⟨m - 1, by omega⟩
    obtain rfl : i = 26 := by omega
    exact q_m53 hN hV hM hW 6 N 0 _ (by omega) (by omega) ⟨hf, rfl, rfl, rfl, rfl, rfl, rfl⟩
  | succ j ih =>
    intro m i f hi hm hf
    obtain ⟨m, rfl⟩ : ∃ q, m = q + 1 := ⟨m - 1, by omega⟩
    show ∃ y', fX7_layList_b32 N mg _ _ _ _ = _ ∧ _
    unfold fX7_layList_b32
    rw [if_neg (by rw [show (26 : Int32) = nI 26 from rfl, nI_leI (by omega) (by omega)]; omega), if_pos (nI_in (by omega) (by omega)), nI_clamp (by omega), nI_1]
    refine ih m (i + 1) (upd f i 0) (by omega) (by omega) (fun q hq => ?_)
    unfold upd
    by_cases a : q = i
    · rw [if_pos a]
    · rw [if_neg a]; exact hf q (by omega)
theorem q_lay {N W : Nat} {A : kA} {mg : VMg} (hN : 100 ≤ N) (hV : kV A) (hM : kM A mg) (hW : W < 64) (y : VMl) : ∃ y', fX7_layList N mg (nI W) y = some y' ∧ kZ (kTal A W) y' :=
  q_m32 hN hV hM hW 26 N 0 y.1 (by omega) (by omega) (fun q hq => by omega)
