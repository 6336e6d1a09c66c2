/-! restore -/
theorem q_re150 {N b : Nat} {mi : VMi} (hb : b + 92 ≤ 184) : ∀ (j m i : Nat) (g : VMg), i + j = 11 → j < m → fX7_restore_l150 N mi m (nI b) (nI i) g = some (1, (g.1, g.2.1, g.2.2.1, g.2.2.2.1, g.2.2.2.2.1, g.2.2.2.2.2.1, kF g.2.2.2.2.2.2 0 i 11 (fun q => mi.1 (b + 80 + q)))) := by
  intro j
  induction j with
  | zero =>
    intro m i g hi hm
    obtain ⟨m, rfl⟩ : ∃ q, m = q + 1 := ⟨m - 1, by omega⟩
    obtain rfl : i = 11 := by omega
    show fX7_restore_b150 N mi _ _ _ _ = _
    unfold fX7_restore_b150
    rw [if_pos (show (11 : Int32) ≤ nI 11 by decide), kF_n]
  | succ j ih =>
    intro m i g hi hm
    obtain ⟨m, rfl⟩ : ∃ q, m = q + 1 := ⟨m - 1, by omega⟩
    show fX7_restore_b150 N mi _ _ _ _ = _
    unfold fX7_restore_b150
    have e : nI b + 80 + nI i = nI (b + 80 + i) := by rw [show (80 : Int32) = nI 80 from rfl, nI_add, nI_add]
    rw [if_neg (by rw [show (11 : Int32) = nI 11 from rfl, nI_leI (by omega) (by omega)]; omega), e, if_pos (nI_in (by omega) (by omega)), if_pos (nI_in (by omega) (by omega)), nI_clamp (by omega), nI_clamp (by omega), nI_1]
    refine (ih m (i + 1) _ (by omega) (by omega)).trans ?_
    show some (_, (_, _, _, _, _, _, kF (upd g.2.2.2.2.2.2 i (mi.1 (b + 80 + i))) 0 (i + 1) 11 _)) = _
    rw [kF_s0 _ _ _ (fun q => mi.1 (b + 80 + q)) (by omega)]
theorem q_re93 {N b : Nat} {mi : VMi} (hN : 100 ≤ N) (hb : b + 92 ≤ 184) : ∀ (j m i : Nat) (g : VMg), i + j = 60 → j < m → fX7_restore_l93 N mi m (nI b) (nI i) g = some (1, (g.1, g.2.1, g.2.2.1, kF g.2.2.2.1 0 i 60 (fun q => mi.1 (b + 18 + q)), mi.1 (b + 78), mi.1 (b + 79), kF g.2.2.2.2.2.2 0 0 11 (fun q => mi.1 (b + 80 + q)))) := by
  intro j
  induction j with
  | zero =>
    intro m i g hi hm
    obtain ⟨m, rfl⟩ : ∃ q, m = q + 1 := ⟨m - 1, by omega⟩
    obtain rfl : i = 60 := by omega
    show fX7_restore_b93 N mi _ _ _ _ = _
    unfold fX7_restore_b93
    have e : nI b + 78 = nI (b + 78) := nI_add b 78
    have e1 : nI b + 79 = nI (b + 79) := nI_add b 79
    rw [if_pos (show (60 : Int32) ≤ nI 60 by decide), e, e1, if_pos (nI_in (by omega) (by omega)), if_pos (nI_in (by omega) (by omega)), nI_clamp (by omega), nI_clamp (by omega), kF_n]
    exact q_re150 hb 11 N 0 _ (by omega) (by omega)
  | succ j ih =>
    intro m i g hi hm
    obtain ⟨m, rfl⟩ : ∃ q, m = q + 1 := ⟨m - 1, by omega⟩
    show fX7_restore_b93 N mi _ _ _ _ = _
    unfold fX7_restore_b93
    have e : nI b + 18 + nI i = nI (b + 18 + i) := by rw [show (18 : Int32) = nI 18 from rfl, nI_add, nI_add]
    rw [if_neg (by rw [show (60 : Int32) = nI 60 from rfl, nI_leI (by omega) (by omega)]; omega), e, if_pos (nI_in (by omega) (by omega)), if_pos (nI_in (by omega) (by omega)), nI_clamp (by omega), nI_clamp (by omega), nI_1]
    refine (ih m (i + 1) _ (by omega) (by omega)).trans ?_
    show some (_, (_, _, _, kF (upd g.2.2.2.1 i (mi.1 (b + 18 + i))) 0 (i + 1) 60 _, _, _, _)) = _
    rw [kF_s0 _ _ _ (fun q => mi.1 (b + 18 + q)) (by omega)]
theorem q_re31 {N b : Nat} {mi : VMi} (hN : 100 ≤ N) (hb : b + 92 ≤ 184) : ∀ (j m i : Nat) (g : VMg), i + j = 6 → j < m → fX7_restore_l31 N mi m (nI b) (nI i) g = some (1, (kF g.1 0 i 6 (fun q => mi.1 (b + q)), kF g.2.1 0 i 6 (fun q => mi.1 (b + 6 + q)), kF g.2.2.1 0 i 6 (fun q => mi.1 (b + 12 + q)), kF g.2.2.2.1 0 0 60 (fun q => mi.1 (b + 18 + q)), mi.1 (b + 78), mi.1 (b + 79), kF g.2.2.2.2.2.2 0 0 11 (fun q => mi.1 (b + 80 + q)))) := by
  intro j
  induction j with
  | zero =>
    intro m i g hi hm
    obtain ⟨m, rfl⟩ : ∃ q, m = q + 1 := ⟨m - 1, by omega⟩
    obtain rfl : i = 6 := by omega
    show fX7_restore_b31 N mi _ _ _ _ = _
    unfold fX7_restore_b31
    rw [if_pos (show (6 : Int32) ≤ nI 6 by decide), kF_n, kF_n, kF_n]
    exact q_re93 hN hb 60 N 0 _ (by omega) (by omega)
  | succ j ih =>
    intro m i g hi hm
    obtain ⟨m, rfl⟩ : ∃ q, m = q + 1 := ⟨m - 1, by omega⟩
    show fX7_restore_b31 N mi _ _ _ _ = _
    unfold fX7_restore_b31
    have e0 : nI b + nI i = nI (b + i) := nI_add b i
    have e6 : nI b + 6 + nI i = nI (b + 6 + i) := by rw [show (6 : Int32) = nI 6 from rfl, nI_add, nI_add]
    have e12 : nI b + 12 + nI i = nI (b + 12 + i) := by rw [show (12 : Int32) = nI 12 from rfl, nI_add, nI_add]
    have k6 : k_in (nI i) 6 := nI_in (by omega) (by omega)
    rw [if_neg (by rw [show (6 : Int32) = nI 6 from rfl, nI_leI (by omega) (by omega)]; omega), e0, e6, e12]
    rw [if_pos (nI_in (c := b + i) (by omega) (by omega)), if_pos k6, if_pos (nI_in (c := b + 6 + i) (by omega) (by omega)), if_pos k6, if_pos (nI_in (c := b + 12 + i) (by omega) (by omega)), if_pos k6, nI_clamp (n := i) (by omega), nI_clamp (n := b + i) (by omega), nI_clamp (n := b + 6 + i) (by omega), nI_clamp (n := b + 12 + i) (by omega), nI_1]
    refine (ih m (i + 1) _ (by omega) (by omega)).trans ?_
    show some (_, (kF (upd g.1 i (mi.1 (b + i))) 0 (i + 1) 6 _, kF (upd g.2.1 i (mi.1 (b + 6 + i))) 0 (i + 1) 6 _, kF (upd g.2.2.1 i (mi.1 (b + 12 + i))) 0 (i + 1) 6 _, _, _, _, _)) = _
    rw [kF_s0 _ _ _ (fun q => mi.1 (b + q)) (by omega), kF_s0 _ _ _ (fun q => mi.1 (b + 6 + q)) (by omega), kF_s0 _ _ _ (fun q => mi.1 (b + 12 + q)) (by omega)]
theorem q_restore1 {A : kA} {now r : VX3} {mg : VMg} {mi : VMi} {N n : Nat} (hN : 100 ≤ N) (hn : n < 2) (hV : kV A) (hC : kC A r) (hM : kMI A mi.1 n) : ∃ now' mg', fX3_become N r now = some now' ∧ fX7_restore_l31 N mi N ((92 : Int32) * nI n) 0 mg = some (1, mg') ∧ kC A now' ∧ kM A mg' := by
  obtain ⟨v1, v2, v3, v4⟩ := id hV
  obtain ⟨c1, c2, c3, c4, c5⟩ := id hC
  obtain ⟨m1, m2, m3, m4⟩ := id hM
  have hrs := v3.1
  unfold fX3_become fX3_copy_60 fX3_copy_6
  simp only [q_b1]
  rw [q_bec (p := A.2.2.2.2.2.2) hN (by omega) c2 hrs hrs (by omega) (by omega) c3, show (92 : Int32) * nI n = nI (92 * n) from pk_mul 92 n, show (0 : Int32) = nI 0 from rfl, q_re31 hN (by omega) 6 N 0 mg (by omega) (by omega)]
  refine ⟨_, _, rfl, rfl, ⟨fun s hs => ⟨?_, ?_, fun i hi => ?_⟩, rfl, fun i hi => kF_at0 hi, c4, c5⟩, ⟨fun s hs => ⟨?_, ?_, ?_, fun i hi => ?_⟩, m2, m3, fun i hi => ?_⟩⟩
  · show va_cpy r.2.1 now.2.1 0 0 6 s = _
    rw [pk_cpy_in (by omega) (by omega), Nat.zero_add, Nat.sub_zero]; exact (c1 s hs).1
  · show va_cpy r.2.2.1 now.2.2.1 0 0 6 s = _
    rw [pk_cpy_in (by omega) (by omega), Nat.zero_add, Nat.sub_zero]; exact (c1 s hs).2.1
  · show va_cpy r.1 now.1 0 0 60 (s * 10 + i) = _
    have := (v4 s hs).1
    rw [pk_cpy_in (by omega) (by omega), Nat.zero_add, Nat.sub_zero]; exact (c1 s hs).2.2 i hi
  · dsimp only
    rw [kF_at0 hs]; exact (m1 s hs).1
  · dsimp only
    rw [kF_at0 hs]; exact (m1 s hs).2.1
  · dsimp only
    rw [kF_at0 hs]; exact (m1 s hs).2.2.1
  · have := (v4 s hs).1
    dsimp only
    rw [kF_at0 (by omega)]; exact (m1 s hs).2.2.2 i hi
  · dsimp only
    rw [kF_at0 (by omega)]; exact m4 i hi
theorem q_restore {A : kA} {now fi se : VX3} {mg : VMg} {mi : VMi} {N : Nat} (hN : 100 ≤ N) (hV : kV A) (hC : kC A now) (hM : kM A mg) (h0 : kIm 0 fi mi) (h1 : kIm 1 se mi) (a : Int32) : ∃ r now' mg', fX6_restore N fi se a now = some (r, now') ∧ fX7_restore N mi a mg = some (r, mg') ∧ ∃ A, kV A ∧ kC A now' ∧ kM A mg' := by
  by_cases hw : kW a 0 1 = true
  rotate_left
  · unfold fX6_restore fX7_restore
    rw [q_within, q_in]
    simp only [q_b1]
    rw [if_neg hw, if_neg hw]
    exact ⟨_, _, _, rfl, rfl, A, hV, hC, hM⟩
  rcases q_W01.mp hw with rfl | rfl
  · unfold fX6_restore fX7_restore
    rw [q_within, q_in]
    simp only [q_b1, if_pos hw, if_true, if_pos (show k_in (0 : Int32) 2 by decide)]
    rw [show ((0 : Int32)).toNatClampNeg = 0 from rfl]
    rcases h0 with ⟨b1, b2⟩ | ⟨b1, b2, B, hB, b3, b4⟩
    · rw [if_neg (by rw [b1]; decide), if_pos b2]
      exact ⟨_, _, _, rfl, rfl, A, hV, hC, hM⟩
    · obtain ⟨now', mg', e1, e2, e3, e4⟩ := q_restore1 (now := now) (mg := mg) hN (by omega) hB b3 b4
      rw [if_pos b1, if_neg b2, e1]
      exact ⟨_, _, _, rfl, e2, B, hB, e3, e4⟩
  · unfold fX6_restore fX7_restore
    rw [q_within, q_in]
    simp only [q_b1, if_pos hw, if_neg (show ¬ (1 : Int32) = 0 by decide), if_pos (show k_in (1 : Int32) 2 by decide)]
    rw [show ((1 : Int32)).toNatClampNeg = 1 from rfl]
    rcases h1 with ⟨b1, b2⟩ | ⟨b1, b2, B, hB, b3, b4⟩
    · rw [if_neg (by rw [b1]; decide), if_pos b2]
      exact ⟨_, _, _, rfl, rfl, A, hV, hC, hM⟩
    · obtain ⟨now', mg', e1, e2, e3, e4⟩ := q_restore1 (now := now) (mg := mg) hN (by omega) hB b3 b4
      rw [if_pos b1, if_neg b2, e1]
      exact ⟨_, _, _, rfl, e2, B, hB, e3, e4⟩
