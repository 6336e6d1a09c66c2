/-! the law's loop, and the pure statement -/
theorem q_lawL {N L : Nat} {xs : Nat → Int32} {mc : Nat → Int64} (hN : 10001 ≤ N) (hL : L ≤ 3072) : ∀ (j m i : Nat) (pad : VX5) (now : VX3) (fi : VX3) (se : VX3) (li : VX4) (so : VX4) (lo : VX1) (re : VX2) (ru : VX0) (ot : VX0) (le : Nat → Int32) (mp : VMp) (mg : VMg) (ml : VMl) (mq : VMq) (mh : VMh) (ms : VMs) (mr : Nat → Int32) (mi : VMi), L < i + 6 * j + 6 → i ≤ 4000 → j < m → kSt mc pad now fi se lo mp mg mi → fL_law_l18 N L xs mc m (nI i) pad now fi se li so lo re ru ot le mp mg ml mq mh ms mr mi = some true := by
  have hend : ∀ (m i : Nat) (pad : VX5) (now : VX3) (fi : VX3) (se : VX3) (li : VX4) (so : VX4) (lo : VX1) (re : VX2) (ru : VX0) (ot : VX0) (le : Nat → Int32) (mp : VMp) (mg : VMg) (ml : VMl) (mq : VMq) (mh : VMh) (ms : VMs) (mr : Nat → Int32) (mi : VMi), L < i + 6 → i ≤ 4000 → fL_law_l18 N L xs mc (m + 1) (nI i) pad now fi se li so lo re ru ot le mp mg ml mq mh ms mr mi = some true := by
    intro m i pad now fi se li so lo re ru ot le mp mg ml mq mh ms mr mi h h2
    show fL_law N L xs mc _ _ _ _ _ _ _ _ _ _ _ _ _ _ _ _ _ _ _ _ _ = _
    unfold fL_law
    have : nI L - 6 < nI i := by
      by_cases a : 6 ≤ L
      · rw [show nI L - 6 = nI (L - 6) from pk_sub (b := 6) a, nI_ltI (by omega) (by omega)]; omega
      · have h3 : nI L - 6 < 0 := pk_sneg (b := 6) (by omega) (by omega)
        have h4 : (0 : Int32) ≤ nI i := nI_pos' (by omega)
        rw [Int32.lt_iff_toInt_lt] at h3 ⊢
        rw [Int32.le_iff_toInt_le] at h4
        omega
    rw [if_pos this]
  intro j
  induction j with
  | zero =>
    intro m i pad now fi se li so lo re ru ot le mp mg ml mq mh ms mr mi h h2 hm hS
    obtain ⟨m, rfl⟩ : ∃ q, m = q + 1 := ⟨m - 1, by omega⟩
    exact hend m i _ _ _ _ _ _ _ _ _ _ _ _ _ _ _ _ _ _ _ (by omega) h2
  | succ j ih =>
    intro m i pad now fi se li so lo re ru ot le mp mg ml mq mh ms mr mi h h2 hm hS
    obtain ⟨m, rfl⟩ : ∃ q, m = q + 1 := ⟨m - 1, by omega⟩
    by_cases hi : L < i + 6
    · exact hend m i _ _ _ _ _ _ _ _ _ _ _ _ _ _ _ _ _ _ _ hi h2
    have hi : i + 6 ≤ L := by omega
    have hk : kHk mc (fL_law_l18 N L xs mc m) i := fun pad now fi se li so lo re ru ot le mp mg ml mq mh ms mr mi hs => ih m (i + 6) pad now fi se li so lo re ru ot le mp mg ml mq mh ms mr mi (by omega) (by omega) (by omega) hs
    show fL_law N L xs mc _ _ _ _ _ _ _ _ _ _ _ _ _ _ _ _ _ _ _ _ _ = _
    unfold fL_law
    have hlt : ¬ nI L - 6 < nI i := by
      rw [show nI L - 6 = nI (L - 6) from pk_sub (b := 6) (by omega), nI_ltI (by omega) (by omega)]; omega
    have hin : k_in (nI i) L := nI_in (by omega) (by omega)
    rw [if_neg hlt, if_pos hin, nI_clamp (by omega)]
    by_cases c0 : xs i &&& 31 = 0
    · rw [if_pos c0]; exact q_case_say hN hL hi hk hS
    rw [if_neg c0]
    by_cases c1 : xs i &&& 31 = 1
    · rw [if_pos c1]; exact q_case_wipe hN hL hi hk hS
    rw [if_neg c1]
    by_cases c2 : xs i &&& 31 = 2
    · rw [if_pos c2]; exact q_case_fault hN hL hi hk hS
    rw [if_neg c2]
    by_cases c3 : xs i &&& 31 = 3
    · rw [if_pos c3]; exact q_case_names hN hL hi hk hS
    rw [if_neg c3]
    by_cases c4 : xs i &&& 31 = 4
    · rw [if_pos c4]; exact q_case_set hN hL hi hk hS
    rw [if_neg c4]
    by_cases c5 : xs i &&& 31 = 5
    · rw [if_pos c5]; exact q_case_sheet hN hL hi hk hS
    rw [if_neg c5]
    by_cases c6 : xs i &&& 31 = 6
    · rw [if_pos c6]; exact q_case_count hN hL hi hk hS
    rw [if_neg c6]
    by_cases c7 : xs i &&& 31 = 7
    · rw [if_pos c7]; exact q_case_need hN hL hi hk hS
    rw [if_neg c7]
    by_cases c8 : xs i &&& 31 = 8
    · rw [if_pos c8]; exact q_case_rule hN hL hi hk hS
    rw [if_neg c8]
    by_cases c9 : xs i &&& 31 = 9
    · rw [if_pos c9]; exact q_case_comes hN hL hi hk hS
    rw [if_neg c9]
    by_cases c10 : xs i &&& 31 = 10
    · rw [if_pos c10]; exact q_case_yes hN hL hi hk hS
    rw [if_neg c10]
    by_cases c11 : xs i &&& 31 = 11
    · rw [if_pos c11]; exact q_case_bySheets hN hL hi hk hS
    rw [if_neg c11]
    by_cases c12 : xs i &&& 31 = 12
    · rw [if_pos c12]; exact q_case_wrong hN hL hi hk hS
    rw [if_neg c12]
    by_cases c13 : xs i &&& 31 = 13
    · rw [if_pos c13]; exact q_case_enough hN hL hi hk hS
    rw [if_neg c13]
    by_cases c14 : xs i &&& 31 = 14
    · rw [if_pos c14]; exact q_case_worth hN hL hi hk hS
    rw [if_neg c14]
    by_cases c15 : xs i &&& 31 = 15
    · rw [if_pos c15]; exact q_case_gatherer hN hL hi hk hS
    rw [if_neg c15]
    by_cases c16 : xs i &&& 31 = 16
    · rw [if_pos c16]; exact q_case_seems hN hL hi hk hS
    rw [if_neg c16]
    by_cases c17 : xs i &&& 31 = 17
    · rw [if_pos c17]; exact q_case_suspect hN hL hi hk hS
    rw [if_neg c17]
    by_cases c18 : xs i &&& 31 = 18
    · rw [if_pos c18]; exact q_case_shared hN hL hi hk hS
    rw [if_neg c18]
    by_cases c19 : xs i &&& 31 = 19
    · rw [if_pos c19]; exact q_case_fine hN hL hi hk hS
    rw [if_neg c19]
    by_cases c20 : xs i &&& 31 = 20
    · rw [if_pos c20]; exact q_case_word hN hL hi hk hS
    rw [if_neg c20]
    by_cases c21 : xs i &&& 31 = 21
    · rw [if_pos c21]; exact q_case_strike hN hL hi hk hS
    rw [if_neg c21]
    by_cases c22 : xs i &&& 31 = 22
    · rw [if_pos c22]; exact q_case_worst hN hL hi hk hS
    rw [if_neg c22]
    by_cases c23 : xs i &&& 31 = 23
    · rw [if_pos c23]; exact q_case_against hN hL hi hk hS
    rw [if_neg c23]
    by_cases c24 : xs i &&& 31 = 24
    · rw [if_pos c24]; exact q_case_heap hN hL hi hk hS
    rw [if_neg c24]
    by_cases c25 : xs i &&& 31 = 25
    · rw [if_pos c25]; exact q_case_image hN hL hi hk hS
    rw [if_neg c25]
    by_cases c26 : xs i &&& 31 = 26
    · rw [if_pos c26]; exact q_case_restore hN hL hi hk hS
    rw [if_neg c26]
    by_cases c27 : xs i &&& 31 = 27
    · rw [if_pos c27]; exact q_case_told hN hL hi hk hS
    rw [if_neg c27]
    unfold fL_law_b1002
    rw [show nI i + 6 = nI (i + 6) from nI_add i 6]
    exact hk _ _ _ _ _ _ _ _ _ _ _ _ _ _ _ _ _ _ _ hS
theorem k_pure_all {L : Nat} {xs : Nat → Int32} (hL : L ≤ 3072) : k_pure L xs := by
  obtain ⟨r0, a1, a2, a3⟩ := q_start3 (N := 20000) (by omega)
  obtain ⟨z0, b1, b2⟩ := q_start1 (N := 20000) (by omega)
  obtain ⟨g7, c1, c2, c3⟩ := q_start7 (N := 20000) (by omega)
  refine ⟨20000, 600, r0, z0, g7, a1, b1, c1, ?_⟩
  exact q_lawL (N := 20000) (by omega) hL 513 600 0 _ _ _ _ _ _ _ _ _ _ _ _ _ _ _ _ _ _ _ (by omega) (by omega) (by omega) ⟨⟨0, fun _ => 0, by omega, rfl, rfl, fun j hj => by omega⟩, ⟨kA0, kV0, a2, c2⟩, .inl ⟨a3, rfl⟩, .inl ⟨a3, rfl⟩, kPas0 b2 c3⟩
