/-! the law's cases -/
abbrev kKt : Type := Int32 → VX5 → VX3 → VX3 → VX3 → VX4 → VX4 → VX1 → VX2 → VX0 → VX0 → (Nat → Int32) → VMp → VMg → VMl → VMq → VMh → VMs → (Nat → Int32) → VMi → Option (Bool)
/-- what holds between two calls -/
def kSt (mc : Nat → Int64) (pad : VX5) (now fi se : VX3) (lo : VX1) (mp : VMp) (mg : VMg) (mi : VMi) : Prop := (∃ n p, kP n p pad mp) ∧ (∃ A, kV A ∧ kC A now ∧ kM A mg) ∧ kIm 0 fi mi ∧ kIm 1 se mi ∧ kPas lo.1 mc
def kHk (mc : Nat → Int64) (k18 : kKt) (i : Nat) : Prop := ∀ (pad : VX5) (now : VX3) (fi : VX3) (se : VX3) (li : VX4) (so : VX4) (lo : VX1) (re : VX2) (ru : VX0) (ot : VX0) (le : Nat → Int32) (mp : VMp) (mg : VMg) (ml : VMl) (mq : VMq) (mh : VMh) (ms : VMs) (mr : Nat → Int32) (mi : VMi), kSt mc pad now fi se lo mp mg mi → k18 (nI (i + 6)) pad now fi se li so lo re ru ot le mp mg ml mq mh ms mr mi = some true
theorem q_case_say {N L i : Nat} {xs : Nat → Int32} {mc : Nat → Int64} {k18 : kKt} {pad : VX5} {now : VX3} {fi : VX3} {se : VX3} {li : VX4} {so : VX4} {lo : VX1} {re : VX2} {ru : VX0} {ot : VX0} {le : Nat → Int32} {mp : VMp} {mg : VMg} {ml : VMl} {mq : VMq} {mh : VMh} {ms : VMs} {mr : Nat → Int32} {mi : VMi} (hN : 10001 ≤ N) (hL : L ≤ 3072) (hi : i + 6 ≤ L) (hk : kHk mc k18 i) (hS : kSt mc pad now fi se lo mp mg mi) : fL_law_b160 N L xs mc k18 (nI i) pad now fi se li so lo re ru ot le mp mg ml mq mh ms mr mi = some true := by
  obtain ⟨⟨n, p, hp⟩, ⟨A, hV, hC, hM⟩, h0, h1, hP⟩ := id hS
  obtain ⟨r, pad', mp', e1, e2, kp⟩ := q_say hp (xs (i + 1))
  unfold fL_law_b160 fL_law_b1002
  have g1 : k_in (nI (i + 1)) L := nI_in (by omega) (by omega)
  simp only [show nI i + 1 = nI (i + 1) from nI_add i 1, nI_clamp (show i + 1 < 2 ^ 31 by omega), if_pos g1, show nI i + 6 = nI (i + 6) from nI_add i 6, e1, e2, q_b2, if_true]
  exact hk _ _ _ _ _ _ _ _ _ _ _ _ _ _ _ _ _ _ _ ⟨kp, ⟨A, hV, hC, hM⟩, h0, h1, hP⟩
theorem q_case_wipe {N L i : Nat} {xs : Nat → Int32} {mc : Nat → Int64} {k18 : kKt} {pad : VX5} {now : VX3} {fi : VX3} {se : VX3} {li : VX4} {so : VX4} {lo : VX1} {re : VX2} {ru : VX0} {ot : VX0} {le : Nat → Int32} {mp : VMp} {mg : VMg} {ml : VMl} {mq : VMq} {mh : VMh} {ms : VMs} {mr : Nat → Int32} {mi : VMi} (hN : 10001 ≤ N) (hL : L ≤ 3072) (hi : i + 6 ≤ L) (hk : kHk mc k18 i) (hS : kSt mc pad now fi se lo mp mg mi) : fL_law_b183 N L xs mc k18 (nI i) pad now fi se li so lo re ru ot le mp mg ml mq mh ms mr mi = some true := by
  obtain ⟨⟨n, p, hp⟩, ⟨A, hV, hC, hM⟩, h0, h1, hP⟩ := id hS
  obtain ⟨r, pad', mp', e1, e2, kp⟩ := q_wipe hp
  unfold fL_law_b183 fL_law_b1002
  simp only [show nI i + 6 = nI (i + 6) from nI_add i 6, e1, e2, q_b2, if_true]
  exact hk _ _ _ _ _ _ _ _ _ _ _ _ _ _ _ _ _ _ _ ⟨kp, ⟨A, hV, hC, hM⟩, h0, h1, hP⟩
theorem q_case_fault {N L i : Nat} {xs : Nat → Int32} {mc : Nat → Int64} {k18 : kKt} {pad : VX5} {now : VX3} {fi : VX3} {se : VX3} {li : VX4} {so : VX4} {lo : VX1} {re : VX2} {ru : VX0} {ot : VX0} {le : Nat → Int32} {mp : VMp} {mg : VMg} {ml : VMl} {mq : VMq} {mh : VMh} {ms : VMs} {mr : Nat → Int32} {mi : VMi} (hN : 10001 ≤ N) (hL : L ≤ 3072) (hi : i + 6 ≤ L) (hk : kHk mc k18 i) (hS : kSt mc pad now fi se lo mp mg mi) : fL_law_b196 N L xs mc k18 (nI i) pad now fi se li so lo re ru ot le mp mg ml mq mh ms mr mi = some true := by
  obtain ⟨⟨n, p, hp⟩, ⟨A, hV, hC, hM⟩, h0, h1, hP⟩ := id hS
  obtain ⟨r, e1, e2⟩ := q_fault (N := N) (by omega) hp (xs (i + 1))
  unfold fL_law_b196 fL_law_b1002
  have g1 : k_in (nI (i + 1)) L := nI_in (by omega) (by omega)
  simp only [show nI i + 1 = nI (i + 1) from nI_add i 1, nI_clamp (show i + 1 < 2 ^ 31 by omega), if_pos g1, show nI i + 6 = nI (i + 6) from nI_add i 6, e1, e2, q_b1, if_true]
  exact hk _ _ _ _ _ _ _ _ _ _ _ _ _ _ _ _ _ _ _ ⟨⟨n, p, hp⟩, ⟨A, hV, hC, hM⟩, h0, h1, hP⟩
theorem q_case_names {N L i : Nat} {xs : Nat → Int32} {mc : Nat → Int64} {k18 : kKt} {pad : VX5} {now : VX3} {fi : VX3} {se : VX3} {li : VX4} {so : VX4} {lo : VX1} {re : VX2} {ru : VX0} {ot : VX0} {le : Nat → Int32} {mp : VMp} {mg : VMg} {ml : VMl} {mq : VMq} {mh : VMh} {ms : VMs} {mr : Nat → Int32} {mi : VMi} (hN : 10001 ≤ N) (hL : L ≤ 3072) (hi : i + 6 ≤ L) (hk : kHk mc k18 i) (hS : kSt mc pad now fi se lo mp mg mi) : fL_law_b219 N L xs mc k18 (nI i) pad now fi se li so lo re ru ot le mp mg ml mq mh ms mr mi = some true := by
  obtain ⟨⟨n, p, hp⟩, ⟨A, hV, hC, hM⟩, h0, h1, hP⟩ := id hS
  obtain ⟨r, pad', now', mp', mg', e1, e2, -, kp, ka⟩ := q_names (N := N) (by omega) hp hV hC hM (xs (i + 1))
  unfold fL_law_b219 fL_law_b1002
  have g1 : k_in (nI (i + 1)) L := nI_in (by omega) (by omega)
  simp only [show nI i + 1 = nI (i + 1) from nI_add i 1, nI_clamp (show i + 1 < 2 ^ 31 by omega), if_pos g1, show nI i + 6 = nI (i + 6) from nI_add i 6, e1, e2, q_b3, if_true]
  exact hk _ _ _ _ _ _ _ _ _ _ _ _ _ _ _ _ _ _ _ ⟨kp, ka, h0, h1, hP⟩
theorem q_case_set {N L i : Nat} {xs : Nat → Int32} {mc : Nat → Int64} {k18 : kKt} {pad : VX5} {now : VX3} {fi : VX3} {se : VX3} {li : VX4} {so : VX4} {lo : VX1} {re : VX2} {ru : VX0} {ot : VX0} {le : Nat → Int32} {mp : VMp} {mg : VMg} {ml : VMl} {mq : VMq} {mh : VMh} {ms : VMs} {mr : Nat → Int32} {mi : VMi} (hN : 10001 ≤ N) (hL : L ≤ 3072) (hi : i + 6 ≤ L) (hk : kHk mc k18 i) (hS : kSt mc pad now fi se lo mp mg mi) : fL_law_b242 N L xs mc k18 (nI i) pad now fi se li so lo re ru ot le mp mg ml mq mh ms mr mi = some true := by
  obtain ⟨⟨n, p, hp⟩, ⟨A, hV, hC, hM⟩, h0, h1, hP⟩ := id hS
  obtain ⟨r, now', mg', e1, e2, -, ka⟩ := q_set hV hC hM (xs (i + 1)) (xs (i + 2)) (xs (i + 3))
  unfold fL_law_b242 fL_law_b1002
  have g1 : k_in (nI (i + 1)) L := nI_in (by omega) (by omega)
  have g2 : k_in (nI (i + 2)) L := nI_in (by omega) (by omega)
  have g3 : k_in (nI (i + 3)) L := nI_in (by omega) (by omega)
  simp only [show nI i + 1 = nI (i + 1) from nI_add i 1, nI_clamp (show i + 1 < 2 ^ 31 by omega), if_pos g1, show nI i + 2 = nI (i + 2) from nI_add i 2, nI_clamp (show i + 2 < 2 ^ 31 by omega), if_pos g2, show nI i + 3 = nI (i + 3) from nI_add i 3, nI_clamp (show i + 3 < 2 ^ 31 by omega), if_pos g3, show nI i + 6 = nI (i + 6) from nI_add i 6, e1, e2, q_b2, if_true]
  exact hk _ _ _ _ _ _ _ _ _ _ _ _ _ _ _ _ _ _ _ ⟨⟨n, p, hp⟩, ka, h0, h1, hP⟩
theorem q_case_sheet {N L i : Nat} {xs : Nat → Int32} {mc : Nat → Int64} {k18 : kKt} {pad : VX5} {now : VX3} {fi : VX3} {se : VX3} {li : VX4} {so : VX4} {lo : VX1} {re : VX2} {ru : VX0} {ot : VX0} {le : Nat → Int32} {mp : VMp} {mg : VMg} {ml : VMl} {mq : VMq} {mh : VMh} {ms : VMs} {mr : Nat → Int32} {mi : VMi} (hN : 10001 ≤ N) (hL : L ≤ 3072) (hi : i + 6 ≤ L) (hk : kHk mc k18 i) (hS : kSt mc pad now fi se lo mp mg mi) : fL_law_b285 N L xs mc k18 (nI i) pad now fi se li so lo re ru ot le mp mg ml mq mh ms mr mi = some true := by
  obtain ⟨⟨n, p, hp⟩, ⟨A, hV, hC, hM⟩, h0, h1, hP⟩ := id hS
  obtain ⟨r, e1, e2⟩ := q_sheet hV hC hM (xs (i + 1)) (xs (i + 2))
  unfold fL_law_b285 fL_law_b1002
  have g1 : k_in (nI (i + 1)) L := nI_in (by omega) (by omega)
  have g2 : k_in (nI (i + 2)) L := nI_in (by omega) (by omega)
  simp only [show nI i + 1 = nI (i + 1) from nI_add i 1, nI_clamp (show i + 1 < 2 ^ 31 by omega), if_pos g1, show nI i + 2 = nI (i + 2) from nI_add i 2, nI_clamp (show i + 2 < 2 ^ 31 by omega), if_pos g2, show nI i + 6 = nI (i + 6) from nI_add i 6, e1, e2, q_b1, if_true]
  exact hk _ _ _ _ _ _ _ _ _ _ _ _ _ _ _ _ _ _ _ ⟨⟨n, p, hp⟩, ⟨A, hV, hC, hM⟩, h0, h1, hP⟩
theorem q_case_count {N L i : Nat} {xs : Nat → Int32} {mc : Nat → Int64} {k18 : kKt} {pad : VX5} {now : VX3} {fi : VX3} {se : VX3} {li : VX4} {so : VX4} {lo : VX1} {re : VX2} {ru : VX0} {ot : VX0} {le : Nat → Int32} {mp : VMp} {mg : VMg} {ml : VMl} {mq : VMq} {mh : VMh} {ms : VMs} {mr : Nat → Int32} {mi : VMi} (hN : 10001 ≤ N) (hL : L ≤ 3072) (hi : i + 6 ≤ L) (hk : kHk mc k18 i) (hS : kSt mc pad now fi se lo mp mg mi) : fL_law_b318 N L xs mc k18 (nI i) pad now fi se li so lo re ru ot le mp mg ml mq mh ms mr mi = some true := by
  obtain ⟨⟨n, p, hp⟩, ⟨A, hV, hC, hM⟩, h0, h1, hP⟩ := id hS
  obtain ⟨r, li', ml', e1, e2⟩ := q_count (N := N) (by omega) hV hC hM (xs (i + 1)) li ml
  unfold fL_law_b318 fL_law_b1002
  have g1 : k_in (nI (i + 1)) L := nI_in (by omega) (by omega)
  simp only [show nI i + 1 = nI (i + 1) from nI_add i 1, nI_clamp (show i + 1 < 2 ^ 31 by omega), if_pos g1, show nI i + 6 = nI (i + 6) from nI_add i 6, e1, e2, q_b2, if_true]
  exact hk _ _ _ _ _ _ _ _ _ _ _ _ _ _ _ _ _ _ _ ⟨⟨n, p, hp⟩, ⟨A, hV, hC, hM⟩, h0, h1, hP⟩
theorem q_case_need {N L i : Nat} {xs : Nat → Int32} {mc : Nat → Int64} {k18 : kKt} {pad : VX5} {now : VX3} {fi : VX3} {se : VX3} {li : VX4} {so : VX4} {lo : VX1} {re : VX2} {ru : VX0} {ot : VX0} {le : Nat → Int32} {mp : VMp} {mg : VMg} {ml : VMl} {mq : VMq} {mh : VMh} {ms : VMs} {mr : Nat → Int32} {mi : VMi} (hN : 10001 ≤ N) (hL : L ≤ 3072) (hi : i + 6 ≤ L) (hk : kHk mc k18 i) (hS : kSt mc pad now fi se lo mp mg mi) : fL_law_b341 N L xs mc k18 (nI i) pad now fi se li so lo re ru ot le mp mg ml mq mh ms mr mi = some true := by
  obtain ⟨⟨n, p, hp⟩, ⟨A, hV, hC, hM⟩, h0, h1, hP⟩ := id hS
  obtain ⟨r, now', mg', e1, e2, -, ka⟩ := q_need hV hC hM (xs (i + 1))
  unfold fL_law_b341 fL_law_b1002
  have g1 : k_in (nI (i + 1)) L := nI_in (by omega) (by omega)
  simp only [show nI i + 1 = nI (i + 1) from nI_add i 1, nI_clamp (show i + 1 < 2 ^ 31 by omega), if_pos g1, show nI i + 6 = nI (i + 6) from nI_add i 6, e1, e2, q_b2, if_true]
  exact hk _ _ _ _ _ _ _ _ _ _ _ _ _ _ _ _ _ _ _ ⟨⟨n, p, hp⟩, ka, h0, h1, hP⟩
theorem q_case_rule {N L i : Nat} {xs : Nat → Int32} {mc : Nat → Int64} {k18 : kKt} {pad : VX5} {now : VX3} {fi : VX3} {se : VX3} {li : VX4} {so : VX4} {lo : VX1} {re : VX2} {ru : VX0} {ot : VX0} {le : Nat → Int32} {mp : VMp} {mg : VMg} {ml : VMl} {mq : VMq} {mh : VMh} {ms : VMs} {mr : Nat → Int32} {mi : VMi} (hN : 10001 ≤ N) (hL : L ≤ 3072) (hi : i + 6 ≤ L) (hk : kHk mc k18 i) (hS : kSt mc pad now fi se lo mp mg mi) : fL_law_b364 N L xs mc k18 (nI i) pad now fi se li so lo re ru ot le mp mg ml mq mh ms mr mi = some true := by
  obtain ⟨⟨n, p, hp⟩, ⟨A, hV, hC, hM⟩, h0, h1, hP⟩ := id hS
  obtain ⟨r, pad', now', mp', mg', e1, e2, -, kp, ka⟩ := q_rule (N := N) (by omega) hp hV hC hM
  unfold fL_law_b364 fL_law_b1002
  simp only [show nI i + 6 = nI (i + 6) from nI_add i 6, e1, e2, q_b3, if_true]
  exact hk _ _ _ _ _ _ _ _ _ _ _ _ _ _ _ _ _ _ _ ⟨kp, ka, h0, h1, hP⟩
theorem q_case_comes {N L i : Nat} {xs : Nat → Int32} {mc : Nat → Int64} {k18 : kKt} {pad : VX5} {now : VX3} {fi : VX3} {se : VX3} {li : VX4} {so : VX4} {lo : VX1} {re : VX2} {ru : VX0} {ot : VX0} {le : Nat → Int32} {mp : VMp} {mg : VMg} {ml : VMl} {mq : VMq} {mh : VMh} {ms : VMs} {mr : Nat → Int32} {mi : VMi} (hN : 10001 ≤ N) (hL : L ≤ 3072) (hi : i + 6 ≤ L) (hk : kHk mc k18 i) (hS : kSt mc pad now fi se lo mp mg mi) : fL_law_b377 N L xs mc k18 (nI i) pad now fi se li so lo re ru ot le mp mg ml mq mh ms mr mi = some true := by
  obtain ⟨⟨n, p, hp⟩, ⟨A, hV, hC, hM⟩, h0, h1, hP⟩ := id hS
  obtain ⟨r, re', ru', mq', e1, e2⟩ := q_comes (N := N) (by omega) hV hC hM (xs (i + 1)) (xs (i + 2)) (xs (i + 3)) (xs (i + 4)) (xs (i + 5)) re ru mq
  unfold fL_law_b377 fL_law_b1002
  have g1 : k_in (nI (i + 1)) L := nI_in (by omega) (by omega)
  have g2 : k_in (nI (i + 2)) L := nI_in (by omega) (by omega)
  have g3 : k_in (nI (i + 3)) L := nI_in (by omega) (by omega)
  have g4 : k_in (nI (i + 4)) L := nI_in (by omega) (by omega)
  have g5 : k_in (nI (i + 5)) L := nI_in (by omega) (by omega)
  simp only [show nI i + 1 = nI (i + 1) from nI_add i 1, nI_clamp (show i + 1 < 2 ^ 31 by omega), if_pos g1, show nI i + 2 = nI (i + 2) from nI_add i 2, nI_clamp (show i + 2 < 2 ^ 31 by omega), if_pos g2, show nI i + 3 = nI (i + 3) from nI_add i 3, nI_clamp (show i + 3 < 2 ^ 31 by omega), if_pos g3, show nI i + 4 = nI (i + 4) from nI_add i 4, nI_clamp (show i + 4 < 2 ^ 31 by omega), if_pos g4, show nI i + 5 = nI (i + 5) from nI_add i 5, nI_clamp (show i + 5 < 2 ^ 31 by omega), if_pos g5, show nI i + 6 = nI (i + 6) from nI_add i 6, e1, e2, q_b2, q_b3, if_true]
  exact hk _ _ _ _ _ _ _ _ _ _ _ _ _ _ _ _ _ _ _ ⟨⟨n, p, hp⟩, ⟨A, hV, hC, hM⟩, h0, h1, hP⟩
theorem q_case_yes {N L i : Nat} {xs : Nat → Int32} {mc : Nat → Int64} {k18 : kKt} {pad : VX5} {now : VX3} {fi : VX3} {se : VX3} {li : VX4} {so : VX4} {lo : VX1} {re : VX2} {ru : VX0} {ot : VX0} {le : Nat → Int32} {mp : VMp} {mg : VMg} {ml : VMl} {mq : VMq} {mh : VMh} {ms : VMs} {mr : Nat → Int32} {mi : VMi} (hN : 10001 ≤ N) (hL : L ≤ 3072) (hi : i + 6 ≤ L) (hk : kHk mc k18 i) (hS : kSt mc pad now fi se lo mp mg mi) : fL_law_b441 N L xs mc k18 (nI i) pad now fi se li so lo re ru ot le mp mg ml mq mh ms mr mi = some true := by
  obtain ⟨⟨n, p, hp⟩, ⟨A, hV, hC, hM⟩, h0, h1, hP⟩ := id hS
  obtain ⟨r, li', lo', re', ru', ml', mq', e1, e2, kl⟩ := q_yes (N := N) (by omega) hV hC hM hP (xs (i + 1)) (xs (i + 2)) li re ru ml mq
  unfold fL_law_b441 fL_law_b1002
  have g1 : k_in (nI (i + 1)) L := nI_in (by omega) (by omega)
  have g2 : k_in (nI (i + 2)) L := nI_in (by omega) (by omega)
  simp only [show nI i + 1 = nI (i + 1) from nI_add i 1, nI_clamp (show i + 1 < 2 ^ 31 by omega), if_pos g1, show nI i + 2 = nI (i + 2) from nI_add i 2, nI_clamp (show i + 2 < 2 ^ 31 by omega), if_pos g2, show nI i + 6 = nI (i + 6) from nI_add i 6, e1, e2, q_b3, q_b5, if_true]
  exact hk _ _ _ _ _ _ _ _ _ _ _ _ _ _ _ _ _ _ _ ⟨⟨n, p, hp⟩, ⟨A, hV, hC, hM⟩, h0, h1, by rw [kl]; exact hP⟩
theorem q_case_bySheets {N L i : Nat} {xs : Nat → Int32} {mc : Nat → Int64} {k18 : kKt} {pad : VX5} {now : VX3} {fi : VX3} {se : VX3} {li : VX4} {so : VX4} {lo : VX1} {re : VX2} {ru : VX0} {ot : VX0} {le : Nat → Int32} {mp : VMp} {mg : VMg} {ml : VMl} {mq : VMq} {mh : VMh} {ms : VMs} {mr : Nat → Int32} {mi : VMi} (hN : 10001 ≤ N) (hL : L ≤ 3072) (hi : i + 6 ≤ L) (hk : kHk mc k18 i) (hS : kSt mc pad now fi se lo mp mg mi) : fL_law_b475 N L xs mc k18 (nI i) pad now fi se li so lo re ru ot le mp mg ml mq mh ms mr mi = some true := by
  obtain ⟨⟨n, p, hp⟩, ⟨A, hV, hC, hM⟩, h0, h1, hP⟩ := id hS
  obtain ⟨r, li', so', re', ru', ml', mq', e1, e2⟩ := q_bySheets (N := N) (by omega) hV hC hM hP (xs (i + 1)) (xs (i + 2)) li so re ru ml mq
  unfold fL_law_b475 fL_law_b1002
  have g1 : k_in (nI (i + 1)) L := nI_in (by omega) (by omega)
  have g2 : k_in (nI (i + 2)) L := nI_in (by omega) (by omega)
  simp only [show nI i + 1 = nI (i + 1) from nI_add i 1, nI_clamp (show i + 1 < 2 ^ 31 by omega), if_pos g1, show nI i + 2 = nI (i + 2) from nI_add i 2, nI_clamp (show i + 2 < 2 ^ 31 by omega), if_pos g2, show nI i + 6 = nI (i + 6) from nI_add i 6, e1, e2, q_b3, q_b5, if_true]
  exact hk _ _ _ _ _ _ _ _ _ _ _ _ _ _ _ _ _ _ _ ⟨⟨n, p, hp⟩, ⟨A, hV, hC, hM⟩, h0, h1, hP⟩
theorem q_case_wrong {N L i : Nat} {xs : Nat → Int32} {mc : Nat → Int64} {k18 : kKt} {pad : VX5} {now : VX3} {fi : VX3} {se : VX3} {li : VX4} {so : VX4} {lo : VX1} {re : VX2} {ru : VX0} {ot : VX0} {le : Nat → Int32} {mp : VMp} {mg : VMg} {ml : VMl} {mq : VMq} {mh : VMh} {ms : VMs} {mr : Nat → Int32} {mi : VMi} (hN : 10001 ≤ N) (hL : L ≤ 3072) (hi : i + 6 ≤ L) (hk : kHk mc k18 i) (hS : kSt mc pad now fi se lo mp mg mi) : fL_law_b509 N L xs mc k18 (nI i) pad now fi se li so lo re ru ot le mp mg ml mq mh ms mr mi = some true := by
  obtain ⟨⟨n, p, hp⟩, ⟨A, hV, hC, hM⟩, h0, h1, hP⟩ := id hS
  obtain ⟨r, li', lo', re', ru', ml', mq', e1, e2, kl⟩ := q_wrong (N := N) (by omega) hV hC hM hP (xs (i + 1)) (xs (i + 2)) li re ru ml mq
  unfold fL_law_b509 fL_law_b1002
  have g1 : k_in (nI (i + 1)) L := nI_in (by omega) (by omega)
  have g2 : k_in (nI (i + 2)) L := nI_in (by omega) (by omega)
  simp only [show nI i + 1 = nI (i + 1) from nI_add i 1, nI_clamp (show i + 1 < 2 ^ 31 by omega), if_pos g1, show nI i + 2 = nI (i + 2) from nI_add i 2, nI_clamp (show i + 2 < 2 ^ 31 by omega), if_pos g2, show nI i + 6 = nI (i + 6) from nI_add i 6, e1, e2, q_b3, q_b5, if_true]
  exact hk _ _ _ _ _ _ _ _ _ _ _ _ _ _ _ _ _ _ _ ⟨⟨n, p, hp⟩, ⟨A, hV, hC, hM⟩, h0, h1, by rw [kl]; exact hP⟩
theorem q_case_enough {N L i : Nat} {xs : Nat → Int32} {mc : Nat → Int64} {k18 : kKt} {pad : VX5} {now : VX3} {fi : VX3} {se : VX3} {li : VX4} {so : VX4} {lo : VX1} {re : VX2} {ru : VX0} {ot : VX0} {le : Nat → Int32} {mp : VMp} {mg : VMg} {ml : VMl} {mq : VMq} {mh : VMh} {ms : VMs} {mr : Nat → Int32} {mi : VMi} (hN : 10001 ≤ N) (hL : L ≤ 3072) (hi : i + 6 ≤ L) (hk : kHk mc k18 i) (hS : kSt mc pad now fi se lo mp mg mi) : fL_law_b543 N L xs mc k18 (nI i) pad now fi se li so lo re ru ot le mp mg ml mq mh ms mr mi = some true := by
  obtain ⟨⟨n, p, hp⟩, ⟨A, hV, hC, hM⟩, h0, h1, hP⟩ := id hS
  obtain ⟨r, li', lo', re', ml', mq', e1, e2, kl⟩ := q_enough (N := N) (by omega) hV hC hM hP (xs (i + 1)) li re ml mq
  unfold fL_law_b543 fL_law_b1002
  have g1 : k_in (nI (i + 1)) L := nI_in (by omega) (by omega)
  simp only [show nI i + 1 = nI (i + 1) from nI_add i 1, nI_clamp (show i + 1 < 2 ^ 31 by omega), if_pos g1, show nI i + 6 = nI (i + 6) from nI_add i 6, e1, e2, q_b3, q_b4, if_true]
  exact hk _ _ _ _ _ _ _ _ _ _ _ _ _ _ _ _ _ _ _ ⟨⟨n, p, hp⟩, ⟨A, hV, hC, hM⟩, h0, h1, by rw [kl]; exact hP⟩
theorem q_case_worth {N L i : Nat} {xs : Nat → Int32} {mc : Nat → Int64} {k18 : kKt} {pad : VX5} {now : VX3} {fi : VX3} {se : VX3} {li : VX4} {so : VX4} {lo : VX1} {re : VX2} {ru : VX0} {ot : VX0} {le : Nat → Int32} {mp : VMp} {mg : VMg} {ml : VMl} {mq : VMq} {mh : VMh} {ms : VMs} {mr : Nat → Int32} {mi : VMi} (hN : 10001 ≤ N) (hL : L ≤ 3072) (hi : i + 6 ≤ L) (hk : kHk mc k18 i) (hS : kSt mc pad now fi se lo mp mg mi) : fL_law_b566 N L xs mc k18 (nI i) pad now fi se li so lo re ru ot le mp mg ml mq mh ms mr mi = some true := by
  obtain ⟨⟨n, p, hp⟩, ⟨A, hV, hC, hM⟩, h0, h1, hP⟩ := id hS
  obtain ⟨r, li', re', ru', ot', ml', mq', e1, e2⟩ := q_worth (N := N) (by omega) hV hC hM (xs (i + 1)) (xs (i + 2)) (xs (i + 3)) (xs (i + 4)) li re ru ot ml mq
  unfold fL_law_b566 fL_law_b1002
  have g1 : k_in (nI (i + 1)) L := nI_in (by omega) (by omega)
  have g2 : k_in (nI (i + 2)) L := nI_in (by omega) (by omega)
  have g3 : k_in (nI (i + 3)) L := nI_in (by omega) (by omega)
  have g4 : k_in (nI (i + 4)) L := nI_in (by omega) (by omega)
  simp only [show nI i + 1 = nI (i + 1) from nI_add i 1, nI_clamp (show i + 1 < 2 ^ 31 by omega), if_pos g1, show nI i + 2 = nI (i + 2) from nI_add i 2, nI_clamp (show i + 2 < 2 ^ 31 by omega), if_pos g2, show nI i + 3 = nI (i + 3) from nI_add i 3, nI_clamp (show i + 3 < 2 ^ 31 by omega), if_pos g3, show nI i + 4 = nI (i + 4) from nI_add i 4, nI_clamp (show i + 4 < 2 ^ 31 by omega), if_pos g4, show nI i + 6 = nI (i + 6) from nI_add i 6, e1, e2, q_b3, q_b5, if_true]
  exact hk _ _ _ _ _ _ _ _ _ _ _ _ _ _ _ _ _ _ _ ⟨⟨n, p, hp⟩, ⟨A, hV, hC, hM⟩, h0, h1, hP⟩
theorem q_case_gatherer {N L i : Nat} {xs : Nat → Int32} {mc : Nat → Int64} {k18 : kKt} {pad : VX5} {now : VX3} {fi : VX3} {se : VX3} {li : VX4} {so : VX4} {lo : VX1} {re : VX2} {ru : VX0} {ot : VX0} {le : Nat → Int32} {mp : VMp} {mg : VMg} {ml : VMl} {mq : VMq} {mh : VMh} {ms : VMs} {mr : Nat → Int32} {mi : VMi} (hN : 10001 ≤ N) (hL : L ≤ 3072) (hi : i + 6 ≤ L) (hk : kHk mc k18 i) (hS : kSt mc pad now fi se lo mp mg mi) : fL_law_b620 N L xs mc k18 (nI i) pad now fi se li so lo re ru ot le mp mg ml mq mh ms mr mi = some true := by
  obtain ⟨⟨n, p, hp⟩, ⟨A, hV, hC, hM⟩, h0, h1, hP⟩ := id hS
  obtain ⟨r, so', mh', e1, e2⟩ := q_gatherer (N := N) (by omega) hV hC hM (xs (i + 1)) (xs (i + 2)) so mh
  unfold fL_law_b620 fL_law_b1002
  have g1 : k_in (nI (i + 1)) L := nI_in (by omega) (by omega)
  have g2 : k_in (nI (i + 2)) L := nI_in (by omega) (by omega)
  simp only [show nI i + 1 = nI (i + 1) from nI_add i 1, nI_clamp (show i + 1 < 2 ^ 31 by omega), if_pos g1, show nI i + 2 = nI (i + 2) from nI_add i 2, nI_clamp (show i + 2 < 2 ^ 31 by omega), if_pos g2, show nI i + 6 = nI (i + 6) from nI_add i 6, e1, e2, q_b2, if_true]
  exact hk _ _ _ _ _ _ _ _ _ _ _ _ _ _ _ _ _ _ _ ⟨⟨n, p, hp⟩, ⟨A, hV, hC, hM⟩, h0, h1, hP⟩
theorem q_case_seems {N L i : Nat} {xs : Nat → Int32} {mc : Nat → Int64} {k18 : kKt} {pad : VX5} {now : VX3} {fi : VX3} {se : VX3} {li : VX4} {so : VX4} {lo : VX1} {re : VX2} {ru : VX0} {ot : VX0} {le : Nat → Int32} {mp : VMp} {mg : VMg} {ml : VMl} {mq : VMq} {mh : VMh} {ms : VMs} {mr : Nat → Int32} {mi : VMi} (hN : 10001 ≤ N) (hL : L ≤ 3072) (hi : i + 6 ≤ L) (hk : kHk mc k18 i) (hS : kSt mc pad now fi se lo mp mg mi) : fL_law_b653 N L xs mc k18 (nI i) pad now fi se li so lo re ru ot le mp mg ml mq mh ms mr mi = some true := by
  obtain ⟨⟨n, p, hp⟩, ⟨A, hV, hC, hM⟩, h0, h1, hP⟩ := id hS
  obtain ⟨r, li', so', ru', ml', mh', ms', e1, e2⟩ := q_seems (N := N) (by omega) hV hC hM hP (xs (i + 1)) (xs (i + 2)) li so ru ml mh ms
  unfold fL_law_b653 fL_law_b1002
  have g1 : k_in (nI (i + 1)) L := nI_in (by omega) (by omega)
  have g2 : k_in (nI (i + 2)) L := nI_in (by omega) (by omega)
  simp only [show nI i + 1 = nI (i + 1) from nI_add i 1, nI_clamp (show i + 1 < 2 ^ 31 by omega), if_pos g1, show nI i + 2 = nI (i + 2) from nI_add i 2, nI_clamp (show i + 2 < 2 ^ 31 by omega), if_pos g2, show nI i + 6 = nI (i + 6) from nI_add i 6, e1, e2, q_b4, if_true]
  exact hk _ _ _ _ _ _ _ _ _ _ _ _ _ _ _ _ _ _ _ ⟨⟨n, p, hp⟩, ⟨A, hV, hC, hM⟩, h0, h1, hP⟩
theorem q_case_suspect {N L i : Nat} {xs : Nat → Int32} {mc : Nat → Int64} {k18 : kKt} {pad : VX5} {now : VX3} {fi : VX3} {se : VX3} {li : VX4} {so : VX4} {lo : VX1} {re : VX2} {ru : VX0} {ot : VX0} {le : Nat → Int32} {mp : VMp} {mg : VMg} {ml : VMl} {mq : VMq} {mh : VMh} {ms : VMs} {mr : Nat → Int32} {mi : VMi} (hN : 10001 ≤ N) (hL : L ≤ 3072) (hi : i + 6 ≤ L) (hk : kHk mc k18 i) (hS : kSt mc pad now fi se lo mp mg mi) : fL_law_b687 N L xs mc k18 (nI i) pad now fi se li so lo re ru ot le mp mg ml mq mh ms mr mi = some true := by
  obtain ⟨⟨n, p, hp⟩, ⟨A, hV, hC, hM⟩, h0, h1, hP⟩ := id hS
  obtain ⟨r, li', so', ru', ot', ml', mh', ms', e1, e2⟩ := q_suspect (N := N) (by omega) hV hC hM hP li so ru ot ml mh ms
  unfold fL_law_b687 fL_law_b1002
  simp only [show nI i + 6 = nI (i + 6) from nI_add i 6, e1, e2, q_b4, q_b5, if_true]
  exact hk _ _ _ _ _ _ _ _ _ _ _ _ _ _ _ _ _ _ _ ⟨⟨n, p, hp⟩, ⟨A, hV, hC, hM⟩, h0, h1, hP⟩
theorem q_case_shared {N L i : Nat} {xs : Nat → Int32} {mc : Nat → Int64} {k18 : kKt} {pad : VX5} {now : VX3} {fi : VX3} {se : VX3} {li : VX4} {so : VX4} {lo : VX1} {re : VX2} {ru : VX0} {ot : VX0} {le : Nat → Int32} {mp : VMp} {mg : VMg} {ml : VMl} {mq : VMq} {mh : VMh} {ms : VMs} {mr : Nat → Int32} {mi : VMi} (hN : 10001 ≤ N) (hL : L ≤ 3072) (hi : i + 6 ≤ L) (hk : kHk mc k18 i) (hS : kSt mc pad now fi se lo mp mg mi) : fL_law_b700 N L xs mc k18 (nI i) pad now fi se li so lo re ru ot le mp mg ml mq mh ms mr mi = some true := by
  obtain ⟨⟨n, p, hp⟩, ⟨A, hV, hC, hM⟩, h0, h1, hP⟩ := id hS
  obtain ⟨r, li', so', ru', ml', mh', ms', e1, e2⟩ := q_shared (N := N) (by omega) hV hC hM hP (xs (i + 1)) (xs (i + 2)) li so ru ml mh ms
  unfold fL_law_b700 fL_law_b1002
  have g1 : k_in (nI (i + 1)) L := nI_in (by omega) (by omega)
  have g2 : k_in (nI (i + 2)) L := nI_in (by omega) (by omega)
  simp only [show nI i + 1 = nI (i + 1) from nI_add i 1, nI_clamp (show i + 1 < 2 ^ 31 by omega), if_pos g1, show nI i + 2 = nI (i + 2) from nI_add i 2, nI_clamp (show i + 2 < 2 ^ 31 by omega), if_pos g2, show nI i + 6 = nI (i + 6) from nI_add i 6, e1, e2, q_b4, if_true]
  exact hk _ _ _ _ _ _ _ _ _ _ _ _ _ _ _ _ _ _ _ ⟨⟨n, p, hp⟩, ⟨A, hV, hC, hM⟩, h0, h1, hP⟩
theorem q_case_fine {N L i : Nat} {xs : Nat → Int32} {mc : Nat → Int64} {k18 : kKt} {pad : VX5} {now : VX3} {fi : VX3} {se : VX3} {li : VX4} {so : VX4} {lo : VX1} {re : VX2} {ru : VX0} {ot : VX0} {le : Nat → Int32} {mp : VMp} {mg : VMg} {ml : VMl} {mq : VMq} {mh : VMh} {ms : VMs} {mr : Nat → Int32} {mi : VMi} (hN : 10001 ≤ N) (hL : L ≤ 3072) (hi : i + 6 ≤ L) (hk : kHk mc k18 i) (hS : kSt mc pad now fi se lo mp mg mi) : fL_law_b734 N L xs mc k18 (nI i) pad now fi se li so lo re ru ot le mp mg ml mq mh ms mr mi = some true := by
  obtain ⟨⟨n, p, hp⟩, ⟨A, hV, hC, hM⟩, h0, h1, hP⟩ := id hS
  obtain ⟨r, e1, e2⟩ := q_fine (N := N) hN (xs (i + 1)) (xs (i + 2)) (xs (i + 3))
  unfold fL_law_b734 fL_law_b1002
  have g1 : k_in (nI (i + 1)) L := nI_in (by omega) (by omega)
  have g2 : k_in (nI (i + 2)) L := nI_in (by omega) (by omega)
  have g3 : k_in (nI (i + 3)) L := nI_in (by omega) (by omega)
  simp only [show nI i + 1 = nI (i + 1) from nI_add i 1, nI_clamp (show i + 1 < 2 ^ 31 by omega), if_pos g1, show nI i + 2 = nI (i + 2) from nI_add i 2, nI_clamp (show i + 2 < 2 ^ 31 by omega), if_pos g2, show nI i + 3 = nI (i + 3) from nI_add i 3, nI_clamp (show i + 3 < 2 ^ 31 by omega), if_pos g3, show nI i + 6 = nI (i + 6) from nI_add i 6, e1, e2, q_b1, if_true]
  exact hk _ _ _ _ _ _ _ _ _ _ _ _ _ _ _ _ _ _ _ ⟨⟨n, p, hp⟩, ⟨A, hV, hC, hM⟩, h0, h1, hP⟩
theorem q_case_word {N L i : Nat} {xs : Nat → Int32} {mc : Nat → Int64} {k18 : kKt} {pad : VX5} {now : VX3} {fi : VX3} {se : VX3} {li : VX4} {so : VX4} {lo : VX1} {re : VX2} {ru : VX0} {ot : VX0} {le : Nat → Int32} {mp : VMp} {mg : VMg} {ml : VMl} {mq : VMq} {mh : VMh} {ms : VMs} {mr : Nat → Int32} {mi : VMi} (hN : 10001 ≤ N) (hL : L ≤ 3072) (hi : i + 6 ≤ L) (hk : kHk mc k18 i) (hS : kSt mc pad now fi se lo mp mg mi) : fL_law_b777 N L xs mc k18 (nI i) pad now fi se li so lo re ru ot le mp mg ml mq mh ms mr mi = some true := by
  obtain ⟨⟨n, p, hp⟩, ⟨A, hV, hC, hM⟩, h0, h1, hP⟩ := id hS
  obtain ⟨r, li', ru', ml', e1, e2⟩ := q_word (N := N) (by omega) hV hC hM (xs (i + 1)) (xs (i + 2)) (xs (i + 3)) li ru ml
  unfold fL_law_b777 fL_law_b1002
  have g1 : k_in (nI (i + 1)) L := nI_in (by omega) (by omega)
  have g2 : k_in (nI (i + 2)) L := nI_in (by omega) (by omega)
  have g3 : k_in (nI (i + 3)) L := nI_in (by omega) (by omega)
  simp only [show nI i + 1 = nI (i + 1) from nI_add i 1, nI_clamp (show i + 1 < 2 ^ 31 by omega), if_pos g1, show nI i + 2 = nI (i + 2) from nI_add i 2, nI_clamp (show i + 2 < 2 ^ 31 by omega), if_pos g2, show nI i + 3 = nI (i + 3) from nI_add i 3, nI_clamp (show i + 3 < 2 ^ 31 by omega), if_pos g3, show nI i + 6 = nI (i + 6) from nI_add i 6, e1, e2, q_b2, q_b3, if_true]
  exact hk _ _ _ _ _ _ _ _ _ _ _ _ _ _ _ _ _ _ _ ⟨⟨n, p, hp⟩, ⟨A, hV, hC, hM⟩, h0, h1, hP⟩
theorem q_case_strike {N L i : Nat} {xs : Nat → Int32} {mc : Nat → Int64} {k18 : kKt} {pad : VX5} {now : VX3} {fi : VX3} {se : VX3} {li : VX4} {so : VX4} {lo : VX1} {re : VX2} {ru : VX0} {ot : VX0} {le : Nat → Int32} {mp : VMp} {mg : VMg} {ml : VMl} {mq : VMq} {mh : VMh} {ms : VMs} {mr : Nat → Int32} {mi : VMi} (hN : 10001 ≤ N) (hL : L ≤ 3072) (hi : i + 6 ≤ L) (hk : kHk mc k18 i) (hS : kSt mc pad now fi se lo mp mg mi) : fL_law_b821 N L xs mc k18 (nI i) pad now fi se li so lo re ru ot le mp mg ml mq mh ms mr mi = some true := by
  obtain ⟨⟨n, p, hp⟩, ⟨A, hV, hC, hM⟩, h0, h1, hP⟩ := id hS
  obtain ⟨r, li', so', ml', e1, e2⟩ := q_strike (N := N) (by omega) hV hC hM (xs (i + 1)) li so ml
  unfold fL_law_b821 fL_law_b1002
  have g1 : k_in (nI (i + 1)) L := nI_in (by omega) (by omega)
  simp only [show nI i + 1 = nI (i + 1) from nI_add i 1, nI_clamp (show i + 1 < 2 ^ 31 by omega), if_pos g1, show nI i + 6 = nI (i + 6) from nI_add i 6, e1, e2, q_b2, q_b3, if_true]
  exact hk _ _ _ _ _ _ _ _ _ _ _ _ _ _ _ _ _ _ _ ⟨⟨n, p, hp⟩, ⟨A, hV, hC, hM⟩, h0, h1, hP⟩
theorem q_case_worst {N L i : Nat} {xs : Nat → Int32} {mc : Nat → Int64} {k18 : kKt} {pad : VX5} {now : VX3} {fi : VX3} {se : VX3} {li : VX4} {so : VX4} {lo : VX1} {re : VX2} {ru : VX0} {ot : VX0} {le : Nat → Int32} {mp : VMp} {mg : VMg} {ml : VMl} {mq : VMq} {mh : VMh} {ms : VMs} {mr : Nat → Int32} {mi : VMi} (hN : 10001 ≤ N) (hL : L ≤ 3072) (hi : i + 6 ≤ L) (hk : kHk mc k18 i) (hS : kSt mc pad now fi se lo mp mg mi) : fL_law_b844 N L xs mc k18 (nI i) pad now fi se li so lo re ru ot le mp mg ml mq mh ms mr mi = some true := by
  obtain ⟨⟨n, p, hp⟩, ⟨A, hV, hC, hM⟩, h0, h1, hP⟩ := id hS
  obtain ⟨r, li', so', ml', e1, e2⟩ := q_worst (N := N) (by omega) hV hC hM li so ml
  unfold fL_law_b844 fL_law_b1002
  simp only [show nI i + 6 = nI (i + 6) from nI_add i 6, e1, e2, q_b2, q_b3, if_true]
  exact hk _ _ _ _ _ _ _ _ _ _ _ _ _ _ _ _ _ _ _ ⟨⟨n, p, hp⟩, ⟨A, hV, hC, hM⟩, h0, h1, hP⟩
theorem q_case_against {N L i : Nat} {xs : Nat → Int32} {mc : Nat → Int64} {k18 : kKt} {pad : VX5} {now : VX3} {fi : VX3} {se : VX3} {li : VX4} {so : VX4} {lo : VX1} {re : VX2} {ru : VX0} {ot : VX0} {le : Nat → Int32} {mp : VMp} {mg : VMg} {ml : VMl} {mq : VMq} {mh : VMh} {ms : VMs} {mr : Nat → Int32} {mi : VMi} (hN : 10001 ≤ N) (hL : L ≤ 3072) (hi : i + 6 ≤ L) (hk : kHk mc k18 i) (hS : kSt mc pad now fi se lo mp mg mi) : fL_law_b857 N L xs mc k18 (nI i) pad now fi se li so lo re ru ot le mp mg ml mq mh ms mr mi = some true := by
  obtain ⟨⟨n, p, hp⟩, ⟨A, hV, hC, hM⟩, h0, h1, hP⟩ := id hS
  obtain ⟨r, li', lo', re', ml', mq', e1, e2, kl⟩ := q_against (N := N) (by omega) hV hC hM hP (xs (i + 1)) (xs (i + 2)) li re ml mq
  unfold fL_law_b857 fL_law_b1002
  have g1 : k_in (nI (i + 1)) L := nI_in (by omega) (by omega)
  have g2 : k_in (nI (i + 2)) L := nI_in (by omega) (by omega)
  simp only [show nI i + 1 = nI (i + 1) from nI_add i 1, nI_clamp (show i + 1 < 2 ^ 31 by omega), if_pos g1, show nI i + 2 = nI (i + 2) from nI_add i 2, nI_clamp (show i + 2 < 2 ^ 31 by omega), if_pos g2, show nI i + 6 = nI (i + 6) from nI_add i 6, e1, e2, q_b3, q_b4, if_true]
  exact hk _ _ _ _ _ _ _ _ _ _ _ _ _ _ _ _ _ _ _ ⟨⟨n, p, hp⟩, ⟨A, hV, hC, hM⟩, h0, h1, by rw [kl]; exact hP⟩
theorem q_case_heap {N L i : Nat} {xs : Nat → Int32} {mc : Nat → Int64} {k18 : kKt} {pad : VX5} {now : VX3} {fi : VX3} {se : VX3} {li : VX4} {so : VX4} {lo : VX1} {re : VX2} {ru : VX0} {ot : VX0} {le : Nat → Int32} {mp : VMp} {mg : VMg} {ml : VMl} {mq : VMq} {mh : VMh} {ms : VMs} {mr : Nat → Int32} {mi : VMi} (hN : 10001 ≤ N) (hL : L ≤ 3072) (hi : i + 6 ≤ L) (hk : kHk mc k18 i) (hS : kSt mc pad now fi se lo mp mg mi) : fL_law_b890 N L xs mc k18 (nI i) pad now fi se li so lo re ru ot le mp mg ml mq mh ms mr mi = some true := by
  obtain ⟨⟨n, p, hp⟩, ⟨A, hV, hC, hM⟩, h0, h1, hP⟩ := id hS
  obtain ⟨r, li', so', re', le', ml', mq', mr', e1, e2⟩ := q_heap (N := N) (by omega) hV hC hM (xs (i + 1)) (xs (i + 2)) (xs (i + 3)) li so re le ml mq mr
  unfold fL_law_b890 fL_law_b1002
  have g1 : k_in (nI (i + 1)) L := nI_in (by omega) (by omega)
  have g2 : k_in (nI (i + 2)) L := nI_in (by omega) (by omega)
  have g3 : k_in (nI (i + 3)) L := nI_in (by omega) (by omega)
  simp only [show nI i + 1 = nI (i + 1) from nI_add i 1, nI_clamp (show i + 1 < 2 ^ 31 by omega), if_pos g1, show nI i + 2 = nI (i + 2) from nI_add i 2, nI_clamp (show i + 2 < 2 ^ 31 by omega), if_pos g2, show nI i + 3 = nI (i + 3) from nI_add i 3, nI_clamp (show i + 3 < 2 ^ 31 by omega), if_pos g3, show nI i + 6 = nI (i + 6) from nI_add i 6, e1, e2, q_b4, q_b5, if_true]
  exact hk _ _ _ _ _ _ _ _ _ _ _ _ _ _ _ _ _ _ _ ⟨⟨n, p, hp⟩, ⟨A, hV, hC, hM⟩, h0, h1, hP⟩
theorem q_case_image {N L i : Nat} {xs : Nat → Int32} {mc : Nat → Int64} {k18 : kKt} {pad : VX5} {now : VX3} {fi : VX3} {se : VX3} {li : VX4} {so : VX4} {lo : VX1} {re : VX2} {ru : VX0} {ot : VX0} {le : Nat → Int32} {mp : VMp} {mg : VMg} {ml : VMl} {mq : VMq} {mh : VMh} {ms : VMs} {mr : Nat → Int32} {mi : VMi} (hN : 10001 ≤ N) (hL : L ≤ 3072) (hi : i + 6 ≤ L) (hk : kHk mc k18 i) (hS : kSt mc pad now fi se lo mp mg mi) : fL_law_b933 N L xs mc k18 (nI i) pad now fi se li so lo re ru ot le mp mg ml mq mh ms mr mi = some true := by
  obtain ⟨⟨n, p, hp⟩, ⟨A, hV, hC, hM⟩, h0, h1, hP⟩ := id hS
  obtain ⟨r, fi', se', mi', e1, e2, i0, i1⟩ := q_image (N := N) (by omega) hV hC hM h0 h1 (xs (i + 1))
  unfold fL_law_b933 fL_law_b1002
  have g1 : k_in (nI (i + 1)) L := nI_in (by omega) (by omega)
  simp only [show nI i + 1 = nI (i + 1) from nI_add i 1, nI_clamp (show i + 1 < 2 ^ 31 by omega), if_pos g1, show nI i + 6 = nI (i + 6) from nI_add i 6, e1, e2, q_b2, q_b3, if_true]
  exact hk _ _ _ _ _ _ _ _ _ _ _ _ _ _ _ _ _ _ _ ⟨⟨n, p, hp⟩, ⟨A, hV, hC, hM⟩, i0, i1, hP⟩
theorem q_case_restore {N L i : Nat} {xs : Nat → Int32} {mc : Nat → Int64} {k18 : kKt} {pad : VX5} {now : VX3} {fi : VX3} {se : VX3} {li : VX4} {so : VX4} {lo : VX1} {re : VX2} {ru : VX0} {ot : VX0} {le : Nat → Int32} {mp : VMp} {mg : VMg} {ml : VMl} {mq : VMq} {mh : VMh} {ms : VMs} {mr : Nat → Int32} {mi : VMi} (hN : 10001 ≤ N) (hL : L ≤ 3072) (hi : i + 6 ≤ L) (hk : kHk mc k18 i) (hS : kSt mc pad now fi se lo mp mg mi) : fL_law_b956 N L xs mc k18 (nI i) pad now fi se li so lo re ru ot le mp mg ml mq mh ms mr mi = some true := by
  obtain ⟨⟨n, p, hp⟩, ⟨A, hV, hC, hM⟩, h0, h1, hP⟩ := id hS
  obtain ⟨r, now', mg', e1, e2, ka⟩ := q_restore (N := N) (by omega) hV hC hM h0 h1 (xs (i + 1))
  unfold fL_law_b956 fL_law_b1002
  have g1 : k_in (nI (i + 1)) L := nI_in (by omega) (by omega)
  simp only [show nI i + 1 = nI (i + 1) from nI_add i 1, nI_clamp (show i + 1 < 2 ^ 31 by omega), if_pos g1, show nI i + 6 = nI (i + 6) from nI_add i 6, e1, e2, q_b2, if_true]
  exact hk _ _ _ _ _ _ _ _ _ _ _ _ _ _ _ _ _ _ _ ⟨⟨n, p, hp⟩, ka, h0, h1, hP⟩
theorem q_case_told {N L i : Nat} {xs : Nat → Int32} {mc : Nat → Int64} {k18 : kKt} {pad : VX5} {now : VX3} {fi : VX3} {se : VX3} {li : VX4} {so : VX4} {lo : VX1} {re : VX2} {ru : VX0} {ot : VX0} {le : Nat → Int32} {mp : VMp} {mg : VMg} {ml : VMl} {mq : VMq} {mh : VMh} {ms : VMs} {mr : Nat → Int32} {mi : VMi} (hN : 10001 ≤ N) (hL : L ≤ 3072) (hi : i + 6 ≤ L) (hk : kHk mc k18 i) (hS : kSt mc pad now fi se lo mp mg mi) : fL_law_b979 N L xs mc k18 (nI i) pad now fi se li so lo re ru ot le mp mg ml mq mh ms mr mi = some true := by
  obtain ⟨⟨n, p, hp⟩, ⟨A, hV, hC, hM⟩, h0, h1, hP⟩ := id hS
  obtain ⟨r, e1, e2⟩ := q_told (N := N) hp hV hC hM (q_valid (by omega) hV hM) (xs (i + 1))
  unfold fL_law_b979 fL_law_b1002
  have g1 : k_in (nI (i + 1)) L := nI_in (by omega) (by omega)
  simp only [show nI i + 1 = nI (i + 1) from nI_add i 1, nI_clamp (show i + 1 < 2 ^ 31 by omega), if_pos g1, show nI i + 6 = nI (i + 6) from nI_add i 6, e1, e2, q_b1, if_true]
  exact hk _ _ _ _ _ _ _ _ _ _ _ _ _ _ _ _ _ _ _ ⟨⟨n, p, hp⟩, ⟨A, hV, hC, hM⟩, h0, h1, hP⟩
