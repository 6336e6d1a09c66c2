/-! walks: X6_gatherersWithNames X6_shared X6_fine X6_word X6_lossWithout X6_strike X6_worst -/
set_option maxRecDepth 100000 in
set_option maxHeartbeats 4000000 in
theorem wX6_gatherersWithNames_b20 {D : va_G} {l : Launch} {E : k_E} {N : Nat} {a : Nat → Nat} {k4 : Int32 → Int32 → VX4 → Option (Int32 × VX4)} {v1 : Int32} {v2 : Int32} {pad : VX5} {now : VX3} {fi : VX3} {se : VX3} {li : VX4} {so : VX4} {lo : VX1} {re : VX2} {ru : VX0} {ot : VX0} {le : Nat → Int32} {res : Int32 × VX4} (X : k_X D E cX6_gatherersWithNames RX6 3 4 90) (hk4 : ∀ (v1 : Int32) (v2 : Int32) (so : VX4), k4 v1 v2 so = some res → k_G D l E (pic_X6 D a pad now fi se li so lo re ru ot le) [(0, .ref (a 0)), (1, .int v1), (2, .int v2)] 4 []) (hret : ∀ (pc : Nat) (lv : List (Nat × Value)), decode cX6_gatherersWithNames pc = .ok (.ireturn, 1) → k_G D l E (pic_X6 D a pad now fi se li res.2 lo re ru ot le) lv pc [.int res.1]) (hf : fX6_gatherersWithNames_b20 N now k4 v1 v2 so = some res) : k_G D l E (pic_X6 D a pad now fi se li so lo re ru ot le) [(0, .ref (a 0)), (1, .int v1), (2, .int v2)] 20 [] := by
  unfold fX6_gatherersWithNames_b20 at hf
  refine g_iinc X dX6_gatherersWithNames_20 2 rfl (v := v2 + 1) rfl (by decide) (lv2 := [(2, .int (v2 + 1)), (0, .ref (a 0)), (1, .int v1)]) rfl (n := 23) rfl ?_
  refine g_goto X dX6_gatherersWithNames_23 (n := 4) (by decide) ?_
  refine g_sub [1, 2, 0] (lv' := [(0, .ref (a 0)), (1, .int v1), (2, .int (v2 + 1))]) rfl ?_
  exact hk4 _ _ _ hf
set_option maxRecDepth 100000 in
set_option maxHeartbeats 4000000 in
theorem wX6_gatherersWithNames_b4 {D : va_G} {l : Launch} {E : k_E} {N : Nat} {a : Nat → Nat} {k4 : Int32 → Int32 → VX4 → Option (Int32 × VX4)} {v1 : Int32} {v2 : Int32} {pad : VX5} {now : VX3} {fi : VX3} {se : VX3} {li : VX4} {so : VX4} {lo : VX1} {re : VX2} {ru : VX0} {ot : VX0} {le : Nat → Int32} {res : Int32 × VX4} (X : k_X D E cX6_gatherersWithNames RX6 3 4 90) (hk4 : ∀ (v1 : Int32) (v2 : Int32) (so : VX4), k4 v1 v2 so = some res → k_G D l E (pic_X6 D a pad now fi se li so lo re ru ot le) [(0, .ref (a 0)), (1, .int v1), (2, .int v2)] 4 []) (hret : ∀ (pc : Nat) (lv : List (Nat × Value)), decode cX6_gatherersWithNames pc = .ok (.ireturn, 1) → k_G D l E (pic_X6 D a pad now fi se li res.2 lo re ru ot le) lv pc [.int res.1]) (hf : fX6_gatherersWithNames_b4 N now k4 v1 v2 so = some res) : k_G D l E (pic_X6 D a pad now fi se li so lo re ru ot le) [(0, .ref (a 0)), (1, .int v1), (2, .int v2)] 4 [] := by
  unfold fX6_gatherersWithNames_b4 at hf
  refine g_iload_n X dX6_gatherersWithNames_4 2 rfl rfl (n := 5) rfl ?_
  refine g_iconst X dX6_gatherersWithNames_5 (v := 5) (by decide) (n := 6) rfl ?_
  refine g_icmp_ge X dX6_gatherersWithNames_6 (t := 26) (by decide) (n := 9) rfl (fun c_1 => ?_) (fun c_1 => ?_)
  · replace hf := k_pos c_1 hf
    refine g_iload_n X dX6_gatherersWithNames_26 1 rfl rfl (n := 27) rfl ?_
    obtain rfl := Option.some.inj hf
    exact hret _ _ dX6_gatherersWithNames_27
  · replace hf := k_neg c_1 hf
    refine g_aload_n X dX6_gatherersWithNames_9 0 rfl rfl (n := 10) rfl ?_
    refine g_iload_n X dX6_gatherersWithNames_10 2 rfl rfl (n := 11) rfl ?_
    obtain ⟨x_2, so_3, g_4, hf⟩ := k_b2s hf
    refine g_callV0 X (mX6_hasNames (D := D) (l := l) (a := a) (pad := pad) (fi := fi) (se := se) (li := li) (lo := lo) (re := re) (ru := ru) (ot := ot) (le := le) g_4) lk_X6_hasNames mlX6_227 dX6_gatherersWithNames_11 (n := 14) rfl (st := []) rfl (st2 := [.int (bI x_2)]) rfl rfl rfl rfl (ws2 := pic_X6 D a pad now fi se li so_3 lo re ru ot le) (ad_X6 _ _ _ _ _ _ _ _ _ _ _ _ _ _ _ _ _ _ _ _ _ _ _ _) rfl ⟨Nat.le_of_ble_eq_true rfl, Nat.le_of_ble_eq_true rfl⟩ (Nat.le_of_ble_eq_true rfl) ?_
    refine g_if_eqB X dX6_gatherersWithNames_14 (t := 20) (by decide) (n := 17) rfl (fun c_5 => ?_) (fun c_5 => ?_)
    · replace hf := k_neg c_5 hf
      refine g_sub [0, 1, 2] (lv' := [(0, .ref (a 0)), (1, .int v1), (2, .int v2)]) rfl ?_
      exact wX6_gatherersWithNames_b20 X hk4 hret hf
    · replace hf := k_pos c_5 hf
      refine g_iinc X dX6_gatherersWithNames_17 1 rfl (v := v1 + 1) rfl (by decide) (lv2 := [(1, .int (v1 + 1)), (0, .ref (a 0)), (2, .int v2)]) rfl (n := 20) rfl ?_
      refine g_sub [1, 0, 2] (lv' := [(0, .ref (a 0)), (1, .int (v1 + 1)), (2, .int v2)]) rfl ?_
      exact wX6_gatherersWithNames_b20 X hk4 hret hf
set_option maxRecDepth 100000 in
set_option maxHeartbeats 4000000 in
theorem wX6_gatherersWithNames_l4 {D : va_G} {l : Launch} {E : k_E} {N : Nat} {a : Nat → Nat} {pad : VX5} {now : VX3} {fi : VX3} {se : VX3} {li : VX4} {lo : VX1} {re : VX2} {ru : VX0} {ot : VX0} {le : Nat → Int32} {res : Int32 × VX4} (X : k_X D E cX6_gatherersWithNames RX6 3 4 90) (hret : ∀ (pc : Nat) (lv : List (Nat × Value)), decode cX6_gatherersWithNames pc = .ok (.ireturn, 1) → k_G D l E (pic_X6 D a pad now fi se li res.2 lo re ru ot le) lv pc [.int res.1]) : ∀ (n0 : Nat) (v1 : Int32) (v2 : Int32) (so : VX4), fX6_gatherersWithNames_l4 N now n0 v1 v2 so = some res → k_G D l E (pic_X6 D a pad now fi se li so lo re ru ot le) [(0, .ref (a 0)), (1, .int v1), (2, .int v2)] 4 [] := by
  intro n0
  induction n0 with
  | zero => intro v1 v2 so hf; cases hf
  | succ n0 ih => intro v1 v2 so hf; exact wX6_gatherersWithNames_b4 (N := N) (k4 := fX6_gatherersWithNames_l4 N now n0) X  ih hret hf
set_option maxRecDepth 100000 in
set_option maxHeartbeats 4000000 in
theorem wX6_gatherersWithNames {D : va_G} {l : Launch} {E : k_E} {N : Nat} {a : Nat → Nat} {pad : VX5} {now : VX3} {fi : VX3} {se : VX3} {li : VX4} {so : VX4} {lo : VX1} {re : VX2} {ru : VX0} {ot : VX0} {le : Nat → Int32} {res : Int32 × VX4} (X : k_X D E cX6_gatherersWithNames RX6 3 4 90) (hret : ∀ (pc : Nat) (lv : List (Nat × Value)), decode cX6_gatherersWithNames pc = .ok (.ireturn, 1) → k_G D l E (pic_X6 D a pad now fi se li res.2 lo re ru ot le) lv pc [.int res.1]) (hf : fX6_gatherersWithNames N now so = some res) : k_G D l E (pic_X6 D a pad now fi se li so lo re ru ot le) [(0, .ref (a 0))] 0 [] := by
  unfold fX6_gatherersWithNames at hf
  refine g_iconst X dX6_gatherersWithNames_0 (v := 0) (by decide) (n := 1) rfl ?_
  refine g_istore_n X dX6_gatherersWithNames_1 rfl (by decide) (lv2 := [(1, .int 0), (0, .ref (a 0))]) rfl (n := 2) rfl ?_
  refine g_iconst X dX6_gatherersWithNames_2 (v := 0) (by decide) (n := 3) rfl ?_
  refine g_istore_n X dX6_gatherersWithNames_3 rfl (by decide) (lv2 := [(2, .int 0), (1, .int 0), (0, .ref (a 0))]) rfl (n := 4) rfl ?_
  refine g_sub [2, 1, 0] (lv' := [(0, .ref (a 0)), (1, .int 0), (2, .int 0)]) rfl ?_
  exact wX6_gatherersWithNames_l4 X  hret _ _ _ _ hf
set_option maxRecDepth 100000 in
set_option maxHeartbeats 4000000 in
theorem mX6_gatherersWithNames {l : Launch} {D : va_G} {N : Nat} {a : Nat → Nat} {pad : VX5} {now : VX3} {fi : VX3} {se : VX3} {li : VX4} {so : VX4} {lo : VX1} {re : VX2} {ru : VX0} {ot : VX0} {le : Nat → Int32} {res : Int32 × VX4} (hf : fX6_gatherersWithNames N now so = some res) : k_Met l yX6_gatherersWithNames cX6_gatherersWithNames 3 (some .int) 4 90 D [.ref (a 0)] (pic_X6 D a pad now fi se li so lo re ru ot le) (some (.int res.1)) (pic_X6 D a pad now fi se li res.2 lo re ru ot le) :=
  k_of_i (by decide) (Nat.le_of_ble_eq_true rfl) (fun E X hret => wX6_gatherersWithNames X hret hf)
set_option maxRecDepth 100000 in
set_option maxHeartbeats 4000000 in
theorem wX6_shared {D : va_G} {l : Launch} {E : k_E} {N : Nat} {a : Nat → Nat} {p1 : Int32} {p2 : Int32} {pad : VX5} {now : VX3} {fi : VX3} {se : VX3} {li : VX4} {so : VX4} {lo : VX1} {re : VX2} {ru : VX0} {ot : VX0} {le : Nat → Int32} {res : Int64 × VX4 × VX4 × VX0} (X : k_X D E cX6_shared RX6 5 5 112) (hret : ∀ (pc : Nat) (lv : List (Nat × Value)), decode cX6_shared pc = .ok (.lreturn, 1) → k_G D l E (pic_X6 D a pad now fi se res.2.1 res.2.2.1 lo re res.2.2.2 ot le) lv pc [.long res.1]) (hf : fX6_shared N now lo p1 p2 li so ru = some res) : k_G D l E (pic_X6 D a pad now fi se li so lo re ru ot le) [(0, .ref (a 0)), (1, .int p1), (2, .int p2)] 0 [] := by
  unfold fX6_shared at hf
  refine g_iload_n X dX6_shared_0 1 rfl rfl (n := 1) rfl ?_
  obtain ⟨x_1, g_2, hf⟩ := k_b1s hf
  refine g_callS0 X (mX6_isGatherer (D := D) (l := l)  g_2) lk_X6_isGatherer mlX6_211 dX6_shared_1 (n := 4) rfl (st := []) rfl (st2 := [.int (bI x_1)]) rfl rfl ⟨Nat.le_of_ble_eq_true rfl, Nat.le_of_ble_eq_true rfl⟩ (Nat.le_of_ble_eq_true rfl) ?_
  refine g_if_neB X dX6_shared_4 (t := 11) (by decide) (n := 7) rfl (fun c_3 => ?_) (fun c_3 => ?_)
  · replace hf := k_pos c_3 hf
    refine g_iload_n X dX6_shared_11 2 rfl rfl (n := 12) rfl ?_
    obtain ⟨x_4, g_5, hf⟩ := k_b1s hf
    refine g_callS0 X (mX6_isPart (D := D) (l := l)  g_5) lk_X6_isPart mlX6_147 dX6_shared_12 (n := 15) rfl (st := []) rfl (st2 := [.int (bI x_4)]) rfl rfl ⟨Nat.le_of_ble_eq_true rfl, Nat.le_of_ble_eq_true rfl⟩ (Nat.le_of_ble_eq_true rfl) ?_
    refine g_if_neB X dX6_shared_15 (t := 22) (by decide) (n := 18) rfl (fun c_6 => ?_) (fun c_6 => ?_)
    · replace hf := k_pos c_6 hf
      refine g_aload_n X dX6_shared_22 0 rfl rfl (n := 23) rfl ?_
      obtain ⟨li_7, g_8, hf⟩ := k_b1s hf
      refine g_callV0 X (mX6_readList (D := D) (l := l) (a := a) (pad := pad) (fi := fi) (se := se) (so := so) (lo := lo) (re := re) (ru := ru) (ot := ot) (le := le) g_8) lk_X6_readList mlX6_115 dX6_shared_23 (n := 26) rfl (st := []) rfl (st2 := []) rfl rfl rfl rfl (ws2 := pic_X6 D a pad now fi se li_7 so lo re ru ot le) (ad_X6 _ _ _ _ _ _ _ _ _ _ _ _ _ _ _ _ _ _ _ _ _ _ _ _) rfl ⟨Nat.le_of_ble_eq_true rfl, Nat.le_of_ble_eq_true rfl⟩ (Nat.le_of_ble_eq_true rfl) ?_
      refine g_aload_n X dX6_shared_26 0 rfl rfl (n := 27) rfl ?_
      refine g_iload_n X dX6_shared_27 1 rfl rfl (n := 28) rfl ?_
      refine g_aload_n X dX6_shared_28 0 rfl rfl (n := 29) rfl ?_
      refine g_get X dX6_shared_29 flX6_58 0 rfl (v := .ref (a 31)) rfl (n := 32) rfl ?_
      obtain ⟨so_9, ru_10, g_11, hf⟩ := k_b2s hf
      refine g_callV0 X (mX6_oddsByLot_ru (D := D) (l := l) (a := a) (pad := pad) (fi := fi) (se := se) (re := re) (ot := ot) (le := le) g_11) lk_X6_oddsByLot mlX6_223 dX6_shared_32 (n := 35) rfl (st := []) rfl (st2 := []) rfl rfl rfl rfl (ws2 := pic_X6 D a pad now fi se li_7 so_9 lo re ru_10 ot le) (ad_X6 _ _ _ _ _ _ _ _ _ _ _ _ _ _ _ _ _ _ _ _ _ _ _ _) rfl ⟨Nat.le_of_ble_eq_true rfl, Nat.le_of_ble_eq_true rfl⟩ (Nat.le_of_ble_eq_true rfl) ?_
      refine g_aload_n X dX6_shared_35 0 rfl rfl (n := 36) rfl ?_
      refine g_get X dX6_shared_36 flX6_58 0 rfl (v := .ref (a 31)) rfl (n := 39) rfl ?_
      refine g_getN X dX6_shared_39 flX6_234 31 rfl (v := .long ru_10.1) rfl (n := 42) rfl ?_
      refine g_aload_n X dX6_shared_42 0 rfl rfl (n := 43) rfl ?_
      obtain ⟨x_12, so_13, g_14, hf⟩ := k_b2s hf
      refine g_callV0 X (mX6_gatherersWithNames (D := D) (l := l) (a := a) (pad := pad) (fi := fi) (se := se) (li := li_7) (lo := lo) (re := re) (ru := ru_10) (ot := ot) (le := le) g_14) lk_X6_gatherersWithNames mlX6_239 dX6_shared_43 (n := 46) rfl (st := [.long ru_10.1]) rfl (st2 := [.int x_12, .long ru_10.1]) rfl rfl rfl rfl (ws2 := pic_X6 D a pad now fi se li_7 so_13 lo re ru_10 ot le) (ad_X6 _ _ _ _ _ _ _ _ _ _ _ _ _ _ _ _ _ _ _ _ _ _ _ _) rfl ⟨Nat.le_of_ble_eq_true rfl, Nat.le_of_ble_eq_true rfl⟩ (Nat.le_of_ble_eq_true rfl) ?_
      refine g_i2l X dX6_shared_46 (n := 47) rfl ?_
      refine g_lmul X dX6_shared_47 (n := 48) rfl ?_
      refine g_lstore_n X dX6_shared_48 rfl (by decide) (lv2 := [(3, .long (ru_10.1 * (x_12).toInt64)), (0, .ref (a 0)), (1, .int p1), (2, .int p2)]) rfl (n := 49) rfl ?_
      refine g_aload_n X dX6_shared_49 1 rfl rfl (n := 50) rfl ?_
      refine g_get X dX6_shared_50 flX6_58 0 rfl (v := .ref (a 31)) rfl (n := 53) rfl ?_
      refine g_lload_n X dX6_shared_53 0 rfl rfl (n := 54) rfl ?_
      refine g_aload_n X dX6_shared_54 1 rfl rfl (n := 55) rfl ?_
      refine g_get X dX6_shared_55 flX6_58 0 rfl (v := .ref (a 31)) rfl (n := 58) rfl ?_
      refine g_getN X dX6_shared_58 flX6_237 31 rfl (v := .long ru_10.2) rfl (n := 61) rfl ?_
      refine g_minL X lkM_minL mlX6_242 dX6_shared_61 (n := 64) rfl ⟨Nat.le_of_ble_eq_true rfl, Nat.le_of_ble_eq_true rfl⟩ (Nat.le_of_ble_eq_true rfl) ?_
      refine g_aload_n X dX6_shared_64 1 rfl rfl (n := 65) rfl ?_
      refine g_get X dX6_shared_65 flX6_58 0 rfl (v := .ref (a 31)) rfl (n := 68) rfl ?_
      refine g_getN X dX6_shared_68 flX6_237 31 rfl (v := .long ru_10.2) rfl (n := 71) rfl ?_
      obtain ⟨ru_15, g_16, hf⟩ := k_b1s hf
      refine g_callV X (mX0_become (D := D) (l := l) (a0 := (a 31)) g_16) lk_X0_become mlX6_165 dX6_shared_71 (n := 74) rfl (st := []) rfl (st2 := []) rfl [31] rfl rfl rfl rfl rfl rfl (ws2 := pic_X6 D a pad now fi se li_7 so_13 lo re ru_15 ot le) rfl rfl rfl ⟨Nat.le_of_ble_eq_true rfl, Nat.le_of_ble_eq_true rfl⟩ (Nat.le_of_ble_eq_true rfl) ?_
      refine g_aload_n X dX6_shared_74 1 rfl rfl (n := 75) rfl ?_
      refine g_get X dX6_shared_75 flX6_58 0 rfl (v := .ref (a 31)) rfl (n := 78) rfl ?_
      refine g_iload_n X dX6_shared_78 3 rfl rfl (n := 79) rfl ?_
      obtain ⟨x_17, g_18, hf⟩ := k_b1s hf
      refine g_callV X (mX0_half (D := D) (l := l) (a0 := (a 31)) g_18) lk_X0_half mlX6_168 dX6_shared_79 (n := 82) rfl (st := []) rfl (st2 := [.long x_17]) rfl [31] rfl rfl rfl rfl rfl rfl (ws2 := pic_X6 D a pad now fi se li_7 so_13 lo re ru_15 ot le) rfl rfl rfl ⟨Nat.le_of_ble_eq_true rfl, Nat.le_of_ble_eq_true rfl⟩ (Nat.le_of_ble_eq_true rfl) ?_
      obtain rfl := Option.some.inj hf
      exact hret _ _ dX6_shared_82
    · replace hf := k_neg c_6 hf
      refine g_ldc2 X dX6_shared_18 kcX6_150 (n := 21) rfl ?_
      obtain rfl := Option.some.inj hf
      exact hret _ _ dX6_shared_21
  · replace hf := k_neg c_3 hf
    refine g_ldc2 X dX6_shared_7 kcX6_221 (n := 10) rfl ?_
    obtain rfl := Option.some.inj hf
    exact hret _ _ dX6_shared_10
set_option maxRecDepth 100000 in
set_option maxHeartbeats 4000000 in
theorem mX6_shared {l : Launch} {D : va_G} {N : Nat} {a : Nat → Nat} {p1 : Int32} {p2 : Int32} {pad : VX5} {now : VX3} {fi : VX3} {se : VX3} {li : VX4} {so : VX4} {lo : VX1} {re : VX2} {ru : VX0} {ot : VX0} {le : Nat → Int32} {res : Int64 × VX4 × VX4 × VX0} (hf : fX6_shared N now lo p1 p2 li so ru = some res) : k_Met l yX6_shared cX6_shared 5 (some .long) 5 112 D [.ref (a 0), .int p1, .int p2] (pic_X6 D a pad now fi se li so lo re ru ot le) (some (.long res.1)) (pic_X6 D a pad now fi se res.2.1 res.2.2.1 lo re res.2.2.2 ot le) :=
  k_of_l (by decide) (Nat.le_of_ble_eq_true rfl) (fun E X hret => wX6_shared X hret hf)
set_option maxRecDepth 100000 in
set_option maxHeartbeats 4000000 in
theorem wX6_fine {D : va_G} {l : Launch} {E : k_E} {a : Nat → Nat} {p1 : Int32} {p2 : Int32} {p3 : Int32} {pad : VX5} {now : VX3} {fi : VX3} {se : VX3} {li : VX4} {so : VX4} {lo : VX1} {re : VX2} {ru : VX0} {ot : VX0} {le : Nat → Int32} {res : Int32} (X : k_X D E cX6_fine RX6 5 1 22) (hret : ∀ (pc : Nat) (lv : List (Nat × Value)), decode cX6_fine pc = .ok (.ireturn, 1) → k_G D l E (pic_X6 D a pad now fi se li so lo re ru ot le) lv pc [.int res]) (hf : fX6_fine p1 p2 p3 = some res) : k_G D l E (pic_X6 D a pad now fi se li so lo re ru ot le) [(0, .ref (a 0)), (1, .int p1), (2, .int p2), (3, .int p3)] 0 [] := by
  unfold fX6_fine at hf
  refine g_iload_n X dX6_fine_0 1 rfl rfl (n := 1) rfl ?_
  refine g_iconst X dX6_fine_1 (v := 0) (by decide) (n := 2) rfl ?_
  refine g_sipush X dX6_fine_2 (v := 999) (by decide) (n := 5) rfl ?_
  obtain ⟨x_1, g_2, hf⟩ := k_b1s hf
  refine g_callS0 X (mX6_isWithin (D := D) (l := l)  g_2) lk_X6_isWithin mlX6_69 dX6_fine_5 (n := 8) rfl (st := []) rfl (st2 := [.int (bI x_1)]) rfl rfl ⟨Nat.le_of_ble_eq_true rfl, Nat.le_of_ble_eq_true rfl⟩ (Nat.le_of_ble_eq_true rfl) ?_
  refine g_if_eqB X dX6_fine_8 (t := 32) (by decide) (n := 11) rfl (fun c_3 => ?_) (fun c_3 => ?_)
  · replace hf := k_neg c_3 hf
    refine g_bipush X dX6_fine_32 (v := (-2)) (by decide) (n := 34) rfl ?_
    obtain rfl := Option.some.inj hf
    exact hret _ _ dX6_fine_34
  · replace hf := k_pos c_3 hf
    refine g_iload_n X dX6_fine_11 2 rfl rfl (n := 12) rfl ?_
    refine g_iconst X dX6_fine_12 (v := 0) (by decide) (n := 13) rfl ?_
    refine g_bipush X dX6_fine_13 (v := 10) (by decide) (n := 15) rfl ?_
    obtain ⟨x_4, g_5, hf⟩ := k_b1s hf
    refine g_callS0 X (mX6_isWithin (D := D) (l := l)  g_5) lk_X6_isWithin mlX6_69 dX6_fine_15 (n := 18) rfl (st := []) rfl (st2 := [.int (bI x_4)]) rfl rfl ⟨Nat.le_of_ble_eq_true rfl, Nat.le_of_ble_eq_true rfl⟩ (Nat.le_of_ble_eq_true rfl) ?_
    refine g_if_eqB X dX6_fine_18 (t := 32) (by decide) (n := 21) rfl (fun c_6 => ?_) (fun c_6 => ?_)
    · replace hf := k_neg c_6 hf
      refine g_bipush X dX6_fine_32 (v := (-2)) (by decide) (n := 34) rfl ?_
      obtain rfl := Option.some.inj hf
      exact hret _ _ dX6_fine_34
    · replace hf := k_pos c_6 hf
      refine g_iload_n X dX6_fine_21 3 rfl rfl (n := 22) rfl ?_
      refine g_iconst X dX6_fine_22 (v := 0) (by decide) (n := 23) rfl ?_
      refine g_sipush X dX6_fine_23 (v := 999) (by decide) (n := 26) rfl ?_
      obtain ⟨x_7, g_8, hf⟩ := k_b1s hf
      refine g_callS0 X (mX6_isWithin (D := D) (l := l)  g_8) lk_X6_isWithin mlX6_69 dX6_fine_26 (n := 29) rfl (st := []) rfl (st2 := [.int (bI x_7)]) rfl rfl ⟨Nat.le_of_ble_eq_true rfl, Nat.le_of_ble_eq_true rfl⟩ (Nat.le_of_ble_eq_true rfl) ?_
      refine g_if_neB X dX6_fine_29 (t := 35) (by decide) (n := 32) rfl (fun c_9 => ?_) (fun c_9 => ?_)
      · replace hf := k_pos c_9 hf
        refine g_iload_n X dX6_fine_35 2 rfl rfl (n := 36) rfl ?_
        refine g_if_ne X dX6_fine_36 (t := 50) (by decide) (n := 39) rfl (fun c_10 => ?_) (fun c_10 => ?_)
        · replace hf := k_neg c_10 hf
          refine g_iload_n X dX6_fine_50 3 rfl rfl (n := 51) rfl ?_
          refine g_bipush X dX6_fine_51 (v := 10) (by decide) (n := 53) rfl ?_
          refine g_imul X dX6_fine_53 (n := 54) rfl ?_
          refine g_iload_n X dX6_fine_54 2 rfl rfl (n := 55) rfl ?_
          refine g_iadd X dX6_fine_55 (n := 56) rfl ?_
          refine g_iconst X dX6_fine_56 (v := 1) (by decide) (n := 57) rfl ?_
          refine g_isub X dX6_fine_57 (n := 58) rfl ?_
          refine g_iload_n X dX6_fine_58 2 rfl rfl (n := 59) rfl ?_
          obtain ⟨h_11, hf⟩ := k_guardN hf
          refine g_idiv X dX6_fine_59 h_11 (n := 60) rfl ?_
          refine g_istore X dX6_fine_60 (by decide) (lv2 := [(4, .int ((((p3 * 10) + p2) - 1) / p2)), (0, .ref (a 0)), (1, .int p1), (2, .int p2), (3, .int p3)]) rfl (n := 62) rfl ?_
          refine g_iconst X dX6_fine_62 (v := 0) (by decide) (n := 63) rfl ?_
          refine g_iload X dX6_fine_63 0 rfl (n := 65) rfl ?_
          refine g_iload_n X dX6_fine_65 2 rfl rfl (n := 66) rfl ?_
          refine g_isub X dX6_fine_66 (n := 67) rfl ?_
          refine g_max X lkM_max mlX6_248 dX6_fine_67 (n := 70) rfl ⟨Nat.le_of_ble_eq_true rfl, Nat.le_of_ble_eq_true rfl⟩ (Nat.le_of_ble_eq_true rfl) ?_
          obtain rfl := Option.some.inj hf
          exact hret _ _ dX6_fine_70
        · replace hf := k_pos c_10 hf
          refine g_iload_n X dX6_fine_39 3 rfl rfl (n := 40) rfl ?_
          refine g_if_ne X dX6_fine_40 (t := 47) (by decide) (n := 43) rfl (fun c_12 => ?_) (fun c_12 => ?_)
          · replace hf := k_neg c_12 hf
            refine g_bipush X dX6_fine_47 (v := (-6)) (by decide) (n := 49) rfl ?_
            obtain rfl := Option.some.inj hf
            exact hret _ _ dX6_fine_49
          · replace hf := k_pos c_12 hf
            refine g_iconst X dX6_fine_43 (v := 0) (by decide) (n := 44) rfl ?_
            refine g_goto X dX6_fine_44 (n := 49) (by decide) ?_
            obtain rfl := Option.some.inj hf
            exact hret _ _ dX6_fine_49
      · replace hf := k_neg c_9 hf
        refine g_bipush X dX6_fine_32 (v := (-2)) (by decide) (n := 34) rfl ?_
        obtain rfl := Option.some.inj hf
        exact hret _ _ dX6_fine_34
set_option maxRecDepth 100000 in
set_option maxHeartbeats 4000000 in
theorem mX6_fine {l : Launch} {D : va_G} {a : Nat → Nat} {p1 : Int32} {p2 : Int32} {p3 : Int32} {pad : VX5} {now : VX3} {fi : VX3} {se : VX3} {li : VX4} {so : VX4} {lo : VX1} {re : VX2} {ru : VX0} {ot : VX0} {le : Nat → Int32} {res : Int32} (hf : fX6_fine p1 p2 p3 = some res) : k_Met l yX6_fine cX6_fine 5 (some .int) 1 22 D [.ref (a 0), .int p1, .int p2, .int p3] (pic_X6 D a pad now fi se li so lo re ru ot le) (some (.int res)) (pic_X6 D a pad now fi se li so lo re ru ot le) :=
  k_of_i (by decide) (Nat.le_of_ble_eq_true rfl) (fun E X hret => wX6_fine X hret hf)
set_option maxRecDepth 100000 in
set_option maxHeartbeats 4000000 in
theorem wX6_word {D : va_G} {l : Launch} {E : k_E} {N : Nat} {a : Nat → Nat} {p1 : Int32} {p2 : Int32} {p3 : Int32} {pad : VX5} {now : VX3} {fi : VX3} {se : VX3} {li : VX4} {so : VX4} {lo : VX1} {re : VX2} {ru : VX0} {ot : VX0} {le : Nat → Int32} {res : Int64 × VX4 × VX0} (X : k_X D E cX6_word RX6 6 4 89) (hret : ∀ (pc : Nat) (lv : List (Nat × Value)), decode cX6_word pc = .ok (.lreturn, 1) → k_G D l E (pic_X6 D a pad now fi se res.2.1 so lo re res.2.2 ot le) lv pc [.long res.1]) (hf : fX6_word N now p1 p2 p3 li ru = some res) : k_G D l E (pic_X6 D a pad now fi se li so lo re ru ot le) [(0, .ref (a 0)), (1, .int p1), (2, .int p2), (3, .int p3)] 0 [] := by
  unfold fX6_word at hf
  refine g_iload_n X dX6_word_0 1 rfl rfl (n := 1) rfl ?_
  refine g_iconst X dX6_word_1 (v := 0) (by decide) (n := 2) rfl ?_
  refine g_bipush X dX6_word_2 (v := 10) (by decide) (n := 4) rfl ?_
  obtain ⟨x_1, g_2, hf⟩ := k_b1s hf
  refine g_callS0 X (mX6_isWithin (D := D) (l := l)  g_2) lk_X6_isWithin mlX6_69 dX6_word_4 (n := 7) rfl (st := []) rfl (st2 := [.int (bI x_1)]) rfl rfl ⟨Nat.le_of_ble_eq_true rfl, Nat.le_of_ble_eq_true rfl⟩ (Nat.le_of_ble_eq_true rfl) ?_
  refine g_if_eqB X dX6_word_7 (t := 27) (by decide) (n := 10) rfl (fun c_3 => ?_) (fun c_3 => ?_)
  · replace hf := k_neg c_3 hf
    refine g_ldc2 X dX6_word_27 kcX6_150 (n := 30) rfl ?_
    obtain rfl := Option.some.inj hf
    exact hret _ _ dX6_word_30
  · replace hf := k_pos c_3 hf
    refine g_iload_n X dX6_word_10 2 rfl rfl (n := 11) rfl ?_
    refine g_iconst X dX6_word_11 (v := 0) (by decide) (n := 12) rfl ?_
    refine g_bipush X dX6_word_12 (v := 10) (by decide) (n := 14) rfl ?_
    obtain ⟨x_4, g_5, hf⟩ := k_b1s hf
    refine g_callS0 X (mX6_isWithin (D := D) (l := l)  g_5) lk_X6_isWithin mlX6_69 dX6_word_14 (n := 17) rfl (st := []) rfl (st2 := [.int (bI x_4)]) rfl rfl ⟨Nat.le_of_ble_eq_true rfl, Nat.le_of_ble_eq_true rfl⟩ (Nat.le_of_ble_eq_true rfl) ?_
    refine g_if_eqB X dX6_word_17 (t := 27) (by decide) (n := 20) rfl (fun c_6 => ?_) (fun c_6 => ?_)
    · replace hf := k_neg c_6 hf
      refine g_ldc2 X dX6_word_27 kcX6_150 (n := 30) rfl ?_
      obtain rfl := Option.some.inj hf
      exact hret _ _ dX6_word_30
    · replace hf := k_pos c_6 hf
      refine g_iload_n X dX6_word_20 3 rfl rfl (n := 21) rfl ?_
      obtain ⟨x_7, g_8, hf⟩ := k_b1s hf
      refine g_callS0 X (mX6_isPart (D := D) (l := l)  g_8) lk_X6_isPart mlX6_147 dX6_word_21 (n := 24) rfl (st := []) rfl (st2 := [.int (bI x_7)]) rfl rfl ⟨Nat.le_of_ble_eq_true rfl, Nat.le_of_ble_eq_true rfl⟩ (Nat.le_of_ble_eq_true rfl) ?_
      refine g_if_neB X dX6_word_24 (t := 31) (by decide) (n := 27) rfl (fun c_9 => ?_) (fun c_9 => ?_)
      · replace hf := k_pos c_9 hf
        refine g_aload_n X dX6_word_31 0 rfl rfl (n := 32) rfl ?_
        obtain ⟨li_10, g_11, hf⟩ := k_b1s hf
        refine g_callV0 X (mX6_readList (D := D) (l := l) (a := a) (pad := pad) (fi := fi) (se := se) (so := so) (lo := lo) (re := re) (ru := ru) (ot := ot) (le := le) g_11) lk_X6_readList mlX6_115 dX6_word_32 (n := 35) rfl (st := []) rfl (st2 := []) rfl rfl rfl rfl (ws2 := pic_X6 D a pad now fi se li_10 so lo re ru ot le) (ad_X6 _ _ _ _ _ _ _ _ _ _ _ _ _ _ _ _ _ _ _ _ _ _ _ _) rfl ⟨Nat.le_of_ble_eq_true rfl, Nat.le_of_ble_eq_true rfl⟩ (Nat.le_of_ble_eq_true rfl) ?_
        refine g_aload_n X dX6_word_35 0 rfl rfl (n := 36) rfl ?_
        refine g_get X dX6_word_36 flX6_34 0 rfl (v := .ref (a 21)) rfl (n := 39) rfl ?_
        refine g_getN X dX6_word_39 flX6_118 21 rfl (v := .int li_10.2.1) rfl (n := 42) rfl ?_
        refine g_if_ne X dX6_word_42 (t := 49) (by decide) (n := 45) rfl (fun c_12 => ?_) (fun c_12 => ?_)
        · replace hf := k_neg c_12 hf
          refine g_aload_n X dX6_word_49 0 rfl rfl (n := 50) rfl ?_
          refine g_get X dX6_word_50 flX6_34 0 rfl (v := .ref (a 21)) rfl (n := 53) rfl ?_
          obtain ⟨x_13, g_14, hf⟩ := k_b1s hf
          refine g_callV X (mX4_valid (D := D) (l := l) (a0 := (a 21)) (a1 := (a 22)) g_14) lk_X4_valid mlX6_251 dX6_word_53 (n := 56) rfl (st := []) rfl (st2 := [.int x_13]) rfl [21, 22] rfl rfl rfl rfl rfl rfl (ws2 := pic_X6 D a pad now fi se li_10 so lo re ru ot le) rfl rfl rfl ⟨Nat.le_of_ble_eq_true rfl, Nat.le_of_ble_eq_true rfl⟩ (Nat.le_of_ble_eq_true rfl) ?_
          refine g_i2l X dX6_word_56 (n := 57) rfl ?_
          refine g_iload_n X dX6_word_57 1 rfl rfl (n := 58) rfl ?_
          refine g_i2l X dX6_word_58 (n := 59) rfl ?_
          refine g_lmul X dX6_word_59 (n := 60) rfl ?_
          refine g_lstore X dX6_word_60 (by decide) (lv2 := [(4, .long ((x_13).toInt64 * (p1).toInt64)), (0, .ref (a 0)), (1, .int p1), (2, .int p2), (3, .int p3)]) rfl (n := 62) rfl ?_
          refine g_aload_n X dX6_word_62 1 rfl rfl (n := 63) rfl ?_
          refine g_get X dX6_word_63 flX6_58 0 rfl (v := .ref (a 31)) rfl (n := 66) rfl ?_
          refine g_lload X dX6_word_66 0 rfl (n := 68) rfl ?_
          refine g_lload X dX6_word_68 0 rfl (n := 70) rfl ?_
          refine g_aload_n X dX6_word_70 1 rfl rfl (n := 71) rfl ?_
          refine g_get X dX6_word_71 flX6_34 0 rfl (v := .ref (a 21)) rfl (n := 74) rfl ?_
          refine g_getN X dX6_word_74 flX6_121 21 rfl (v := .int li_10.2.2.1) rfl (n := 77) rfl ?_
          refine g_i2l X dX6_word_77 (n := 78) rfl ?_
          refine g_iload_n X dX6_word_78 3 rfl rfl (n := 79) rfl ?_
          refine g_i2l X dX6_word_79 (n := 80) rfl ?_
          refine g_lmul X dX6_word_80 (n := 81) rfl ?_
          refine g_ladd X dX6_word_81 (n := 82) rfl ?_
          obtain ⟨ru_15, g_16, hf⟩ := k_b1s hf
          refine g_callV X (mX0_become (D := D) (l := l) (a0 := (a 31)) g_16) lk_X0_become mlX6_165 dX6_word_82 (n := 85) rfl (st := []) rfl (st2 := []) rfl [31] rfl rfl rfl rfl rfl rfl (ws2 := pic_X6 D a pad now fi se li_10 so lo re ru_15 ot le) rfl rfl rfl ⟨Nat.le_of_ble_eq_true rfl, Nat.le_of_ble_eq_true rfl⟩ (Nat.le_of_ble_eq_true rfl) ?_
          refine g_aload_n X dX6_word_85 1 rfl rfl (n := 86) rfl ?_
          refine g_get X dX6_word_86 flX6_58 0 rfl (v := .ref (a 31)) rfl (n := 89) rfl ?_
          refine g_iload_n X dX6_word_89 4 rfl rfl (n := 90) rfl ?_
          obtain ⟨x_17, g_18, hf⟩ := k_b1s hf
          refine g_callV X (mX0_half (D := D) (l := l) (a0 := (a 31)) g_18) lk_X0_half mlX6_168 dX6_word_90 (n := 93) rfl (st := []) rfl (st2 := [.long x_17]) rfl [31] rfl rfl rfl rfl rfl rfl (ws2 := pic_X6 D a pad now fi se li_10 so lo re ru_15 ot le) rfl rfl rfl ⟨Nat.le_of_ble_eq_true rfl, Nat.le_of_ble_eq_true rfl⟩ (Nat.le_of_ble_eq_true rfl) ?_
          obtain rfl := Option.some.inj hf
          exact hret _ _ dX6_word_93
        · replace hf := k_pos c_12 hf
          refine g_ldc2 X dX6_word_45 kcX6_156 (n := 48) rfl ?_
          obtain rfl := Option.some.inj hf
          exact hret _ _ dX6_word_48
      · replace hf := k_neg c_9 hf
        refine g_ldc2 X dX6_word_27 kcX6_150 (n := 30) rfl ?_
        obtain rfl := Option.some.inj hf
        exact hret _ _ dX6_word_30
set_option maxRecDepth 100000 in
set_option maxHeartbeats 4000000 in
theorem mX6_word {l : Launch} {D : va_G} {N : Nat} {a : Nat → Nat} {p1 : Int32} {p2 : Int32} {p3 : Int32} {pad : VX5} {now : VX3} {fi : VX3} {se : VX3} {li : VX4} {so : VX4} {lo : VX1} {re : VX2} {ru : VX0} {ot : VX0} {le : Nat → Int32} {res : Int64 × VX4 × VX0} (hf : fX6_word N now p1 p2 p3 li ru = some res) : k_Met l yX6_word cX6_word 6 (some .long) 4 89 D [.ref (a 0), .int p1, .int p2, .int p3] (pic_X6 D a pad now fi se li so lo re ru ot le) (some (.long res.1)) (pic_X6 D a pad now fi se res.2.1 so lo re res.2.2 ot le) :=
  k_of_l (by decide) (Nat.le_of_ble_eq_true rfl) (fun E X hret => wX6_word X hret hf)
set_option maxRecDepth 100000 in
set_option maxHeartbeats 4000000 in
theorem wX6_lossWithout {D : va_G} {l : Launch} {E : k_E} {N : Nat} {a : Nat → Nat} {p1 : Int32} {pad : VX5} {now : VX3} {fi : VX3} {se : VX3} {li : VX4} {so : VX4} {lo : VX1} {re : VX2} {ru : VX0} {ot : VX0} {le : Nat → Int32} {res : Int32 × VX4} (X : k_X D E cX6_lossWithout RX6 2 3 69) (hret : ∀ (pc : Nat) (lv : List (Nat × Value)), decode cX6_lossWithout pc = .ok (.ireturn, 1) → k_G D l E (pic_X6 D a pad now fi se li res.2 lo re ru ot le) lv pc [.int res.1]) (hf : fX6_lossWithout N now li p1 so = some res) : k_G D l E (pic_X6 D a pad now fi se li so lo re ru ot le) [(0, .ref (a 0)), (1, .int p1)] 0 [] := by
  unfold fX6_lossWithout at hf
  refine g_aload_n X dX6_lossWithout_0 0 rfl rfl (n := 1) rfl ?_
  refine g_get X dX6_lossWithout_1 flX6_38 0 rfl (v := .ref (a 23)) rfl (n := 4) rfl ?_
  refine g_aload_n X dX6_lossWithout_4 0 rfl rfl (n := 5) rfl ?_
  refine g_get X dX6_lossWithout_5 flX6_21 0 rfl (v := .ref (a 3)) rfl (n := 8) rfl ?_
  refine g_bipush X dX6_lossWithout_8 (v := 63) (by decide) (n := 10) rfl ?_
  refine g_aload_n X dX6_lossWithout_10 0 rfl rfl (n := 11) rfl ?_
  refine g_get X dX6_lossWithout_11 flX6_21 0 rfl (v := .ref (a 3)) rfl (n := 14) rfl ?_
  refine g_getN X dX6_lossWithout_14 flX6_297 3 rfl (v := .int now.2.2.2.2.1) rfl (n := 17) rfl ?_
  refine g_iconst X dX6_lossWithout_17 (v := (-1)) (by decide) (n := 18) rfl ?_
  refine g_ixor X dX6_lossWithout_18 (n := 19) rfl ?_
  refine g_iand X dX6_lossWithout_19 (n := 20) rfl ?_
  refine g_iconst X dX6_lossWithout_20 (v := 1) (by decide) (n := 21) rfl ?_
  refine g_iload_n X dX6_lossWithout_21 1 rfl rfl (n := 22) rfl ?_
  refine g_ishl X dX6_lossWithout_22 (n := 23) rfl ?_
  refine g_iconst X dX6_lossWithout_23 (v := (-1)) (by decide) (n := 24) rfl ?_
  refine g_ixor X dX6_lossWithout_24 (n := 25) rfl ?_
  refine g_iand X dX6_lossWithout_25 (n := 26) rfl ?_
  obtain ⟨so_1, g_2, hf⟩ := k_b1s hf
  refine g_callV X (mX4_readSheets (D := D) (l := l) (a0 := (a 23)) (a1 := (a 24)) (b0 := (a 3)) (b1 := (a 4)) (b2 := (a 5)) (b3 := (a 6)) (b4 := (a 7)) (b5 := (a 8)) g_2) lk_X4_readSheets mlX6_217 dX6_lossWithout_26 (n := 29) rfl (st := []) rfl (st2 := []) rfl [23, 24, 3, 4, 5, 6, 7, 8] rfl rfl rfl rfl rfl rfl (ws2 := pic_X6 D a pad now fi se li so_1 lo re ru ot le) rfl rfl rfl ⟨Nat.le_of_ble_eq_true rfl, Nat.le_of_ble_eq_true rfl⟩ (Nat.le_of_ble_eq_true rfl) ?_
  refine g_aload_n X dX6_lossWithout_29 0 rfl rfl (n := 30) rfl ?_
  refine g_get X dX6_lossWithout_30 flX6_34 0 rfl (v := .ref (a 21)) rfl (n := 33) rfl ?_
  obtain ⟨x_3, g_4, hf⟩ := k_b1s hf
  refine g_callV X (mX4_good (D := D) (l := l) (a0 := (a 21)) (a1 := (a 22)) g_4) lk_X4_good mlX6_131 dX6_lossWithout_33 (n := 36) rfl (st := []) rfl (st2 := [.int x_3]) rfl [21, 22] rfl rfl rfl rfl rfl rfl (ws2 := pic_X6 D a pad now fi se li so_1 lo re ru ot le) rfl rfl rfl ⟨Nat.le_of_ble_eq_true rfl, Nat.le_of_ble_eq_true rfl⟩ (Nat.le_of_ble_eq_true rfl) ?_
  refine g_aload_n X dX6_lossWithout_36 0 rfl rfl (n := 37) rfl ?_
  refine g_get X dX6_lossWithout_37 flX6_38 0 rfl (v := .ref (a 23)) rfl (n := 40) rfl ?_
  obtain ⟨x_5, g_6, hf⟩ := k_b1s hf
  refine g_callV X (mX4_good (D := D) (l := l) (a0 := (a 23)) (a1 := (a 24)) g_6) lk_X4_good mlX6_131 dX6_lossWithout_40 (n := 43) rfl (st := [.int x_3]) rfl (st2 := [.int x_5, .int x_3]) rfl [23, 24] rfl rfl rfl rfl rfl rfl (ws2 := pic_X6 D a pad now fi se li so_1 lo re ru ot le) rfl rfl rfl ⟨Nat.le_of_ble_eq_true rfl, Nat.le_of_ble_eq_true rfl⟩ (Nat.le_of_ble_eq_true rfl) ?_
  refine g_isub X dX6_lossWithout_43 (n := 44) rfl ?_
  obtain rfl := Option.some.inj hf
  exact hret _ _ dX6_lossWithout_44
set_option maxRecDepth 100000 in
set_option maxHeartbeats 4000000 in
theorem mX6_lossWithout {l : Launch} {D : va_G} {N : Nat} {a : Nat → Nat} {p1 : Int32} {pad : VX5} {now : VX3} {fi : VX3} {se : VX3} {li : VX4} {so : VX4} {lo : VX1} {re : VX2} {ru : VX0} {ot : VX0} {le : Nat → Int32} {res : Int32 × VX4} (hf : fX6_lossWithout N now li p1 so = some res) : k_Met l yX6_lossWithout cX6_lossWithout 2 (some .int) 3 69 D [.ref (a 0), .int p1] (pic_X6 D a pad now fi se li so lo re ru ot le) (some (.int res.1)) (pic_X6 D a pad now fi se li res.2 lo re ru ot le) :=
  k_of_i (by decide) (Nat.le_of_ble_eq_true rfl) (fun E X hret => wX6_lossWithout X hret hf)
set_option maxRecDepth 100000 in
set_option maxHeartbeats 4000000 in
theorem wX6_strike {D : va_G} {l : Launch} {E : k_E} {N : Nat} {a : Nat → Nat} {p1 : Int32} {pad : VX5} {now : VX3} {fi : VX3} {se : VX3} {li : VX4} {so : VX4} {lo : VX1} {re : VX2} {ru : VX0} {ot : VX0} {le : Nat → Int32} {res : Int32 × VX4 × VX4} (X : k_X D E cX6_strike RX6 2 4 90) (hret : ∀ (pc : Nat) (lv : List (Nat × Value)), decode cX6_strike pc = .ok (.ireturn, 1) → k_G D l E (pic_X6 D a pad now fi se res.2.1 res.2.2 lo re ru ot le) lv pc [.int res.1]) (hf : fX6_strike N now p1 li so = some res) : k_G D l E (pic_X6 D a pad now fi se li so lo re ru ot le) [(0, .ref (a 0)), (1, .int p1)] 0 [] := by
  unfold fX6_strike at hf
  refine g_iload_n X dX6_strike_0 1 rfl rfl (n := 1) rfl ?_
  obtain ⟨x_1, g_2, hf⟩ := k_b1s hf
  refine g_callS0 X (mX6_isSheet (D := D) (l := l)  g_2) lk_X6_isSheet mlX6_91 dX6_strike_1 (n := 4) rfl (st := []) rfl (st2 := [.int (bI x_1)]) rfl rfl ⟨Nat.le_of_ble_eq_true rfl, Nat.le_of_ble_eq_true rfl⟩ (Nat.le_of_ble_eq_true rfl) ?_
  refine g_if_neB X dX6_strike_4 (t := 9) (by decide) (n := 7) rfl (fun c_3 => ?_) (fun c_3 => ?_)
  · replace hf := k_pos c_3 hf
    refine g_aload_n X dX6_strike_9 0 rfl rfl (n := 10) rfl ?_
    obtain ⟨li_4, g_5, hf⟩ := k_b1s hf
    refine g_callV0 X (mX6_readList (D := D) (l := l) (a := a) (pad := pad) (fi := fi) (se := se) (so := so) (lo := lo) (re := re) (ru := ru) (ot := ot) (le := le) g_5) lk_X6_readList mlX6_115 dX6_strike_10 (n := 13) rfl (st := []) rfl (st2 := []) rfl rfl rfl rfl (ws2 := pic_X6 D a pad now fi se li_4 so lo re ru ot le) (ad_X6 _ _ _ _ _ _ _ _ _ _ _ _ _ _ _ _ _ _ _ _ _ _ _ _) rfl ⟨Nat.le_of_ble_eq_true rfl, Nat.le_of_ble_eq_true rfl⟩ (Nat.le_of_ble_eq_true rfl) ?_
    refine g_aload_n X dX6_strike_13 0 rfl rfl (n := 14) rfl ?_
    refine g_get X dX6_strike_14 flX6_34 0 rfl (v := .ref (a 21)) rfl (n := 17) rfl ?_
    refine g_getN X dX6_strike_17 flX6_124 21 rfl (v := .int (bI li_4.2.2.2.2.2.2)) rfl (n := 20) rfl ?_
    refine g_if_neB X dX6_strike_20 (t := 34) (by decide) (n := 23) rfl (fun c_6 => ?_) (fun c_6 => ?_)
    · replace hf := k_pos c_6 hf
      refine g_bipush X dX6_strike_34 (v := (-3)) (by decide) (n := 36) rfl ?_
      obtain rfl := Option.some.inj hf
      exact hret _ _ dX6_strike_36
    · replace hf := k_neg c_6 hf
      refine g_aload_n X dX6_strike_23 0 rfl rfl (n := 24) rfl ?_
      refine g_get X dX6_strike_24 flX6_21 0 rfl (v := .ref (a 3)) rfl (n := 27) rfl ?_
      refine g_iload_n X dX6_strike_27 1 rfl rfl (n := 28) rfl ?_
      obtain ⟨x_7, g_8, hf⟩ := k_b1s hf
      refine g_callV X (mX3_isStruck (D := D) (l := l) (a0 := (a 3)) (a1 := (a 4)) (a2 := (a 5)) (a3 := (a 6)) (a4 := (a 7)) (a5 := (a 8)) g_8) lk_X3_isStruck mlX6_254 dX6_strike_28 (n := 31) rfl (st := []) rfl (st2 := [.int (bI x_7)]) rfl [3, 4, 5, 6, 7, 8] rfl rfl rfl rfl rfl rfl (ws2 := pic_X6 D a pad now fi se li_4 so lo re ru ot le) rfl rfl rfl ⟨Nat.le_of_ble_eq_true rfl, Nat.le_of_ble_eq_true rfl⟩ (Nat.le_of_ble_eq_true rfl) ?_
      refine g_if_eqB X dX6_strike_31 (t := 37) (by decide) (n := 34) rfl (fun c_9 => ?_) (fun c_9 => ?_)
      · replace hf := k_neg c_9 hf
        refine g_aload_n X dX6_strike_37 0 rfl rfl (n := 38) rfl ?_
        refine g_iload_n X dX6_strike_38 1 rfl rfl (n := 39) rfl ?_
        obtain ⟨x_10, so_11, g_12, hf⟩ := k_b2s hf
        refine g_callV0 X (mX6_lossWithout (D := D) (l := l) (a := a) (pad := pad) (fi := fi) (se := se) (lo := lo) (re := re) (ru := ru) (ot := ot) (le := le) g_12) lk_X6_lossWithout mlX6_257 dX6_strike_39 (n := 42) rfl (st := []) rfl (st2 := [.int x_10]) rfl rfl rfl rfl (ws2 := pic_X6 D a pad now fi se li_4 so_11 lo re ru ot le) (ad_X6 _ _ _ _ _ _ _ _ _ _ _ _ _ _ _ _ _ _ _ _ _ _ _ _) rfl ⟨Nat.le_of_ble_eq_true rfl, Nat.le_of_ble_eq_true rfl⟩ (Nat.le_of_ble_eq_true rfl) ?_
        obtain rfl := Option.some.inj hf
        exact hret _ _ dX6_strike_42
      · replace hf := k_pos c_9 hf
        refine g_bipush X dX6_strike_34 (v := (-3)) (by decide) (n := 36) rfl ?_
        obtain rfl := Option.some.inj hf
        exact hret _ _ dX6_strike_36
  · replace hf := k_neg c_3 hf
    refine g_iconst X dX6_strike_7 (v := (-1)) (by decide) (n := 8) rfl ?_
    obtain rfl := Option.some.inj hf
    exact hret _ _ dX6_strike_8
set_option maxRecDepth 100000 in
set_option maxHeartbeats 4000000 in
theorem mX6_strike {l : Launch} {D : va_G} {N : Nat} {a : Nat → Nat} {p1 : Int32} {pad : VX5} {now : VX3} {fi : VX3} {se : VX3} {li : VX4} {so : VX4} {lo : VX1} {re : VX2} {ru : VX0} {ot : VX0} {le : Nat → Int32} {res : Int32 × VX4 × VX4} (hf : fX6_strike N now p1 li so = some res) : k_Met l yX6_strike cX6_strike 2 (some .int) 4 90 D [.ref (a 0), .int p1] (pic_X6 D a pad now fi se li so lo re ru ot le) (some (.int res.1)) (pic_X6 D a pad now fi se res.2.1 res.2.2 lo re ru ot le) :=
  k_of_i (by decide) (Nat.le_of_ble_eq_true rfl) (fun E X hret => wX6_strike X hret hf)
set_option maxRecDepth 100000 in
set_option maxHeartbeats 4000000 in
theorem wX6_worst_b63 {D : va_G} {l : Launch} {E : k_E} {N : Nat} {a : Nat → Nat} {k24 : Int32 → Int32 → Int32 → VX4 → VX4 → Option (Int32 × VX4 × VX4)} {v1 : Int32} {v2 : Int32} {v3 : Int32} {pad : VX5} {now : VX3} {fi : VX3} {se : VX3} {li : VX4} {so : VX4} {lo : VX1} {re : VX2} {ru : VX0} {ot : VX0} {le : Nat → Int32} {res : Int32 × VX4 × VX4} (X : k_X D E cX6_worst RX6 5 4 90) (hk24 : ∀ (v1 : Int32) (v2 : Int32) (v3 : Int32) (li : VX4) (so : VX4), k24 v1 v2 v3 li so = some res → k_G D l E (pic_X6 D a pad now fi se li so lo re ru ot le) [(0, .ref (a 0)), (1, .int v1), (2, .int v2), (3, .int v3)] 24 []) (hret : ∀ (pc : Nat) (lv : List (Nat × Value)), decode cX6_worst pc = .ok (.ireturn, 1) → k_G D l E (pic_X6 D a pad now fi se res.2.1 res.2.2 lo re ru ot le) lv pc [.int res.1]) (hf : fX6_worst_b63 N now k24 v1 v2 v3 li so = some res) : k_G D l E (pic_X6 D a pad now fi se li so lo re ru ot le) [(0, .ref (a 0)), (1, .int v1), (2, .int v2), (3, .int v3)] 63 [] := by
  unfold fX6_worst_b63 at hf
  refine g_iinc X dX6_worst_63 3 rfl (v := v3 + 1) rfl (by decide) (lv2 := [(3, .int (v3 + 1)), (0, .ref (a 0)), (1, .int v1), (2, .int v2)]) rfl (n := 66) rfl ?_
  refine g_goto X dX6_worst_66 (n := 24) (by decide) ?_
  refine g_sub [1, 2, 3, 0] (lv' := [(0, .ref (a 0)), (1, .int v1), (2, .int v2), (3, .int (v3 + 1))]) rfl ?_
  exact hk24 _ _ _ _ _ hf
set_option maxRecDepth 100000 in
set_option maxHeartbeats 4000000 in
theorem wX6_worst_b50 {D : va_G} {l : Launch} {E : k_E} {N : Nat} {a : Nat → Nat} {k24 : Int32 → Int32 → Int32 → VX4 → VX4 → Option (Int32 × VX4 × VX4)} {v1 : Int32} {v2 : Int32} {v3 : Int32} {s0 : Int32} {pad : VX5} {now : VX3} {fi : VX3} {se : VX3} {li : VX4} {so : VX4} {lo : VX1} {re : VX2} {ru : VX0} {ot : VX0} {le : Nat → Int32} {res : Int32 × VX4 × VX4} (X : k_X D E cX6_worst RX6 5 4 90) (hk24 : ∀ (v1 : Int32) (v2 : Int32) (v3 : Int32) (li : VX4) (so : VX4), k24 v1 v2 v3 li so = some res → k_G D l E (pic_X6 D a pad now fi se li so lo re ru ot le) [(0, .ref (a 0)), (1, .int v1), (2, .int v2), (3, .int v3)] 24 []) (hret : ∀ (pc : Nat) (lv : List (Nat × Value)), decode cX6_worst pc = .ok (.ireturn, 1) → k_G D l E (pic_X6 D a pad now fi se res.2.1 res.2.2 lo re ru ot le) lv pc [.int res.1]) (hf : fX6_worst_b50 N now k24 v1 v2 v3 s0 li so = some res) : k_G D l E (pic_X6 D a pad now fi se li so lo re ru ot le) [(0, .ref (a 0)), (1, .int v1), (2, .int v2), (3, .int v3)] 50 [.int s0] := by
  unfold fX6_worst_b50 at hf
  refine g_istore X dX6_worst_50 (by decide) (lv2 := [(4, .int s0), (0, .ref (a 0)), (1, .int v1), (2, .int v2), (3, .int v3)]) rfl (n := 52) rfl ?_
  refine g_iload X dX6_worst_52 0 rfl (n := 54) rfl ?_
  refine g_iload_n X dX6_worst_54 3 rfl rfl (n := 55) rfl ?_
  refine g_icmp_le X dX6_worst_55 (t := 63) (by decide) (n := 58) rfl (fun c_1 => ?_) (fun c_1 => ?_)
  · replace hf := k_pos c_1 hf
    refine g_sub [1, 2, 3, 4] (lv' := [(0, .ref (a 0)), (1, .int v1), (2, .int v2), (3, .int v3)]) rfl ?_
    exact wX6_worst_b63 X hk24 hret hf
  · replace hf := k_neg c_1 hf
    refine g_iload X dX6_worst_58 0 rfl (n := 60) rfl ?_
    refine g_istore_n X dX6_worst_60 rfl (by decide) (lv2 := [(2, .int s0), (4, .int s0), (0, .ref (a 0)), (1, .int v1), (3, .int v3)]) rfl (n := 61) rfl ?_
    refine g_iload_n X dX6_worst_61 4 rfl rfl (n := 62) rfl ?_
    refine g_istore_n X dX6_worst_62 rfl (by decide) (lv2 := [(1, .int v3), (2, .int s0), (4, .int s0), (0, .ref (a 0)), (3, .int v3)]) rfl (n := 63) rfl ?_
    refine g_sub [3, 0, 1, 4] (lv' := [(0, .ref (a 0)), (1, .int v3), (2, .int s0), (3, .int v3)]) rfl ?_
    exact wX6_worst_b63 X hk24 hret hf
set_option maxRecDepth 100000 in
set_option maxHeartbeats 4000000 in
theorem wX6_worst_b24 {D : va_G} {l : Launch} {E : k_E} {N : Nat} {a : Nat → Nat} {k24 : Int32 → Int32 → Int32 → VX4 → VX4 → Option (Int32 × VX4 × VX4)} {v1 : Int32} {v2 : Int32} {v3 : Int32} {pad : VX5} {now : VX3} {fi : VX3} {se : VX3} {li : VX4} {so : VX4} {lo : VX1} {re : VX2} {ru : VX0} {ot : VX0} {le : Nat → Int32} {res : Int32 × VX4 × VX4} (X : k_X D E cX6_worst RX6 5 4 90) (hk24 : ∀ (v1 : Int32) (v2 : Int32) (v3 : Int32) (li : VX4) (so : VX4), k24 v1 v2 v3 li so = some res → k_G D l E (pic_X6 D a pad now fi se li so lo re ru ot le) [(0, .ref (a 0)), (1, .int v1), (2, .int v2), (3, .int v3)] 24 []) (hret : ∀ (pc : Nat) (lv : List (Nat × Value)), decode cX6_worst pc = .ok (.ireturn, 1) → k_G D l E (pic_X6 D a pad now fi se res.2.1 res.2.2 lo re ru ot le) lv pc [.int res.1]) (hf : fX6_worst_b24 N now k24 v1 v2 v3 li so = some res) : k_G D l E (pic_X6 D a pad now fi se li so lo re ru ot le) [(0, .ref (a 0)), (1, .int v1), (2, .int v2), (3, .int v3)] 24 [] := by
  unfold fX6_worst_b24 at hf
  refine g_iload_n X dX6_worst_24 3 rfl rfl (n := 25) rfl ?_
  refine g_bipush X dX6_worst_25 (v := 6) (by decide) (n := 27) rfl ?_
  refine g_icmp_ge X dX6_worst_27 (t := 69) (by decide) (n := 30) rfl (fun c_1 => ?_) (fun c_1 => ?_)
  · replace hf := k_pos c_1 hf
    refine g_iload_n X dX6_worst_69 1 rfl rfl (n := 70) rfl ?_
    obtain rfl := Option.some.inj hf
    exact hret _ _ dX6_worst_70
  · replace hf := k_neg c_1 hf
    refine g_aload_n X dX6_worst_30 0 rfl rfl (n := 31) rfl ?_
    refine g_get X dX6_worst_31 flX6_21 0 rfl (v := .ref (a 3)) rfl (n := 34) rfl ?_
    refine g_iload_n X dX6_worst_34 3 rfl rfl (n := 35) rfl ?_
    obtain ⟨x_2, g_3, hf⟩ := k_b1s hf
    refine g_callV X (mX3_isStruck (D := D) (l := l) (a0 := (a 3)) (a1 := (a 4)) (a2 := (a 5)) (a3 := (a 6)) (a4 := (a 7)) (a5 := (a 8)) g_3) lk_X3_isStruck mlX6_254 dX6_worst_35 (n := 38) rfl (st := []) rfl (st2 := [.int (bI x_2)]) rfl [3, 4, 5, 6, 7, 8] rfl rfl rfl rfl rfl rfl (ws2 := pic_X6 D a pad now fi se li so lo re ru ot le) rfl rfl rfl ⟨Nat.le_of_ble_eq_true rfl, Nat.le_of_ble_eq_true rfl⟩ (Nat.le_of_ble_eq_true rfl) ?_
    refine g_if_eqB X dX6_worst_38 (t := 45) (by decide) (n := 41) rfl (fun c_4 => ?_) (fun c_4 => ?_)
    · replace hf := k_neg c_4 hf
      refine g_aload_n X dX6_worst_45 0 rfl rfl (n := 46) rfl ?_
      refine g_iload_n X dX6_worst_46 3 rfl rfl (n := 47) rfl ?_
      obtain ⟨x_5, so_6, g_7, hf⟩ := k_b2s hf
      refine g_callV0 X (mX6_lossWithout (D := D) (l := l) (a := a) (pad := pad) (fi := fi) (se := se) (lo := lo) (re := re) (ru := ru) (ot := ot) (le := le) g_7) lk_X6_lossWithout mlX6_257 dX6_worst_47 (n := 50) rfl (st := []) rfl (st2 := [.int x_5]) rfl rfl rfl rfl (ws2 := pic_X6 D a pad now fi se li so_6 lo re ru ot le) (ad_X6 _ _ _ _ _ _ _ _ _ _ _ _ _ _ _ _ _ _ _ _ _ _ _ _) rfl ⟨Nat.le_of_ble_eq_true rfl, Nat.le_of_ble_eq_true rfl⟩ (Nat.le_of_ble_eq_true rfl) ?_
      refine g_sub [0, 1, 2, 3] (lv' := [(0, .ref (a 0)), (1, .int v1), (2, .int v2), (3, .int v3)]) rfl ?_
      exact wX6_worst_b50 X hk24 hret hf
    · replace hf := k_pos c_4 hf
      refine g_iconst X dX6_worst_41 (v := (-1)) (by decide) (n := 42) rfl ?_
      refine g_goto X dX6_worst_42 (n := 50) (by decide) ?_
      refine g_sub [0, 1, 2, 3] (lv' := [(0, .ref (a 0)), (1, .int v1), (2, .int v2), (3, .int v3)]) rfl ?_
      exact wX6_worst_b50 X hk24 hret hf
set_option maxRecDepth 100000 in
set_option maxHeartbeats 4000000 in
theorem wX6_worst_l24 {D : va_G} {l : Launch} {E : k_E} {N : Nat} {a : Nat → Nat} {pad : VX5} {now : VX3} {fi : VX3} {se : VX3} {lo : VX1} {re : VX2} {ru : VX0} {ot : VX0} {le : Nat → Int32} {res : Int32 × VX4 × VX4} (X : k_X D E cX6_worst RX6 5 4 90) (hret : ∀ (pc : Nat) (lv : List (Nat × Value)), decode cX6_worst pc = .ok (.ireturn, 1) → k_G D l E (pic_X6 D a pad now fi se res.2.1 res.2.2 lo re ru ot le) lv pc [.int res.1]) : ∀ (n0 : Nat) (v1 : Int32) (v2 : Int32) (v3 : Int32) (li : VX4) (so : VX4), fX6_worst_l24 N now n0 v1 v2 v3 li so = some res → k_G D l E (pic_X6 D a pad now fi se li so lo re ru ot le) [(0, .ref (a 0)), (1, .int v1), (2, .int v2), (3, .int v3)] 24 [] := by
  intro n0
  induction n0 with
  | zero => intro v1 v2 v3 li so hf; cases hf
  | succ n0 ih => intro v1 v2 v3 li so hf; exact wX6_worst_b24 (N := N) (k24 := fX6_worst_l24 N now n0) X  ih hret hf
set_option maxRecDepth 100000 in
set_option maxHeartbeats 4000000 in
theorem wX6_worst {D : va_G} {l : Launch} {E : k_E} {N : Nat} {a : Nat → Nat} {pad : VX5} {now : VX3} {fi : VX3} {se : VX3} {li : VX4} {so : VX4} {lo : VX1} {re : VX2} {ru : VX0} {ot : VX0} {le : Nat → Int32} {res : Int32 × VX4 × VX4} (X : k_X D E cX6_worst RX6 5 4 90) (hret : ∀ (pc : Nat) (lv : List (Nat × Value)), decode cX6_worst pc = .ok (.ireturn, 1) → k_G D l E (pic_X6 D a pad now fi se res.2.1 res.2.2 lo re ru ot le) lv pc [.int res.1]) (hf : fX6_worst N now li so = some res) : k_G D l E (pic_X6 D a pad now fi se li so lo re ru ot le) [(0, .ref (a 0))] 0 [] := by
  unfold fX6_worst at hf
  refine g_aload_n X dX6_worst_0 0 rfl rfl (n := 1) rfl ?_
  obtain ⟨li_1, g_2, hf⟩ := k_b1s hf
  refine g_callV0 X (mX6_readList (D := D) (l := l) (a := a) (pad := pad) (fi := fi) (se := se) (so := so) (lo := lo) (re := re) (ru := ru) (ot := ot) (le := le) g_2) lk_X6_readList mlX6_115 dX6_worst_1 (n := 4) rfl (st := []) rfl (st2 := []) rfl rfl rfl rfl (ws2 := pic_X6 D a pad now fi se li_1 so lo re ru ot le) (ad_X6 _ _ _ _ _ _ _ _ _ _ _ _ _ _ _ _ _ _ _ _ _ _ _ _) rfl ⟨Nat.le_of_ble_eq_true rfl, Nat.le_of_ble_eq_true rfl⟩ (Nat.le_of_ble_eq_true rfl) ?_
  refine g_aload_n X dX6_worst_4 0 rfl rfl (n := 5) rfl ?_
  refine g_get X dX6_worst_5 flX6_34 0 rfl (v := .ref (a 21)) rfl (n := 8) rfl ?_
  refine g_getN X dX6_worst_8 flX6_124 21 rfl (v := .int (bI li_1.2.2.2.2.2.2)) rfl (n := 11) rfl ?_
  refine g_if_eqB X dX6_worst_11 (t := 17) (by decide) (n := 14) rfl (fun c_3 => ?_) (fun c_3 => ?_)
  · replace hf := k_neg c_3 hf
    refine g_bipush X dX6_worst_17 (v := (-6)) (by decide) (n := 19) rfl ?_
    refine g_istore_n X dX6_worst_19 rfl (by decide) (lv2 := [(1, .int (-6)), (0, .ref (a 0))]) rfl (n := 20) rfl ?_
    refine g_iconst X dX6_worst_20 (v := (-1)) (by decide) (n := 21) rfl ?_
    refine g_istore_n X dX6_worst_21 rfl (by decide) (lv2 := [(2, .int (-1)), (1, .int (-6)), (0, .ref (a 0))]) rfl (n := 22) rfl ?_
    refine g_iconst X dX6_worst_22 (v := 0) (by decide) (n := 23) rfl ?_
    refine g_istore_n X dX6_worst_23 rfl (by decide) (lv2 := [(3, .int 0), (2, .int (-1)), (1, .int (-6)), (0, .ref (a 0))]) rfl (n := 24) rfl ?_
    refine g_sub [3, 2, 1, 0] (lv' := [(0, .ref (a 0)), (1, .int (-6)), (2, .int (-1)), (3, .int 0)]) rfl ?_
    exact wX6_worst_l24 X  hret _ _ _ _ _ _ hf
  · replace hf := k_pos c_3 hf
    refine g_bipush X dX6_worst_14 (v := (-3)) (by decide) (n := 16) rfl ?_
    obtain rfl := Option.some.inj hf
    exact hret _ _ dX6_worst_16
set_option maxRecDepth 100000 in
set_option maxHeartbeats 4000000 in
theorem mX6_worst {l : Launch} {D : va_G} {N : Nat} {a : Nat → Nat} {pad : VX5} {now : VX3} {fi : VX3} {se : VX3} {li : VX4} {so : VX4} {lo : VX1} {re : VX2} {ru : VX0} {ot : VX0} {le : Nat → Int32} {res : Int32 × VX4 × VX4} (hf : fX6_worst N now li so = some res) : k_Met l yX6_worst cX6_worst 5 (some .int) 4 90 D [.ref (a 0)] (pic_X6 D a pad now fi se li so lo re ru ot le) (some (.int res.1)) (pic_X6 D a pad now fi se res.2.1 res.2.2 lo re ru ot le) :=
  k_of_i (by decide) (Nat.le_of_ble_eq_true rfl) (fun E X hret => wX6_worst X hret hf)
