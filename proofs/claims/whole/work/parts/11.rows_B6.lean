/-! walks: X6_someSaysYes X6_sheetWaysToYes X6_bySheets X6_waysToBeWrong X6_wrong X6_thousandths X6_enough X6_worth -/
set_option maxRecDepth 100000 in
set_option maxHeartbeats 4000000 in
theorem wX6_someSaysYes {D : va_G} {l : Launch} {E : k_E} {N : Nat} {a : Nat → Nat} {pad : VX5} {now : VX3} {fi : VX3} {se : VX3} {li : VX4} {so : VX4} {lo : VX1} {re : VX2} {ru : VX0} {ot : VX0} {le : Nat → Int32} {res : Bool × VX2} (X : k_X D E cX6_someSaysYes RX6 1 4 109) (hret : ∀ (pc : Nat) (lv : List (Nat × Value)), decode cX6_someSaysYes pc = .ok (.ireturn, 1) → k_G D l E (pic_X6 D a pad now fi se li so lo res.2 ru ot le) lv pc [.int (bI res.1)]) (hf : fX6_someSaysYes N now li so re = some res) : k_G D l E (pic_X6 D a pad now fi se li so lo re ru ot le) [(0, .ref (a 0))] 0 [] := by
  unfold fX6_someSaysYes at hf
  refine g_aload_n X dX6_someSaysYes_0 0 rfl rfl (n := 1) rfl ?_
  refine g_get X dX6_someSaysYes_1 flX6_51 0 rfl (v := .ref (a 28)) rfl (n := 4) rfl ?_
  refine g_aload_n X dX6_someSaysYes_4 0 rfl rfl (n := 5) rfl ?_
  refine g_get X dX6_someSaysYes_5 flX6_21 0 rfl (v := .ref (a 3)) rfl (n := 8) rfl ?_
  refine g_aload_n X dX6_someSaysYes_8 0 rfl rfl (n := 9) rfl ?_
  refine g_get X dX6_someSaysYes_9 flX6_34 0 rfl (v := .ref (a 21)) rfl (n := 12) rfl ?_
  refine g_getN X dX6_someSaysYes_12 flX6_118 21 rfl (v := .int li.2.1) rfl (n := 15) rfl ?_
  refine g_aload_n X dX6_someSaysYes_15 0 rfl rfl (n := 16) rfl ?_
  refine g_get X dX6_someSaysYes_16 flX6_38 0 rfl (v := .ref (a 23)) rfl (n := 19) rfl ?_
  refine g_getN X dX6_someSaysYes_19 flX6_118 23 rfl (v := .int so.2.1) rfl (n := 22) rfl ?_
  refine g_aload_n X dX6_someSaysYes_22 0 rfl rfl (n := 23) rfl ?_
  refine g_get X dX6_someSaysYes_23 flX6_38 0 rfl (v := .ref (a 23)) rfl (n := 26) rfl ?_
  obtain ⟨x_1, g_2, hf⟩ := k_b1s hf
  refine g_callV X (mX4_valid (D := D) (l := l) (a0 := (a 23)) (a1 := (a 24)) g_2) lk_X4_valid mlX6_251 dX6_someSaysYes_26 (n := 29) rfl (st := [.int so.2.1, .int li.2.1, .ref (a 3), .ref (a 28)]) rfl (st2 := [.int x_1, .int so.2.1, .int li.2.1, .ref (a 3), .ref (a 28)]) rfl [23, 24] rfl rfl rfl rfl rfl rfl (ws2 := pic_X6 D a pad now fi se li so lo re ru ot le) rfl rfl rfl ⟨Nat.le_of_ble_eq_true rfl, Nat.le_of_ble_eq_true rfl⟩ (Nat.le_of_ble_eq_true rfl) ?_
  refine g_aload_n X dX6_someSaysYes_29 0 rfl rfl (n := 30) rfl ?_
  refine g_get X dX6_someSaysYes_30 flX6_38 0 rfl (v := .ref (a 23)) rfl (n := 33) rfl ?_
  refine g_getN X dX6_someSaysYes_33 flX6_128 23 rfl (v := .int so.2.2.2.2.2.1) rfl (n := 36) rfl ?_
  obtain ⟨x_3, re_4, g_5, hf⟩ := k_b2s hf
  refine g_callV X (mX2_reachesNeed (D := D) (l := l) (a0 := (a 28)) (a1 := (a 29)) (a2 := (a 30)) (b0 := (a 3)) (b1 := (a 4)) (b2 := (a 5)) (b3 := (a 6)) (b4 := (a 7)) (b5 := (a 8)) g_5) lk_X2_reachesNeed mlX6_321 dX6_someSaysYes_36 (n := 39) rfl (st := []) rfl (st2 := [.int (bI x_3)]) rfl [28, 29, 30, 3, 4, 5, 6, 7, 8] rfl rfl rfl rfl rfl rfl (ws2 := pic_X6 D a pad now fi se li so lo re_4 ru ot le) rfl rfl rfl ⟨Nat.le_of_ble_eq_true rfl, Nat.le_of_ble_eq_true rfl⟩ (Nat.le_of_ble_eq_true rfl) ?_
  obtain rfl := Option.some.inj hf
  exact hret _ _ dX6_someSaysYes_39
set_option maxRecDepth 100000 in
set_option maxHeartbeats 4000000 in
theorem mX6_someSaysYes {l : Launch} {D : va_G} {N : Nat} {a : Nat → Nat} {pad : VX5} {now : VX3} {fi : VX3} {se : VX3} {li : VX4} {so : VX4} {lo : VX1} {re : VX2} {ru : VX0} {ot : VX0} {le : Nat → Int32} {res : Bool × VX2} (hf : fX6_someSaysYes N now li so re = some res) : k_Met l yX6_someSaysYes cX6_someSaysYes 1 (some .boolean) 4 109 D [.ref (a 0)] (pic_X6 D a pad now fi se li so lo re ru ot le) (some (.int (bI res.1))) (pic_X6 D a pad now fi se li so lo res.2 ru ot le) :=
  k_of_z (by decide) (Nat.le_of_ble_eq_true rfl) (fun E X hret => wX6_someSaysYes X hret hf)
set_option maxRecDepth 100000 in
set_option maxHeartbeats 4000000 in
theorem wX6_sheetWaysToYes_b58 {D : va_G} {l : Launch} {E : k_E} {N : Nat} {a : Nat → Nat} {k5 : Int32 → Int32 → Int32 → Int32 → VX4 → VX2 → Option (Int32 × VX4 × VX2)} {v1 : Int32} {v2 : Int32} {v3 : Int32} {v4 : Int32} {pad : VX5} {now : VX3} {fi : VX3} {se : VX3} {li : VX4} {so : VX4} {lo : VX1} {re : VX2} {ru : VX0} {ot : VX0} {le : Nat → Int32} {res : Int32 × VX4 × VX2} (X : k_X D E cX6_sheetWaysToYes RX6 5 5 129) (hk5 : ∀ (v1 : Int32) (v2 : Int32) (v3 : Int32) (v4 : Int32) (so : VX4) (re : VX2), k5 v1 v2 v3 v4 so re = some res → k_G D l E (pic_X6 D a pad now fi se li so lo re ru ot le) [(0, .ref (a 0)), (1, .int v1), (2, .int v2), (3, .int v3), (4, .int v4)] 5 []) (hret : ∀ (pc : Nat) (lv : List (Nat × Value)), decode cX6_sheetWaysToYes pc = .ok (.ireturn, 1) → k_G D l E (pic_X6 D a pad now fi se li res.2.1 lo res.2.2 ru ot le) lv pc [.int res.1]) (hf : fX6_sheetWaysToYes_b58 N now li k5 v1 v2 v3 v4 so re = some res) : k_G D l E (pic_X6 D a pad now fi se li so lo re ru ot le) [(0, .ref (a 0)), (1, .int v1), (2, .int v2), (3, .int v3), (4, .int v4)] 58 [] := by
  unfold fX6_sheetWaysToYes_b58 at hf
  refine g_iinc X dX6_sheetWaysToYes_58 4 rfl (v := v4 + 1) rfl (by decide) (lv2 := [(4, .int (v4 + 1)), (0, .ref (a 0)), (1, .int v1), (2, .int v2), (3, .int v3)]) rfl (n := 61) rfl ?_
  refine g_goto X dX6_sheetWaysToYes_61 (n := 5) (by decide) ?_
  refine g_sub [1, 2, 3, 4, 0] (lv' := [(0, .ref (a 0)), (1, .int v1), (2, .int v2), (3, .int v3), (4, .int (v4 + 1))]) rfl ?_
  exact hk5 _ _ _ _ _ _ hf
set_option maxRecDepth 100000 in
set_option maxHeartbeats 4000000 in
theorem wX6_sheetWaysToYes_b56 {D : va_G} {l : Launch} {E : k_E} {N : Nat} {a : Nat → Nat} {k5 : Int32 → Int32 → Int32 → Int32 → VX4 → VX2 → Option (Int32 × VX4 × VX2)} {v1 : Int32} {v2 : Int32} {v4 : Int32} {s0 : Int32} {s1 : Bool} {pad : VX5} {now : VX3} {fi : VX3} {se : VX3} {li : VX4} {so : VX4} {lo : VX1} {re : VX2} {ru : VX0} {ot : VX0} {le : Nat → Int32} {res : Int32 × VX4 × VX2} (X : k_X D E cX6_sheetWaysToYes RX6 5 5 129) (hk5 : ∀ (v1 : Int32) (v2 : Int32) (v3 : Int32) (v4 : Int32) (so : VX4) (re : VX2), k5 v1 v2 v3 v4 so re = some res → k_G D l E (pic_X6 D a pad now fi se li so lo re ru ot le) [(0, .ref (a 0)), (1, .int v1), (2, .int v2), (3, .int v3), (4, .int v4)] 5 []) (hret : ∀ (pc : Nat) (lv : List (Nat × Value)), decode cX6_sheetWaysToYes pc = .ok (.ireturn, 1) → k_G D l E (pic_X6 D a pad now fi se li res.2.1 lo res.2.2 ru ot le) lv pc [.int res.1]) (hf : fX6_sheetWaysToYes_b56 N now li k5 v1 v2 v4 s0 s1 so re = some res) : k_G D l E (pic_X6 D a pad now fi se li so lo re ru ot le) [(0, .ref (a 0)), (1, .int v1), (2, .int v2), (4, .int v4)] 56 [.int (bI s1), .int s0] := by
  unfold fX6_sheetWaysToYes_b56 at hf
  refine g_iadd X dX6_sheetWaysToYes_56 (n := 57) rfl ?_
  refine g_istore_n X dX6_sheetWaysToYes_57 rfl (by decide) (lv2 := [(3, .int (s0 + (bI s1))), (0, .ref (a 0)), (1, .int v1), (2, .int v2), (4, .int v4)]) rfl (n := 58) rfl ?_
  refine g_sub [1, 2, 3, 0, 4] (lv' := [(0, .ref (a 0)), (1, .int v1), (2, .int v2), (3, .int (s0 + (bI s1))), (4, .int v4)]) rfl ?_
  exact wX6_sheetWaysToYes_b58 X hk5 hret hf
set_option maxRecDepth 100000 in
set_option maxHeartbeats 4000000 in
theorem wX6_sheetWaysToYes_b5 {D : va_G} {l : Launch} {E : k_E} {N : Nat} {a : Nat → Nat} {k5 : Int32 → Int32 → Int32 → Int32 → VX4 → VX2 → Option (Int32 × VX4 × VX2)} {v1 : Int32} {v2 : Int32} {v3 : Int32} {v4 : Int32} {pad : VX5} {now : VX3} {fi : VX3} {se : VX3} {li : VX4} {so : VX4} {lo : VX1} {re : VX2} {ru : VX0} {ot : VX0} {le : Nat → Int32} {res : Int32 × VX4 × VX2} (X : k_X D E cX6_sheetWaysToYes RX6 5 5 129) (hk5 : ∀ (v1 : Int32) (v2 : Int32) (v3 : Int32) (v4 : Int32) (so : VX4) (re : VX2), k5 v1 v2 v3 v4 so re = some res → k_G D l E (pic_X6 D a pad now fi se li so lo re ru ot le) [(0, .ref (a 0)), (1, .int v1), (2, .int v2), (3, .int v3), (4, .int v4)] 5 []) (hret : ∀ (pc : Nat) (lv : List (Nat × Value)), decode cX6_sheetWaysToYes pc = .ok (.ireturn, 1) → k_G D l E (pic_X6 D a pad now fi se li res.2.1 lo res.2.2 ru ot le) lv pc [.int res.1]) (hf : fX6_sheetWaysToYes_b5 N now li k5 v1 v2 v3 v4 so re = some res) : k_G D l E (pic_X6 D a pad now fi se li so lo re ru ot le) [(0, .ref (a 0)), (1, .int v1), (2, .int v2), (3, .int v3), (4, .int v4)] 5 [] := by
  unfold fX6_sheetWaysToYes_b5 at hf
  refine g_iload X dX6_sheetWaysToYes_5 4 rfl (n := 7) rfl ?_
  refine g_bipush X dX6_sheetWaysToYes_7 (v := 63) (by decide) (n := 9) rfl ?_
  refine g_icmp_gt X dX6_sheetWaysToYes_9 (t := 64) (by decide) (n := 12) rfl (fun c_1 => ?_) (fun c_1 => ?_)
  · replace hf := k_pos c_1 hf
    refine g_iload_n X dX6_sheetWaysToYes_64 3 rfl rfl (n := 65) rfl ?_
    obtain rfl := Option.some.inj hf
    exact hret _ _ dX6_sheetWaysToYes_65
  · replace hf := k_neg c_1 hf
    refine g_iload X dX6_sheetWaysToYes_12 4 rfl (n := 14) rfl ?_
    refine g_iload_n X dX6_sheetWaysToYes_14 1 rfl rfl (n := 15) rfl ?_
    refine g_iconst X dX6_sheetWaysToYes_15 (v := (-1)) (by decide) (n := 16) rfl ?_
    refine g_ixor X dX6_sheetWaysToYes_16 (n := 17) rfl ?_
    refine g_iand X dX6_sheetWaysToYes_17 (n := 18) rfl ?_
    refine g_if_ne X dX6_sheetWaysToYes_18 (t := 58) (by decide) (n := 21) rfl (fun c_2 => ?_) (fun c_2 => ?_)
    · replace hf := k_neg c_2 hf
      refine g_sub [0, 1, 2, 3, 4] (lv' := [(0, .ref (a 0)), (1, .int v1), (2, .int v2), (3, .int v3), (4, .int v4)]) rfl ?_
      exact wX6_sheetWaysToYes_b58 X hk5 hret hf
    · replace hf := k_pos c_2 hf
      refine g_iload X dX6_sheetWaysToYes_21 4 rfl (n := 23) rfl ?_
      obtain ⟨x_3, g_4, hf⟩ := k_b1s hf
      refine g_callS0 X (mJ6_bitCount_0f7a4 (D := D) (l := l)  g_4) lk_J6_bitCount_0f7a4 mlX6_190 dX6_sheetWaysToYes_23 (n := 26) rfl (st := []) rfl (st2 := [.int x_3]) rfl rfl ⟨Nat.le_of_ble_eq_true rfl, Nat.le_of_ble_eq_true rfl⟩ (Nat.le_of_ble_eq_true rfl) ?_
      refine g_iload_n X dX6_sheetWaysToYes_26 2 rfl rfl (n := 27) rfl ?_
      refine g_icmp_ne X dX6_sheetWaysToYes_27 (t := 58) (by decide) (n := 30) rfl (fun c_5 => ?_) (fun c_5 => ?_)
      · replace hf := k_neg c_5 hf
        refine g_sub [0, 1, 2, 3, 4] (lv' := [(0, .ref (a 0)), (1, .int v1), (2, .int v2), (3, .int v3), (4, .int v4)]) rfl ?_
        exact wX6_sheetWaysToYes_b58 X hk5 hret hf
      · replace hf := k_pos c_5 hf
        refine g_aload_n X dX6_sheetWaysToYes_30 0 rfl rfl (n := 31) rfl ?_
        refine g_get X dX6_sheetWaysToYes_31 flX6_38 0 rfl (v := .ref (a 23)) rfl (n := 34) rfl ?_
        refine g_aload_n X dX6_sheetWaysToYes_34 0 rfl rfl (n := 35) rfl ?_
        refine g_get X dX6_sheetWaysToYes_35 flX6_21 0 rfl (v := .ref (a 3)) rfl (n := 38) rfl ?_
        refine g_iload X dX6_sheetWaysToYes_38 4 rfl (n := 40) rfl ?_
        obtain ⟨so_6, g_7, hf⟩ := k_b1s hf
        refine g_callV X (mX4_readSheets (D := D) (l := l) (a0 := (a 23)) (a1 := (a 24)) (b0 := (a 3)) (b1 := (a 4)) (b2 := (a 5)) (b3 := (a 6)) (b4 := (a 7)) (b5 := (a 8)) g_7) lk_X4_readSheets mlX6_217 dX6_sheetWaysToYes_40 (n := 43) rfl (st := []) rfl (st2 := []) rfl [23, 24, 3, 4, 5, 6, 7, 8] rfl rfl rfl rfl rfl rfl (ws2 := pic_X6 D a pad now fi se li so_6 lo re ru ot le) rfl rfl rfl ⟨Nat.le_of_ble_eq_true rfl, Nat.le_of_ble_eq_true rfl⟩ (Nat.le_of_ble_eq_true rfl) ?_
        refine g_iload_n X dX6_sheetWaysToYes_43 3 rfl rfl (n := 44) rfl ?_
        refine g_aload_n X dX6_sheetWaysToYes_44 0 rfl rfl (n := 45) rfl ?_
        obtain ⟨x_8, re_9, g_10, hf⟩ := k_b2s hf
        refine g_callV0 X (mX6_someSaysYes (D := D) (l := l) (a := a) (pad := pad) (fi := fi) (se := se) (lo := lo) (ru := ru) (ot := ot) (le := le) g_10) lk_X6_someSaysYes mlX6_280 dX6_sheetWaysToYes_45 (n := 48) rfl (st := [.int v3]) rfl (st2 := [.int (bI x_8), .int v3]) rfl rfl rfl rfl (ws2 := pic_X6 D a pad now fi se li so_6 lo re_9 ru ot le) (ad_X6 _ _ _ _ _ _ _ _ _ _ _ _ _ _ _ _ _ _ _ _ _ _ _ _) rfl ⟨Nat.le_of_ble_eq_true rfl, Nat.le_of_ble_eq_true rfl⟩ (Nat.le_of_ble_eq_true rfl) ?_
        refine g_if_eqB X dX6_sheetWaysToYes_48 (t := 55) (by decide) (n := 51) rfl (fun c_11 => ?_) (fun c_11 => ?_)
        · replace hf := k_neg c_11 hf
          refine g_iconst X dX6_sheetWaysToYes_55 (v := 0) (by decide) (n := 56) rfl ?_
          refine g_sub [0, 1, 2, 4] (lv' := [(0, .ref (a 0)), (1, .int v1), (2, .int v2), (4, .int v4)]) rfl ?_
          exact wX6_sheetWaysToYes_b56 X hk5 hret hf
        · replace hf := k_pos c_11 hf
          refine g_iconst X dX6_sheetWaysToYes_51 (v := 1) (by decide) (n := 52) rfl ?_
          refine g_goto X dX6_sheetWaysToYes_52 (n := 56) (by decide) ?_
          refine g_sub [0, 1, 2, 4] (lv' := [(0, .ref (a 0)), (1, .int v1), (2, .int v2), (4, .int v4)]) rfl ?_
          exact wX6_sheetWaysToYes_b56 X hk5 hret hf
set_option maxRecDepth 100000 in
set_option maxHeartbeats 4000000 in
theorem wX6_sheetWaysToYes_l5 {D : va_G} {l : Launch} {E : k_E} {N : Nat} {a : Nat → Nat} {pad : VX5} {now : VX3} {fi : VX3} {se : VX3} {li : VX4} {lo : VX1} {ru : VX0} {ot : VX0} {le : Nat → Int32} {res : Int32 × VX4 × VX2} (X : k_X D E cX6_sheetWaysToYes RX6 5 5 129) (hret : ∀ (pc : Nat) (lv : List (Nat × Value)), decode cX6_sheetWaysToYes pc = .ok (.ireturn, 1) → k_G D l E (pic_X6 D a pad now fi se li res.2.1 lo res.2.2 ru ot le) lv pc [.int res.1]) : ∀ (n0 : Nat) (v1 : Int32) (v2 : Int32) (v3 : Int32) (v4 : Int32) (so : VX4) (re : VX2), fX6_sheetWaysToYes_l5 N now li n0 v1 v2 v3 v4 so re = some res → k_G D l E (pic_X6 D a pad now fi se li so lo re ru ot le) [(0, .ref (a 0)), (1, .int v1), (2, .int v2), (3, .int v3), (4, .int v4)] 5 [] := by
  intro n0
  induction n0 with
  | zero => intro v1 v2 v3 v4 so re hf; cases hf
  | succ n0 ih => intro v1 v2 v3 v4 so re hf; exact wX6_sheetWaysToYes_b5 (N := N) (k5 := fX6_sheetWaysToYes_l5 N now li n0) X  ih hret hf
set_option maxRecDepth 100000 in
set_option maxHeartbeats 4000000 in
theorem wX6_sheetWaysToYes {D : va_G} {l : Launch} {E : k_E} {N : Nat} {a : Nat → Nat} {p1 : Int32} {p2 : Int32} {pad : VX5} {now : VX3} {fi : VX3} {se : VX3} {li : VX4} {so : VX4} {lo : VX1} {re : VX2} {ru : VX0} {ot : VX0} {le : Nat → Int32} {res : Int32 × VX4 × VX2} (X : k_X D E cX6_sheetWaysToYes RX6 5 5 129) (hret : ∀ (pc : Nat) (lv : List (Nat × Value)), decode cX6_sheetWaysToYes pc = .ok (.ireturn, 1) → k_G D l E (pic_X6 D a pad now fi se li res.2.1 lo res.2.2 ru ot le) lv pc [.int res.1]) (hf : fX6_sheetWaysToYes N now li p1 p2 so re = some res) : k_G D l E (pic_X6 D a pad now fi se li so lo re ru ot le) [(0, .ref (a 0)), (1, .int p1), (2, .int p2)] 0 [] := by
  unfold fX6_sheetWaysToYes at hf
  refine g_iconst X dX6_sheetWaysToYes_0 (v := 0) (by decide) (n := 1) rfl ?_
  refine g_istore_n X dX6_sheetWaysToYes_1 rfl (by decide) (lv2 := [(3, .int 0), (0, .ref (a 0)), (1, .int p1), (2, .int p2)]) rfl (n := 2) rfl ?_
  refine g_iconst X dX6_sheetWaysToYes_2 (v := 1) (by decide) (n := 3) rfl ?_
  refine g_istore X dX6_sheetWaysToYes_3 (by decide) (lv2 := [(4, .int 1), (3, .int 0), (0, .ref (a 0)), (1, .int p1), (2, .int p2)]) rfl (n := 5) rfl ?_
  refine g_sub [2, 3, 4, 1, 0] (lv' := [(0, .ref (a 0)), (1, .int p1), (2, .int p2), (3, .int 0), (4, .int 1)]) rfl ?_
  exact wX6_sheetWaysToYes_l5 X  hret _ _ _ _ _ _ _ hf
set_option maxRecDepth 100000 in
set_option maxHeartbeats 4000000 in
theorem mX6_sheetWaysToYes {l : Launch} {D : va_G} {N : Nat} {a : Nat → Nat} {p1 : Int32} {p2 : Int32} {pad : VX5} {now : VX3} {fi : VX3} {se : VX3} {li : VX4} {so : VX4} {lo : VX1} {re : VX2} {ru : VX0} {ot : VX0} {le : Nat → Int32} {res : Int32 × VX4 × VX2} (hf : fX6_sheetWaysToYes N now li p1 p2 so re = some res) : k_Met l yX6_sheetWaysToYes cX6_sheetWaysToYes 5 (some .int) 5 129 D [.ref (a 0), .int p1, .int p2] (pic_X6 D a pad now fi se li so lo re ru ot le) (some (.int res.1)) (pic_X6 D a pad now fi se li res.2.1 lo res.2.2 ru ot le) :=
  k_of_i (by decide) (Nat.le_of_ble_eq_true rfl) (fun E X hret => wX6_sheetWaysToYes X hret hf)
set_option maxRecDepth 100000 in
set_option maxHeartbeats 4000000 in
theorem wX6_bySheets {D : va_G} {l : Launch} {E : k_E} {N : Nat} {a : Nat → Nat} {p1 : Int32} {p2 : Int32} {pad : VX5} {now : VX3} {fi : VX3} {se : VX3} {li : VX4} {so : VX4} {lo : VX1} {re : VX2} {ru : VX0} {ot : VX0} {le : Nat → Int32} {res : Int64 × VX4 × VX4 × VX2 × VX0} (X : k_X D E cX6_bySheets RX6 5 6 153) (hret : ∀ (pc : Nat) (lv : List (Nat × Value)), decode cX6_bySheets pc = .ok (.lreturn, 1) → k_G D l E (pic_X6 D a pad now fi se res.2.1 res.2.2.1 lo res.2.2.2.1 res.2.2.2.2 ot le) lv pc [.long res.1]) (hf : fX6_bySheets N now lo p1 p2 li so re ru = some res) : k_G D l E (pic_X6 D a pad now fi se li so lo re ru ot le) [(0, .ref (a 0)), (1, .int p1), (2, .int p2)] 0 [] := by
  unfold fX6_bySheets at hf
  refine g_aload_n X dX6_bySheets_0 0 rfl rfl (n := 1) rfl ?_
  obtain ⟨li_1, g_2, hf⟩ := k_b1s hf
  refine g_callV0 X (mX6_readList (D := D) (l := l) (a := a) (pad := pad) (fi := fi) (se := se) (so := so) (lo := lo) (re := re) (ru := ru) (ot := ot) (le := le) g_2) lk_X6_readList mlX6_115 dX6_bySheets_1 (n := 4) rfl (st := []) rfl (st2 := []) rfl rfl rfl rfl (ws2 := pic_X6 D a pad now fi se li_1 so lo re ru ot le) (ad_X6 _ _ _ _ _ _ _ _ _ _ _ _ _ _ _ _ _ _ _ _ _ _ _ _) rfl ⟨Nat.le_of_ble_eq_true rfl, Nat.le_of_ble_eq_true rfl⟩ (Nat.le_of_ble_eq_true rfl) ?_
  refine g_aload_n X dX6_bySheets_4 0 rfl rfl (n := 5) rfl ?_
  obtain ⟨x_3, g_4, hf⟩ := k_b1s hf
  refine g_callV0 X (mX6_filledSheets (D := D) (l := l) (a := a) (pad := pad) (fi := fi) (se := se) (li := li_1) (so := so) (lo := lo) (re := re) (ru := ru) (ot := ot) (le := le) g_4) lk_X6_filledSheets mlX6_187 dX6_bySheets_5 (n := 8) rfl (st := []) rfl (st2 := [.int x_3]) rfl rfl rfl rfl (ws2 := pic_X6 D a pad now fi se li_1 so lo re ru ot le) (ad_X6 _ _ _ _ _ _ _ _ _ _ _ _ _ _ _ _ _ _ _ _ _ _ _ _) rfl ⟨Nat.le_of_ble_eq_true rfl, Nat.le_of_ble_eq_true rfl⟩ (Nat.le_of_ble_eq_true rfl) ?_
  refine g_istore_n X dX6_bySheets_8 rfl (by decide) (lv2 := [(3, .int x_3), (0, .ref (a 0)), (1, .int p1), (2, .int p2)]) rfl (n := 9) rfl ?_
  refine g_iload_n X dX6_bySheets_9 0 rfl rfl (n := 10) rfl ?_
  obtain ⟨x_5, g_6, hf⟩ := k_b1s hf
  refine g_callS0 X (mJ6_bitCount_0f7a4 (D := D) (l := l)  g_6) lk_J6_bitCount_0f7a4 mlX6_190 dX6_bySheets_10 (n := 13) rfl (st := []) rfl (st2 := [.int x_5]) rfl rfl ⟨Nat.le_of_ble_eq_true rfl, Nat.le_of_ble_eq_true rfl⟩ (Nat.le_of_ble_eq_true rfl) ?_
  refine g_istore X dX6_bySheets_13 (by decide) (lv2 := [(4, .int x_5), (3, .int x_3), (0, .ref (a 0)), (1, .int p1), (2, .int p2)]) rfl (n := 15) rfl ?_
  refine g_iload_n X dX6_bySheets_15 3 rfl rfl (n := 16) rfl ?_
  refine g_iconst X dX6_bySheets_16 (v := 1) (by decide) (n := 17) rfl ?_
  refine g_iload X dX6_bySheets_17 0 rfl (n := 19) rfl ?_
  obtain ⟨x_7, g_8, hf⟩ := k_b1s hf
  refine g_callS0 X (mX6_isWithin (D := D) (l := l)  g_8) lk_X6_isWithin mlX6_69 dX6_bySheets_19 (n := 22) rfl (st := []) rfl (st2 := [.int (bI x_7)]) rfl rfl ⟨Nat.le_of_ble_eq_true rfl, Nat.le_of_ble_eq_true rfl⟩ (Nat.le_of_ble_eq_true rfl) ?_
  refine g_if_eqB X dX6_bySheets_22 (t := 32) (by decide) (n := 25) rfl (fun c_9 => ?_) (fun c_9 => ?_)
  · replace hf := k_neg c_9 hf
    refine g_ldc2 X dX6_bySheets_32 kcX6_150 (n := 35) rfl ?_
    obtain rfl := Option.some.inj hf
    exact hret _ _ dX6_bySheets_35
  · replace hf := k_pos c_9 hf
    refine g_iload_n X dX6_bySheets_25 4 rfl rfl (n := 26) rfl ?_
    obtain ⟨x_10, g_11, hf⟩ := k_b1s hf
    refine g_callS0 X (mX6_isPart (D := D) (l := l)  g_11) lk_X6_isPart mlX6_147 dX6_bySheets_26 (n := 29) rfl (st := []) rfl (st2 := [.int (bI x_10)]) rfl rfl ⟨Nat.le_of_ble_eq_true rfl, Nat.le_of_ble_eq_true rfl⟩ (Nat.le_of_ble_eq_true rfl) ?_
    refine g_if_neB X dX6_bySheets_29 (t := 36) (by decide) (n := 32) rfl (fun c_12 => ?_) (fun c_12 => ?_)
    · replace hf := k_pos c_12 hf
      refine g_aload_n X dX6_bySheets_36 2 rfl rfl (n := 37) rfl ?_
      refine g_get X dX6_bySheets_37 flX6_34 0 rfl (v := .ref (a 21)) rfl (n := 40) rfl ?_
      refine g_getN X dX6_bySheets_40 flX6_124 21 rfl (v := .int (bI li_1.2.2.2.2.2.2)) rfl (n := 43) rfl ?_
      refine g_if_eqB X dX6_bySheets_43 (t := 50) (by decide) (n := 46) rfl (fun c_13 => ?_) (fun c_13 => ?_)
      · replace hf := k_neg c_13 hf
        refine g_aload_n X dX6_bySheets_50 2 rfl rfl (n := 51) rfl ?_
        refine g_get X dX6_bySheets_51 flX6_58 0 rfl (v := .ref (a 31)) rfl (n := 54) rfl ?_
        refine g_aload_n X dX6_bySheets_54 2 rfl rfl (n := 55) rfl ?_
        refine g_iload_n X dX6_bySheets_55 1 rfl rfl (n := 56) rfl ?_
        refine g_iload_n X dX6_bySheets_56 3 rfl rfl (n := 57) rfl ?_
        obtain ⟨x_14, so_15, re_16, g_17, hf⟩ := k_b3s hf
        refine g_callV0 X (mX6_sheetWaysToYes (D := D) (l := l) (a := a) (pad := pad) (fi := fi) (se := se) (lo := lo) (ru := ru) (ot := ot) (le := le) g_17) lk_X6_sheetWaysToYes mlX6_197 dX6_bySheets_57 (n := 60) rfl (st := [.ref (a 31)]) rfl (st2 := [.int x_14, .ref (a 31)]) rfl rfl rfl rfl (ws2 := pic_X6 D a pad now fi se li_1 so_15 lo re_16 ru ot le) (ad_X6 _ _ _ _ _ _ _ _ _ _ _ _ _ _ _ _ _ _ _ _ _ _ _ _) rfl ⟨Nat.le_of_ble_eq_true rfl, Nat.le_of_ble_eq_true rfl⟩ (Nat.le_of_ble_eq_true rfl) ?_
        refine g_i2l X dX6_bySheets_60 (n := 61) rfl ?_
        refine g_aload_n X dX6_bySheets_61 2 rfl rfl (n := 62) rfl ?_
        refine g_get X dX6_bySheets_62 flX6_44 0 rfl (v := .ref (a 25)) rfl (n := 65) rfl ?_
        refine g_iload X dX6_bySheets_65 0 rfl (n := 67) rfl ?_
        refine g_iload_n X dX6_bySheets_67 3 rfl rfl (n := 68) rfl ?_
        obtain ⟨x_18, g_19, hf⟩ := k_b1s hf
        refine g_callV X (mX1_choose (D := D) (l := l) (a0 := (a 25)) (a1 := (a 26)) (a2 := (a 27)) g_19) lk_X1_choose mlX6_183 dX6_bySheets_68 (n := 71) rfl (st := [.long (x_14).toInt64, .ref (a 31)]) rfl (st2 := [.long x_18, .long (x_14).toInt64, .ref (a 31)]) rfl [25, 26, 27] rfl rfl rfl rfl rfl rfl (ws2 := pic_X6 D a pad now fi se li_1 so_15 lo re_16 ru ot le) rfl rfl rfl ⟨Nat.le_of_ble_eq_true rfl, Nat.le_of_ble_eq_true rfl⟩ (Nat.le_of_ble_eq_true rfl) ?_
        obtain ⟨ru_20, g_21, hf⟩ := k_b1s hf
        refine g_callV X (mX0_become (D := D) (l := l) (a0 := (a 31)) g_21) lk_X0_become mlX6_165 dX6_bySheets_71 (n := 74) rfl (st := []) rfl (st2 := []) rfl [31] rfl rfl rfl rfl rfl rfl (ws2 := pic_X6 D a pad now fi se li_1 so_15 lo re_16 ru_20 ot le) rfl rfl rfl ⟨Nat.le_of_ble_eq_true rfl, Nat.le_of_ble_eq_true rfl⟩ (Nat.le_of_ble_eq_true rfl) ?_
        refine g_aload_n X dX6_bySheets_74 2 rfl rfl (n := 75) rfl ?_
        refine g_get X dX6_bySheets_75 flX6_58 0 rfl (v := .ref (a 31)) rfl (n := 78) rfl ?_
        refine g_iload_n X dX6_bySheets_78 4 rfl rfl (n := 79) rfl ?_
        obtain ⟨x_22, g_23, hf⟩ := k_b1s hf
        refine g_callV X (mX0_half (D := D) (l := l) (a0 := (a 31)) g_23) lk_X0_half mlX6_168 dX6_bySheets_79 (n := 82) rfl (st := []) rfl (st2 := [.long x_22]) rfl [31] rfl rfl rfl rfl rfl rfl (ws2 := pic_X6 D a pad now fi se li_1 so_15 lo re_16 ru_20 ot le) rfl rfl rfl ⟨Nat.le_of_ble_eq_true rfl, Nat.le_of_ble_eq_true rfl⟩ (Nat.le_of_ble_eq_true rfl) ?_
        obtain rfl := Option.some.inj hf
        exact hret _ _ dX6_bySheets_82
      · replace hf := k_pos c_13 hf
        refine g_ldc2 X dX6_bySheets_46 kcX6_195 (n := 49) rfl ?_
        obtain rfl := Option.some.inj hf
        exact hret _ _ dX6_bySheets_49
    · replace hf := k_neg c_12 hf
      refine g_ldc2 X dX6_bySheets_32 kcX6_150 (n := 35) rfl ?_
      obtain rfl := Option.some.inj hf
      exact hret _ _ dX6_bySheets_35
set_option maxRecDepth 100000 in
set_option maxHeartbeats 4000000 in
theorem mX6_bySheets {l : Launch} {D : va_G} {N : Nat} {a : Nat → Nat} {p1 : Int32} {p2 : Int32} {pad : VX5} {now : VX3} {fi : VX3} {se : VX3} {li : VX4} {so : VX4} {lo : VX1} {re : VX2} {ru : VX0} {ot : VX0} {le : Nat → Int32} {res : Int64 × VX4 × VX4 × VX2 × VX0} (hf : fX6_bySheets N now lo p1 p2 li so re ru = some res) : k_Met l yX6_bySheets cX6_bySheets 5 (some .long) 6 153 D [.ref (a 0), .int p1, .int p2] (pic_X6 D a pad now fi se li so lo re ru ot le) (some (.long res.1)) (pic_X6 D a pad now fi se res.2.1 res.2.2.1 lo res.2.2.2.1 res.2.2.2.2 ot le) :=
  k_of_l (by decide) (Nat.le_of_ble_eq_true rfl) (fun E X hret => wX6_bySheets X hret hf)
set_option maxRecDepth 100000 in
set_option maxHeartbeats 4000000 in
theorem wX6_waysToBeWrong {D : va_G} {l : Launch} {E : k_E} {N : Nat} {a : Nat → Nat} {p1 : Int32} {pad : VX5} {now : VX3} {fi : VX3} {se : VX3} {li : VX4} {so : VX4} {lo : VX1} {re : VX2} {ru : VX0} {ot : VX0} {le : Nat → Int32} {res : Int64 × VX2} (X : k_X D E cX6_waysToBeWrong RX6 4 5 134) (hret : ∀ (pc : Nat) (lv : List (Nat × Value)), decode cX6_waysToBeWrong pc = .ok (.lreturn, 1) → k_G D l E (pic_X6 D a pad now fi se li so lo res.2 ru ot le) lv pc [.long res.1]) (hf : fX6_waysToBeWrong N now li lo p1 re = some res) : k_G D l E (pic_X6 D a pad now fi se li so lo re ru ot le) [(0, .ref (a 0)), (1, .int p1)] 0 [] := by
  unfold fX6_waysToBeWrong at hf
  refine g_aload_n X dX6_waysToBeWrong_0 0 rfl rfl (n := 1) rfl ?_
  refine g_iload_n X dX6_waysToBeWrong_1 1 rfl rfl (n := 2) rfl ?_
  obtain ⟨x_1, re_2, g_3, hf⟩ := k_b2s hf
  refine g_callV0 X (mX6_waysToYes (D := D) (l := l) (a := a) (pad := pad) (fi := fi) (se := se) (li := li) (so := so) (ru := ru) (ot := ot) (le := le) g_3) lk_X6_waysToYes mlX6_180 dX6_waysToBeWrong_2 (n := 5) rfl (st := []) rfl (st2 := [.long x_1]) rfl rfl rfl rfl (ws2 := pic_X6 D a pad now fi se li so lo re_2 ru ot le) (ad_X6 _ _ _ _ _ _ _ _ _ _ _ _ _ _ _ _ _ _ _ _ _ _ _ _) rfl ⟨Nat.le_of_ble_eq_true rfl, Nat.le_of_ble_eq_true rfl⟩ (Nat.le_of_ble_eq_true rfl) ?_
  refine g_lstore_n X dX6_waysToBeWrong_5 rfl (by decide) (lv2 := [(2, .long x_1), (0, .ref (a 0)), (1, .int p1)]) rfl (n := 6) rfl ?_
  refine g_aload_n X dX6_waysToBeWrong_6 1 rfl rfl (n := 7) rfl ?_
  refine g_get X dX6_waysToBeWrong_7 flX6_34 0 rfl (v := .ref (a 21)) rfl (n := 10) rfl ?_
  obtain ⟨x_4, g_5, hf⟩ := k_b1s hf
  refine g_callV X (mX4_good (D := D) (l := l) (a0 := (a 21)) (a1 := (a 22)) g_5) lk_X4_good mlX6_131 dX6_waysToBeWrong_10 (n := 13) rfl (st := []) rfl (st2 := [.int x_4]) rfl [21, 22] rfl rfl rfl rfl rfl rfl (ws2 := pic_X6 D a pad now fi se li so lo re_2 ru ot le) rfl rfl rfl ⟨Nat.le_of_ble_eq_true rfl, Nat.le_of_ble_eq_true rfl⟩ (Nat.le_of_ble_eq_true rfl) ?_
  refine g_aload_n X dX6_waysToBeWrong_13 1 rfl rfl (n := 14) rfl ?_
  refine g_get X dX6_waysToBeWrong_14 flX6_21 0 rfl (v := .ref (a 3)) rfl (n := 17) rfl ?_
  refine g_getN X dX6_waysToBeWrong_17 flX6_134 3 rfl (v := .int now.2.2.2.2.2.1) rfl (n := 20) rfl ?_
  refine g_icmp_lt X dX6_waysToBeWrong_20 (t := 43) (by decide) (n := 23) rfl (fun c_6 => ?_) (fun c_6 => ?_)
  · replace hf := k_pos c_6 hf
    refine g_lload_n X dX6_waysToBeWrong_43 0 rfl rfl (n := 44) rfl ?_
    obtain rfl := Option.some.inj hf
    exact hret _ _ dX6_waysToBeWrong_44
  · replace hf := k_neg c_6 hf
    refine g_aload_n X dX6_waysToBeWrong_23 1 rfl rfl (n := 24) rfl ?_
    refine g_get X dX6_waysToBeWrong_24 flX6_44 0 rfl (v := .ref (a 25)) rfl (n := 27) rfl ?_
    refine g_aload_n X dX6_waysToBeWrong_27 1 rfl rfl (n := 28) rfl ?_
    refine g_get X dX6_waysToBeWrong_28 flX6_34 0 rfl (v := .ref (a 21)) rfl (n := 31) rfl ?_
    refine g_getN X dX6_waysToBeWrong_31 flX6_118 21 rfl (v := .int li.2.1) rfl (n := 34) rfl ?_
    refine g_iload_n X dX6_waysToBeWrong_34 2 rfl rfl (n := 35) rfl ?_
    obtain ⟨x_7, g_8, hf⟩ := k_b1s hf
    refine g_callV X (mX1_choose (D := D) (l := l) (a0 := (a 25)) (a1 := (a 26)) (a2 := (a 27)) g_8) lk_X1_choose mlX6_183 dX6_waysToBeWrong_35 (n := 38) rfl (st := []) rfl (st2 := [.long x_7]) rfl [25, 26, 27] rfl rfl rfl rfl rfl rfl (ws2 := pic_X6 D a pad now fi se li so lo re_2 ru ot le) rfl rfl rfl ⟨Nat.le_of_ble_eq_true rfl, Nat.le_of_ble_eq_true rfl⟩ (Nat.le_of_ble_eq_true rfl) ?_
    refine g_lload_n X dX6_waysToBeWrong_38 0 rfl rfl (n := 39) rfl ?_
    refine g_lsub X dX6_waysToBeWrong_39 (n := 40) rfl ?_
    refine g_goto X dX6_waysToBeWrong_40 (n := 44) (by decide) ?_
    obtain rfl := Option.some.inj hf
    exact hret _ _ dX6_waysToBeWrong_44
set_option maxRecDepth 100000 in
set_option maxHeartbeats 4000000 in
theorem mX6_waysToBeWrong {l : Launch} {D : va_G} {N : Nat} {a : Nat → Nat} {p1 : Int32} {pad : VX5} {now : VX3} {fi : VX3} {se : VX3} {li : VX4} {so : VX4} {lo : VX1} {re : VX2} {ru : VX0} {ot : VX0} {le : Nat → Int32} {res : Int64 × VX2} (hf : fX6_waysToBeWrong N now li lo p1 re = some res) : k_Met l yX6_waysToBeWrong cX6_waysToBeWrong 4 (some .long) 5 134 D [.ref (a 0), .int p1] (pic_X6 D a pad now fi se li so lo re ru ot le) (some (.long res.1)) (pic_X6 D a pad now fi se li so lo res.2 ru ot le) :=
  k_of_l (by decide) (Nat.le_of_ble_eq_true rfl) (fun E X hret => wX6_waysToBeWrong X hret hf)
set_option maxRecDepth 100000 in
set_option maxHeartbeats 4000000 in
theorem wX6_wrong {D : va_G} {l : Launch} {E : k_E} {N : Nat} {a : Nat → Nat} {p1 : Int32} {p2 : Int32} {pad : VX5} {now : VX3} {fi : VX3} {se : VX3} {li : VX4} {so : VX4} {lo : VX1} {re : VX2} {ru : VX0} {ot : VX0} {le : Nat → Int32} {res : Int64 × VX4 × VX1 × VX2 × VX0} (X : k_X D E cX6_wrong RX6 4 6 157) (hret : ∀ (pc : Nat) (lv : List (Nat × Value)), decode cX6_wrong pc = .ok (.lreturn, 1) → k_G D l E (pic_X6 D a pad now fi se res.2.1 so res.2.2.1 res.2.2.2.1 res.2.2.2.2 ot le) lv pc [.long res.1]) (hf : fX6_wrong N now p1 p2 li lo re ru = some res) : k_G D l E (pic_X6 D a pad now fi se li so lo re ru ot le) [(0, .ref (a 0)), (1, .int p1), (2, .int p2)] 0 [] := by
  unfold fX6_wrong at hf
  refine g_aload_n X dX6_wrong_0 0 rfl rfl (n := 1) rfl ?_
  refine g_iload_n X dX6_wrong_1 1 rfl rfl (n := 2) rfl ?_
  refine g_iload_n X dX6_wrong_2 2 rfl rfl (n := 3) rfl ?_
  obtain ⟨x_1, li_2, g_3, hf⟩ := k_b2s hf
  refine g_callV0 X (mX6_lotRefusal (D := D) (l := l) (a := a) (pad := pad) (fi := fi) (se := se) (so := so) (lo := lo) (re := re) (ru := ru) (ot := ot) (le := le) g_3) lk_X6_lotRefusal mlX6_172 dX6_wrong_3 (n := 6) rfl (st := []) rfl (st2 := [.int x_1]) rfl rfl rfl rfl (ws2 := pic_X6 D a pad now fi se li_2 so lo re ru ot le) (ad_X6 _ _ _ _ _ _ _ _ _ _ _ _ _ _ _ _ _ _ _ _ _ _ _ _) rfl ⟨Nat.le_of_ble_eq_true rfl, Nat.le_of_ble_eq_true rfl⟩ (Nat.le_of_ble_eq_true rfl) ?_
  refine g_istore_n X dX6_wrong_6 rfl (by decide) (lv2 := [(3, .int x_1), (0, .ref (a 0)), (1, .int p1), (2, .int p2)]) rfl (n := 7) rfl ?_
  refine g_iload_n X dX6_wrong_7 0 rfl rfl (n := 8) rfl ?_
  refine g_if_eq X dX6_wrong_8 (t := 18) (by decide) (n := 11) rfl (fun c_4 => ?_) (fun c_4 => ?_)
  · replace hf := k_pos c_4 hf
    refine g_aload_n X dX6_wrong_18 1 rfl rfl (n := 19) rfl ?_
    obtain ⟨lo_5, g_6, hf⟩ := k_b1s hf
    refine g_callV0 X (mX6_layList (D := D) (l := l) (a := a) (pad := pad) (now := now) (fi := fi) (se := se) (so := so) (re := re) (ru := ru) (ot := ot) (le := le) g_6) lk_X6_layList mlX6_177 dX6_wrong_19 (n := 22) rfl (st := []) rfl (st2 := []) rfl rfl rfl rfl (ws2 := pic_X6 D a pad now fi se li_2 so lo_5 re ru ot le) (ad_X6 _ _ _ _ _ _ _ _ _ _ _ _ _ _ _ _ _ _ _ _ _ _ _ _) rfl ⟨Nat.le_of_ble_eq_true rfl, Nat.le_of_ble_eq_true rfl⟩ (Nat.le_of_ble_eq_true rfl) ?_
    refine g_aload_n X dX6_wrong_22 1 rfl rfl (n := 23) rfl ?_
    refine g_get X dX6_wrong_23 flX6_58 0 rfl (v := .ref (a 31)) rfl (n := 26) rfl ?_
    refine g_aload_n X dX6_wrong_26 1 rfl rfl (n := 27) rfl ?_
    refine g_iload_n X dX6_wrong_27 2 rfl rfl (n := 28) rfl ?_
    obtain ⟨x_7, re_8, g_9, hf⟩ := k_b2s hf
    refine g_callV0 X (mX6_waysToBeWrong (D := D) (l := l) (a := a) (pad := pad) (fi := fi) (se := se) (so := so) (ru := ru) (ot := ot) (le := le) g_9) lk_X6_waysToBeWrong mlX6_200 dX6_wrong_28 (n := 31) rfl (st := [.ref (a 31)]) rfl (st2 := [.long x_7, .ref (a 31)]) rfl rfl rfl rfl (ws2 := pic_X6 D a pad now fi se li_2 so lo_5 re_8 ru ot le) (ad_X6 _ _ _ _ _ _ _ _ _ _ _ _ _ _ _ _ _ _ _ _ _ _ _ _) rfl ⟨Nat.le_of_ble_eq_true rfl, Nat.le_of_ble_eq_true rfl⟩ (Nat.le_of_ble_eq_true rfl) ?_
    refine g_aload_n X dX6_wrong_31 1 rfl rfl (n := 32) rfl ?_
    refine g_get X dX6_wrong_32 flX6_44 0 rfl (v := .ref (a 25)) rfl (n := 35) rfl ?_
    refine g_aload_n X dX6_wrong_35 1 rfl rfl (n := 36) rfl ?_
    refine g_get X dX6_wrong_36 flX6_34 0 rfl (v := .ref (a 21)) rfl (n := 39) rfl ?_
    refine g_getN X dX6_wrong_39 flX6_118 21 rfl (v := .int li_2.2.1) rfl (n := 42) rfl ?_
    refine g_iload_n X dX6_wrong_42 2 rfl rfl (n := 43) rfl ?_
    obtain ⟨x_10, g_11, hf⟩ := k_b1s hf
    refine g_callV X (mX1_choose (D := D) (l := l) (a0 := (a 25)) (a1 := (a 26)) (a2 := (a 27)) g_11) lk_X1_choose mlX6_183 dX6_wrong_43 (n := 46) rfl (st := [.long x_7, .ref (a 31)]) rfl (st2 := [.long x_10, .long x_7, .ref (a 31)]) rfl [25, 26, 27] rfl rfl rfl rfl rfl rfl (ws2 := pic_X6 D a pad now fi se li_2 so lo_5 re_8 ru ot le) rfl rfl rfl ⟨Nat.le_of_ble_eq_true rfl, Nat.le_of_ble_eq_true rfl⟩ (Nat.le_of_ble_eq_true rfl) ?_
    obtain ⟨ru_12, g_13, hf⟩ := k_b1s hf
    refine g_callV X (mX0_become (D := D) (l := l) (a0 := (a 31)) g_13) lk_X0_become mlX6_165 dX6_wrong_46 (n := 49) rfl (st := []) rfl (st2 := []) rfl [31] rfl rfl rfl rfl rfl rfl (ws2 := pic_X6 D a pad now fi se li_2 so lo_5 re_8 ru_12 ot le) rfl rfl rfl ⟨Nat.le_of_ble_eq_true rfl, Nat.le_of_ble_eq_true rfl⟩ (Nat.le_of_ble_eq_true rfl) ?_
    refine g_aload_n X dX6_wrong_49 1 rfl rfl (n := 50) rfl ?_
    refine g_get X dX6_wrong_50 flX6_58 0 rfl (v := .ref (a 31)) rfl (n := 53) rfl ?_
    refine g_iload_n X dX6_wrong_53 3 rfl rfl (n := 54) rfl ?_
    obtain ⟨x_14, g_15, hf⟩ := k_b1s hf
    refine g_callV X (mX0_half (D := D) (l := l) (a0 := (a 31)) g_15) lk_X0_half mlX6_168 dX6_wrong_54 (n := 57) rfl (st := []) rfl (st2 := [.long x_14]) rfl [31] rfl rfl rfl rfl rfl rfl (ws2 := pic_X6 D a pad now fi se li_2 so lo_5 re_8 ru_12 ot le) rfl rfl rfl ⟨Nat.le_of_ble_eq_true rfl, Nat.le_of_ble_eq_true rfl⟩ (Nat.le_of_ble_eq_true rfl) ?_
    obtain rfl := Option.some.inj hf
    exact hret _ _ dX6_wrong_57
  · replace hf := k_neg c_4 hf
    refine g_ldc2 X dX6_wrong_11 kcX6_175 (n := 14) rfl ?_
    refine g_iload_n X dX6_wrong_14 0 rfl rfl (n := 15) rfl ?_
    refine g_i2l X dX6_wrong_15 (n := 16) rfl ?_
    refine g_ladd X dX6_wrong_16 (n := 17) rfl ?_
    obtain rfl := Option.some.inj hf
    exact hret _ _ dX6_wrong_17
set_option maxRecDepth 100000 in
set_option maxHeartbeats 4000000 in
theorem mX6_wrong {l : Launch} {D : va_G} {N : Nat} {a : Nat → Nat} {p1 : Int32} {p2 : Int32} {pad : VX5} {now : VX3} {fi : VX3} {se : VX3} {li : VX4} {so : VX4} {lo : VX1} {re : VX2} {ru : VX0} {ot : VX0} {le : Nat → Int32} {res : Int64 × VX4 × VX1 × VX2 × VX0} (hf : fX6_wrong N now p1 p2 li lo re ru = some res) : k_Met l yX6_wrong cX6_wrong 4 (some .long) 6 157 D [.ref (a 0), .int p1, .int p2] (pic_X6 D a pad now fi se li so lo re ru ot le) (some (.long res.1)) (pic_X6 D a pad now fi se res.2.1 so res.2.2.1 res.2.2.2.1 res.2.2.2.2 ot le) :=
  k_of_l (by decide) (Nat.le_of_ble_eq_true rfl) (fun E X hret => wX6_wrong X hret hf)
set_option maxRecDepth 100000 in
set_option maxHeartbeats 4000000 in
theorem wX6_thousandths {D : va_G} {l : Launch} {E : k_E} {p0 : Int64} {p2 : Int32} {res : Int64} (X : k_X D E cX6_thousandths RX6 3 0 0) (hret : ∀ (pc : Nat) (lv : List (Nat × Value)), decode cX6_thousandths pc = .ok (.lreturn, 1) → k_G D l E ([]) lv pc [.long res]) (hf : fX6_thousandths p0 p2 = some res) : k_G D l E ([]) [(0, .long p0), (2, .int p2)] 0 [] := by
  unfold fX6_thousandths at hf
  refine g_lload_n X dX6_thousandths_0 0 rfl rfl (n := 1) rfl ?_
  refine g_ldc2 X dX6_thousandths_1 kcX6_329 (n := 4) rfl ?_
  refine g_ldiv X dX6_thousandths_4 (by decide) (n := 5) rfl ?_
  refine g_iload_n X dX6_thousandths_5 1 rfl rfl (n := 6) rfl ?_
  refine g_i2l X dX6_thousandths_6 (n := 7) rfl ?_
  refine g_lmul X dX6_thousandths_7 (n := 8) rfl ?_
  refine g_lload_n X dX6_thousandths_8 0 rfl rfl (n := 9) rfl ?_
  refine g_ldc2 X dX6_thousandths_9 kcX6_329 (n := 12) rfl ?_
  refine g_lrem X dX6_thousandths_12 (by decide) (n := 13) rfl ?_
  refine g_iload_n X dX6_thousandths_13 1 rfl rfl (n := 14) rfl ?_
  refine g_i2l X dX6_thousandths_14 (n := 15) rfl ?_
  refine g_lmul X dX6_thousandths_15 (n := 16) rfl ?_
  refine g_ldc2 X dX6_thousandths_16 kcX6_329 (n := 19) rfl ?_
  refine g_ldiv X dX6_thousandths_19 (by decide) (n := 20) rfl ?_
  refine g_ladd X dX6_thousandths_20 (n := 21) rfl ?_
  obtain rfl := Option.some.inj hf
  exact hret _ _ dX6_thousandths_21
set_option maxRecDepth 100000 in
set_option maxHeartbeats 4000000 in
theorem mX6_thousandths {l : Launch} {D : va_G} {p0 : Int64} {p2 : Int32} {res : Int64} (hf : fX6_thousandths p0 p2 = some res) : k_Met l yX6_thousandths cX6_thousandths 3 (some .long) 0 0 D [.long p0, .int p2] ([]) (some (.long res)) ([]) :=
  k_of_l (by decide) (Nat.le_of_ble_eq_true rfl) (fun E X hret => wX6_thousandths X hret hf)
set_option maxRecDepth 100000 in
set_option maxHeartbeats 4000000 in
theorem wX6_enough_b47 {D : va_G} {l : Launch} {E : k_E} {N : Nat} {a : Nat → Nat} {k47 : Int32 → Int32 → VX4 → VX1 → VX2 → Option (Int32 × VX4 × VX1 × VX2)} {v1 : Int32} {v2 : Int32} {pad : VX5} {now : VX3} {fi : VX3} {se : VX3} {li : VX4} {so : VX4} {lo : VX1} {re : VX2} {ru : VX0} {ot : VX0} {le : Nat → Int32} {res : Int32 × VX4 × VX1 × VX2} (X : k_X D E cX6_enough RX6 3 6 157) (hk47 : ∀ (v1 : Int32) (v2 : Int32) (li : VX4) (lo : VX1) (re : VX2), k47 v1 v2 li lo re = some res → k_G D l E (pic_X6 D a pad now fi se li so lo re ru ot le) [(0, .ref (a 0)), (1, .int v1), (2, .int v2)] 47 []) (hret : ∀ (pc : Nat) (lv : List (Nat × Value)), decode cX6_enough pc = .ok (.ireturn, 1) → k_G D l E (pic_X6 D a pad now fi se res.2.1 so res.2.2.1 res.2.2.2 ru ot le) lv pc [.int res.1]) (hf : fX6_enough_b47 N now k47 v1 v2 li lo re = some res) : k_G D l E (pic_X6 D a pad now fi se li so lo re ru ot le) [(0, .ref (a 0)), (1, .int v1), (2, .int v2)] 47 [] := by
  unfold fX6_enough_b47 at hf
  refine g_iload_n X dX6_enough_47 2 rfl rfl (n := 48) rfl ?_
  refine g_aload_n X dX6_enough_48 0 rfl rfl (n := 49) rfl ?_
  refine g_get X dX6_enough_49 flX6_34 0 rfl (v := .ref (a 21)) rfl (n := 52) rfl ?_
  refine g_getN X dX6_enough_52 flX6_118 21 rfl (v := .int li.2.1) rfl (n := 55) rfl ?_
  refine g_icmp_gt X dX6_enough_55 (t := 94) (by decide) (n := 58) rfl (fun c_1 => ?_) (fun c_1 => ?_)
  · replace hf := k_pos c_1 hf
    refine g_bipush X dX6_enough_94 (v := (-6)) (by decide) (n := 96) rfl ?_
    obtain rfl := Option.some.inj hf
    exact hret _ _ dX6_enough_96
  · replace hf := k_neg c_1 hf
    refine g_aload_n X dX6_enough_58 0 rfl rfl (n := 59) rfl ?_
    refine g_iload_n X dX6_enough_59 2 rfl rfl (n := 60) rfl ?_
    obtain ⟨x_2, re_3, g_4, hf⟩ := k_b2s hf
    refine g_callV0 X (mX6_waysToBeWrong (D := D) (l := l) (a := a) (pad := pad) (fi := fi) (se := se) (so := so) (ru := ru) (ot := ot) (le := le) g_4) lk_X6_waysToBeWrong mlX6_200 dX6_enough_60 (n := 63) rfl (st := []) rfl (st2 := [.long x_2]) rfl rfl rfl rfl (ws2 := pic_X6 D a pad now fi se li so lo re_3 ru ot le) (ad_X6 _ _ _ _ _ _ _ _ _ _ _ _ _ _ _ _ _ _ _ _ _ _ _ _) rfl ⟨Nat.le_of_ble_eq_true rfl, Nat.le_of_ble_eq_true rfl⟩ (Nat.le_of_ble_eq_true rfl) ?_
    refine g_aload_n X dX6_enough_63 0 rfl rfl (n := 64) rfl ?_
    refine g_get X dX6_enough_64 flX6_44 0 rfl (v := .ref (a 25)) rfl (n := 67) rfl ?_
    refine g_aload_n X dX6_enough_67 0 rfl rfl (n := 68) rfl ?_
    refine g_get X dX6_enough_68 flX6_34 0 rfl (v := .ref (a 21)) rfl (n := 71) rfl ?_
    refine g_getN X dX6_enough_71 flX6_118 21 rfl (v := .int li.2.1) rfl (n := 74) rfl ?_
    refine g_iload_n X dX6_enough_74 2 rfl rfl (n := 75) rfl ?_
    obtain ⟨x_5, g_6, hf⟩ := k_b1s hf
    refine g_callV X (mX1_choose (D := D) (l := l) (a0 := (a 25)) (a1 := (a 26)) (a2 := (a 27)) g_6) lk_X1_choose mlX6_183 dX6_enough_75 (n := 78) rfl (st := [.long x_2]) rfl (st2 := [.long x_5, .long x_2]) rfl [25, 26, 27] rfl rfl rfl rfl rfl rfl (ws2 := pic_X6 D a pad now fi se li so lo re_3 ru ot le) rfl rfl rfl ⟨Nat.le_of_ble_eq_true rfl, Nat.le_of_ble_eq_true rfl⟩ (Nat.le_of_ble_eq_true rfl) ?_
    refine g_iload_n X dX6_enough_78 1 rfl rfl (n := 79) rfl ?_
    obtain ⟨x_7, g_8, hf⟩ := k_b1s hf
    refine g_callS0 X (mX6_thousandths (D := D) (l := l)  g_8) lk_X6_thousandths mlX6_203 dX6_enough_79 (n := 82) rfl (st := [.long x_2]) rfl (st2 := [.long x_7, .long x_2]) rfl rfl ⟨Nat.le_of_ble_eq_true rfl, Nat.le_of_ble_eq_true rfl⟩ (Nat.le_of_ble_eq_true rfl) ?_
    refine g_lcmp_gt X dX6_enough_82 dX6_enough_83 (t := 88) (by decide) (n := 86) rfl (fun c_9 => ?_) (fun c_9 => ?_)
    · replace hf := k_pos c_9 hf
      refine g_iinc X dX6_enough_88 2 rfl (v := v2 + 1) rfl (by decide) (lv2 := [(2, .int (v2 + 1)), (0, .ref (a 0)), (1, .int v1)]) rfl (n := 91) rfl ?_
      refine g_goto X dX6_enough_91 (n := 47) (by decide) ?_
      refine g_sub [1, 2, 0] (lv' := [(0, .ref (a 0)), (1, .int v1), (2, .int (v2 + 1))]) rfl ?_
      exact hk47 _ _ _ _ _ hf
    · replace hf := k_neg c_9 hf
      refine g_iload_n X dX6_enough_86 2 rfl rfl (n := 87) rfl ?_
      obtain rfl := Option.some.inj hf
      exact hret _ _ dX6_enough_87
set_option maxRecDepth 100000 in
set_option maxHeartbeats 4000000 in
theorem wX6_enough_l47 {D : va_G} {l : Launch} {E : k_E} {N : Nat} {a : Nat → Nat} {pad : VX5} {now : VX3} {fi : VX3} {se : VX3} {so : VX4} {ru : VX0} {ot : VX0} {le : Nat → Int32} {res : Int32 × VX4 × VX1 × VX2} (X : k_X D E cX6_enough RX6 3 6 157) (hret : ∀ (pc : Nat) (lv : List (Nat × Value)), decode cX6_enough pc = .ok (.ireturn, 1) → k_G D l E (pic_X6 D a pad now fi se res.2.1 so res.2.2.1 res.2.2.2 ru ot le) lv pc [.int res.1]) : ∀ (n0 : Nat) (v1 : Int32) (v2 : Int32) (li : VX4) (lo : VX1) (re : VX2), fX6_enough_l47 N now n0 v1 v2 li lo re = some res → k_G D l E (pic_X6 D a pad now fi se li so lo re ru ot le) [(0, .ref (a 0)), (1, .int v1), (2, .int v2)] 47 [] := by
  intro n0
  induction n0 with
  | zero => intro v1 v2 li lo re hf; cases hf
  | succ n0 ih => intro v1 v2 li lo re hf; exact wX6_enough_b47 (N := N) (k47 := fX6_enough_l47 N now n0) X  ih hret hf
set_option maxRecDepth 100000 in
set_option maxHeartbeats 4000000 in
theorem wX6_enough {D : va_G} {l : Launch} {E : k_E} {N : Nat} {a : Nat → Nat} {p1 : Int32} {pad : VX5} {now : VX3} {fi : VX3} {se : VX3} {li : VX4} {so : VX4} {lo : VX1} {re : VX2} {ru : VX0} {ot : VX0} {le : Nat → Int32} {res : Int32 × VX4 × VX1 × VX2} (X : k_X D E cX6_enough RX6 3 6 157) (hret : ∀ (pc : Nat) (lv : List (Nat × Value)), decode cX6_enough pc = .ok (.ireturn, 1) → k_G D l E (pic_X6 D a pad now fi se res.2.1 so res.2.2.1 res.2.2.2 ru ot le) lv pc [.int res.1]) (hf : fX6_enough N now p1 li lo re = some res) : k_G D l E (pic_X6 D a pad now fi se li so lo re ru ot le) [(0, .ref (a 0)), (1, .int p1)] 0 [] := by
  unfold fX6_enough at hf
  refine g_iload_n X dX6_enough_0 1 rfl rfl (n := 1) rfl ?_
  refine g_iconst X dX6_enough_1 (v := 0) (by decide) (n := 2) rfl ?_
  refine g_sipush X dX6_enough_2 (v := 1000) (by decide) (n := 5) rfl ?_
  obtain ⟨x_1, g_2, hf⟩ := k_b1s hf
  refine g_callS0 X (mX6_isWithin (D := D) (l := l)  g_2) lk_X6_isWithin mlX6_69 dX6_enough_5 (n := 8) rfl (st := []) rfl (st2 := [.int (bI x_1)]) rfl rfl ⟨Nat.le_of_ble_eq_true rfl, Nat.le_of_ble_eq_true rfl⟩ (Nat.le_of_ble_eq_true rfl) ?_
  refine g_if_neB X dX6_enough_8 (t := 14) (by decide) (n := 11) rfl (fun c_3 => ?_) (fun c_3 => ?_)
  · replace hf := k_pos c_3 hf
    refine g_aload_n X dX6_enough_14 0 rfl rfl (n := 15) rfl ?_
    obtain ⟨li_4, g_5, hf⟩ := k_b1s hf
    refine g_callV0 X (mX6_readList (D := D) (l := l) (a := a) (pad := pad) (fi := fi) (se := se) (so := so) (lo := lo) (re := re) (ru := ru) (ot := ot) (le := le) g_5) lk_X6_readList mlX6_115 dX6_enough_15 (n := 18) rfl (st := []) rfl (st2 := []) rfl rfl rfl rfl (ws2 := pic_X6 D a pad now fi se li_4 so lo re ru ot le) (ad_X6 _ _ _ _ _ _ _ _ _ _ _ _ _ _ _ _ _ _ _ _ _ _ _ _) rfl ⟨Nat.le_of_ble_eq_true rfl, Nat.le_of_ble_eq_true rfl⟩ (Nat.le_of_ble_eq_true rfl) ?_
    refine g_aload_n X dX6_enough_18 0 rfl rfl (n := 19) rfl ?_
    refine g_get X dX6_enough_19 flX6_34 0 rfl (v := .ref (a 21)) rfl (n := 22) rfl ?_
    refine g_getN X dX6_enough_22 flX6_124 21 rfl (v := .int (bI li_4.2.2.2.2.2.2)) rfl (n := 25) rfl ?_
    refine g_if_neB X dX6_enough_25 (t := 38) (by decide) (n := 28) rfl (fun c_6 => ?_) (fun c_6 => ?_)
    · replace hf := k_pos c_6 hf
      refine g_bipush X dX6_enough_38 (v := (-3)) (by decide) (n := 40) rfl ?_
      obtain rfl := Option.some.inj hf
      exact hret _ _ dX6_enough_40
    · replace hf := k_neg c_6 hf
      refine g_aload_n X dX6_enough_28 0 rfl rfl (n := 29) rfl ?_
      refine g_get X dX6_enough_29 flX6_34 0 rfl (v := .ref (a 21)) rfl (n := 32) rfl ?_
      refine g_getN X dX6_enough_32 flX6_118 21 rfl (v := .int li_4.2.1) rfl (n := 35) rfl ?_
      refine g_if_ne X dX6_enough_35 (t := 41) (by decide) (n := 38) rfl (fun c_7 => ?_) (fun c_7 => ?_)
      · replace hf := k_neg c_7 hf
        refine g_aload_n X dX6_enough_41 0 rfl rfl (n := 42) rfl ?_
        obtain ⟨lo_8, g_9, hf⟩ := k_b1s hf
        refine g_callV0 X (mX6_layList (D := D) (l := l) (a := a) (pad := pad) (now := now) (fi := fi) (se := se) (so := so) (re := re) (ru := ru) (ot := ot) (le := le) g_9) lk_X6_layList mlX6_177 dX6_enough_42 (n := 45) rfl (st := []) rfl (st2 := []) rfl rfl rfl rfl (ws2 := pic_X6 D a pad now fi se li_4 so lo_8 re ru ot le) (ad_X6 _ _ _ _ _ _ _ _ _ _ _ _ _ _ _ _ _ _ _ _ _ _ _ _) rfl ⟨Nat.le_of_ble_eq_true rfl, Nat.le_of_ble_eq_true rfl⟩ (Nat.le_of_ble_eq_true rfl) ?_
        refine g_iconst X dX6_enough_45 (v := 1) (by decide) (n := 46) rfl ?_
        refine g_istore_n X dX6_enough_46 rfl (by decide) (lv2 := [(2, .int 1), (0, .ref (a 0)), (1, .int p1)]) rfl (n := 47) rfl ?_
        refine g_sub [1, 2, 0] (lv' := [(0, .ref (a 0)), (1, .int p1), (2, .int 1)]) rfl ?_
        exact wX6_enough_l47 X  hret _ _ _ _ _ _ hf
      · replace hf := k_pos c_7 hf
        refine g_bipush X dX6_enough_38 (v := (-3)) (by decide) (n := 40) rfl ?_
        obtain rfl := Option.some.inj hf
        exact hret _ _ dX6_enough_40
  · replace hf := k_neg c_3 hf
    refine g_bipush X dX6_enough_11 (v := (-2)) (by decide) (n := 13) rfl ?_
    obtain rfl := Option.some.inj hf
    exact hret _ _ dX6_enough_13
set_option maxRecDepth 100000 in
set_option maxHeartbeats 4000000 in
theorem mX6_enough {l : Launch} {D : va_G} {N : Nat} {a : Nat → Nat} {p1 : Int32} {pad : VX5} {now : VX3} {fi : VX3} {se : VX3} {li : VX4} {so : VX4} {lo : VX1} {re : VX2} {ru : VX0} {ot : VX0} {le : Nat → Int32} {res : Int32 × VX4 × VX1 × VX2} (hf : fX6_enough N now p1 li lo re = some res) : k_Met l yX6_enough cX6_enough 3 (some .int) 6 157 D [.ref (a 0), .int p1] (pic_X6 D a pad now fi se li so lo re ru ot le) (some (.int res.1)) (pic_X6 D a pad now fi se res.2.1 so res.2.2.1 res.2.2.2 ru ot le) :=
  k_of_i (by decide) (Nat.le_of_ble_eq_true rfl) (fun E X hret => wX6_enough X hret hf)
set_option maxRecDepth 100000 in
set_option maxHeartbeats 4000000 in
theorem wX6_worth {D : va_G} {l : Launch} {E : k_E} {N : Nat} {a : Nat → Nat} {p1 : Int32} {p2 : Int32} {p3 : Int32} {p4 : Int32} {pad : VX5} {now : VX3} {fi : VX3} {se : VX3} {li : VX4} {so : VX4} {lo : VX1} {re : VX2} {ru : VX0} {ot : VX0} {le : Nat → Int32} {res : Int64 × VX4 × VX2 × VX0 × VX0} (X : k_X D E cX6_worth RX6 5 4 98) (hret : ∀ (pc : Nat) (lv : List (Nat × Value)), decode cX6_worth pc = .ok (.lreturn, 1) → k_G D l E (pic_X6 D a pad now fi se res.2.1 so lo res.2.2.1 res.2.2.2.1 res.2.2.2.2 le) lv pc [.long res.1]) (hf : fX6_worth N now p1 p2 p3 p4 li re ru ot = some res) : k_G D l E (pic_X6 D a pad now fi se li so lo re ru ot le) [(0, .ref (a 0)), (1, .int p1), (2, .int p2), (3, .int p3), (4, .int p4)] 0 [] := by
  unfold fX6_worth at hf
  refine g_aload_n X dX6_worth_0 0 rfl rfl (n := 1) rfl ?_
  obtain ⟨li_1, g_2, hf⟩ := k_b1s hf
  refine g_callV0 X (mX6_readList (D := D) (l := l) (a := a) (pad := pad) (fi := fi) (se := se) (so := so) (lo := lo) (re := re) (ru := ru) (ot := ot) (le := le) g_2) lk_X6_readList mlX6_115 dX6_worth_1 (n := 4) rfl (st := []) rfl (st2 := []) rfl rfl rfl rfl (ws2 := pic_X6 D a pad now fi se li_1 so lo re ru ot le) (ad_X6 _ _ _ _ _ _ _ _ _ _ _ _ _ _ _ _ _ _ _ _ _ _ _ _) rfl ⟨Nat.le_of_ble_eq_true rfl, Nat.le_of_ble_eq_true rfl⟩ (Nat.le_of_ble_eq_true rfl) ?_
  refine g_iload_n X dX6_worth_4 1 rfl rfl (n := 5) rfl ?_
  refine g_iconst X dX6_worth_5 (v := 1) (by decide) (n := 6) rfl ?_
  refine g_aload_n X dX6_worth_6 0 rfl rfl (n := 7) rfl ?_
  refine g_get X dX6_worth_7 flX6_34 0 rfl (v := .ref (a 21)) rfl (n := 10) rfl ?_
  refine g_getN X dX6_worth_10 flX6_118 21 rfl (v := .int li_1.2.1) rfl (n := 13) rfl ?_
  obtain ⟨x_3, g_4, hf⟩ := k_b1s hf
  refine g_callS0 X (mX6_isWithin (D := D) (l := l)  g_4) lk_X6_isWithin mlX6_69 dX6_worth_13 (n := 16) rfl (st := []) rfl (st2 := [.int (bI x_3)]) rfl rfl ⟨Nat.le_of_ble_eq_true rfl, Nat.le_of_ble_eq_true rfl⟩ (Nat.le_of_ble_eq_true rfl) ?_
  refine g_if_eqB X dX6_worth_16 (t := 41) (by decide) (n := 19) rfl (fun c_5 => ?_) (fun c_5 => ?_)
  · replace hf := k_neg c_5 hf
    refine g_ldc2 X dX6_worth_41 kcX6_150 (n := 44) rfl ?_
    obtain rfl := Option.some.inj hf
    exact hret _ _ dX6_worth_44
  · replace hf := k_pos c_5 hf
    refine g_iload_n X dX6_worth_19 2 rfl rfl (n := 20) rfl ?_
    obtain ⟨x_6, g_7, hf⟩ := k_b1s hf
    refine g_callS0 X (mX6_isNumber (D := D) (l := l)  g_7) lk_X6_isNumber mlX6_144 dX6_worth_20 (n := 23) rfl (st := []) rfl (st2 := [.int (bI x_6)]) rfl rfl ⟨Nat.le_of_ble_eq_true rfl, Nat.le_of_ble_eq_true rfl⟩ (Nat.le_of_ble_eq_true rfl) ?_
    refine g_if_eqB X dX6_worth_23 (t := 41) (by decide) (n := 26) rfl (fun c_8 => ?_) (fun c_8 => ?_)
    · replace hf := k_neg c_8 hf
      refine g_ldc2 X dX6_worth_41 kcX6_150 (n := 44) rfl ?_
      obtain rfl := Option.some.inj hf
      exact hret _ _ dX6_worth_44
    · replace hf := k_pos c_8 hf
      refine g_iload_n X dX6_worth_26 3 rfl rfl (n := 27) rfl ?_
      obtain ⟨x_9, g_10, hf⟩ := k_b1s hf
      refine g_callS0 X (mX6_isNumber (D := D) (l := l)  g_10) lk_X6_isNumber mlX6_144 dX6_worth_27 (n := 30) rfl (st := []) rfl (st2 := [.int (bI x_9)]) rfl rfl ⟨Nat.le_of_ble_eq_true rfl, Nat.le_of_ble_eq_true rfl⟩ (Nat.le_of_ble_eq_true rfl) ?_
      refine g_if_eqB X dX6_worth_30 (t := 41) (by decide) (n := 33) rfl (fun c_11 => ?_) (fun c_11 => ?_)
      · replace hf := k_neg c_11 hf
        refine g_ldc2 X dX6_worth_41 kcX6_150 (n := 44) rfl ?_
        obtain rfl := Option.some.inj hf
        exact hret _ _ dX6_worth_44
      · replace hf := k_pos c_11 hf
        refine g_iload X dX6_worth_33 4 rfl (n := 35) rfl ?_
        obtain ⟨x_12, g_13, hf⟩ := k_b1s hf
        refine g_callS0 X (mX6_isPart (D := D) (l := l)  g_13) lk_X6_isPart mlX6_147 dX6_worth_35 (n := 38) rfl (st := []) rfl (st2 := [.int (bI x_12)]) rfl rfl ⟨Nat.le_of_ble_eq_true rfl, Nat.le_of_ble_eq_true rfl⟩ (Nat.le_of_ble_eq_true rfl) ?_
        refine g_if_neB X dX6_worth_38 (t := 45) (by decide) (n := 41) rfl (fun c_14 => ?_) (fun c_14 => ?_)
        · replace hf := k_pos c_14 hf
          refine g_aload_n X dX6_worth_45 0 rfl rfl (n := 46) rfl ?_
          refine g_get X dX6_worth_46 flX6_51 0 rfl (v := .ref (a 28)) rfl (n := 49) rfl ?_
          refine g_aload_n X dX6_worth_49 0 rfl rfl (n := 50) rfl ?_
          refine g_get X dX6_worth_50 flX6_21 0 rfl (v := .ref (a 3)) rfl (n := 53) rfl ?_
          refine g_getN X dX6_worth_53 flX6_137 3 rfl (v := .ref (a 7)) rfl (n := 56) rfl ?_
          refine g_aload_n X dX6_worth_56 0 rfl rfl (n := 57) rfl ?_
          refine g_get X dX6_worth_57 flX6_34 0 rfl (v := .ref (a 21)) rfl (n := 60) rfl ?_
          refine g_getN X dX6_worth_60 flX6_118 21 rfl (v := .int li_1.2.1) rfl (n := 63) rfl ?_
          refine g_iload_n X dX6_worth_63 1 rfl rfl (n := 64) rfl ?_
          refine g_iload_n X dX6_worth_64 2 rfl rfl (n := 65) rfl ?_
          refine g_iload_n X dX6_worth_65 3 rfl rfl (n := 66) rfl ?_
          obtain ⟨x_15, re_16, g_17, hf⟩ := k_b2s hf
          refine g_callV X (mX2_reckon (D := D) (l := l) (a0 := (a 28)) (a1 := (a 29)) (a2 := (a 30)) (b0 := (a 7)) (b1 := (a 8)) (n := 11) g_17) lk_X2_reckon mlX6_152 dX6_worth_66 (n := 69) rfl (st := []) rfl (st2 := [.int (bI x_15)]) rfl [28, 29, 30, 7, 8] rfl rfl rfl rfl rfl rfl (ws2 := pic_X6 D a pad now fi se li_1 so lo re_16 ru ot le) rfl rfl rfl ⟨Nat.le_of_ble_eq_true rfl, Nat.le_of_ble_eq_true rfl⟩ (Nat.le_of_ble_eq_true rfl) ?_
          refine g_if_neB X dX6_worth_69 (t := 76) (by decide) (n := 72) rfl (fun c_18 => ?_) (fun c_18 => ?_)
          · replace hf := k_pos c_18 hf
            refine g_aload_n X dX6_worth_76 0 rfl rfl (n := 77) rfl ?_
            refine g_get X dX6_worth_77 flX6_58 0 rfl (v := .ref (a 31)) rfl (n := 80) rfl ?_
            refine g_aload_n X dX6_worth_80 0 rfl rfl (n := 81) rfl ?_
            refine g_get X dX6_worth_81 flX6_51 0 rfl (v := .ref (a 28)) rfl (n := 84) rfl ?_
            obtain ⟨x_19, g_20, hf⟩ := k_b1s hf
            refine g_callV X (mX2_upper (D := D) (l := l) (a0 := (a 28)) (a1 := (a 29)) (a2 := (a 30)) g_20) lk_X2_upper mlX6_158 dX6_worth_84 (n := 87) rfl (st := [.ref (a 31)]) rfl (st2 := [.long x_19, .ref (a 31)]) rfl [28, 29, 30] rfl rfl rfl rfl rfl rfl (ws2 := pic_X6 D a pad now fi se li_1 so lo re_16 ru ot le) rfl rfl rfl ⟨Nat.le_of_ble_eq_true rfl, Nat.le_of_ble_eq_true rfl⟩ (Nat.le_of_ble_eq_true rfl) ?_
            refine g_aload_n X dX6_worth_87 0 rfl rfl (n := 88) rfl ?_
            refine g_get X dX6_worth_88 flX6_51 0 rfl (v := .ref (a 28)) rfl (n := 91) rfl ?_
            obtain ⟨x_21, g_22, hf⟩ := k_b1s hf
            refine g_callV X (mX2_lower (D := D) (l := l) (a0 := (a 28)) (a1 := (a 29)) (a2 := (a 30)) g_22) lk_X2_lower mlX6_162 dX6_worth_91 (n := 94) rfl (st := [.long x_19, .ref (a 31)]) rfl (st2 := [.long x_21, .long x_19, .ref (a 31)]) rfl [28, 29, 30] rfl rfl rfl rfl rfl rfl (ws2 := pic_X6 D a pad now fi se li_1 so lo re_16 ru ot le) rfl rfl rfl ⟨Nat.le_of_ble_eq_true rfl, Nat.le_of_ble_eq_true rfl⟩ (Nat.le_of_ble_eq_true rfl) ?_
            obtain ⟨ru_23, g_24, hf⟩ := k_b1s hf
            refine g_callV X (mX0_become (D := D) (l := l) (a0 := (a 31)) g_24) lk_X0_become mlX6_165 dX6_worth_94 (n := 97) rfl (st := []) rfl (st2 := []) rfl [31] rfl rfl rfl rfl rfl rfl (ws2 := pic_X6 D a pad now fi se li_1 so lo re_16 ru_23 ot le) rfl rfl rfl ⟨Nat.le_of_ble_eq_true rfl, Nat.le_of_ble_eq_true rfl⟩ (Nat.le_of_ble_eq_true rfl) ?_
            refine g_aload_n X dX6_worth_97 0 rfl rfl (n := 98) rfl ?_
            refine g_get X dX6_worth_98 flX6_51 0 rfl (v := .ref (a 28)) rfl (n := 101) rfl ?_
            refine g_aload_n X dX6_worth_101 0 rfl rfl (n := 102) rfl ?_
            refine g_get X dX6_worth_102 flX6_21 0 rfl (v := .ref (a 3)) rfl (n := 105) rfl ?_
            refine g_getN X dX6_worth_105 flX6_137 3 rfl (v := .ref (a 7)) rfl (n := 108) rfl ?_
            refine g_aload_n X dX6_worth_108 0 rfl rfl (n := 109) rfl ?_
            refine g_get X dX6_worth_109 flX6_34 0 rfl (v := .ref (a 21)) rfl (n := 112) rfl ?_
            refine g_getN X dX6_worth_112 flX6_118 21 rfl (v := .int li_1.2.1) rfl (n := 115) rfl ?_
            refine g_iload_n X dX6_worth_115 1 rfl rfl (n := 116) rfl ?_
            refine g_iload_n X dX6_worth_116 2 rfl rfl (n := 117) rfl ?_
            refine g_iload_n X dX6_worth_117 3 rfl rfl (n := 118) rfl ?_
            refine g_iconst X dX6_worth_118 (v := 1) (by decide) (n := 119) rfl ?_
            refine g_iadd X dX6_worth_119 (n := 120) rfl ?_
            obtain ⟨x_25, re_26, g_27, hf⟩ := k_b2s hf
            refine g_callV X (mX2_reckon (D := D) (l := l) (a0 := (a 28)) (a1 := (a 29)) (a2 := (a 30)) (b0 := (a 7)) (b1 := (a 8)) (n := 11) g_27) lk_X2_reckon mlX6_152 dX6_worth_120 (n := 123) rfl (st := []) rfl (st2 := [.int (bI x_25)]) rfl [28, 29, 30, 7, 8] rfl rfl rfl rfl rfl rfl (ws2 := pic_X6 D a pad now fi se li_1 so lo re_26 ru_23 ot le) rfl rfl rfl ⟨Nat.le_of_ble_eq_true rfl, Nat.le_of_ble_eq_true rfl⟩ (Nat.le_of_ble_eq_true rfl) ?_
            refine g_if_neB X dX6_worth_123 (t := 130) (by decide) (n := 126) rfl (fun c_28 => ?_) (fun c_28 => ?_)
            · replace hf := k_pos c_28 hf
              refine g_aload_n X dX6_worth_130 0 rfl rfl (n := 131) rfl ?_
              refine g_get X dX6_worth_131 flX6_62 0 rfl (v := .ref (a 32)) rfl (n := 134) rfl ?_
              refine g_aload_n X dX6_worth_134 0 rfl rfl (n := 135) rfl ?_
              refine g_get X dX6_worth_135 flX6_51 0 rfl (v := .ref (a 28)) rfl (n := 138) rfl ?_
              obtain ⟨x_29, g_30, hf⟩ := k_b1s hf
              refine g_callV X (mX2_upper (D := D) (l := l) (a0 := (a 28)) (a1 := (a 29)) (a2 := (a 30)) g_30) lk_X2_upper mlX6_158 dX6_worth_138 (n := 141) rfl (st := [.ref (a 32)]) rfl (st2 := [.long x_29, .ref (a 32)]) rfl [28, 29, 30] rfl rfl rfl rfl rfl rfl (ws2 := pic_X6 D a pad now fi se li_1 so lo re_26 ru_23 ot le) rfl rfl rfl ⟨Nat.le_of_ble_eq_true rfl, Nat.le_of_ble_eq_true rfl⟩ (Nat.le_of_ble_eq_true rfl) ?_
              refine g_aload_n X dX6_worth_141 0 rfl rfl (n := 142) rfl ?_
              refine g_get X dX6_worth_142 flX6_51 0 rfl (v := .ref (a 28)) rfl (n := 145) rfl ?_
              obtain ⟨x_31, g_32, hf⟩ := k_b1s hf
              refine g_callV X (mX2_lower (D := D) (l := l) (a0 := (a 28)) (a1 := (a 29)) (a2 := (a 30)) g_32) lk_X2_lower mlX6_162 dX6_worth_145 (n := 148) rfl (st := [.long x_29, .ref (a 32)]) rfl (st2 := [.long x_31, .long x_29, .ref (a 32)]) rfl [28, 29, 30] rfl rfl rfl rfl rfl rfl (ws2 := pic_X6 D a pad now fi se li_1 so lo re_26 ru_23 ot le) rfl rfl rfl ⟨Nat.le_of_ble_eq_true rfl, Nat.le_of_ble_eq_true rfl⟩ (Nat.le_of_ble_eq_true rfl) ?_
              obtain ⟨ot_33, g_34, hf⟩ := k_b1s hf
              refine g_callV X (mX0_become (D := D) (l := l) (a0 := (a 32)) g_34) lk_X0_become mlX6_165 dX6_worth_148 (n := 151) rfl (st := []) rfl (st2 := []) rfl [32] rfl rfl rfl rfl rfl rfl (ws2 := pic_X6 D a pad now fi se li_1 so lo re_26 ru_23 ot_33 le) rfl rfl rfl ⟨Nat.le_of_ble_eq_true rfl, Nat.le_of_ble_eq_true rfl⟩ (Nat.le_of_ble_eq_true rfl) ?_
              refine g_aload_n X dX6_worth_151 0 rfl rfl (n := 152) rfl ?_
              refine g_get X dX6_worth_152 flX6_58 0 rfl (v := .ref (a 31)) rfl (n := 155) rfl ?_
              refine g_aload_n X dX6_worth_155 0 rfl rfl (n := 156) rfl ?_
              refine g_get X dX6_worth_156 flX6_62 0 rfl (v := .ref (a 32)) rfl (n := 159) rfl ?_
              obtain ⟨ru_35, g_36, hf⟩ := k_b1s hf
              refine g_callV X (mX0_lessen (D := D) (l := l) (a0 := (a 31)) (b0 := (a 32)) g_36) lk_X0_lessen mlX6_207 dX6_worth_159 (n := 162) rfl (st := []) rfl (st2 := []) rfl [31, 32] rfl rfl rfl rfl rfl rfl (ws2 := pic_X6 D a pad now fi se li_1 so lo re_26 ru_35 ot_33 le) rfl rfl rfl ⟨Nat.le_of_ble_eq_true rfl, Nat.le_of_ble_eq_true rfl⟩ (Nat.le_of_ble_eq_true rfl) ?_
              refine g_aload_n X dX6_worth_162 0 rfl rfl (n := 163) rfl ?_
              refine g_get X dX6_worth_163 flX6_58 0 rfl (v := .ref (a 31)) rfl (n := 166) rfl ?_
              refine g_iload X dX6_worth_166 4 rfl (n := 168) rfl ?_
              obtain ⟨x_37, g_38, hf⟩ := k_b1s hf
              refine g_callV X (mX0_half (D := D) (l := l) (a0 := (a 31)) g_38) lk_X0_half mlX6_168 dX6_worth_168 (n := 171) rfl (st := []) rfl (st2 := [.long x_37]) rfl [31] rfl rfl rfl rfl rfl rfl (ws2 := pic_X6 D a pad now fi se li_1 so lo re_26 ru_35 ot_33 le) rfl rfl rfl ⟨Nat.le_of_ble_eq_true rfl, Nat.le_of_ble_eq_true rfl⟩ (Nat.le_of_ble_eq_true rfl) ?_
              obtain rfl := Option.some.inj hf
              exact hret _ _ dX6_worth_171
            · replace hf := k_neg c_28 hf
              refine g_ldc2 X dX6_worth_126 kcX6_156 (n := 129) rfl ?_
              obtain rfl := Option.some.inj hf
              exact hret _ _ dX6_worth_129
          · replace hf := k_neg c_18 hf
            refine g_ldc2 X dX6_worth_72 kcX6_156 (n := 75) rfl ?_
            obtain rfl := Option.some.inj hf
            exact hret _ _ dX6_worth_75
        · replace hf := k_neg c_14 hf
          refine g_ldc2 X dX6_worth_41 kcX6_150 (n := 44) rfl ?_
          obtain rfl := Option.some.inj hf
          exact hret _ _ dX6_worth_44
set_option maxRecDepth 100000 in
set_option maxHeartbeats 4000000 in
theorem mX6_worth {l : Launch} {D : va_G} {N : Nat} {a : Nat → Nat} {p1 : Int32} {p2 : Int32} {p3 : Int32} {p4 : Int32} {pad : VX5} {now : VX3} {fi : VX3} {se : VX3} {li : VX4} {so : VX4} {lo : VX1} {re : VX2} {ru : VX0} {ot : VX0} {le : Nat → Int32} {res : Int64 × VX4 × VX2 × VX0 × VX0} (hf : fX6_worth N now p1 p2 p3 p4 li re ru ot = some res) : k_Met l yX6_worth cX6_worth 5 (some .long) 4 98 D [.ref (a 0), .int p1, .int p2, .int p3, .int p4] (pic_X6 D a pad now fi se li so lo re ru ot le) (some (.long res.1)) (pic_X6 D a pad now fi se res.2.1 so lo res.2.2.1 res.2.2.2.1 res.2.2.2.2 le) :=
  k_of_l (by decide) (Nat.le_of_ble_eq_true rfl) (fun E X hret => wX6_worth X hret hf)
