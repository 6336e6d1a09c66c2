/-! walks: X6_need X6_rule X6_isNumber X6_isPart X6_comes X6_lotRefusal X6_layList X6_waysToYes X6_yes X6_filledSheets J6_bitCount_0f7a4 -/
set_option maxRecDepth 100000 in
set_option maxHeartbeats 4000000 in
theorem wX6_need {D : va_G} {l : Launch} {E : k_E} {a : Nat → Nat} {p1 : Int32} {pad : VX5} {now : VX3} {fi : VX3} {se : VX3} {li : VX4} {so : VX4} {lo : VX1} {re : VX2} {ru : VX0} {ot : VX0} {le : Nat → Int32} {res : Int32 × VX3} (X : k_X D E cX6_need RX6 3 1 22) (hret : ∀ (pc : Nat) (lv : List (Nat × Value)), decode cX6_need pc = .ok (.ireturn, 1) → k_G D l E (pic_X6 D a pad res.2 fi se li so lo re ru ot le) lv pc [.int res.1]) (hf : fX6_need p1 now = some res) : k_G D l E (pic_X6 D a pad now fi se li so lo re ru ot le) [(0, .ref (a 0)), (1, .int p1)] 0 [] := by
  unfold fX6_need at hf
  refine g_iload_n X dX6_need_0 1 rfl rfl (n := 1) rfl ?_
  refine g_iconst X dX6_need_1 (v := 0) (by decide) (n := 2) rfl ?_
  refine g_bipush X dX6_need_2 (v := 60) (by decide) (n := 4) rfl ?_
  obtain ⟨x_1, g_2, hf⟩ := k_b1s hf
  refine g_callS0 X (mX6_isWithin (D := D) (l := l)  g_2) lk_X6_isWithin mlX6_69 dX6_need_4 (n := 7) rfl (st := []) rfl (st2 := [.int (bI x_1)]) rfl rfl ⟨Nat.le_of_ble_eq_true rfl, Nat.le_of_ble_eq_true rfl⟩ (Nat.le_of_ble_eq_true rfl) ?_
  refine g_if_neB X dX6_need_7 (t := 13) (by decide) (n := 10) rfl (fun c_3 => ?_) (fun c_3 => ?_)
  · replace hf := k_pos c_3 hf
    refine g_aload_n X dX6_need_13 0 rfl rfl (n := 14) rfl ?_
    refine g_get X dX6_need_14 flX6_21 0 rfl (v := .ref (a 3)) rfl (n := 17) rfl ?_
    refine g_getN X dX6_need_17 flX6_134 3 rfl (v := .int now.2.2.2.2.2.1) rfl (n := 20) rfl ?_
    refine g_istore_n X dX6_need_20 rfl (by decide) (lv2 := [(2, .int now.2.2.2.2.2.1), (0, .ref (a 0)), (1, .int p1)]) rfl (n := 21) rfl ?_
    refine g_aload_n X dX6_need_21 1 rfl rfl (n := 22) rfl ?_
    refine g_get X dX6_need_22 flX6_21 0 rfl (v := .ref (a 3)) rfl (n := 25) rfl ?_
    refine g_iload_n X dX6_need_25 2 rfl rfl (n := 26) rfl ?_
    refine g_putN X dX6_need_26 flX6_134 3 rfl rfl rfl (Nat.le_of_ble_eq_true rfl) (ws2 := pic_X6 D a pad (now.1, now.2.1, now.2.2.1, now.2.2.2.1, now.2.2.2.2.1, p1, now.2.2.2.2.2.2) fi se li so lo re ru ot le) rfl (n := 29) rfl ?_
    refine g_iload_n X dX6_need_29 0 rfl rfl (n := 30) rfl ?_
    obtain rfl := Option.some.inj hf
    exact hret _ _ dX6_need_30
  · replace hf := k_neg c_3 hf
    refine g_bipush X dX6_need_10 (v := (-2)) (by decide) (n := 12) rfl ?_
    obtain rfl := Option.some.inj hf
    exact hret _ _ dX6_need_12
set_option maxRecDepth 100000 in
set_option maxHeartbeats 4000000 in
theorem mX6_need {l : Launch} {D : va_G} {a : Nat → Nat} {p1 : Int32} {pad : VX5} {now : VX3} {fi : VX3} {se : VX3} {li : VX4} {so : VX4} {lo : VX1} {re : VX2} {ru : VX0} {ot : VX0} {le : Nat → Int32} {res : Int32 × VX3} (hf : fX6_need p1 now = some res) : k_Met l yX6_need cX6_need 3 (some .int) 1 22 D [.ref (a 0), .int p1] (pic_X6 D a pad now fi se li so lo re ru ot le) (some (.int res.1)) (pic_X6 D a pad res.2 fi se li so lo re ru ot le) :=
  k_of_i (by decide) (Nat.le_of_ble_eq_true rfl) (fun E X hret => wX6_need X hret hf)
set_option maxRecDepth 100000 in
set_option maxHeartbeats 4000000 in
theorem wX6_rule {D : va_G} {l : Launch} {E : k_E} {N : Nat} {a : Nat → Nat} {pad : VX5} {now : VX3} {fi : VX3} {se : VX3} {li : VX4} {so : VX4} {lo : VX1} {re : VX2} {ru : VX0} {ot : VX0} {le : Nat → Int32} {res : Int32 × VX5 × VX3} (X : k_X D E cX6_rule RX6 1 3 65) (hret : ∀ (pc : Nat) (lv : List (Nat × Value)), decode cX6_rule pc = .ok (.ireturn, 1) → k_G D l E (pic_X6 D a res.2.1 res.2.2 fi se li so lo re ru ot le) lv pc [.int res.1]) (hf : fX6_rule N pad now = some res) : k_G D l E (pic_X6 D a pad now fi se li so lo re ru ot le) [(0, .ref (a 0))] 0 [] := by
  unfold fX6_rule at hf
  refine g_aload_n X dX6_rule_0 0 rfl rfl (n := 1) rfl ?_
  obtain ⟨x_1, g_2, hf⟩ := k_b1s hf
  refine g_callV0 X (mX6_ruleFault (D := D) (l := l) (a := a) (now := now) (fi := fi) (se := se) (li := li) (so := so) (lo := lo) (re := re) (ru := ru) (ot := ot) (le := le) g_2) lk_X6_ruleFault mlX6_88 dX6_rule_1 (n := 4) rfl (st := []) rfl (st2 := [.int x_1]) rfl rfl rfl rfl (ws2 := pic_X6 D a pad now fi se li so lo re ru ot le) (ad_X6 _ _ _ _ _ _ _ _ _ _ _ _ _ _ _ _ _ _ _ _ _ _ _ _) rfl ⟨Nat.le_of_ble_eq_true rfl, Nat.le_of_ble_eq_true rfl⟩ (Nat.le_of_ble_eq_true rfl) ?_
  refine g_bipush X dX6_rule_4 (v := (-6)) (by decide) (n := 6) rfl ?_
  refine g_icmp_eq X dX6_rule_6 (t := 12) (by decide) (n := 9) rfl (fun c_3 => ?_) (fun c_3 => ?_)
  · replace hf := k_pos c_3 hf
    refine g_aload_n X dX6_rule_12 0 rfl rfl (n := 13) rfl ?_
    refine g_get X dX6_rule_13 flX6_21 0 rfl (v := .ref (a 3)) rfl (n := 16) rfl ?_
    refine g_getN X dX6_rule_16 flX6_137 3 rfl (v := .ref (a 7)) rfl (n := 19) rfl ?_
    refine g_aload_n X dX6_rule_19 0 rfl rfl (n := 20) rfl ?_
    refine g_get X dX6_rule_20 flX6_14 0 rfl (v := .ref (a 1)) rfl (n := 23) rfl ?_
    obtain ⟨now_4, g_5, hf⟩ := k_b1s hf
    refine g_callV X (mX5_become (D := D) (l := l) (a0 := (a 7)) (a1 := (a 8)) (n := 11) (b0 := (a 1)) (b1 := (a 2)) (nb := 16) g_5) lk_X5_become mlX6_140 dX6_rule_23 (n := 26) rfl (st := []) rfl (st2 := []) rfl [7, 8, 1, 2] rfl rfl rfl rfl rfl rfl (ws2 := pic_X6 D a pad (now.1, now.2.1, now.2.2.1, now_4, now.2.2.2.2.1, now.2.2.2.2.2.1, now.2.2.2.2.2.2) fi se li so lo re ru ot le) rfl rfl rfl ⟨Nat.le_of_ble_eq_true rfl, Nat.le_of_ble_eq_true rfl⟩ (Nat.le_of_ble_eq_true rfl) ?_
    refine g_aload_n X dX6_rule_26 0 rfl rfl (n := 27) rfl ?_
    obtain ⟨x_6, pad_7, g_8, hf⟩ := k_b2s hf
    refine g_callV0 X (mX6_wipe (D := D) (l := l) (a := a) (now := (now.1, now.2.1, now.2.2.1, now_4, now.2.2.2.2.1, now.2.2.2.2.2.1, now.2.2.2.2.2.2)) (fi := fi) (se := se) (li := li) (so := so) (lo := lo) (re := re) (ru := ru) (ot := ot) (le := le) g_8) lk_X6_wipe mlX6_98 dX6_rule_27 (n := 30) rfl (st := []) rfl (st2 := [.int x_6]) rfl rfl rfl rfl (ws2 := pic_X6 D a pad_7 (now.1, now.2.1, now.2.2.1, now_4, now.2.2.2.2.1, now.2.2.2.2.2.1, now.2.2.2.2.2.2) fi se li so lo re ru ot le) (ad_X6 _ _ _ _ _ _ _ _ _ _ _ _ _ _ _ _ _ _ _ _ _ _ _ _) rfl ⟨Nat.le_of_ble_eq_true rfl, Nat.le_of_ble_eq_true rfl⟩ (Nat.le_of_ble_eq_true rfl) ?_
    obtain rfl := Option.some.inj hf
    exact hret _ _ dX6_rule_30
  · replace hf := k_neg c_3 hf
    refine g_bipush X dX6_rule_9 (v := (-5)) (by decide) (n := 11) rfl ?_
    obtain rfl := Option.some.inj hf
    exact hret _ _ dX6_rule_11
set_option maxRecDepth 100000 in
set_option maxHeartbeats 4000000 in
theorem mX6_rule {l : Launch} {D : va_G} {N : Nat} {a : Nat → Nat} {pad : VX5} {now : VX3} {fi : VX3} {se : VX3} {li : VX4} {so : VX4} {lo : VX1} {re : VX2} {ru : VX0} {ot : VX0} {le : Nat → Int32} {res : Int32 × VX5 × VX3} (hf : fX6_rule N pad now = some res) : k_Met l yX6_rule cX6_rule 1 (some .int) 3 65 D [.ref (a 0)] (pic_X6 D a pad now fi se li so lo re ru ot le) (some (.int res.1)) (pic_X6 D a res.2.1 res.2.2 fi se li so lo re ru ot le) :=
  k_of_i (by decide) (Nat.le_of_ble_eq_true rfl) (fun E X hret => wX6_rule X hret hf)
set_option maxRecDepth 100000 in
set_option maxHeartbeats 4000000 in
theorem wX6_isNumber {D : va_G} {l : Launch} {E : k_E} {p0 : Int32} {res : Bool} (X : k_X D E cX6_isNumber RX6 1 1 22) (hret : ∀ (pc : Nat) (lv : List (Nat × Value)), decode cX6_isNumber pc = .ok (.ireturn, 1) → k_G D l E ([]) lv pc [.int (bI res)]) (hf : fX6_isNumber p0 = some res) : k_G D l E ([]) [(0, .int p0)] 0 [] := by
  unfold fX6_isNumber at hf
  refine g_iload_n X dX6_isNumber_0 0 rfl rfl (n := 1) rfl ?_
  refine g_iconst X dX6_isNumber_1 (v := 0) (by decide) (n := 2) rfl ?_
  refine g_bipush X dX6_isNumber_2 (v := 60) (by decide) (n := 4) rfl ?_
  obtain ⟨x_1, g_2, hf⟩ := k_b1s hf
  refine g_callS0 X (mX6_isWithin (D := D) (l := l)  g_2) lk_X6_isWithin mlX6_69 dX6_isNumber_4 (n := 7) rfl (st := []) rfl (st2 := [.int (bI x_1)]) rfl rfl ⟨Nat.le_of_ble_eq_true rfl, Nat.le_of_ble_eq_true rfl⟩ (Nat.le_of_ble_eq_true rfl) ?_
  obtain rfl := Option.some.inj hf
  exact hret _ _ dX6_isNumber_7
set_option maxRecDepth 100000 in
set_option maxHeartbeats 4000000 in
theorem mX6_isNumber {l : Launch} {D : va_G} {p0 : Int32} {res : Bool} (hf : fX6_isNumber p0 = some res) : k_Met l yX6_isNumber cX6_isNumber 1 (some .boolean) 1 22 D [.int p0] ([]) (some (.int (bI res))) ([]) :=
  k_of_z (by decide) (Nat.le_of_ble_eq_true rfl) (fun E X hret => wX6_isNumber X hret hf)
set_option maxRecDepth 100000 in
set_option maxHeartbeats 4000000 in
theorem wX6_isPart {D : va_G} {l : Launch} {E : k_E} {p0 : Int32} {res : Bool} (X : k_X D E cX6_isPart RX6 1 1 22) (hret : ∀ (pc : Nat) (lv : List (Nat × Value)), decode cX6_isPart pc = .ok (.ireturn, 1) → k_G D l E ([]) lv pc [.int (bI res)]) (hf : fX6_isPart p0 = some res) : k_G D l E ([]) [(0, .int p0)] 0 [] := by
  unfold fX6_isPart at hf
  refine g_iload_n X dX6_isPart_0 0 rfl rfl (n := 1) rfl ?_
  refine g_iconst X dX6_isPart_1 (v := 0) (by decide) (n := 2) rfl ?_
  refine g_iconst X dX6_isPart_2 (v := 1) (by decide) (n := 3) rfl ?_
  obtain ⟨x_1, g_2, hf⟩ := k_b1s hf
  refine g_callS0 X (mX6_isWithin (D := D) (l := l)  g_2) lk_X6_isWithin mlX6_69 dX6_isPart_3 (n := 6) rfl (st := []) rfl (st2 := [.int (bI x_1)]) rfl rfl ⟨Nat.le_of_ble_eq_true rfl, Nat.le_of_ble_eq_true rfl⟩ (Nat.le_of_ble_eq_true rfl) ?_
  obtain rfl := Option.some.inj hf
  exact hret _ _ dX6_isPart_6
set_option maxRecDepth 100000 in
set_option maxHeartbeats 4000000 in
theorem mX6_isPart {l : Launch} {D : va_G} {p0 : Int32} {res : Bool} (hf : fX6_isPart p0 = some res) : k_Met l yX6_isPart cX6_isPart 1 (some .boolean) 1 22 D [.int p0] ([]) (some (.int (bI res))) ([]) :=
  k_of_z (by decide) (Nat.le_of_ble_eq_true rfl) (fun E X hret => wX6_isPart X hret hf)
set_option maxRecDepth 100000 in
set_option maxHeartbeats 4000000 in
theorem wX6_comes {D : va_G} {l : Launch} {E : k_E} {N : Nat} {a : Nat → Nat} {p1 : Int32} {p2 : Int32} {p3 : Int32} {p4 : Int32} {p5 : Int32} {pad : VX5} {now : VX3} {fi : VX3} {se : VX3} {li : VX4} {so : VX4} {lo : VX1} {re : VX2} {ru : VX0} {ot : VX0} {le : Nat → Int32} {res : Int64 × VX2 × VX0} (X : k_X D E cX6_comes RX6 6 3 84) (hret : ∀ (pc : Nat) (lv : List (Nat × Value)), decode cX6_comes pc = .ok (.lreturn, 1) → k_G D l E (pic_X6 D a pad now fi se li so lo res.2.1 res.2.2 ot le) lv pc [.long res.1]) (hf : fX6_comes N now p1 p2 p3 p4 p5 re ru = some res) : k_G D l E (pic_X6 D a pad now fi se li so lo re ru ot le) [(0, .ref (a 0)), (1, .int p1), (2, .int p2), (3, .int p3), (4, .int p4), (5, .int p5)] 0 [] := by
  unfold fX6_comes at hf
  refine g_iload_n X dX6_comes_0 1 rfl rfl (n := 1) rfl ?_
  obtain ⟨x_1, g_2, hf⟩ := k_b1s hf
  refine g_callS0 X (mX6_isNumber (D := D) (l := l)  g_2) lk_X6_isNumber mlX6_144 dX6_comes_1 (n := 4) rfl (st := []) rfl (st2 := [.int (bI x_1)]) rfl rfl ⟨Nat.le_of_ble_eq_true rfl, Nat.le_of_ble_eq_true rfl⟩ (Nat.le_of_ble_eq_true rfl) ?_
  refine g_if_eqB X dX6_comes_4 (t := 37) (by decide) (n := 7) rfl (fun c_3 => ?_) (fun c_3 => ?_)
  · replace hf := k_neg c_3 hf
    refine g_ldc2 X dX6_comes_37 kcX6_150 (n := 40) rfl ?_
    obtain rfl := Option.some.inj hf
    exact hret _ _ dX6_comes_40
  · replace hf := k_pos c_3 hf
    refine g_iload_n X dX6_comes_7 2 rfl rfl (n := 8) rfl ?_
    obtain ⟨x_4, g_5, hf⟩ := k_b1s hf
    refine g_callS0 X (mX6_isNumber (D := D) (l := l)  g_5) lk_X6_isNumber mlX6_144 dX6_comes_8 (n := 11) rfl (st := []) rfl (st2 := [.int (bI x_4)]) rfl rfl ⟨Nat.le_of_ble_eq_true rfl, Nat.le_of_ble_eq_true rfl⟩ (Nat.le_of_ble_eq_true rfl) ?_
    refine g_if_eqB X dX6_comes_11 (t := 37) (by decide) (n := 14) rfl (fun c_6 => ?_) (fun c_6 => ?_)
    · replace hf := k_neg c_6 hf
      refine g_ldc2 X dX6_comes_37 kcX6_150 (n := 40) rfl ?_
      obtain rfl := Option.some.inj hf
      exact hret _ _ dX6_comes_40
    · replace hf := k_pos c_6 hf
      refine g_iload_n X dX6_comes_14 3 rfl rfl (n := 15) rfl ?_
      obtain ⟨x_7, g_8, hf⟩ := k_b1s hf
      refine g_callS0 X (mX6_isNumber (D := D) (l := l)  g_8) lk_X6_isNumber mlX6_144 dX6_comes_15 (n := 18) rfl (st := []) rfl (st2 := [.int (bI x_7)]) rfl rfl ⟨Nat.le_of_ble_eq_true rfl, Nat.le_of_ble_eq_true rfl⟩ (Nat.le_of_ble_eq_true rfl) ?_
      refine g_if_eqB X dX6_comes_18 (t := 37) (by decide) (n := 21) rfl (fun c_9 => ?_) (fun c_9 => ?_)
      · replace hf := k_neg c_9 hf
        refine g_ldc2 X dX6_comes_37 kcX6_150 (n := 40) rfl ?_
        obtain rfl := Option.some.inj hf
        exact hret _ _ dX6_comes_40
      · replace hf := k_pos c_9 hf
        refine g_iload X dX6_comes_21 4 rfl (n := 23) rfl ?_
        obtain ⟨x_10, g_11, hf⟩ := k_b1s hf
        refine g_callS0 X (mX6_isNumber (D := D) (l := l)  g_11) lk_X6_isNumber mlX6_144 dX6_comes_23 (n := 26) rfl (st := []) rfl (st2 := [.int (bI x_10)]) rfl rfl ⟨Nat.le_of_ble_eq_true rfl, Nat.le_of_ble_eq_true rfl⟩ (Nat.le_of_ble_eq_true rfl) ?_
        refine g_if_eqB X dX6_comes_26 (t := 37) (by decide) (n := 29) rfl (fun c_12 => ?_) (fun c_12 => ?_)
        · replace hf := k_neg c_12 hf
          refine g_ldc2 X dX6_comes_37 kcX6_150 (n := 40) rfl ?_
          obtain rfl := Option.some.inj hf
          exact hret _ _ dX6_comes_40
        · replace hf := k_pos c_12 hf
          refine g_iload X dX6_comes_29 5 rfl (n := 31) rfl ?_
          obtain ⟨x_13, g_14, hf⟩ := k_b1s hf
          refine g_callS0 X (mX6_isPart (D := D) (l := l)  g_14) lk_X6_isPart mlX6_147 dX6_comes_31 (n := 34) rfl (st := []) rfl (st2 := [.int (bI x_13)]) rfl rfl ⟨Nat.le_of_ble_eq_true rfl, Nat.le_of_ble_eq_true rfl⟩ (Nat.le_of_ble_eq_true rfl) ?_
          refine g_if_neB X dX6_comes_34 (t := 41) (by decide) (n := 37) rfl (fun c_15 => ?_) (fun c_15 => ?_)
          · replace hf := k_pos c_15 hf
            refine g_aload_n X dX6_comes_41 0 rfl rfl (n := 42) rfl ?_
            refine g_get X dX6_comes_42 flX6_51 0 rfl (v := .ref (a 28)) rfl (n := 45) rfl ?_
            refine g_aload_n X dX6_comes_45 0 rfl rfl (n := 46) rfl ?_
            refine g_get X dX6_comes_46 flX6_21 0 rfl (v := .ref (a 3)) rfl (n := 49) rfl ?_
            refine g_getN X dX6_comes_49 flX6_137 3 rfl (v := .ref (a 7)) rfl (n := 52) rfl ?_
            refine g_iload_n X dX6_comes_52 1 rfl rfl (n := 53) rfl ?_
            refine g_iload_n X dX6_comes_53 2 rfl rfl (n := 54) rfl ?_
            refine g_iload_n X dX6_comes_54 3 rfl rfl (n := 55) rfl ?_
            refine g_iload X dX6_comes_55 4 rfl (n := 57) rfl ?_
            obtain ⟨x_16, re_17, g_18, hf⟩ := k_b2s hf
            refine g_callV X (mX2_reckon (D := D) (l := l) (a0 := (a 28)) (a1 := (a 29)) (a2 := (a 30)) (b0 := (a 7)) (b1 := (a 8)) (n := 11) g_18) lk_X2_reckon mlX6_152 dX6_comes_57 (n := 60) rfl (st := []) rfl (st2 := [.int (bI x_16)]) rfl [28, 29, 30, 7, 8] rfl rfl rfl rfl rfl rfl (ws2 := pic_X6 D a pad now fi se li so lo re_17 ru ot le) rfl rfl rfl ⟨Nat.le_of_ble_eq_true rfl, Nat.le_of_ble_eq_true rfl⟩ (Nat.le_of_ble_eq_true rfl) ?_
            refine g_if_neB X dX6_comes_60 (t := 67) (by decide) (n := 63) rfl (fun c_19 => ?_) (fun c_19 => ?_)
            · replace hf := k_pos c_19 hf
              refine g_aload_n X dX6_comes_67 0 rfl rfl (n := 68) rfl ?_
              refine g_get X dX6_comes_68 flX6_58 0 rfl (v := .ref (a 31)) rfl (n := 71) rfl ?_
              refine g_aload_n X dX6_comes_71 0 rfl rfl (n := 72) rfl ?_
              refine g_get X dX6_comes_72 flX6_51 0 rfl (v := .ref (a 28)) rfl (n := 75) rfl ?_
              obtain ⟨x_20, g_21, hf⟩ := k_b1s hf
              refine g_callV X (mX2_upper (D := D) (l := l) (a0 := (a 28)) (a1 := (a 29)) (a2 := (a 30)) g_21) lk_X2_upper mlX6_158 dX6_comes_75 (n := 78) rfl (st := [.ref (a 31)]) rfl (st2 := [.long x_20, .ref (a 31)]) rfl [28, 29, 30] rfl rfl rfl rfl rfl rfl (ws2 := pic_X6 D a pad now fi se li so lo re_17 ru ot le) rfl rfl rfl ⟨Nat.le_of_ble_eq_true rfl, Nat.le_of_ble_eq_true rfl⟩ (Nat.le_of_ble_eq_true rfl) ?_
              refine g_aload_n X dX6_comes_78 0 rfl rfl (n := 79) rfl ?_
              refine g_get X dX6_comes_79 flX6_51 0 rfl (v := .ref (a 28)) rfl (n := 82) rfl ?_
              obtain ⟨x_22, g_23, hf⟩ := k_b1s hf
              refine g_callV X (mX2_lower (D := D) (l := l) (a0 := (a 28)) (a1 := (a 29)) (a2 := (a 30)) g_23) lk_X2_lower mlX6_162 dX6_comes_82 (n := 85) rfl (st := [.long x_20, .ref (a 31)]) rfl (st2 := [.long x_22, .long x_20, .ref (a 31)]) rfl [28, 29, 30] rfl rfl rfl rfl rfl rfl (ws2 := pic_X6 D a pad now fi se li so lo re_17 ru ot le) rfl rfl rfl ⟨Nat.le_of_ble_eq_true rfl, Nat.le_of_ble_eq_true rfl⟩ (Nat.le_of_ble_eq_true rfl) ?_
              obtain ⟨ru_24, g_25, hf⟩ := k_b1s hf
              refine g_callV X (mX0_become (D := D) (l := l) (a0 := (a 31)) g_25) lk_X0_become mlX6_165 dX6_comes_85 (n := 88) rfl (st := []) rfl (st2 := []) rfl [31] rfl rfl rfl rfl rfl rfl (ws2 := pic_X6 D a pad now fi se li so lo re_17 ru_24 ot le) rfl rfl rfl ⟨Nat.le_of_ble_eq_true rfl, Nat.le_of_ble_eq_true rfl⟩ (Nat.le_of_ble_eq_true rfl) ?_
              refine g_aload_n X dX6_comes_88 0 rfl rfl (n := 89) rfl ?_
              refine g_get X dX6_comes_89 flX6_58 0 rfl (v := .ref (a 31)) rfl (n := 92) rfl ?_
              refine g_iload X dX6_comes_92 5 rfl (n := 94) rfl ?_
              obtain ⟨x_26, g_27, hf⟩ := k_b1s hf
              refine g_callV X (mX0_half (D := D) (l := l) (a0 := (a 31)) g_27) lk_X0_half mlX6_168 dX6_comes_94 (n := 97) rfl (st := []) rfl (st2 := [.long x_26]) rfl [31] rfl rfl rfl rfl rfl rfl (ws2 := pic_X6 D a pad now fi se li so lo re_17 ru_24 ot le) rfl rfl rfl ⟨Nat.le_of_ble_eq_true rfl, Nat.le_of_ble_eq_true rfl⟩ (Nat.le_of_ble_eq_true rfl) ?_
              obtain rfl := Option.some.inj hf
              exact hret _ _ dX6_comes_97
            · replace hf := k_neg c_19 hf
              refine g_ldc2 X dX6_comes_63 kcX6_156 (n := 66) rfl ?_
              obtain rfl := Option.some.inj hf
              exact hret _ _ dX6_comes_66
          · replace hf := k_neg c_15 hf
            refine g_ldc2 X dX6_comes_37 kcX6_150 (n := 40) rfl ?_
            obtain rfl := Option.some.inj hf
            exact hret _ _ dX6_comes_40
set_option maxRecDepth 100000 in
set_option maxHeartbeats 4000000 in
theorem mX6_comes {l : Launch} {D : va_G} {N : Nat} {a : Nat → Nat} {p1 : Int32} {p2 : Int32} {p3 : Int32} {p4 : Int32} {p5 : Int32} {pad : VX5} {now : VX3} {fi : VX3} {se : VX3} {li : VX4} {so : VX4} {lo : VX1} {re : VX2} {ru : VX0} {ot : VX0} {le : Nat → Int32} {res : Int64 × VX2 × VX0} (hf : fX6_comes N now p1 p2 p3 p4 p5 re ru = some res) : k_Met l yX6_comes cX6_comes 6 (some .long) 3 84 D [.ref (a 0), .int p1, .int p2, .int p3, .int p4, .int p5] (pic_X6 D a pad now fi se li so lo re ru ot le) (some (.long res.1)) (pic_X6 D a pad now fi se li so lo res.2.1 res.2.2 ot le) :=
  k_of_l (by decide) (Nat.le_of_ble_eq_true rfl) (fun E X hret => wX6_comes X hret hf)
set_option maxRecDepth 100000 in
set_option maxHeartbeats 4000000 in
theorem wX6_lotRefusal {D : va_G} {l : Launch} {E : k_E} {N : Nat} {a : Nat → Nat} {p1 : Int32} {p2 : Int32} {pad : VX5} {now : VX3} {fi : VX3} {se : VX3} {li : VX4} {so : VX4} {lo : VX1} {re : VX2} {ru : VX0} {ot : VX0} {le : Nat → Int32} {res : Int32 × VX4} (X : k_X D E cX6_lotRefusal RX6 3 4 89) (hret : ∀ (pc : Nat) (lv : List (Nat × Value)), decode cX6_lotRefusal pc = .ok (.ireturn, 1) → k_G D l E (pic_X6 D a pad now fi se res.2 so lo re ru ot le) lv pc [.int res.1]) (hf : fX6_lotRefusal N now p1 p2 li = some res) : k_G D l E (pic_X6 D a pad now fi se li so lo re ru ot le) [(0, .ref (a 0)), (1, .int p1), (2, .int p2)] 0 [] := by
  unfold fX6_lotRefusal at hf
  refine g_aload_n X dX6_lotRefusal_0 0 rfl rfl (n := 1) rfl ?_
  obtain ⟨li_1, g_2, hf⟩ := k_b1s hf
  refine g_callV0 X (mX6_readList (D := D) (l := l) (a := a) (pad := pad) (fi := fi) (se := se) (so := so) (lo := lo) (re := re) (ru := ru) (ot := ot) (le := le) g_2) lk_X6_readList mlX6_115 dX6_lotRefusal_1 (n := 4) rfl (st := []) rfl (st2 := []) rfl rfl rfl rfl (ws2 := pic_X6 D a pad now fi se li_1 so lo re ru ot le) (ad_X6 _ _ _ _ _ _ _ _ _ _ _ _ _ _ _ _ _ _ _ _ _ _ _ _) rfl ⟨Nat.le_of_ble_eq_true rfl, Nat.le_of_ble_eq_true rfl⟩ (Nat.le_of_ble_eq_true rfl) ?_
  refine g_iload_n X dX6_lotRefusal_4 1 rfl rfl (n := 5) rfl ?_
  refine g_iconst X dX6_lotRefusal_5 (v := 1) (by decide) (n := 6) rfl ?_
  refine g_aload_n X dX6_lotRefusal_6 0 rfl rfl (n := 7) rfl ?_
  refine g_get X dX6_lotRefusal_7 flX6_34 0 rfl (v := .ref (a 21)) rfl (n := 10) rfl ?_
  refine g_getN X dX6_lotRefusal_10 flX6_118 21 rfl (v := .int li_1.2.1) rfl (n := 13) rfl ?_
  obtain ⟨x_3, g_4, hf⟩ := k_b1s hf
  refine g_callS0 X (mX6_isWithin (D := D) (l := l)  g_4) lk_X6_isWithin mlX6_69 dX6_lotRefusal_13 (n := 16) rfl (st := []) rfl (st2 := [.int (bI x_3)]) rfl rfl ⟨Nat.le_of_ble_eq_true rfl, Nat.le_of_ble_eq_true rfl⟩ (Nat.le_of_ble_eq_true rfl) ?_
  refine g_if_eqB X dX6_lotRefusal_16 (t := 26) (by decide) (n := 19) rfl (fun c_5 => ?_) (fun c_5 => ?_)
  · replace hf := k_neg c_5 hf
    refine g_bipush X dX6_lotRefusal_26 (v := (-2)) (by decide) (n := 28) rfl ?_
    obtain rfl := Option.some.inj hf
    exact hret _ _ dX6_lotRefusal_28
  · replace hf := k_pos c_5 hf
    refine g_iload_n X dX6_lotRefusal_19 2 rfl rfl (n := 20) rfl ?_
    obtain ⟨x_6, g_7, hf⟩ := k_b1s hf
    refine g_callS0 X (mX6_isPart (D := D) (l := l)  g_7) lk_X6_isPart mlX6_147 dX6_lotRefusal_20 (n := 23) rfl (st := []) rfl (st2 := [.int (bI x_6)]) rfl rfl ⟨Nat.le_of_ble_eq_true rfl, Nat.le_of_ble_eq_true rfl⟩ (Nat.le_of_ble_eq_true rfl) ?_
    refine g_if_neB X dX6_lotRefusal_23 (t := 29) (by decide) (n := 26) rfl (fun c_8 => ?_) (fun c_8 => ?_)
    · replace hf := k_pos c_8 hf
      refine g_aload_n X dX6_lotRefusal_29 0 rfl rfl (n := 30) rfl ?_
      refine g_get X dX6_lotRefusal_30 flX6_34 0 rfl (v := .ref (a 21)) rfl (n := 33) rfl ?_
      refine g_getN X dX6_lotRefusal_33 flX6_124 21 rfl (v := .int (bI li_1.2.2.2.2.2.2)) rfl (n := 36) rfl ?_
      refine g_if_eqB X dX6_lotRefusal_36 (t := 44) (by decide) (n := 39) rfl (fun c_9 => ?_) (fun c_9 => ?_)
      · replace hf := k_neg c_9 hf
        refine g_iconst X dX6_lotRefusal_44 (v := 0) (by decide) (n := 45) rfl ?_
        obtain rfl := Option.some.inj hf
        exact hret _ _ dX6_lotRefusal_45
      · replace hf := k_pos c_9 hf
        refine g_bipush X dX6_lotRefusal_39 (v := (-3)) (by decide) (n := 41) rfl ?_
        refine g_goto X dX6_lotRefusal_41 (n := 45) (by decide) ?_
        obtain rfl := Option.some.inj hf
        exact hret _ _ dX6_lotRefusal_45
    · replace hf := k_neg c_8 hf
      refine g_bipush X dX6_lotRefusal_26 (v := (-2)) (by decide) (n := 28) rfl ?_
      obtain rfl := Option.some.inj hf
      exact hret _ _ dX6_lotRefusal_28
set_option maxRecDepth 100000 in
set_option maxHeartbeats 4000000 in
theorem mX6_lotRefusal {l : Launch} {D : va_G} {N : Nat} {a : Nat → Nat} {p1 : Int32} {p2 : Int32} {pad : VX5} {now : VX3} {fi : VX3} {se : VX3} {li : VX4} {so : VX4} {lo : VX1} {re : VX2} {ru : VX0} {ot : VX0} {le : Nat → Int32} {res : Int32 × VX4} (hf : fX6_lotRefusal N now p1 p2 li = some res) : k_Met l yX6_lotRefusal cX6_lotRefusal 3 (some .int) 4 89 D [.ref (a 0), .int p1, .int p2] (pic_X6 D a pad now fi se li so lo re ru ot le) (some (.int res.1)) (pic_X6 D a pad now fi se res.2 so lo re ru ot le) :=
  k_of_i (by decide) (Nat.le_of_ble_eq_true rfl) (fun E X hret => wX6_lotRefusal X hret hf)
set_option maxRecDepth 100000 in
set_option maxHeartbeats 4000000 in
theorem wX6_layList {D : va_G} {l : Launch} {E : k_E} {N : Nat} {a : Nat → Nat} {pad : VX5} {now : VX3} {fi : VX3} {se : VX3} {li : VX4} {so : VX4} {lo : VX1} {re : VX2} {ru : VX0} {ot : VX0} {le : Nat → Int32} {res : VX1} (X : k_X D E cX6_layList RX6 1 3 69) (hret : ∀ (pc : Nat) (lv : List (Nat × Value)), decode cX6_layList pc = .ok (.return_, 1) → k_G D l E (pic_X6 D a pad now fi se li so res re ru ot le) lv pc []) (hf : fX6_layList N li lo = some res) : k_G D l E (pic_X6 D a pad now fi se li so lo re ru ot le) [(0, .ref (a 0))] 0 [] := by
  unfold fX6_layList at hf
  refine g_aload_n X dX6_layList_0 0 rfl rfl (n := 1) rfl ?_
  refine g_get X dX6_layList_1 flX6_44 0 rfl (v := .ref (a 25)) rfl (n := 4) rfl ?_
  refine g_aload_n X dX6_layList_4 0 rfl rfl (n := 5) rfl ?_
  refine g_get X dX6_layList_5 flX6_34 0 rfl (v := .ref (a 21)) rfl (n := 8) rfl ?_
  obtain ⟨x_1, g_2, hf⟩ := k_b1s hf
  refine g_callV X (mX4_singles (D := D) (l := l) (a0 := (a 21)) (a1 := (a 22)) g_2) lk_X4_singles mlX6_265 dX6_layList_8 (n := 11) rfl (st := [.ref (a 25)]) rfl (st2 := [.int x_1, .ref (a 25)]) rfl [21, 22] rfl rfl rfl rfl rfl rfl (ws2 := pic_X6 D a pad now fi se li so lo re ru ot le) rfl rfl rfl ⟨Nat.le_of_ble_eq_true rfl, Nat.le_of_ble_eq_true rfl⟩ (Nat.le_of_ble_eq_true rfl) ?_
  refine g_aload_n X dX6_layList_11 0 rfl rfl (n := 12) rfl ?_
  refine g_get X dX6_layList_12 flX6_34 0 rfl (v := .ref (a 21)) rfl (n := 15) rfl ?_
  refine g_getN X dX6_layList_15 flX6_121 21 rfl (v := .int li.2.2.1) rfl (n := 18) rfl ?_
  refine g_aload_n X dX6_layList_18 0 rfl rfl (n := 19) rfl ?_
  refine g_get X dX6_layList_19 flX6_34 0 rfl (v := .ref (a 21)) rfl (n := 22) rfl ?_
  refine g_getN X dX6_layList_22 flX6_128 21 rfl (v := .int li.2.2.2.2.2.1) rfl (n := 25) rfl ?_
  obtain ⟨lo_3, g_4, hf⟩ := k_b1s hf
  refine g_callV X (mX1_lay (D := D) (l := l) (a0 := (a 25)) (a1 := (a 26)) (a2 := (a 27)) g_4) lk_X1_lay mlX6_268 dX6_layList_25 (n := 28) rfl (st := []) rfl (st2 := []) rfl [25, 26, 27] rfl rfl rfl rfl rfl rfl (ws2 := pic_X6 D a pad now fi se li so lo_3 re ru ot le) rfl rfl rfl ⟨Nat.le_of_ble_eq_true rfl, Nat.le_of_ble_eq_true rfl⟩ (Nat.le_of_ble_eq_true rfl) ?_
  obtain rfl := Option.some.inj hf
  exact hret _ _ dX6_layList_28
set_option maxRecDepth 100000 in
set_option maxHeartbeats 4000000 in
theorem mX6_layList {l : Launch} {D : va_G} {N : Nat} {a : Nat → Nat} {pad : VX5} {now : VX3} {fi : VX3} {se : VX3} {li : VX4} {so : VX4} {lo : VX1} {re : VX2} {ru : VX0} {ot : VX0} {le : Nat → Int32} {res : VX1} (hf : fX6_layList N li lo = some res) : k_Met l yX6_layList cX6_layList 1 none 3 69 D [.ref (a 0)] (pic_X6 D a pad now fi se li so lo re ru ot le) none (pic_X6 D a pad now fi se li so res re ru ot le) :=
  k_of_v (by decide) (Nat.le_of_ble_eq_true rfl) (fun E X hret => wX6_layList X hret hf)
set_option maxRecDepth 100000 in
set_option maxHeartbeats 4000000 in
theorem wX6_waysToYes_b112 {D : va_G} {l : Launch} {E : k_E} {N : Nat} {a : Nat → Nat} {k17 : Int32 → Int64 → Int32 → VX2 → Option (Int64 × VX2)} {v1 : Int32} {v2 : Int64} {v4 : Int32} {pad : VX5} {now : VX3} {fi : VX3} {se : VX3} {li : VX4} {so : VX4} {lo : VX1} {re : VX2} {ru : VX0} {ot : VX0} {le : Nat → Int32} {res : Int64 × VX2} (X : k_X D E cX6_waysToYes RX6 6 4 109) (hk17 : ∀ (v1 : Int32) (v2 : Int64) (v4 : Int32) (re : VX2), k17 v1 v2 v4 re = some res → k_G D l E (pic_X6 D a pad now fi se li so lo re ru ot le) [(0, .ref (a 0)), (1, .int v1), (2, .long v2), (4, .int v4)] 17 []) (hret : ∀ (pc : Nat) (lv : List (Nat × Value)), decode cX6_waysToYes pc = .ok (.lreturn, 1) → k_G D l E (pic_X6 D a pad now fi se li so lo res.2 ru ot le) lv pc [.long res.1]) (hf : fX6_waysToYes_b112 N now lo k17 v1 v2 v4 re = some res) : k_G D l E (pic_X6 D a pad now fi se li so lo re ru ot le) [(0, .ref (a 0)), (1, .int v1), (2, .long v2), (4, .int v4)] 112 [] := by
  unfold fX6_waysToYes_b112 at hf
  refine g_iinc X dX6_waysToYes_112 3 rfl (v := v4 + 1) rfl (by decide) (lv2 := [(4, .int (v4 + 1)), (0, .ref (a 0)), (1, .int v1), (2, .long v2)]) rfl (n := 115) rfl ?_
  refine g_goto X dX6_waysToYes_115 (n := 17) (by decide) ?_
  refine g_sub [1, 2, 3, 0] (lv' := [(0, .ref (a 0)), (1, .int v1), (2, .long v2), (4, .int (v4 + 1))]) rfl ?_
  exact hk17 _ _ _ _ hf
set_option maxRecDepth 100000 in
set_option maxHeartbeats 4000000 in
theorem wX6_waysToYes_b106 {D : va_G} {l : Launch} {E : k_E} {N : Nat} {a : Nat → Nat} {k17 : Int32 → Int64 → Int32 → VX2 → Option (Int64 × VX2)} {k44 : Int32 → Int64 → Int32 → Int32 → VX2 → Option (Int64 × VX2)} {v1 : Int32} {v2 : Int64} {v4 : Int32} {v5 : Int32} {pad : VX5} {now : VX3} {fi : VX3} {se : VX3} {li : VX4} {so : VX4} {lo : VX1} {re : VX2} {ru : VX0} {ot : VX0} {le : Nat → Int32} {res : Int64 × VX2} (X : k_X D E cX6_waysToYes RX6 6 4 109) (hk17 : ∀ (v1 : Int32) (v2 : Int64) (v4 : Int32) (re : VX2), k17 v1 v2 v4 re = some res → k_G D l E (pic_X6 D a pad now fi se li so lo re ru ot le) [(0, .ref (a 0)), (1, .int v1), (2, .long v2), (4, .int v4)] 17 []) (hk44 : ∀ (v1 : Int32) (v2 : Int64) (v4 : Int32) (v5 : Int32) (re : VX2), k44 v1 v2 v4 v5 re = some res → k_G D l E (pic_X6 D a pad now fi se li so lo re ru ot le) [(0, .ref (a 0)), (1, .int v1), (2, .long v2), (4, .int v4), (5, .int v5)] 44 []) (hret : ∀ (pc : Nat) (lv : List (Nat × Value)), decode cX6_waysToYes pc = .ok (.lreturn, 1) → k_G D l E (pic_X6 D a pad now fi se li so lo res.2 ru ot le) lv pc [.long res.1]) (hf : fX6_waysToYes_b106 N now lo k17 k44 v1 v2 v4 v5 re = some res) : k_G D l E (pic_X6 D a pad now fi se li so lo re ru ot le) [(0, .ref (a 0)), (1, .int v1), (2, .long v2), (4, .int v4), (5, .int v5)] 106 [] := by
  unfold fX6_waysToYes_b106 at hf
  refine g_iinc X dX6_waysToYes_106 4 rfl (v := v5 + 1) rfl (by decide) (lv2 := [(5, .int (v5 + 1)), (0, .ref (a 0)), (1, .int v1), (2, .long v2), (4, .int v4)]) rfl (n := 109) rfl ?_
  refine g_goto X dX6_waysToYes_109 (n := 44) (by decide) ?_
  refine g_sub [1, 2, 3, 4, 0] (lv' := [(0, .ref (a 0)), (1, .int v1), (2, .long v2), (4, .int v4), (5, .int (v5 + 1))]) rfl ?_
  exact hk44 _ _ _ _ _ hf
set_option maxRecDepth 100000 in
set_option maxHeartbeats 4000000 in
theorem wX6_waysToYes_b44 {D : va_G} {l : Launch} {E : k_E} {N : Nat} {a : Nat → Nat} {k17 : Int32 → Int64 → Int32 → VX2 → Option (Int64 × VX2)} {k44 : Int32 → Int64 → Int32 → Int32 → VX2 → Option (Int64 × VX2)} {v1 : Int32} {v2 : Int64} {v4 : Int32} {v5 : Int32} {pad : VX5} {now : VX3} {fi : VX3} {se : VX3} {li : VX4} {so : VX4} {lo : VX1} {re : VX2} {ru : VX0} {ot : VX0} {le : Nat → Int32} {res : Int64 × VX2} (X : k_X D E cX6_waysToYes RX6 6 4 109) (hk17 : ∀ (v1 : Int32) (v2 : Int64) (v4 : Int32) (re : VX2), k17 v1 v2 v4 re = some res → k_G D l E (pic_X6 D a pad now fi se li so lo re ru ot le) [(0, .ref (a 0)), (1, .int v1), (2, .long v2), (4, .int v4)] 17 []) (hk44 : ∀ (v1 : Int32) (v2 : Int64) (v4 : Int32) (v5 : Int32) (re : VX2), k44 v1 v2 v4 v5 re = some res → k_G D l E (pic_X6 D a pad now fi se li so lo re ru ot le) [(0, .ref (a 0)), (1, .int v1), (2, .long v2), (4, .int v4), (5, .int v5)] 44 []) (hret : ∀ (pc : Nat) (lv : List (Nat × Value)), decode cX6_waysToYes pc = .ok (.lreturn, 1) → k_G D l E (pic_X6 D a pad now fi se li so lo res.2 ru ot le) lv pc [.long res.1]) (hf : fX6_waysToYes_b44 N now lo k17 k44 v1 v2 v4 v5 re = some res) : k_G D l E (pic_X6 D a pad now fi se li so lo re ru ot le) [(0, .ref (a 0)), (1, .int v1), (2, .long v2), (4, .int v4), (5, .int v5)] 44 [] := by
  unfold fX6_waysToYes_b44 at hf
  refine g_iload X dX6_waysToYes_44 4 rfl (n := 46) rfl ?_
  refine g_aload_n X dX6_waysToYes_46 0 rfl rfl (n := 47) rfl ?_
  refine g_get X dX6_waysToYes_47 flX6_44 0 rfl (v := .ref (a 25)) rfl (n := 50) rfl ?_
  refine g_getN X dX6_waysToYes_50 flX6_320 25 rfl (v := .int lo.2.2.2.2) rfl (n := 53) rfl ?_
  refine g_icmp_gt X dX6_waysToYes_53 (t := 112) (by decide) (n := 56) rfl (fun c_1 => ?_) (fun c_1 => ?_)
  · replace hf := k_pos c_1 hf
    refine g_sub [0, 1, 2, 3] (lv' := [(0, .ref (a 0)), (1, .int v1), (2, .long v2), (4, .int v4)]) rfl ?_
    exact wX6_waysToYes_b112 X hk17 hret hf
  · replace hf := k_neg c_1 hf
    refine g_iconst X dX6_waysToYes_56 (v := 2) (by decide) (n := 57) rfl ?_
    refine g_iload X dX6_waysToYes_57 4 rfl (n := 59) rfl ?_
    refine g_imul X dX6_waysToYes_59 (n := 60) rfl ?_
    refine g_iload X dX6_waysToYes_60 3 rfl (n := 62) rfl ?_
    refine g_icmp_gt X dX6_waysToYes_62 (t := 112) (by decide) (n := 65) rfl (fun c_2 => ?_) (fun c_2 => ?_)
    · replace hf := k_pos c_2 hf
      refine g_sub [0, 1, 2, 3] (lv' := [(0, .ref (a 0)), (1, .int v1), (2, .long v2), (4, .int v4)]) rfl ?_
      exact wX6_waysToYes_b112 X hk17 hret hf
    · replace hf := k_neg c_2 hf
      refine g_aload_n X dX6_waysToYes_65 0 rfl rfl (n := 66) rfl ?_
      refine g_get X dX6_waysToYes_66 flX6_51 0 rfl (v := .ref (a 28)) rfl (n := 69) rfl ?_
      refine g_aload_n X dX6_waysToYes_69 0 rfl rfl (n := 70) rfl ?_
      refine g_get X dX6_waysToYes_70 flX6_21 0 rfl (v := .ref (a 3)) rfl (n := 73) rfl ?_
      refine g_aload_n X dX6_waysToYes_73 0 rfl rfl (n := 74) rfl ?_
      refine g_get X dX6_waysToYes_74 flX6_44 0 rfl (v := .ref (a 25)) rfl (n := 77) rfl ?_
      obtain ⟨x_3, g_4, hf⟩ := k_b1s hf
      refine g_callV X (mX1_all (D := D) (l := l) (a0 := (a 25)) (a1 := (a 26)) (a2 := (a 27)) g_4) lk_X1_all mlX6_274 dX6_waysToYes_77 (n := 80) rfl (st := [.ref (a 3), .ref (a 28)]) rfl (st2 := [.int x_3, .ref (a 3), .ref (a 28)]) rfl [25, 26, 27] rfl rfl rfl rfl rfl rfl (ws2 := pic_X6 D a pad now fi se li so lo re ru ot le) rfl rfl rfl ⟨Nat.le_of_ble_eq_true rfl, Nat.le_of_ble_eq_true rfl⟩ (Nat.le_of_ble_eq_true rfl) ?_
      refine g_iload_n X dX6_waysToYes_80 1 rfl rfl (n := 81) rfl ?_
      refine g_iload X dX6_waysToYes_81 3 rfl (n := 83) rfl ?_
      refine g_iload X dX6_waysToYes_83 4 rfl (n := 85) rfl ?_
      obtain ⟨x_5, re_6, g_7, hf⟩ := k_b2s hf
      refine g_callV X (mX2_reachesNeed (D := D) (l := l) (a0 := (a 28)) (a1 := (a 29)) (a2 := (a 30)) (b0 := (a 3)) (b1 := (a 4)) (b2 := (a 5)) (b3 := (a 6)) (b4 := (a 7)) (b5 := (a 8)) g_7) lk_X2_reachesNeed mlX6_321 dX6_waysToYes_85 (n := 88) rfl (st := []) rfl (st2 := [.int (bI x_5)]) rfl [28, 29, 30, 3, 4, 5, 6, 7, 8] rfl rfl rfl rfl rfl rfl (ws2 := pic_X6 D a pad now fi se li so lo re_6 ru ot le) rfl rfl rfl ⟨Nat.le_of_ble_eq_true rfl, Nat.le_of_ble_eq_true rfl⟩ (Nat.le_of_ble_eq_true rfl) ?_
      refine g_if_eqB X dX6_waysToYes_88 (t := 106) (by decide) (n := 91) rfl (fun c_8 => ?_) (fun c_8 => ?_)
      · replace hf := k_neg c_8 hf
        refine g_sub [0, 1, 2, 3, 4] (lv' := [(0, .ref (a 0)), (1, .int v1), (2, .long v2), (4, .int v4), (5, .int v5)]) rfl ?_
        exact wX6_waysToYes_b106 X hk17 hk44 hret hf
      · replace hf := k_pos c_8 hf
        refine g_lload_n X dX6_waysToYes_91 2 rfl rfl (n := 92) rfl ?_
        refine g_aload_n X dX6_waysToYes_92 0 rfl rfl (n := 93) rfl ?_
        refine g_get X dX6_waysToYes_93 flX6_44 0 rfl (v := .ref (a 25)) rfl (n := 96) rfl ?_
        refine g_iload_n X dX6_waysToYes_96 1 rfl rfl (n := 97) rfl ?_
        refine g_iload X dX6_waysToYes_97 3 rfl (n := 99) rfl ?_
        refine g_iload X dX6_waysToYes_99 4 rfl (n := 101) rfl ?_
        obtain ⟨x_9, g_10, hf⟩ := k_b1s hf
        refine g_callV X (mX1_ways (D := D) (l := l) (a0 := (a 25)) (a1 := (a 26)) (a2 := (a 27)) g_10) lk_X1_ways mlX6_325 dX6_waysToYes_101 (n := 104) rfl (st := [.long v2]) rfl (st2 := [.long x_9, .long v2]) rfl [25, 26, 27] rfl rfl rfl rfl rfl rfl (ws2 := pic_X6 D a pad now fi se li so lo re_6 ru ot le) rfl rfl rfl ⟨Nat.le_of_ble_eq_true rfl, Nat.le_of_ble_eq_true rfl⟩ (Nat.le_of_ble_eq_true rfl) ?_
        refine g_ladd X dX6_waysToYes_104 (n := 105) rfl ?_
        refine g_lstore_n X dX6_waysToYes_105 rfl (by decide) (lv2 := [(2, .long (v2 + x_9)), (0, .ref (a 0)), (1, .int v1), (4, .int v4), (5, .int v5)]) rfl (n := 106) rfl ?_
        refine g_sub [1, 2, 0, 3, 4] (lv' := [(0, .ref (a 0)), (1, .int v1), (2, .long (v2 + x_9)), (4, .int v4), (5, .int v5)]) rfl ?_
        exact wX6_waysToYes_b106 X hk17 hk44 hret hf
set_option maxRecDepth 100000 in
set_option maxHeartbeats 4000000 in
theorem wX6_waysToYes_l44 {D : va_G} {l : Launch} {E : k_E} {N : Nat} {a : Nat → Nat} {k17 : Int32 → Int64 → Int32 → VX2 → Option (Int64 × VX2)} {pad : VX5} {now : VX3} {fi : VX3} {se : VX3} {li : VX4} {so : VX4} {lo : VX1} {ru : VX0} {ot : VX0} {le : Nat → Int32} {res : Int64 × VX2} (X : k_X D E cX6_waysToYes RX6 6 4 109) (hk17 : ∀ (v1 : Int32) (v2 : Int64) (v4 : Int32) (re : VX2), k17 v1 v2 v4 re = some res → k_G D l E (pic_X6 D a pad now fi se li so lo re ru ot le) [(0, .ref (a 0)), (1, .int v1), (2, .long v2), (4, .int v4)] 17 []) (hret : ∀ (pc : Nat) (lv : List (Nat × Value)), decode cX6_waysToYes pc = .ok (.lreturn, 1) → k_G D l E (pic_X6 D a pad now fi se li so lo res.2 ru ot le) lv pc [.long res.1]) : ∀ (n0 : Nat) (v1 : Int32) (v2 : Int64) (v4 : Int32) (v5 : Int32) (re : VX2), fX6_waysToYes_l44 N now lo k17 n0 v1 v2 v4 v5 re = some res → k_G D l E (pic_X6 D a pad now fi se li so lo re ru ot le) [(0, .ref (a 0)), (1, .int v1), (2, .long v2), (4, .int v4), (5, .int v5)] 44 [] := by
  intro n0
  induction n0 with
  | zero => intro v1 v2 v4 v5 re hf; cases hf
  | succ n0 ih => intro v1 v2 v4 v5 re hf; exact wX6_waysToYes_b44 (N := N) (k44 := fX6_waysToYes_l44 N now lo k17 n0) X hk17 ih hret hf
set_option maxRecDepth 100000 in
set_option maxHeartbeats 4000000 in
theorem wX6_waysToYes_b17 {D : va_G} {l : Launch} {E : k_E} {N : Nat} {a : Nat → Nat} {k17 : Int32 → Int64 → Int32 → VX2 → Option (Int64 × VX2)} {v1 : Int32} {v2 : Int64} {v4 : Int32} {pad : VX5} {now : VX3} {fi : VX3} {se : VX3} {li : VX4} {so : VX4} {lo : VX1} {re : VX2} {ru : VX0} {ot : VX0} {le : Nat → Int32} {res : Int64 × VX2} (X : k_X D E cX6_waysToYes RX6 6 4 109) (hk17 : ∀ (v1 : Int32) (v2 : Int64) (v4 : Int32) (re : VX2), k17 v1 v2 v4 re = some res → k_G D l E (pic_X6 D a pad now fi se li so lo re ru ot le) [(0, .ref (a 0)), (1, .int v1), (2, .long v2), (4, .int v4)] 17 []) (hret : ∀ (pc : Nat) (lv : List (Nat × Value)), decode cX6_waysToYes pc = .ok (.lreturn, 1) → k_G D l E (pic_X6 D a pad now fi se li so lo res.2 ru ot le) lv pc [.long res.1]) (hf : fX6_waysToYes_b17 N now lo k17 v1 v2 v4 re = some res) : k_G D l E (pic_X6 D a pad now fi se li so lo re ru ot le) [(0, .ref (a 0)), (1, .int v1), (2, .long v2), (4, .int v4)] 17 [] := by
  unfold fX6_waysToYes_b17 at hf
  refine g_iload X dX6_waysToYes_17 3 rfl (n := 19) rfl ?_
  refine g_iload_n X dX6_waysToYes_19 1 rfl rfl (n := 20) rfl ?_
  refine g_aload_n X dX6_waysToYes_20 0 rfl rfl (n := 21) rfl ?_
  refine g_get X dX6_waysToYes_21 flX6_44 0 rfl (v := .ref (a 25)) rfl (n := 24) rfl ?_
  obtain ⟨x_1, g_2, hf⟩ := k_b1s hf
  refine g_callV X (mX1_valid (D := D) (l := l) (a0 := (a 25)) (a1 := (a 26)) (a2 := (a 27)) g_2) lk_X1_valid mlX6_316 dX6_waysToYes_24 (n := 27) rfl (st := [.int v1, .int v4]) rfl (st2 := [.int x_1, .int v1, .int v4]) rfl [25, 26, 27] rfl rfl rfl rfl rfl rfl (ws2 := pic_X6 D a pad now fi se li so lo re ru ot le) rfl rfl rfl ⟨Nat.le_of_ble_eq_true rfl, Nat.le_of_ble_eq_true rfl⟩ (Nat.le_of_ble_eq_true rfl) ?_
  refine g_min X lkM_min mlX6_260 dX6_waysToYes_27 (n := 30) rfl ⟨Nat.le_of_ble_eq_true rfl, Nat.le_of_ble_eq_true rfl⟩ (Nat.le_of_ble_eq_true rfl) ?_
  refine g_icmp_gt X dX6_waysToYes_30 (t := 118) (by decide) (n := 33) rfl (fun c_3 => ?_) (fun c_3 => ?_)
  · replace hf := k_pos c_3 hf
    refine g_lload_n X dX6_waysToYes_118 2 rfl rfl (n := 119) rfl ?_
    obtain rfl := Option.some.inj hf
    exact hret _ _ dX6_waysToYes_119
  · replace hf := k_neg c_3 hf
    refine g_aload_n X dX6_waysToYes_33 0 rfl rfl (n := 34) rfl ?_
    refine g_get X dX6_waysToYes_34 flX6_44 0 rfl (v := .ref (a 25)) rfl (n := 37) rfl ?_
    refine g_iload X dX6_waysToYes_37 3 rfl (n := 39) rfl ?_
    obtain ⟨x_4, g_5, hf⟩ := k_b1s hf
    refine g_callV X (mX1_leastDoubles (D := D) (l := l) (a0 := (a 25)) (a1 := (a 26)) (a2 := (a 27)) g_5) lk_X1_leastDoubles mlX6_317 dX6_waysToYes_39 (n := 42) rfl (st := []) rfl (st2 := [.int x_4]) rfl [25, 26, 27] rfl rfl rfl rfl rfl rfl (ws2 := pic_X6 D a pad now fi se li so lo re ru ot le) rfl rfl rfl ⟨Nat.le_of_ble_eq_true rfl, Nat.le_of_ble_eq_true rfl⟩ (Nat.le_of_ble_eq_true rfl) ?_
    refine g_istore X dX6_waysToYes_42 (by decide) (lv2 := [(5, .int x_4), (0, .ref (a 0)), (1, .int v1), (2, .long v2), (4, .int v4)]) rfl (n := 44) rfl ?_
    refine g_sub [1, 2, 3, 4, 0] (lv' := [(0, .ref (a 0)), (1, .int v1), (2, .long v2), (4, .int v4), (5, .int x_4)]) rfl ?_
    exact wX6_waysToYes_l44 X hk17 hret _ _ _ _ _ _ hf
set_option maxRecDepth 100000 in
set_option maxHeartbeats 4000000 in
theorem wX6_waysToYes_l17 {D : va_G} {l : Launch} {E : k_E} {N : Nat} {a : Nat → Nat} {pad : VX5} {now : VX3} {fi : VX3} {se : VX3} {li : VX4} {so : VX4} {lo : VX1} {ru : VX0} {ot : VX0} {le : Nat → Int32} {res : Int64 × VX2} (X : k_X D E cX6_waysToYes RX6 6 4 109) (hret : ∀ (pc : Nat) (lv : List (Nat × Value)), decode cX6_waysToYes pc = .ok (.lreturn, 1) → k_G D l E (pic_X6 D a pad now fi se li so lo res.2 ru ot le) lv pc [.long res.1]) : ∀ (n0 : Nat) (v1 : Int32) (v2 : Int64) (v4 : Int32) (re : VX2), fX6_waysToYes_l17 N now lo n0 v1 v2 v4 re = some res → k_G D l E (pic_X6 D a pad now fi se li so lo re ru ot le) [(0, .ref (a 0)), (1, .int v1), (2, .long v2), (4, .int v4)] 17 [] := by
  intro n0
  induction n0 with
  | zero => intro v1 v2 v4 re hf; cases hf
  | succ n0 ih => intro v1 v2 v4 re hf; exact wX6_waysToYes_b17 (N := N) (k17 := fX6_waysToYes_l17 N now lo n0) X  ih hret hf
set_option maxRecDepth 100000 in
set_option maxHeartbeats 4000000 in
theorem wX6_waysToYes {D : va_G} {l : Launch} {E : k_E} {N : Nat} {a : Nat → Nat} {p1 : Int32} {pad : VX5} {now : VX3} {fi : VX3} {se : VX3} {li : VX4} {so : VX4} {lo : VX1} {re : VX2} {ru : VX0} {ot : VX0} {le : Nat → Int32} {res : Int64 × VX2} (X : k_X D E cX6_waysToYes RX6 6 4 109) (hret : ∀ (pc : Nat) (lv : List (Nat × Value)), decode cX6_waysToYes pc = .ok (.lreturn, 1) → k_G D l E (pic_X6 D a pad now fi se li so lo res.2 ru ot le) lv pc [.long res.1]) (hf : fX6_waysToYes N now lo p1 re = some res) : k_G D l E (pic_X6 D a pad now fi se li so lo re ru ot le) [(0, .ref (a 0)), (1, .int p1)] 0 [] := by
  unfold fX6_waysToYes at hf
  refine g_lconst X dX6_waysToYes_0 (v := 0) rfl (n := 1) rfl ?_
  refine g_lstore_n X dX6_waysToYes_1 rfl (by decide) (lv2 := [(2, .long (0 : Int64)), (0, .ref (a 0)), (1, .int p1)]) rfl (n := 2) rfl ?_
  refine g_iconst X dX6_waysToYes_2 (v := 0) (by decide) (n := 3) rfl ?_
  refine g_iload_n X dX6_waysToYes_3 2 rfl rfl (n := 4) rfl ?_
  refine g_aload_n X dX6_waysToYes_4 1 rfl rfl (n := 5) rfl ?_
  refine g_get X dX6_waysToYes_5 flX6_44 0 rfl (v := .ref (a 25)) rfl (n := 8) rfl ?_
  refine g_getN X dX6_waysToYes_8 flX6_315 25 rfl (v := .int lo.2.2.2.1) rfl (n := 11) rfl ?_
  refine g_isub X dX6_waysToYes_11 (n := 12) rfl ?_
  refine g_max X lkM_max mlX6_248 dX6_waysToYes_12 (n := 15) rfl ⟨Nat.le_of_ble_eq_true rfl, Nat.le_of_ble_eq_true rfl⟩ (Nat.le_of_ble_eq_true rfl) ?_
  obtain ⟨x_1, e_2, hf⟩ := k_b1s hf
  replace e_2 := Option.some.inj e_2
  refine g_eq (st' := [.int x_1]) rfl rfl (by rw [← e_2]) ?_
  refine g_istore X dX6_waysToYes_15 (by decide) (lv2 := [(4, .int x_1), (2, .long (0 : Int64)), (0, .ref (a 0)), (1, .int p1)]) rfl (n := 17) rfl ?_
  refine g_sub [2, 3, 1, 0] (lv' := [(0, .ref (a 0)), (1, .int p1), (2, .long (0 : Int64)), (4, .int x_1)]) rfl ?_
  exact wX6_waysToYes_l17 X  hret _ _ _ _ _ hf
set_option maxRecDepth 100000 in
set_option maxHeartbeats 4000000 in
theorem mX6_waysToYes {l : Launch} {D : va_G} {N : Nat} {a : Nat → Nat} {p1 : Int32} {pad : VX5} {now : VX3} {fi : VX3} {se : VX3} {li : VX4} {so : VX4} {lo : VX1} {re : VX2} {ru : VX0} {ot : VX0} {le : Nat → Int32} {res : Int64 × VX2} (hf : fX6_waysToYes N now lo p1 re = some res) : k_Met l yX6_waysToYes cX6_waysToYes 6 (some .long) 4 109 D [.ref (a 0), .int p1] (pic_X6 D a pad now fi se li so lo re ru ot le) (some (.long res.1)) (pic_X6 D a pad now fi se li so lo res.2 ru ot le) :=
  k_of_l (by decide) (Nat.le_of_ble_eq_true rfl) (fun E X hret => wX6_waysToYes X hret hf)
set_option maxRecDepth 100000 in
set_option maxHeartbeats 4000000 in
theorem wX6_yes {D : va_G} {l : Launch} {E : k_E} {N : Nat} {a : Nat → Nat} {p1 : Int32} {p2 : Int32} {pad : VX5} {now : VX3} {fi : VX3} {se : VX3} {li : VX4} {so : VX4} {lo : VX1} {re : VX2} {ru : VX0} {ot : VX0} {le : Nat → Int32} {res : Int64 × VX4 × VX1 × VX2 × VX0} (X : k_X D E cX6_yes RX6 4 5 134) (hret : ∀ (pc : Nat) (lv : List (Nat × Value)), decode cX6_yes pc = .ok (.lreturn, 1) → k_G D l E (pic_X6 D a pad now fi se res.2.1 so res.2.2.1 res.2.2.2.1 res.2.2.2.2 ot le) lv pc [.long res.1]) (hf : fX6_yes N now p1 p2 li lo re ru = some res) : k_G D l E (pic_X6 D a pad now fi se li so lo re ru ot le) [(0, .ref (a 0)), (1, .int p1), (2, .int p2)] 0 [] := by
  unfold fX6_yes at hf
  refine g_aload_n X dX6_yes_0 0 rfl rfl (n := 1) rfl ?_
  refine g_iload_n X dX6_yes_1 1 rfl rfl (n := 2) rfl ?_
  refine g_iload_n X dX6_yes_2 2 rfl rfl (n := 3) rfl ?_
  obtain ⟨x_1, li_2, g_3, hf⟩ := k_b2s hf
  refine g_callV0 X (mX6_lotRefusal (D := D) (l := l) (a := a) (pad := pad) (fi := fi) (se := se) (so := so) (lo := lo) (re := re) (ru := ru) (ot := ot) (le := le) g_3) lk_X6_lotRefusal mlX6_172 dX6_yes_3 (n := 6) rfl (st := []) rfl (st2 := [.int x_1]) rfl rfl rfl rfl (ws2 := pic_X6 D a pad now fi se li_2 so lo re ru ot le) (ad_X6 _ _ _ _ _ _ _ _ _ _ _ _ _ _ _ _ _ _ _ _ _ _ _ _) rfl ⟨Nat.le_of_ble_eq_true rfl, Nat.le_of_ble_eq_true rfl⟩ (Nat.le_of_ble_eq_true rfl) ?_
  refine g_istore_n X dX6_yes_6 rfl (by decide) (lv2 := [(3, .int x_1), (0, .ref (a 0)), (1, .int p1), (2, .int p2)]) rfl (n := 7) rfl ?_
  refine g_iload_n X dX6_yes_7 0 rfl rfl (n := 8) rfl ?_
  refine g_if_eq X dX6_yes_8 (t := 18) (by decide) (n := 11) rfl (fun c_4 => ?_) (fun c_4 => ?_)
  · replace hf := k_pos c_4 hf
    refine g_aload_n X dX6_yes_18 1 rfl rfl (n := 19) rfl ?_
    obtain ⟨lo_5, g_6, hf⟩ := k_b1s hf
    refine g_callV0 X (mX6_layList (D := D) (l := l) (a := a) (pad := pad) (now := now) (fi := fi) (se := se) (so := so) (re := re) (ru := ru) (ot := ot) (le := le) g_6) lk_X6_layList mlX6_177 dX6_yes_19 (n := 22) rfl (st := []) rfl (st2 := []) rfl rfl rfl rfl (ws2 := pic_X6 D a pad now fi se li_2 so lo_5 re ru ot le) (ad_X6 _ _ _ _ _ _ _ _ _ _ _ _ _ _ _ _ _ _ _ _ _ _ _ _) rfl ⟨Nat.le_of_ble_eq_true rfl, Nat.le_of_ble_eq_true rfl⟩ (Nat.le_of_ble_eq_true rfl) ?_
    refine g_aload_n X dX6_yes_22 1 rfl rfl (n := 23) rfl ?_
    refine g_get X dX6_yes_23 flX6_58 0 rfl (v := .ref (a 31)) rfl (n := 26) rfl ?_
    refine g_aload_n X dX6_yes_26 1 rfl rfl (n := 27) rfl ?_
    refine g_iload_n X dX6_yes_27 2 rfl rfl (n := 28) rfl ?_
    obtain ⟨x_7, re_8, g_9, hf⟩ := k_b2s hf
    refine g_callV0 X (mX6_waysToYes (D := D) (l := l) (a := a) (pad := pad) (fi := fi) (se := se) (li := li_2) (so := so) (ru := ru) (ot := ot) (le := le) g_9) lk_X6_waysToYes mlX6_180 dX6_yes_28 (n := 31) rfl (st := [.ref (a 31)]) rfl (st2 := [.long x_7, .ref (a 31)]) rfl rfl rfl rfl (ws2 := pic_X6 D a pad now fi se li_2 so lo_5 re_8 ru ot le) (ad_X6 _ _ _ _ _ _ _ _ _ _ _ _ _ _ _ _ _ _ _ _ _ _ _ _) rfl ⟨Nat.le_of_ble_eq_true rfl, Nat.le_of_ble_eq_true rfl⟩ (Nat.le_of_ble_eq_true rfl) ?_
    refine g_aload_n X dX6_yes_31 1 rfl rfl (n := 32) rfl ?_
    refine g_get X dX6_yes_32 flX6_44 0 rfl (v := .ref (a 25)) rfl (n := 35) rfl ?_
    refine g_aload_n X dX6_yes_35 1 rfl rfl (n := 36) rfl ?_
    refine g_get X dX6_yes_36 flX6_34 0 rfl (v := .ref (a 21)) rfl (n := 39) rfl ?_
    refine g_getN X dX6_yes_39 flX6_118 21 rfl (v := .int li_2.2.1) rfl (n := 42) rfl ?_
    refine g_iload_n X dX6_yes_42 2 rfl rfl (n := 43) rfl ?_
    obtain ⟨x_10, g_11, hf⟩ := k_b1s hf
    refine g_callV X (mX1_choose (D := D) (l := l) (a0 := (a 25)) (a1 := (a 26)) (a2 := (a 27)) g_11) lk_X1_choose mlX6_183 dX6_yes_43 (n := 46) rfl (st := [.long x_7, .ref (a 31)]) rfl (st2 := [.long x_10, .long x_7, .ref (a 31)]) rfl [25, 26, 27] rfl rfl rfl rfl rfl rfl (ws2 := pic_X6 D a pad now fi se li_2 so lo_5 re_8 ru ot le) rfl rfl rfl ⟨Nat.le_of_ble_eq_true rfl, Nat.le_of_ble_eq_true rfl⟩ (Nat.le_of_ble_eq_true rfl) ?_
    obtain ⟨ru_12, g_13, hf⟩ := k_b1s hf
    refine g_callV X (mX0_become (D := D) (l := l) (a0 := (a 31)) g_13) lk_X0_become mlX6_165 dX6_yes_46 (n := 49) rfl (st := []) rfl (st2 := []) rfl [31] rfl rfl rfl rfl rfl rfl (ws2 := pic_X6 D a pad now fi se li_2 so lo_5 re_8 ru_12 ot le) rfl rfl rfl ⟨Nat.le_of_ble_eq_true rfl, Nat.le_of_ble_eq_true rfl⟩ (Nat.le_of_ble_eq_true rfl) ?_
    refine g_aload_n X dX6_yes_49 1 rfl rfl (n := 50) rfl ?_
    refine g_get X dX6_yes_50 flX6_58 0 rfl (v := .ref (a 31)) rfl (n := 53) rfl ?_
    refine g_iload_n X dX6_yes_53 3 rfl rfl (n := 54) rfl ?_
    obtain ⟨x_14, g_15, hf⟩ := k_b1s hf
    refine g_callV X (mX0_half (D := D) (l := l) (a0 := (a 31)) g_15) lk_X0_half mlX6_168 dX6_yes_54 (n := 57) rfl (st := []) rfl (st2 := [.long x_14]) rfl [31] rfl rfl rfl rfl rfl rfl (ws2 := pic_X6 D a pad now fi se li_2 so lo_5 re_8 ru_12 ot le) rfl rfl rfl ⟨Nat.le_of_ble_eq_true rfl, Nat.le_of_ble_eq_true rfl⟩ (Nat.le_of_ble_eq_true rfl) ?_
    obtain rfl := Option.some.inj hf
    exact hret _ _ dX6_yes_57
  · replace hf := k_neg c_4 hf
    refine g_ldc2 X dX6_yes_11 kcX6_175 (n := 14) rfl ?_
    refine g_iload_n X dX6_yes_14 0 rfl rfl (n := 15) rfl ?_
    refine g_i2l X dX6_yes_15 (n := 16) rfl ?_
    refine g_ladd X dX6_yes_16 (n := 17) rfl ?_
    obtain rfl := Option.some.inj hf
    exact hret _ _ dX6_yes_17
set_option maxRecDepth 100000 in
set_option maxHeartbeats 4000000 in
theorem mX6_yes {l : Launch} {D : va_G} {N : Nat} {a : Nat → Nat} {p1 : Int32} {p2 : Int32} {pad : VX5} {now : VX3} {fi : VX3} {se : VX3} {li : VX4} {so : VX4} {lo : VX1} {re : VX2} {ru : VX0} {ot : VX0} {le : Nat → Int32} {res : Int64 × VX4 × VX1 × VX2 × VX0} (hf : fX6_yes N now p1 p2 li lo re ru = some res) : k_Met l yX6_yes cX6_yes 4 (some .long) 5 134 D [.ref (a 0), .int p1, .int p2] (pic_X6 D a pad now fi se li so lo re ru ot le) (some (.long res.1)) (pic_X6 D a pad now fi se res.2.1 so res.2.2.1 res.2.2.2.1 res.2.2.2.2 ot le) :=
  k_of_l (by decide) (Nat.le_of_ble_eq_true rfl) (fun E X hret => wX6_yes X hret hf)
set_option maxRecDepth 100000 in
set_option maxHeartbeats 4000000 in
theorem wX6_filledSheets_b38 {D : va_G} {l : Launch} {E : k_E} {N : Nat} {a : Nat → Nat} {k4 : Int32 → Int32 → Option (Int32)} {v1 : Int32} {v2 : Int32} {pad : VX5} {now : VX3} {fi : VX3} {se : VX3} {li : VX4} {so : VX4} {lo : VX1} {re : VX2} {ru : VX0} {ot : VX0} {le : Nat → Int32} {res : Int32} (X : k_X D E cX6_filledSheets RX6 3 1 21) (hk4 : ∀ (v1 : Int32) (v2 : Int32) , k4 v1 v2 = some res → k_G D l E (pic_X6 D a pad now fi se li so lo re ru ot le) [(0, .ref (a 0)), (1, .int v1), (2, .int v2)] 4 []) (hret : ∀ (pc : Nat) (lv : List (Nat × Value)), decode cX6_filledSheets pc = .ok (.ireturn, 1) → k_G D l E (pic_X6 D a pad now fi se li so lo re ru ot le) lv pc [.int res]) (hf : fX6_filledSheets_b38 N now k4 v1 v2 = some res) : k_G D l E (pic_X6 D a pad now fi se li so lo re ru ot le) [(0, .ref (a 0)), (1, .int v1), (2, .int v2)] 38 [] := by
  unfold fX6_filledSheets_b38 at hf
  refine g_iinc X dX6_filledSheets_38 2 rfl (v := v2 + 1) rfl (by decide) (lv2 := [(2, .int (v2 + 1)), (0, .ref (a 0)), (1, .int v1)]) rfl (n := 41) rfl ?_
  refine g_goto X dX6_filledSheets_41 (n := 4) (by decide) ?_
  refine g_sub [1, 2, 0] (lv' := [(0, .ref (a 0)), (1, .int v1), (2, .int (v2 + 1))]) rfl ?_
  exact hk4 _ _ hf
set_option maxRecDepth 100000 in
set_option maxHeartbeats 4000000 in
theorem wX6_filledSheets_b4 {D : va_G} {l : Launch} {E : k_E} {N : Nat} {a : Nat → Nat} {k4 : Int32 → Int32 → Option (Int32)} {v1 : Int32} {v2 : Int32} {pad : VX5} {now : VX3} {fi : VX3} {se : VX3} {li : VX4} {so : VX4} {lo : VX1} {re : VX2} {ru : VX0} {ot : VX0} {le : Nat → Int32} {res : Int32} (X : k_X D E cX6_filledSheets RX6 3 1 21) (hk4 : ∀ (v1 : Int32) (v2 : Int32) , k4 v1 v2 = some res → k_G D l E (pic_X6 D a pad now fi se li so lo re ru ot le) [(0, .ref (a 0)), (1, .int v1), (2, .int v2)] 4 []) (hret : ∀ (pc : Nat) (lv : List (Nat × Value)), decode cX6_filledSheets pc = .ok (.ireturn, 1) → k_G D l E (pic_X6 D a pad now fi se li so lo re ru ot le) lv pc [.int res]) (hf : fX6_filledSheets_b4 N now k4 v1 v2 = some res) : k_G D l E (pic_X6 D a pad now fi se li so lo re ru ot le) [(0, .ref (a 0)), (1, .int v1), (2, .int v2)] 4 [] := by
  unfold fX6_filledSheets_b4 at hf
  refine g_iload_n X dX6_filledSheets_4 2 rfl rfl (n := 5) rfl ?_
  refine g_bipush X dX6_filledSheets_5 (v := 6) (by decide) (n := 7) rfl ?_
  refine g_icmp_ge X dX6_filledSheets_7 (t := 44) (by decide) (n := 10) rfl (fun c_1 => ?_) (fun c_1 => ?_)
  · replace hf := k_pos c_1 hf
    refine g_iload_n X dX6_filledSheets_44 1 rfl rfl (n := 45) rfl ?_
    obtain rfl := Option.some.inj hf
    exact hret _ _ dX6_filledSheets_45
  · replace hf := k_neg c_1 hf
    refine g_aload_n X dX6_filledSheets_10 0 rfl rfl (n := 11) rfl ?_
    refine g_get X dX6_filledSheets_11 flX6_21 0 rfl (v := .ref (a 3)) rfl (n := 14) rfl ?_
    refine g_iload_n X dX6_filledSheets_14 2 rfl rfl (n := 15) rfl ?_
    obtain ⟨x_2, g_3, hf⟩ := k_b1s hf
    refine g_callV X (mX3_isStruck (D := D) (l := l) (a0 := (a 3)) (a1 := (a 4)) (a2 := (a 5)) (a3 := (a 6)) (a4 := (a 7)) (a5 := (a 8)) g_3) lk_X3_isStruck mlX6_254 dX6_filledSheets_15 (n := 18) rfl (st := []) rfl (st2 := [.int (bI x_2)]) rfl [3, 4, 5, 6, 7, 8] rfl rfl rfl rfl rfl rfl (ws2 := pic_X6 D a pad now fi se li so lo re ru ot le) rfl rfl rfl ⟨Nat.le_of_ble_eq_true rfl, Nat.le_of_ble_eq_true rfl⟩ (Nat.le_of_ble_eq_true rfl) ?_
    refine g_if_neB X dX6_filledSheets_18 (t := 38) (by decide) (n := 21) rfl (fun c_4 => ?_) (fun c_4 => ?_)
    · replace hf := k_pos c_4 hf
      refine g_sub [0, 1, 2] (lv' := [(0, .ref (a 0)), (1, .int v1), (2, .int v2)]) rfl ?_
      exact wX6_filledSheets_b38 X hk4 hret hf
    · replace hf := k_neg c_4 hf
      refine g_aload_n X dX6_filledSheets_21 0 rfl rfl (n := 22) rfl ?_
      refine g_get X dX6_filledSheets_22 flX6_21 0 rfl (v := .ref (a 3)) rfl (n := 25) rfl ?_
      refine g_iload_n X dX6_filledSheets_25 2 rfl rfl (n := 26) rfl ?_
      obtain ⟨x_5, g_6, hf⟩ := k_b1s hf
      refine g_callV X (mX3_sizeOf (D := D) (l := l) (a0 := (a 3)) (a1 := (a 4)) (a2 := (a 5)) (a3 := (a 6)) (a4 := (a 7)) (a5 := (a 8)) g_6) lk_X3_sizeOf mlX6_108 dX6_filledSheets_26 (n := 29) rfl (st := []) rfl (st2 := [.int x_5]) rfl [3, 4, 5, 6, 7, 8] rfl rfl rfl rfl rfl rfl (ws2 := pic_X6 D a pad now fi se li so lo re ru ot le) rfl rfl rfl ⟨Nat.le_of_ble_eq_true rfl, Nat.le_of_ble_eq_true rfl⟩ (Nat.le_of_ble_eq_true rfl) ?_
      refine g_if_le X dX6_filledSheets_29 (t := 38) (by decide) (n := 32) rfl (fun c_7 => ?_) (fun c_7 => ?_)
      · replace hf := k_pos c_7 hf
        refine g_sub [0, 1, 2] (lv' := [(0, .ref (a 0)), (1, .int v1), (2, .int v2)]) rfl ?_
        exact wX6_filledSheets_b38 X hk4 hret hf
      · replace hf := k_neg c_7 hf
        refine g_iload_n X dX6_filledSheets_32 1 rfl rfl (n := 33) rfl ?_
        refine g_iconst X dX6_filledSheets_33 (v := 1) (by decide) (n := 34) rfl ?_
        refine g_iload_n X dX6_filledSheets_34 2 rfl rfl (n := 35) rfl ?_
        refine g_ishl X dX6_filledSheets_35 (n := 36) rfl ?_
        refine g_ior X dX6_filledSheets_36 (n := 37) rfl ?_
        refine g_istore_n X dX6_filledSheets_37 rfl (by decide) (lv2 := [(1, .int (v1 ||| ((1 : Int32) <<< (v2 &&& 31)))), (0, .ref (a 0)), (2, .int v2)]) rfl (n := 38) rfl ?_
        refine g_sub [1, 0, 2] (lv' := [(0, .ref (a 0)), (1, .int (v1 ||| ((1 : Int32) <<< (v2 &&& 31)))), (2, .int v2)]) rfl ?_
        exact wX6_filledSheets_b38 X hk4 hret hf
set_option maxRecDepth 100000 in
set_option maxHeartbeats 4000000 in
theorem wX6_filledSheets_l4 {D : va_G} {l : Launch} {E : k_E} {N : Nat} {a : Nat → Nat} {pad : VX5} {now : VX3} {fi : VX3} {se : VX3} {li : VX4} {so : VX4} {lo : VX1} {re : VX2} {ru : VX0} {ot : VX0} {le : Nat → Int32} {res : Int32} (X : k_X D E cX6_filledSheets RX6 3 1 21) (hret : ∀ (pc : Nat) (lv : List (Nat × Value)), decode cX6_filledSheets pc = .ok (.ireturn, 1) → k_G D l E (pic_X6 D a pad now fi se li so lo re ru ot le) lv pc [.int res]) : ∀ (n0 : Nat) (v1 : Int32) (v2 : Int32) , fX6_filledSheets_l4 N now n0 v1 v2 = some res → k_G D l E (pic_X6 D a pad now fi se li so lo re ru ot le) [(0, .ref (a 0)), (1, .int v1), (2, .int v2)] 4 [] := by
  intro n0
  induction n0 with
  | zero => intro v1 v2 hf; cases hf
  | succ n0 ih => intro v1 v2 hf; exact wX6_filledSheets_b4 (N := N) (k4 := fX6_filledSheets_l4 N now n0) X  ih hret hf
set_option maxRecDepth 100000 in
set_option maxHeartbeats 4000000 in
theorem wX6_filledSheets {D : va_G} {l : Launch} {E : k_E} {N : Nat} {a : Nat → Nat} {pad : VX5} {now : VX3} {fi : VX3} {se : VX3} {li : VX4} {so : VX4} {lo : VX1} {re : VX2} {ru : VX0} {ot : VX0} {le : Nat → Int32} {res : Int32} (X : k_X D E cX6_filledSheets RX6 3 1 21) (hret : ∀ (pc : Nat) (lv : List (Nat × Value)), decode cX6_filledSheets pc = .ok (.ireturn, 1) → k_G D l E (pic_X6 D a pad now fi se li so lo re ru ot le) lv pc [.int res]) (hf : fX6_filledSheets N now = some res) : k_G D l E (pic_X6 D a pad now fi se li so lo re ru ot le) [(0, .ref (a 0))] 0 [] := by
  unfold fX6_filledSheets at hf
  refine g_iconst X dX6_filledSheets_0 (v := 0) (by decide) (n := 1) rfl ?_
  refine g_istore_n X dX6_filledSheets_1 rfl (by decide) (lv2 := [(1, .int 0), (0, .ref (a 0))]) rfl (n := 2) rfl ?_
  refine g_iconst X dX6_filledSheets_2 (v := 0) (by decide) (n := 3) rfl ?_
  refine g_istore_n X dX6_filledSheets_3 rfl (by decide) (lv2 := [(2, .int 0), (1, .int 0), (0, .ref (a 0))]) rfl (n := 4) rfl ?_
  refine g_sub [2, 1, 0] (lv' := [(0, .ref (a 0)), (1, .int 0), (2, .int 0)]) rfl ?_
  exact wX6_filledSheets_l4 X  hret _ _ _ hf
set_option maxRecDepth 100000 in
set_option maxHeartbeats 4000000 in
theorem mX6_filledSheets {l : Launch} {D : va_G} {N : Nat} {a : Nat → Nat} {pad : VX5} {now : VX3} {fi : VX3} {se : VX3} {li : VX4} {so : VX4} {lo : VX1} {re : VX2} {ru : VX0} {ot : VX0} {le : Nat → Int32} {res : Int32} (hf : fX6_filledSheets N now = some res) : k_Met l yX6_filledSheets cX6_filledSheets 3 (some .int) 1 21 D [.ref (a 0)] (pic_X6 D a pad now fi se li so lo re ru ot le) (some (.int res)) (pic_X6 D a pad now fi se li so lo re ru ot le) :=
  k_of_i (by decide) (Nat.le_of_ble_eq_true rfl) (fun E X hret => wX6_filledSheets X hret hf)
set_option maxRecDepth 100000 in
set_option maxHeartbeats 4000000 in
theorem wJ6_bitCount_0f7a4 {D : va_G} {l : Launch} {E : k_E} {p0 : Int32} {res : Int32} (X : k_X D E cJ6_bitCount_0f7a4 RJ6 1 0 0) (hret : ∀ (pc : Nat) (lv : List (Nat × Value)), decode cJ6_bitCount_0f7a4 pc = .ok (.ireturn, 1) → k_G D l E ([]) lv pc [.int res]) (hf : fJ6_bitCount_0f7a4 p0 = some res) : k_G D l E ([]) [(0, .int p0)] 0 [] := by
  unfold fJ6_bitCount_0f7a4 at hf
  refine g_iload_n X dJ6_bitCount_0f7a4_0 0 rfl rfl (n := 1) rfl ?_
  refine g_iload_n X dJ6_bitCount_0f7a4_1 0 rfl rfl (n := 2) rfl ?_
  refine g_iconst X dJ6_bitCount_0f7a4_2 (v := 1) (by decide) (n := 3) rfl ?_
  refine g_iushr X dJ6_bitCount_0f7a4_3 (n := 4) rfl ?_
  refine g_ldcw X dJ6_bitCount_0f7a4_4 kcJ6_265 (n := 7) rfl ?_
  refine g_iand X dJ6_bitCount_0f7a4_7 (n := 8) rfl ?_
  refine g_isub X dJ6_bitCount_0f7a4_8 (n := 9) rfl ?_
  obtain ⟨x_1, e_2, hf⟩ := k_b1s hf
  replace e_2 := Option.some.inj e_2
  refine g_eq (st' := [.int x_1]) rfl rfl (by rw [← e_2]) ?_
  refine g_istore_n X dJ6_bitCount_0f7a4_9 rfl (by decide) (lv2 := [(0, .int x_1)]) rfl (n := 10) rfl ?_
  refine g_iload_n X dJ6_bitCount_0f7a4_10 0 rfl rfl (n := 11) rfl ?_
  refine g_ldcw X dJ6_bitCount_0f7a4_11 kcJ6_266 (n := 14) rfl ?_
  refine g_iand X dJ6_bitCount_0f7a4_14 (n := 15) rfl ?_
  refine g_iload_n X dJ6_bitCount_0f7a4_15 0 rfl rfl (n := 16) rfl ?_
  refine g_iconst X dJ6_bitCount_0f7a4_16 (v := 2) (by decide) (n := 17) rfl ?_
  refine g_iushr X dJ6_bitCount_0f7a4_17 (n := 18) rfl ?_
  refine g_ldcw X dJ6_bitCount_0f7a4_18 kcJ6_266 (n := 21) rfl ?_
  refine g_iand X dJ6_bitCount_0f7a4_21 (n := 22) rfl ?_
  refine g_iadd X dJ6_bitCount_0f7a4_22 (n := 23) rfl ?_
  obtain ⟨x_3, e_4, hf⟩ := k_b1s hf
  replace e_4 := Option.some.inj e_4
  refine g_eq (st' := [.int x_3]) rfl rfl (by rw [← e_4]) ?_
  refine g_istore_n X dJ6_bitCount_0f7a4_23 rfl (by decide) (lv2 := [(0, .int x_3)]) rfl (n := 24) rfl ?_
  refine g_iload_n X dJ6_bitCount_0f7a4_24 0 rfl rfl (n := 25) rfl ?_
  refine g_iload_n X dJ6_bitCount_0f7a4_25 0 rfl rfl (n := 26) rfl ?_
  refine g_iconst X dJ6_bitCount_0f7a4_26 (v := 4) (by decide) (n := 27) rfl ?_
  refine g_iushr X dJ6_bitCount_0f7a4_27 (n := 28) rfl ?_
  refine g_iadd X dJ6_bitCount_0f7a4_28 (n := 29) rfl ?_
  refine g_ldcw X dJ6_bitCount_0f7a4_29 kcJ6_267 (n := 32) rfl ?_
  refine g_iand X dJ6_bitCount_0f7a4_32 (n := 33) rfl ?_
  obtain ⟨x_5, e_6, hf⟩ := k_b1s hf
  replace e_6 := Option.some.inj e_6
  refine g_eq (st' := [.int x_5]) rfl rfl (by rw [← e_6]) ?_
  refine g_istore_n X dJ6_bitCount_0f7a4_33 rfl (by decide) (lv2 := [(0, .int x_5)]) rfl (n := 34) rfl ?_
  refine g_iload_n X dJ6_bitCount_0f7a4_34 0 rfl rfl (n := 35) rfl ?_
  refine g_iload_n X dJ6_bitCount_0f7a4_35 0 rfl rfl (n := 36) rfl ?_
  refine g_bipush X dJ6_bitCount_0f7a4_36 (v := 8) (by decide) (n := 38) rfl ?_
  refine g_iushr X dJ6_bitCount_0f7a4_38 (n := 39) rfl ?_
  refine g_iadd X dJ6_bitCount_0f7a4_39 (n := 40) rfl ?_
  obtain ⟨x_7, e_8, hf⟩ := k_b1s hf
  replace e_8 := Option.some.inj e_8
  refine g_eq (st' := [.int x_7]) rfl rfl (by rw [← e_8]) ?_
  refine g_istore_n X dJ6_bitCount_0f7a4_40 rfl (by decide) (lv2 := [(0, .int x_7)]) rfl (n := 41) rfl ?_
  refine g_iload_n X dJ6_bitCount_0f7a4_41 0 rfl rfl (n := 42) rfl ?_
  refine g_iload_n X dJ6_bitCount_0f7a4_42 0 rfl rfl (n := 43) rfl ?_
  refine g_bipush X dJ6_bitCount_0f7a4_43 (v := 16) (by decide) (n := 45) rfl ?_
  refine g_iushr X dJ6_bitCount_0f7a4_45 (n := 46) rfl ?_
  refine g_iadd X dJ6_bitCount_0f7a4_46 (n := 47) rfl ?_
  obtain ⟨x_9, e_10, hf⟩ := k_b1s hf
  replace e_10 := Option.some.inj e_10
  refine g_eq (st' := [.int x_9]) rfl rfl (by rw [← e_10]) ?_
  refine g_istore_n X dJ6_bitCount_0f7a4_47 rfl (by decide) (lv2 := [(0, .int x_9)]) rfl (n := 48) rfl ?_
  refine g_iload_n X dJ6_bitCount_0f7a4_48 0 rfl rfl (n := 49) rfl ?_
  refine g_bipush X dJ6_bitCount_0f7a4_49 (v := 63) (by decide) (n := 51) rfl ?_
  refine g_iand X dJ6_bitCount_0f7a4_51 (n := 52) rfl ?_
  obtain rfl := Option.some.inj hf
  exact hret _ _ dJ6_bitCount_0f7a4_52
set_option maxRecDepth 100000 in
set_option maxHeartbeats 4000000 in
theorem mJ6_bitCount_0f7a4 {l : Launch} {D : va_G} {p0 : Int32} {res : Int32} (hf : fJ6_bitCount_0f7a4 p0 = some res) : k_Met l yJ6_bitCount_0f7a4 cJ6_bitCount_0f7a4 1 (some .int) 0 0 D [.int p0] ([]) (some (.int res)) ([]) :=
  k_of_i (by decide) (Nat.le_of_ble_eq_true rfl) (fun E X hret => wJ6_bitCount_0f7a4 X hret hf)
