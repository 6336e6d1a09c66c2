/-! walks: X6_image X6_restore X6_told -/
set_option maxRecDepth 100000 in
set_option maxHeartbeats 4000000 in
theorem wX6_image {D : va_G} {l : Launch} {E : k_E} {N : Nat} {a : Nat → Nat} {p1 : Int32} {pad : VX5} {now : VX3} {fi : VX3} {se : VX3} {li : VX4} {so : VX4} {lo : VX1} {re : VX2} {ru : VX0} {ot : VX0} {le : Nat → Int32} {res : Int32 × VX3 × VX3} (X : k_X D E cX6_image RX6 3 3 82) (hret : ∀ (pc : Nat) (lv : List (Nat × Value)), decode cX6_image pc = .ok (.ireturn, 1) → k_G D l E (pic_X6 D a pad now res.2.1 res.2.2 li so lo re ru ot le) lv pc [.int res.1]) (hf : fX6_image N now p1 fi se = some res) : k_G D l E (pic_X6 D a pad now fi se li so lo re ru ot le) [(0, .ref (a 0)), (1, .int p1)] 0 [] := by
  unfold fX6_image at hf
  refine g_iload_n X dX6_image_0 1 rfl rfl (n := 1) rfl ?_
  refine g_iconst X dX6_image_1 (v := 0) (by decide) (n := 2) rfl ?_
  refine g_iconst X dX6_image_2 (v := 1) (by decide) (n := 3) rfl ?_
  obtain ⟨x_1, g_2, hf⟩ := k_b1s hf
  refine g_callS0 X (mX6_isWithin (D := D) (l := l)  g_2) lk_X6_isWithin mlX6_69 dX6_image_3 (n := 6) rfl (st := []) rfl (st2 := [.int (bI x_1)]) rfl rfl ⟨Nat.le_of_ble_eq_true rfl, Nat.le_of_ble_eq_true rfl⟩ (Nat.le_of_ble_eq_true rfl) ?_
  refine g_if_neB X dX6_image_6 (t := 12) (by decide) (n := 9) rfl (fun c_3 => ?_) (fun c_3 => ?_)
  · replace hf := k_pos c_3 hf
    refine g_aload_n X dX6_image_12 0 rfl rfl (n := 13) rfl ?_
    refine g_iload_n X dX6_image_13 1 rfl rfl (n := 14) rfl ?_
    by_cases h_4 : p1 = 0
    · replace hf := k_pos h_4 hf
      refine g_callV0 X (mX6_imageOf (D := D) (l := l) (a := a) (pad := pad) (now := now) (fi := fi) (se := se) (li := li) (so := so) (lo := lo) (re := re) (ru := ru) (ot := ot) (le := le) (show fX6_imageOf a p1 = some (a 9) by simp [fX6_imageOf, h_4])) lk_X6_imageOf mlX6_284 dX6_image_14 (n := 17) rfl (st := []) rfl (st2 := [.ref (a 9)]) rfl rfl rfl rfl (ws2 := pic_X6 D a pad now fi se li so lo re ru ot le) (ad_X6 _ _ _ _ _ _ _ _ _ _ _ _ _ _ _ _ _ _ _ _ _ _ _ _) rfl ⟨Nat.le_of_ble_eq_true rfl, Nat.le_of_ble_eq_true rfl⟩ (Nat.le_of_ble_eq_true rfl) ?_
      refine g_astore_n X dX6_image_17 rfl (by decide) (lv2 := [(2, .ref (a 9)), (0, .ref (a 0)), (1, .int p1)]) rfl (n := 18) rfl ?_
      refine g_aload_n X dX6_image_18 0 rfl rfl (n := 19) rfl ?_
      refine g_aload_n X dX6_image_19 1 rfl rfl (n := 20) rfl ?_
      refine g_get X dX6_image_20 flX6_21 0 rfl (v := .ref (a 3)) rfl (n := 23) rfl ?_
      obtain ⟨fi_5, g_6, hf⟩ := k_b1s hf
      refine g_callV X (mX3_become (D := D) (l := l) (a0 := (a 9)) (a1 := (a 10)) (a2 := (a 11)) (a3 := (a 12)) (a4 := (a 13)) (a5 := (a 14)) (b0 := (a 3)) (b1 := (a 4)) (b2 := (a 5)) (b3 := (a 6)) (b4 := (a 7)) (b5 := (a 8)) g_6) lk_X3_become mlX6_288 dX6_image_23 (n := 26) rfl (st := []) rfl (st2 := []) rfl [9, 10, 11, 12, 13, 14, 3, 4, 5, 6, 7, 8] rfl rfl rfl rfl rfl rfl (ws2 := pic_X6 D a pad now fi_5 se li so lo re ru ot le) rfl rfl rfl ⟨Nat.le_of_ble_eq_true rfl, Nat.le_of_ble_eq_true rfl⟩ (Nat.le_of_ble_eq_true rfl) ?_
      refine g_aload_n X dX6_image_26 0 rfl rfl (n := 27) rfl ?_
      refine g_iconst X dX6_image_27 (v := 1) (by decide) (n := 28) rfl ?_
      refine g_putN X dX6_image_28 flX6_291 9 rfl rfl rfl (Nat.le_of_ble_eq_true rfl) (ws2 := pic_X6 D a pad now (fi_5.1, fi_5.2.1, fi_5.2.2.1, fi_5.2.2.2.1, fi_5.2.2.2.2.1, fi_5.2.2.2.2.2.1, true) se li so lo re ru ot le) rfl (n := 31) rfl ?_
      refine g_iconst X dX6_image_31 (v := 1) (by decide) (n := 32) rfl ?_
      obtain rfl := Option.some.inj hf
      exact hret _ _ dX6_image_32
    · replace hf := k_neg h_4 hf
      refine g_callV0 X (mX6_imageOf (D := D) (l := l) (a := a) (pad := pad) (now := now) (fi := fi) (se := se) (li := li) (so := so) (lo := lo) (re := re) (ru := ru) (ot := ot) (le := le) (show fX6_imageOf a p1 = some (a 15) by simp [fX6_imageOf, h_4])) lk_X6_imageOf mlX6_284 dX6_image_14 (n := 17) rfl (st := []) rfl (st2 := [.ref (a 15)]) rfl rfl rfl rfl (ws2 := pic_X6 D a pad now fi se li so lo re ru ot le) (ad_X6 _ _ _ _ _ _ _ _ _ _ _ _ _ _ _ _ _ _ _ _ _ _ _ _) rfl ⟨Nat.le_of_ble_eq_true rfl, Nat.le_of_ble_eq_true rfl⟩ (Nat.le_of_ble_eq_true rfl) ?_
      refine g_astore_n X dX6_image_17 rfl (by decide) (lv2 := [(2, .ref (a 15)), (0, .ref (a 0)), (1, .int p1)]) rfl (n := 18) rfl ?_
      refine g_aload_n X dX6_image_18 0 rfl rfl (n := 19) rfl ?_
      refine g_aload_n X dX6_image_19 1 rfl rfl (n := 20) rfl ?_
      refine g_get X dX6_image_20 flX6_21 0 rfl (v := .ref (a 3)) rfl (n := 23) rfl ?_
      obtain ⟨se_7, g_8, hf⟩ := k_b1s hf
      refine g_callV X (mX3_become (D := D) (l := l) (a0 := (a 15)) (a1 := (a 16)) (a2 := (a 17)) (a3 := (a 18)) (a4 := (a 19)) (a5 := (a 20)) (b0 := (a 3)) (b1 := (a 4)) (b2 := (a 5)) (b3 := (a 6)) (b4 := (a 7)) (b5 := (a 8)) g_8) lk_X3_become mlX6_288 dX6_image_23 (n := 26) rfl (st := []) rfl (st2 := []) rfl [15, 16, 17, 18, 19, 20, 3, 4, 5, 6, 7, 8] rfl rfl rfl rfl rfl rfl (ws2 := pic_X6 D a pad now fi se_7 li so lo re ru ot le) rfl rfl rfl ⟨Nat.le_of_ble_eq_true rfl, Nat.le_of_ble_eq_true rfl⟩ (Nat.le_of_ble_eq_true rfl) ?_
      refine g_aload_n X dX6_image_26 0 rfl rfl (n := 27) rfl ?_
      refine g_iconst X dX6_image_27 (v := 1) (by decide) (n := 28) rfl ?_
      refine g_putN X dX6_image_28 flX6_291 15 rfl rfl rfl (Nat.le_of_ble_eq_true rfl) (ws2 := pic_X6 D a pad now fi (se_7.1, se_7.2.1, se_7.2.2.1, se_7.2.2.2.1, se_7.2.2.2.2.1, se_7.2.2.2.2.2.1, true) li so lo re ru ot le) rfl (n := 31) rfl ?_
      refine g_iconst X dX6_image_31 (v := 1) (by decide) (n := 32) rfl ?_
      obtain rfl := Option.some.inj hf
      exact hret _ _ dX6_image_32
  · replace hf := k_neg c_3 hf
    refine g_bipush X dX6_image_9 (v := (-2)) (by decide) (n := 11) rfl ?_
    obtain rfl := Option.some.inj hf
    exact hret _ _ dX6_image_11
set_option maxRecDepth 100000 in
set_option maxHeartbeats 4000000 in
theorem mX6_image {l : Launch} {D : va_G} {N : Nat} {a : Nat → Nat} {p1 : Int32} {pad : VX5} {now : VX3} {fi : VX3} {se : VX3} {li : VX4} {so : VX4} {lo : VX1} {re : VX2} {ru : VX0} {ot : VX0} {le : Nat → Int32} {res : Int32 × VX3 × VX3} (hf : fX6_image N now p1 fi se = some res) : k_Met l yX6_image cX6_image 3 (some .int) 3 82 D [.ref (a 0), .int p1] (pic_X6 D a pad now fi se li so lo re ru ot le) (some (.int res.1)) (pic_X6 D a pad now res.2.1 res.2.2 li so lo re ru ot le) :=
  k_of_i (by decide) (Nat.le_of_ble_eq_true rfl) (fun E X hret => wX6_image X hret hf)
set_option maxRecDepth 100000 in
set_option maxHeartbeats 4000000 in
theorem wX6_restore {D : va_G} {l : Launch} {E : k_E} {N : Nat} {a : Nat → Nat} {p1 : Int32} {pad : VX5} {now : VX3} {fi : VX3} {se : VX3} {li : VX4} {so : VX4} {lo : VX1} {re : VX2} {ru : VX0} {ot : VX0} {le : Nat → Int32} {res : Int32 × VX3} (X : k_X D E cX6_restore RX6 3 3 82) (hret : ∀ (pc : Nat) (lv : List (Nat × Value)), decode cX6_restore pc = .ok (.ireturn, 1) → k_G D l E (pic_X6 D a pad res.2 fi se li so lo re ru ot le) lv pc [.int res.1]) (hf : fX6_restore N fi se p1 now = some res) : k_G D l E (pic_X6 D a pad now fi se li so lo re ru ot le) [(0, .ref (a 0)), (1, .int p1)] 0 [] := by
  unfold fX6_restore at hf
  refine g_iload_n X dX6_restore_0 1 rfl rfl (n := 1) rfl ?_
  refine g_iconst X dX6_restore_1 (v := 0) (by decide) (n := 2) rfl ?_
  refine g_iconst X dX6_restore_2 (v := 1) (by decide) (n := 3) rfl ?_
  obtain ⟨x_1, g_2, hf⟩ := k_b1s hf
  refine g_callS0 X (mX6_isWithin (D := D) (l := l)  g_2) lk_X6_isWithin mlX6_69 dX6_restore_3 (n := 6) rfl (st := []) rfl (st2 := [.int (bI x_1)]) rfl rfl ⟨Nat.le_of_ble_eq_true rfl, Nat.le_of_ble_eq_true rfl⟩ (Nat.le_of_ble_eq_true rfl) ?_
  refine g_if_neB X dX6_restore_6 (t := 12) (by decide) (n := 9) rfl (fun c_3 => ?_) (fun c_3 => ?_)
  · replace hf := k_pos c_3 hf
    refine g_aload_n X dX6_restore_12 0 rfl rfl (n := 13) rfl ?_
    refine g_iload_n X dX6_restore_13 1 rfl rfl (n := 14) rfl ?_
    by_cases h_4 : p1 = 0
    · replace hf := k_pos h_4 hf
      refine g_callV0 X (mX6_imageOf (D := D) (l := l) (a := a) (pad := pad) (now := now) (fi := fi) (se := se) (li := li) (so := so) (lo := lo) (re := re) (ru := ru) (ot := ot) (le := le) (show fX6_imageOf a p1 = some (a 9) by simp [fX6_imageOf, h_4])) lk_X6_imageOf mlX6_284 dX6_restore_14 (n := 17) rfl (st := []) rfl (st2 := [.ref (a 9)]) rfl rfl rfl rfl (ws2 := pic_X6 D a pad now fi se li so lo re ru ot le) (ad_X6 _ _ _ _ _ _ _ _ _ _ _ _ _ _ _ _ _ _ _ _ _ _ _ _) rfl ⟨Nat.le_of_ble_eq_true rfl, Nat.le_of_ble_eq_true rfl⟩ (Nat.le_of_ble_eq_true rfl) ?_
      refine g_astore_n X dX6_restore_17 rfl (by decide) (lv2 := [(2, .ref (a 9)), (0, .ref (a 0)), (1, .int p1)]) rfl (n := 18) rfl ?_
      refine g_aload_n X dX6_restore_18 0 rfl rfl (n := 19) rfl ?_
      refine g_getN X dX6_restore_19 flX6_291 9 rfl (v := .int (bI fi.2.2.2.2.2.2)) rfl (n := 22) rfl ?_
      refine g_if_neB X dX6_restore_22 (t := 28) (by decide) (n := 25) rfl (fun c_5 => ?_) (fun c_5 => ?_)
      · replace hf := k_pos c_5 hf
        refine g_aload_n X dX6_restore_28 1 rfl rfl (n := 29) rfl ?_
        refine g_get X dX6_restore_29 flX6_21 0 rfl (v := .ref (a 3)) rfl (n := 32) rfl ?_
        refine g_aload_n X dX6_restore_32 0 rfl rfl (n := 33) rfl ?_
        obtain ⟨now_6, g_7, hf⟩ := k_b1s hf
        refine g_callV X (mX3_become (D := D) (l := l) (a0 := (a 3)) (a1 := (a 4)) (a2 := (a 5)) (a3 := (a 6)) (a4 := (a 7)) (a5 := (a 8)) (b0 := (a 9)) (b1 := (a 10)) (b2 := (a 11)) (b3 := (a 12)) (b4 := (a 13)) (b5 := (a 14)) g_7) lk_X3_become mlX6_288 dX6_restore_33 (n := 36) rfl (st := []) rfl (st2 := []) rfl [3, 4, 5, 6, 7, 8, 9, 10, 11, 12, 13, 14] rfl rfl rfl rfl rfl rfl (ws2 := pic_X6 D a pad now_6 fi se li so lo re ru ot le) rfl rfl rfl ⟨Nat.le_of_ble_eq_true rfl, Nat.le_of_ble_eq_true rfl⟩ (Nat.le_of_ble_eq_true rfl) ?_
        refine g_iconst X dX6_restore_36 (v := 1) (by decide) (n := 37) rfl ?_
        obtain rfl := Option.some.inj hf
        exact hret _ _ dX6_restore_37
      · replace hf := k_neg c_5 hf
        refine g_bipush X dX6_restore_25 (v := (-3)) (by decide) (n := 27) rfl ?_
        obtain rfl := Option.some.inj hf
        exact hret _ _ dX6_restore_27
    · replace hf := k_neg h_4 hf
      refine g_callV0 X (mX6_imageOf (D := D) (l := l) (a := a) (pad := pad) (now := now) (fi := fi) (se := se) (li := li) (so := so) (lo := lo) (re := re) (ru := ru) (ot := ot) (le := le) (show fX6_imageOf a p1 = some (a 15) by simp [fX6_imageOf, h_4])) lk_X6_imageOf mlX6_284 dX6_restore_14 (n := 17) rfl (st := []) rfl (st2 := [.ref (a 15)]) rfl rfl rfl rfl (ws2 := pic_X6 D a pad now fi se li so lo re ru ot le) (ad_X6 _ _ _ _ _ _ _ _ _ _ _ _ _ _ _ _ _ _ _ _ _ _ _ _) rfl ⟨Nat.le_of_ble_eq_true rfl, Nat.le_of_ble_eq_true rfl⟩ (Nat.le_of_ble_eq_true rfl) ?_
      refine g_astore_n X dX6_restore_17 rfl (by decide) (lv2 := [(2, .ref (a 15)), (0, .ref (a 0)), (1, .int p1)]) rfl (n := 18) rfl ?_
      refine g_aload_n X dX6_restore_18 0 rfl rfl (n := 19) rfl ?_
      refine g_getN X dX6_restore_19 flX6_291 15 rfl (v := .int (bI se.2.2.2.2.2.2)) rfl (n := 22) rfl ?_
      refine g_if_neB X dX6_restore_22 (t := 28) (by decide) (n := 25) rfl (fun c_8 => ?_) (fun c_8 => ?_)
      · replace hf := k_pos c_8 hf
        refine g_aload_n X dX6_restore_28 1 rfl rfl (n := 29) rfl ?_
        refine g_get X dX6_restore_29 flX6_21 0 rfl (v := .ref (a 3)) rfl (n := 32) rfl ?_
        refine g_aload_n X dX6_restore_32 0 rfl rfl (n := 33) rfl ?_
        obtain ⟨now_9, g_10, hf⟩ := k_b1s hf
        refine g_callV X (mX3_become (D := D) (l := l) (a0 := (a 3)) (a1 := (a 4)) (a2 := (a 5)) (a3 := (a 6)) (a4 := (a 7)) (a5 := (a 8)) (b0 := (a 15)) (b1 := (a 16)) (b2 := (a 17)) (b3 := (a 18)) (b4 := (a 19)) (b5 := (a 20)) g_10) lk_X3_become mlX6_288 dX6_restore_33 (n := 36) rfl (st := []) rfl (st2 := []) rfl [3, 4, 5, 6, 7, 8, 15, 16, 17, 18, 19, 20] rfl rfl rfl rfl rfl rfl (ws2 := pic_X6 D a pad now_9 fi se li so lo re ru ot le) rfl rfl rfl ⟨Nat.le_of_ble_eq_true rfl, Nat.le_of_ble_eq_true rfl⟩ (Nat.le_of_ble_eq_true rfl) ?_
        refine g_iconst X dX6_restore_36 (v := 1) (by decide) (n := 37) rfl ?_
        obtain rfl := Option.some.inj hf
        exact hret _ _ dX6_restore_37
      · replace hf := k_neg c_8 hf
        refine g_bipush X dX6_restore_25 (v := (-3)) (by decide) (n := 27) rfl ?_
        obtain rfl := Option.some.inj hf
        exact hret _ _ dX6_restore_27
  · replace hf := k_neg c_3 hf
    refine g_bipush X dX6_restore_9 (v := (-2)) (by decide) (n := 11) rfl ?_
    obtain rfl := Option.some.inj hf
    exact hret _ _ dX6_restore_11
set_option maxRecDepth 100000 in
set_option maxHeartbeats 4000000 in
theorem mX6_restore {l : Launch} {D : va_G} {N : Nat} {a : Nat → Nat} {p1 : Int32} {pad : VX5} {now : VX3} {fi : VX3} {se : VX3} {li : VX4} {so : VX4} {lo : VX1} {re : VX2} {ru : VX0} {ot : VX0} {le : Nat → Int32} {res : Int32 × VX3} (hf : fX6_restore N fi se p1 now = some res) : k_Met l yX6_restore cX6_restore 3 (some .int) 3 82 D [.ref (a 0), .int p1] (pic_X6 D a pad now fi se li so lo re ru ot le) (some (.int res.1)) (pic_X6 D a pad res.2 fi se li so lo re ru ot le) :=
  k_of_i (by decide) (Nat.le_of_ble_eq_true rfl) (fun E X hret => wX6_restore X hret hf)
set_option maxRecDepth 100000 in
set_option maxHeartbeats 4000000 in
theorem wX6_told {D : va_G} {l : Launch} {E : k_E} {a : Nat → Nat} {p1 : Int32} {pad : VX5} {now : VX3} {fi : VX3} {se : VX3} {li : VX4} {so : VX4} {lo : VX1} {re : VX2} {ru : VX0} {ot : VX0} {le : Nat → Int32} {res : Int32} (X : k_X D E cX6_told RX6 2 2 42) (hret : ∀ (pc : Nat) (lv : List (Nat × Value)), decode cX6_told pc = .ok (.ireturn, 1) → k_G D l E (pic_X6 D a pad now fi se li so lo re ru ot le) lv pc [.int res]) (hf : fX6_told pad now p1 = some res) : k_G D l E (pic_X6 D a pad now fi se li so lo re ru ot le) [(0, .ref (a 0)), (1, .int p1)] 0 [] := by
  unfold fX6_told at hf
  refine g_iload_n X dX6_told_0 1 rfl rfl (n := 1) rfl ?_
  refine g_bipush X dX6_told_1 (v := 10) (by decide) (n := 3) rfl ?_
  refine g_isub X dX6_told_3 (n := 4) rfl ?_
  obtain ⟨x_1, g_2, hf⟩ := k_b1s hf
  refine g_callS0 X (mX6_isSheet (D := D) (l := l)  g_2) lk_X6_isSheet mlX6_91 dX6_told_4 (n := 7) rfl (st := []) rfl (st2 := [.int (bI x_1)]) rfl rfl ⟨Nat.le_of_ble_eq_true rfl, Nat.le_of_ble_eq_true rfl⟩ (Nat.le_of_ble_eq_true rfl) ?_
  refine g_if_eqB X dX6_told_7 (t := 22) (by decide) (n := 10) rfl (fun c_3 => ?_) (fun c_3 => ?_)
  · replace hf := k_neg c_3 hf
    refine g_iload_n X dX6_told_22 1 rfl rfl (n := 23) rfl ?_
    refine g_bipush X dX6_told_23 (v := 20) (by decide) (n := 25) rfl ?_
    refine g_isub X dX6_told_25 (n := 26) rfl ?_
    obtain ⟨x_4, g_5, hf⟩ := k_b1s hf
    refine g_callS0 X (mX6_isSheet (D := D) (l := l)  g_5) lk_X6_isSheet mlX6_91 dX6_told_26 (n := 29) rfl (st := []) rfl (st2 := [.int (bI x_4)]) rfl rfl ⟨Nat.le_of_ble_eq_true rfl, Nat.le_of_ble_eq_true rfl⟩ (Nat.le_of_ble_eq_true rfl) ?_
    refine g_if_eqB X dX6_told_29 (t := 44) (by decide) (n := 32) rfl (fun c_6 => ?_) (fun c_6 => ?_)
    · replace hf := k_neg c_6 hf
      refine g_iload_n X dX6_told_44 1 rfl rfl (n := 45) rfl ?_
      by_cases c_7 : p1 = 0
      · refine g_tabIn X dX6_told_45 (n := 76) (off := 31) (by rw [c_7]; decide) (by rw [c_7]; decide) (by rw [c_7]; decide) (by decide) ?_
        replace hf := k_pos c_7 hf
        refine g_aload_n X dX6_told_76 0 rfl rfl (n := 77) rfl ?_
        refine g_get X dX6_told_77 flX6_14 0 rfl (v := .ref (a 1)) rfl (n := 80) rfl ?_
        refine g_getN X dX6_told_80 flX6_77 1 rfl (v := .int pad.2) rfl (n := 83) rfl ?_
        obtain rfl := Option.some.inj hf
        exact hret _ _ dX6_told_83
      replace hf := k_neg c_7 hf
      by_cases c_8 : p1 = 1
      · refine g_tabIn X dX6_told_45 (n := 84) (off := 39) (by rw [c_8]; decide) (by rw [c_8]; decide) (by rw [c_8]; decide) (by decide) ?_
        replace hf := k_pos c_8 hf
        refine g_aload_n X dX6_told_84 0 rfl rfl (n := 85) rfl ?_
        refine g_get X dX6_told_85 flX6_21 0 rfl (v := .ref (a 3)) rfl (n := 88) rfl ?_
        refine g_getN X dX6_told_88 flX6_134 3 rfl (v := .int now.2.2.2.2.2.1) rfl (n := 91) rfl ?_
        obtain rfl := Option.some.inj hf
        exact hret _ _ dX6_told_91
      replace hf := k_neg c_8 hf
      by_cases c_9 : p1 = 2
      · refine g_tabIn X dX6_told_45 (n := 92) (off := 47) (by rw [c_9]; decide) (by rw [c_9]; decide) (by rw [c_9]; decide) (by decide) ?_
        replace hf := k_pos c_9 hf
        refine g_aload_n X dX6_told_92 0 rfl rfl (n := 93) rfl ?_
        refine g_get X dX6_told_93 flX6_21 0 rfl (v := .ref (a 3)) rfl (n := 96) rfl ?_
        refine g_getN X dX6_told_96 flX6_137 3 rfl (v := .ref (a 7)) rfl (n := 99) rfl ?_
        refine g_getN X dX6_told_99 flX6_77 7 rfl (v := .int now.2.2.2.1.2) rfl (n := 102) rfl ?_
        obtain rfl := Option.some.inj hf
        exact hret _ _ dX6_told_102
      replace hf := k_neg c_9 hf
      by_cases c_10 : p1 = 3
      · refine g_tabIn X dX6_told_45 (n := 103) (off := 58) (by rw [c_10]; decide) (by rw [c_10]; decide) (by rw [c_10]; decide) (by decide) ?_
        replace hf := k_pos c_10 hf
        refine g_aload_n X dX6_told_103 0 rfl rfl (n := 104) rfl ?_
        refine g_get X dX6_told_104 flX6_21 0 rfl (v := .ref (a 3)) rfl (n := 107) rfl ?_
        refine g_getN X dX6_told_107 flX6_297 3 rfl (v := .int now.2.2.2.2.1) rfl (n := 110) rfl ?_
        obtain rfl := Option.some.inj hf
        exact hret _ _ dX6_told_110
      replace hf := k_neg c_10 hf
      have nc_7 := k_toInt_ne (v := 0) (z := 0) (by decide) c_7
      have nc_8 := k_toInt_ne (v := 1) (z := 1) (by decide) c_8
      have nc_9 := k_toInt_ne (v := 2) (z := 2) (by decide) c_9
      have nc_10 := k_toInt_ne (v := 3) (z := 3) (by decide) c_10
      refine g_tabOut X dX6_told_45 (n := 111) (by omega) (by decide) ?_
      refine g_bipush X dX6_told_111 (v := (-2)) (by decide) (n := 113) rfl ?_
      obtain rfl := Option.some.inj hf
      exact hret _ _ dX6_told_113
    · replace hf := k_pos c_6 hf
      refine g_aload_n X dX6_told_32 0 rfl rfl (n := 33) rfl ?_
      refine g_get X dX6_told_33 flX6_21 0 rfl (v := .ref (a 3)) rfl (n := 36) rfl ?_
      refine g_iload_n X dX6_told_36 1 rfl rfl (n := 37) rfl ?_
      refine g_bipush X dX6_told_37 (v := 20) (by decide) (n := 39) rfl ?_
      refine g_isub X dX6_told_39 (n := 40) rfl ?_
      obtain ⟨x_11, g_12, hf⟩ := k_b1s hf
      refine g_callV X (mX3_sizeOf (D := D) (l := l) (a0 := (a 3)) (a1 := (a 4)) (a2 := (a 5)) (a3 := (a 6)) (a4 := (a 7)) (a5 := (a 8)) g_12) lk_X3_sizeOf mlX6_108 dX6_told_40 (n := 43) rfl (st := []) rfl (st2 := [.int x_11]) rfl [3, 4, 5, 6, 7, 8] rfl rfl rfl rfl rfl rfl (ws2 := pic_X6 D a pad now fi se li so lo re ru ot le) rfl rfl rfl ⟨Nat.le_of_ble_eq_true rfl, Nat.le_of_ble_eq_true rfl⟩ (Nat.le_of_ble_eq_true rfl) ?_
      obtain rfl := Option.some.inj hf
      exact hret _ _ dX6_told_43
  · replace hf := k_pos c_3 hf
    refine g_aload_n X dX6_told_10 0 rfl rfl (n := 11) rfl ?_
    refine g_get X dX6_told_11 flX6_21 0 rfl (v := .ref (a 3)) rfl (n := 14) rfl ?_
    refine g_iload_n X dX6_told_14 1 rfl rfl (n := 15) rfl ?_
    refine g_bipush X dX6_told_15 (v := 10) (by decide) (n := 17) rfl ?_
    refine g_isub X dX6_told_17 (n := 18) rfl ?_
    obtain ⟨x_13, g_14, hf⟩ := k_b1s hf
    refine g_callV X (mX3_gathererOf (D := D) (l := l) (a0 := (a 3)) (a1 := (a 4)) (a2 := (a 5)) (a3 := (a 6)) (a4 := (a 7)) (a5 := (a 8)) g_14) lk_X3_gathererOf mlX6_294 dX6_told_18 (n := 21) rfl (st := []) rfl (st2 := [.int x_13]) rfl [3, 4, 5, 6, 7, 8] rfl rfl rfl rfl rfl rfl (ws2 := pic_X6 D a pad now fi se li so lo re ru ot le) rfl rfl rfl ⟨Nat.le_of_ble_eq_true rfl, Nat.le_of_ble_eq_true rfl⟩ (Nat.le_of_ble_eq_true rfl) ?_
    obtain rfl := Option.some.inj hf
    exact hret _ _ dX6_told_21
set_option maxRecDepth 100000 in
set_option maxHeartbeats 4000000 in
theorem mX6_told {l : Launch} {D : va_G} {a : Nat → Nat} {p1 : Int32} {pad : VX5} {now : VX3} {fi : VX3} {se : VX3} {li : VX4} {so : VX4} {lo : VX1} {re : VX2} {ru : VX0} {ot : VX0} {le : Nat → Int32} {res : Int32} (hf : fX6_told pad now p1 = some res) : k_Met l yX6_told cX6_told 2 (some .int) 2 42 D [.ref (a 0), .int p1] (pic_X6 D a pad now fi se li so lo re ru ot le) (some (.int res)) (pic_X6 D a pad now fi se li so lo re ru ot le) :=
  k_of_i (by decide) (Nat.le_of_ble_eq_true rfl) (fun E X hret => wX6_told X hret hf)
