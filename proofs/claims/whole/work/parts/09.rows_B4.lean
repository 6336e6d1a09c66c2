/-! walks: X6_isWithin X6_say X6_wipe X6_isLetter X6_namesFault X6_isOperand X6_ruleFault X6_fault X6_isSheet X6_names X6_set X6_sheet X6_readList X6_count -/
set_option maxRecDepth 100000 in
set_option maxHeartbeats 4000000 in
theorem wX6_isWithin {D : va_G} {l : Launch} {E : k_E} {p0 : Int32} {p1 : Int32} {p2 : Int32} {res : Bool} (X : k_X D E cX6_isWithin RX6 3 0 0) (hret : ∀ (pc : Nat) (lv : List (Nat × Value)), decode cX6_isWithin pc = .ok (.ireturn, 1) → k_G D l E ([]) lv pc [.int (bI res)]) (hf : fX6_isWithin p0 p1 p2 = some res) : k_G D l E ([]) [(0, .int p0), (1, .int p1), (2, .int p2)] 0 [] := by
  unfold fX6_isWithin at hf
  refine g_iload_n X dX6_isWithin_0 0 rfl rfl (n := 1) rfl ?_
  refine g_iload_n X dX6_isWithin_1 1 rfl rfl (n := 2) rfl ?_
  refine g_icmp_lt X dX6_isWithin_2 (t := 14) (by decide) (n := 5) rfl (fun c_1 => ?_) (fun c_1 => ?_)
  · replace hf := k_pos c_1 hf
    refine g_iconst X dX6_isWithin_14 (v := 0) (by decide) (n := 15) rfl ?_
    obtain rfl := Option.some.inj hf
    exact hret _ _ dX6_isWithin_15
  · replace hf := k_neg c_1 hf
    refine g_iload_n X dX6_isWithin_5 0 rfl rfl (n := 6) rfl ?_
    refine g_iload_n X dX6_isWithin_6 2 rfl rfl (n := 7) rfl ?_
    refine g_icmp_gt X dX6_isWithin_7 (t := 14) (by decide) (n := 10) rfl (fun c_2 => ?_) (fun c_2 => ?_)
    · replace hf := k_pos c_2 hf
      refine g_iconst X dX6_isWithin_14 (v := 0) (by decide) (n := 15) rfl ?_
      obtain rfl := Option.some.inj hf
      exact hret _ _ dX6_isWithin_15
    · replace hf := k_neg c_2 hf
      refine g_iconst X dX6_isWithin_10 (v := 1) (by decide) (n := 11) rfl ?_
      refine g_goto X dX6_isWithin_11 (n := 15) (by decide) ?_
      obtain rfl := Option.some.inj hf
      exact hret _ _ dX6_isWithin_15
set_option maxRecDepth 100000 in
set_option maxHeartbeats 4000000 in
theorem mX6_isWithin {l : Launch} {D : va_G} {p0 : Int32} {p1 : Int32} {p2 : Int32} {res : Bool} (hf : fX6_isWithin p0 p1 p2 = some res) : k_Met l yX6_isWithin cX6_isWithin 3 (some .boolean) 0 0 D [.int p0, .int p1, .int p2] ([]) (some (.int (bI res))) ([]) :=
  k_of_z (by decide) (Nat.le_of_ble_eq_true rfl) (fun E X hret => wX6_isWithin X hret hf)
set_option maxRecDepth 100000 in
set_option maxHeartbeats 4000000 in
theorem wX6_say {D : va_G} {l : Launch} {E : k_E} {a : Nat → Nat} {p1 : Int32} {pad : VX5} {now : VX3} {fi : VX3} {se : VX3} {li : VX4} {so : VX4} {lo : VX1} {re : VX2} {ru : VX0} {ot : VX0} {le : Nat → Int32} {res : Int32 × VX5} (X : k_X D E cX6_say RX6 2 1 22) (hret : ∀ (pc : Nat) (lv : List (Nat × Value)), decode cX6_say pc = .ok (.ireturn, 1) → k_G D l E (pic_X6 D a res.2 now fi se li so lo re ru ot le) lv pc [.int res.1]) (hf : fX6_say p1 pad = some res) : k_G D l E (pic_X6 D a pad now fi se li so lo re ru ot le) [(0, .ref (a 0)), (1, .int p1)] 0 [] := by
  unfold fX6_say at hf
  refine g_iload_n X dX6_say_0 1 rfl rfl (n := 1) rfl ?_
  refine g_bipush X dX6_say_1 (v := 33) (by decide) (n := 3) rfl ?_
  refine g_bipush X dX6_say_3 (v := 126) (by decide) (n := 5) rfl ?_
  obtain ⟨x_1, g_2, hf⟩ := k_b1s hf
  refine g_callS0 X (mX6_isWithin (D := D) (l := l)  g_2) lk_X6_isWithin mlX6_69 dX6_say_5 (n := 8) rfl (st := []) rfl (st2 := [.int (bI x_1)]) rfl rfl ⟨Nat.le_of_ble_eq_true rfl, Nat.le_of_ble_eq_true rfl⟩ (Nat.le_of_ble_eq_true rfl) ?_
  refine g_if_neB X dX6_say_8 (t := 14) (by decide) (n := 11) rfl (fun c_3 => ?_) (fun c_3 => ?_)
  · replace hf := k_pos c_3 hf
    refine g_aload_n X dX6_say_14 0 rfl rfl (n := 15) rfl ?_
    refine g_get X dX6_say_15 flX6_14 0 rfl (v := .ref (a 1)) rfl (n := 18) rfl ?_
    refine g_iload_n X dX6_say_18 1 rfl rfl (n := 19) rfl ?_
    obtain ⟨x_4, pad_5, g_6, hf⟩ := k_b2s hf
    refine g_callV X (mX5_append (D := D) (l := l) (a0 := (a 1)) (a1 := (a 2)) (n := 16) g_6) lk_X5_append mlX6_73 dX6_say_19 (n := 22) rfl (st := []) rfl (st2 := [.int (bI x_4)]) rfl [1, 2] rfl rfl rfl rfl rfl rfl (ws2 := pic_X6 D a pad_5 now fi se li so lo re ru ot le) rfl rfl rfl ⟨Nat.le_of_ble_eq_true rfl, Nat.le_of_ble_eq_true rfl⟩ (Nat.le_of_ble_eq_true rfl) ?_
    refine g_if_eqB X dX6_say_22 (t := 35) (by decide) (n := 25) rfl (fun c_7 => ?_) (fun c_7 => ?_)
    · replace hf := k_neg c_7 hf
      refine g_bipush X dX6_say_35 (v := (-4)) (by decide) (n := 37) rfl ?_
      obtain rfl := Option.some.inj hf
      exact hret _ _ dX6_say_37
    · replace hf := k_pos c_7 hf
      refine g_aload_n X dX6_say_25 0 rfl rfl (n := 26) rfl ?_
      refine g_get X dX6_say_26 flX6_14 0 rfl (v := .ref (a 1)) rfl (n := 29) rfl ?_
      refine g_getN X dX6_say_29 flX6_77 1 rfl (v := .int pad_5.2) rfl (n := 32) rfl ?_
      refine g_goto X dX6_say_32 (n := 37) (by decide) ?_
      obtain rfl := Option.some.inj hf
      exact hret _ _ dX6_say_37
  · replace hf := k_neg c_3 hf
    refine g_bipush X dX6_say_11 (v := (-2)) (by decide) (n := 13) rfl ?_
    obtain rfl := Option.some.inj hf
    exact hret _ _ dX6_say_13
set_option maxRecDepth 100000 in
set_option maxHeartbeats 4000000 in
theorem mX6_say {l : Launch} {D : va_G} {a : Nat → Nat} {p1 : Int32} {pad : VX5} {now : VX3} {fi : VX3} {se : VX3} {li : VX4} {so : VX4} {lo : VX1} {re : VX2} {ru : VX0} {ot : VX0} {le : Nat → Int32} {res : Int32 × VX5} (hf : fX6_say p1 pad = some res) : k_Met l yX6_say cX6_say 2 (some .int) 1 22 D [.ref (a 0), .int p1] (pic_X6 D a pad now fi se li so lo re ru ot le) (some (.int res.1)) (pic_X6 D a res.2 now fi se li so lo re ru ot le) :=
  k_of_i (by decide) (Nat.le_of_ble_eq_true rfl) (fun E X hret => wX6_say X hret hf)
set_option maxRecDepth 100000 in
set_option maxHeartbeats 4000000 in
theorem wX6_wipe {D : va_G} {l : Launch} {E : k_E} {a : Nat → Nat} {pad : VX5} {now : VX3} {fi : VX3} {se : VX3} {li : VX4} {so : VX4} {lo : VX1} {re : VX2} {ru : VX0} {ot : VX0} {le : Nat → Int32} {res : Int32 × VX5} (X : k_X D E cX6_wipe RX6 2 1 20) (hret : ∀ (pc : Nat) (lv : List (Nat × Value)), decode cX6_wipe pc = .ok (.ireturn, 1) → k_G D l E (pic_X6 D a res.2 now fi se li so lo re ru ot le) lv pc [.int res.1]) (hf : fX6_wipe pad = some res) : k_G D l E (pic_X6 D a pad now fi se li so lo re ru ot le) [(0, .ref (a 0))] 0 [] := by
  unfold fX6_wipe at hf
  refine g_aload_n X dX6_wipe_0 0 rfl rfl (n := 1) rfl ?_
  refine g_get X dX6_wipe_1 flX6_14 0 rfl (v := .ref (a 1)) rfl (n := 4) rfl ?_
  refine g_getN X dX6_wipe_4 flX6_77 1 rfl (v := .int pad.2) rfl (n := 7) rfl ?_
  refine g_istore_n X dX6_wipe_7 rfl (by decide) (lv2 := [(1, .int pad.2), (0, .ref (a 0))]) rfl (n := 8) rfl ?_
  refine g_aload_n X dX6_wipe_8 1 rfl rfl (n := 9) rfl ?_
  refine g_get X dX6_wipe_9 flX6_14 0 rfl (v := .ref (a 1)) rfl (n := 12) rfl ?_
  obtain ⟨pad_1, g_2, hf⟩ := k_b1s hf
  refine g_callV X (mX5_clear (D := D) (l := l) (a0 := (a 1)) (a1 := (a 2)) (n := 16) g_2) lk_X5_clear mlX6_81 dX6_wipe_12 (n := 15) rfl (st := []) rfl (st2 := []) rfl [1, 2] rfl rfl rfl rfl rfl rfl (ws2 := pic_X6 D a pad_1 now fi se li so lo re ru ot le) rfl rfl rfl ⟨Nat.le_of_ble_eq_true rfl, Nat.le_of_ble_eq_true rfl⟩ (Nat.le_of_ble_eq_true rfl) ?_
  refine g_iload_n X dX6_wipe_15 0 rfl rfl (n := 16) rfl ?_
  obtain rfl := Option.some.inj hf
  exact hret _ _ dX6_wipe_16
set_option maxRecDepth 100000 in
set_option maxHeartbeats 4000000 in
theorem mX6_wipe {l : Launch} {D : va_G} {a : Nat → Nat} {pad : VX5} {now : VX3} {fi : VX3} {se : VX3} {li : VX4} {so : VX4} {lo : VX1} {re : VX2} {ru : VX0} {ot : VX0} {le : Nat → Int32} {res : Int32 × VX5} (hf : fX6_wipe pad = some res) : k_Met l yX6_wipe cX6_wipe 2 (some .int) 1 20 D [.ref (a 0)] (pic_X6 D a pad now fi se li so lo re ru ot le) (some (.int res.1)) (pic_X6 D a res.2 now fi se li so lo re ru ot le) :=
  k_of_i (by decide) (Nat.le_of_ble_eq_true rfl) (fun E X hret => wX6_wipe X hret hf)
set_option maxRecDepth 100000 in
set_option maxHeartbeats 4000000 in
theorem wX6_isLetter {D : va_G} {l : Launch} {E : k_E} {p0 : Int32} {res : Bool} (X : k_X D E cX6_isLetter RX6 1 1 22) (hret : ∀ (pc : Nat) (lv : List (Nat × Value)), decode cX6_isLetter pc = .ok (.ireturn, 1) → k_G D l E ([]) lv pc [.int (bI res)]) (hf : fX6_isLetter p0 = some res) : k_G D l E ([]) [(0, .int p0)] 0 [] := by
  unfold fX6_isLetter at hf
  refine g_iload_n X dX6_isLetter_0 0 rfl rfl (n := 1) rfl ?_
  refine g_bipush X dX6_isLetter_1 (v := 65) (by decide) (n := 3) rfl ?_
  refine g_bipush X dX6_isLetter_3 (v := 90) (by decide) (n := 5) rfl ?_
  obtain ⟨x_1, g_2, hf⟩ := k_b1s hf
  refine g_callS0 X (mX6_isWithin (D := D) (l := l)  g_2) lk_X6_isWithin mlX6_69 dX6_isLetter_5 (n := 8) rfl (st := []) rfl (st2 := [.int (bI x_1)]) rfl rfl ⟨Nat.le_of_ble_eq_true rfl, Nat.le_of_ble_eq_true rfl⟩ (Nat.le_of_ble_eq_true rfl) ?_
  obtain rfl := Option.some.inj hf
  exact hret _ _ dX6_isLetter_8
set_option maxRecDepth 100000 in
set_option maxHeartbeats 4000000 in
theorem mX6_isLetter {l : Launch} {D : va_G} {p0 : Int32} {res : Bool} (hf : fX6_isLetter p0 = some res) : k_Met l yX6_isLetter cX6_isLetter 1 (some .boolean) 1 22 D [.int p0] ([]) (some (.int (bI res))) ([]) :=
  k_of_z (by decide) (Nat.le_of_ble_eq_true rfl) (fun E X hret => wX6_isLetter X hret hf)
set_option maxRecDepth 100000 in
set_option maxHeartbeats 4000000 in
theorem wX6_namesFault_b47 {D : va_G} {l : Launch} {E : k_E} {N : Nat} {a : Nat → Nat} {k2 : Int32 → Option (Int32)} {v1 : Int32} {s0 : Bool} {pad : VX5} {now : VX3} {fi : VX3} {se : VX3} {li : VX4} {so : VX4} {lo : VX1} {re : VX2} {ru : VX0} {ot : VX0} {le : Nat → Int32} {res : Int32} (X : k_X D E cX6_namesFault RX6 4 2 42) (hk2 : ∀ (v1 : Int32) , k2 v1 = some res → k_G D l E (pic_X6 D a pad now fi se li so lo re ru ot le) [(0, .ref (a 0)), (1, .int v1)] 2 []) (hret : ∀ (pc : Nat) (lv : List (Nat × Value)), decode cX6_namesFault pc = .ok (.ireturn, 1) → k_G D l E (pic_X6 D a pad now fi se li so lo re ru ot le) lv pc [.int res]) (hf : fX6_namesFault_b47 N pad k2 v1 s0 = some res) : k_G D l E (pic_X6 D a pad now fi se li so lo re ru ot le) [(0, .ref (a 0)), (1, .int v1)] 47 [.int (bI s0)] := by
  unfold fX6_namesFault_b47 at hf
  refine g_istore_n X dX6_namesFault_47 rfl (by decide) (lv2 := [(3, .int (bI s0)), (0, .ref (a 0)), (1, .int v1)]) rfl (n := 48) rfl ?_
  refine g_iload_n X dX6_namesFault_48 2 rfl rfl (n := 49) rfl ?_
  refine g_bipush X dX6_namesFault_49 (v := 10) (by decide) (n := 51) rfl ?_
  refine g_icmp_ge X dX6_namesFault_51 (t := 58) (by decide) (n := 54) rfl (fun c_1 => ?_) (fun c_1 => ?_)
  · replace hf := k_pos c_1 hf
    refine g_iload_n X dX6_namesFault_58 2 rfl rfl (n := 59) rfl ?_
    obtain rfl := Option.some.inj hf
    exact hret _ _ dX6_namesFault_59
  · replace hf := k_neg c_1 hf
    refine g_iload_n X dX6_namesFault_54 0 rfl rfl (n := 55) rfl ?_
    refine g_if_neB X dX6_namesFault_55 (t := 60) (by decide) (n := 58) rfl (fun c_2 => ?_) (fun c_2 => ?_)
    · replace hf := k_pos c_2 hf
      refine g_iinc X dX6_namesFault_60 2 rfl (v := v1 + 1) rfl (by decide) (lv2 := [(1, .int (v1 + 1)), (3, .int (bI s0)), (0, .ref (a 0))]) rfl (n := 63) rfl ?_
      refine g_goto X dX6_namesFault_63 (n := 2) (by decide) ?_
      refine g_sub [2, 0] (lv' := [(0, .ref (a 0)), (1, .int (v1 + 1))]) rfl ?_
      exact hk2 _ hf
    · replace hf := k_neg c_2 hf
      refine g_iload_n X dX6_namesFault_58 2 rfl rfl (n := 59) rfl ?_
      obtain rfl := Option.some.inj hf
      exact hret _ _ dX6_namesFault_59
set_option maxRecDepth 100000 in
set_option maxHeartbeats 4000000 in
theorem wX6_namesFault_b42 {D : va_G} {l : Launch} {E : k_E} {N : Nat} {a : Nat → Nat} {k2 : Int32 → Option (Int32)} {v1 : Int32} {pad : VX5} {now : VX3} {fi : VX3} {se : VX3} {li : VX4} {so : VX4} {lo : VX1} {re : VX2} {ru : VX0} {ot : VX0} {le : Nat → Int32} {res : Int32} (X : k_X D E cX6_namesFault RX6 4 2 42) (hk2 : ∀ (v1 : Int32) , k2 v1 = some res → k_G D l E (pic_X6 D a pad now fi se li so lo re ru ot le) [(0, .ref (a 0)), (1, .int v1)] 2 []) (hret : ∀ (pc : Nat) (lv : List (Nat × Value)), decode cX6_namesFault pc = .ok (.ireturn, 1) → k_G D l E (pic_X6 D a pad now fi se li so lo re ru ot le) lv pc [.int res]) (hf : fX6_namesFault_b42 N pad k2 v1 = some res) : k_G D l E (pic_X6 D a pad now fi se li so lo re ru ot le) [(0, .ref (a 0)), (1, .int v1)] 42 [] := by
  unfold fX6_namesFault_b42 at hf
  refine g_iconst X dX6_namesFault_42 (v := 1) (by decide) (n := 43) rfl ?_
  refine g_goto X dX6_namesFault_43 (n := 47) (by decide) ?_
  refine g_sub [0, 1] (lv' := [(0, .ref (a 0)), (1, .int v1)]) rfl ?_
  exact wX6_namesFault_b47 X hk2 hret hf
set_option maxRecDepth 100000 in
set_option maxHeartbeats 4000000 in
theorem wX6_namesFault_b2 {D : va_G} {l : Launch} {E : k_E} {N : Nat} {a : Nat → Nat} {k2 : Int32 → Option (Int32)} {v1 : Int32} {pad : VX5} {now : VX3} {fi : VX3} {se : VX3} {li : VX4} {so : VX4} {lo : VX1} {re : VX2} {ru : VX0} {ot : VX0} {le : Nat → Int32} {res : Int32} (X : k_X D E cX6_namesFault RX6 4 2 42) (hk2 : ∀ (v1 : Int32) , k2 v1 = some res → k_G D l E (pic_X6 D a pad now fi se li so lo re ru ot le) [(0, .ref (a 0)), (1, .int v1)] 2 []) (hret : ∀ (pc : Nat) (lv : List (Nat × Value)), decode cX6_namesFault pc = .ok (.ireturn, 1) → k_G D l E (pic_X6 D a pad now fi se li so lo re ru ot le) lv pc [.int res]) (hf : fX6_namesFault_b2 N pad k2 v1 = some res) : k_G D l E (pic_X6 D a pad now fi se li so lo re ru ot le) [(0, .ref (a 0)), (1, .int v1)] 2 [] := by
  unfold fX6_namesFault_b2 at hf
  refine g_iload_n X dX6_namesFault_2 1 rfl rfl (n := 3) rfl ?_
  refine g_aload_n X dX6_namesFault_3 0 rfl rfl (n := 4) rfl ?_
  refine g_get X dX6_namesFault_4 flX6_14 0 rfl (v := .ref (a 1)) rfl (n := 7) rfl ?_
  refine g_getN X dX6_namesFault_7 flX6_77 1 rfl (v := .int pad.2) rfl (n := 10) rfl ?_
  refine g_icmp_ge X dX6_namesFault_10 (t := 66) (by decide) (n := 13) rfl (fun c_1 => ?_) (fun c_1 => ?_)
  · replace hf := k_pos c_1 hf
    refine g_bipush X dX6_namesFault_66 (v := (-6)) (by decide) (n := 68) rfl ?_
    obtain rfl := Option.some.inj hf
    exact hret _ _ dX6_namesFault_68
  · replace hf := k_neg c_1 hf
    refine g_aload_n X dX6_namesFault_13 0 rfl rfl (n := 14) rfl ?_
    refine g_get X dX6_namesFault_14 flX6_14 0 rfl (v := .ref (a 1)) rfl (n := 17) rfl ?_
    refine g_iload_n X dX6_namesFault_17 1 rfl rfl (n := 18) rfl ?_
    obtain ⟨x_2, g_3, hf⟩ := k_b1s hf
    refine g_callV X (mX5_signAt (D := D) (l := l) (a0 := (a 1)) (a1 := (a 2)) (n := 16) g_3) lk_X5_signAt mlX6_300 dX6_namesFault_18 (n := 21) rfl (st := []) rfl (st2 := [.int x_2]) rfl [1, 2] rfl rfl rfl rfl rfl rfl (ws2 := pic_X6 D a pad now fi se li so lo re ru ot le) rfl rfl rfl ⟨Nat.le_of_ble_eq_true rfl, Nat.le_of_ble_eq_true rfl⟩ (Nat.le_of_ble_eq_true rfl) ?_
    refine g_istore_n X dX6_namesFault_21 rfl (by decide) (lv2 := [(2, .int x_2), (0, .ref (a 0)), (1, .int v1)]) rfl (n := 22) rfl ?_
    refine g_iload_n X dX6_namesFault_22 0 rfl rfl (n := 23) rfl ?_
    refine g_bipush X dX6_namesFault_23 (v := 46) (by decide) (n := 25) rfl ?_
    refine g_icmp_eq X dX6_namesFault_25 (t := 42) (by decide) (n := 28) rfl (fun c_4 => ?_) (fun c_4 => ?_)
    · replace hf := k_pos c_4 hf
      refine g_sub [1, 2] (lv' := [(0, .ref (a 0)), (1, .int v1)]) rfl ?_
      exact wX6_namesFault_b42 X hk2 hret hf
    · replace hf := k_neg c_4 hf
      refine g_iload_n X dX6_namesFault_28 0 rfl rfl (n := 29) rfl ?_
      obtain ⟨x_5, g_6, hf⟩ := k_b1s hf
      refine g_callS0 X (mX6_isBad (D := D) (l := l)  g_6) lk_X6_isBad mlX6_303 dX6_namesFault_29 (n := 32) rfl (st := []) rfl (st2 := [.int (bI x_5)]) rfl rfl ⟨Nat.le_of_ble_eq_true rfl, Nat.le_of_ble_eq_true rfl⟩ (Nat.le_of_ble_eq_true rfl) ?_
      refine g_if_neB X dX6_namesFault_32 (t := 42) (by decide) (n := 35) rfl (fun c_7 => ?_) (fun c_7 => ?_)
      · replace hf := k_pos c_7 hf
        refine g_sub [1, 2] (lv' := [(0, .ref (a 0)), (1, .int v1)]) rfl ?_
        exact wX6_namesFault_b42 X hk2 hret hf
      · replace hf := k_neg c_7 hf
        refine g_iload_n X dX6_namesFault_35 0 rfl rfl (n := 36) rfl ?_
        obtain ⟨x_8, g_9, hf⟩ := k_b1s hf
        refine g_callS0 X (mX6_isLetter (D := D) (l := l)  g_9) lk_X6_isLetter mlX6_306 dX6_namesFault_36 (n := 39) rfl (st := []) rfl (st2 := [.int (bI x_8)]) rfl rfl ⟨Nat.le_of_ble_eq_true rfl, Nat.le_of_ble_eq_true rfl⟩ (Nat.le_of_ble_eq_true rfl) ?_
        refine g_if_eqB X dX6_namesFault_39 (t := 46) (by decide) (n := 42) rfl (fun c_10 => ?_) (fun c_10 => ?_)
        · replace hf := k_neg c_10 hf
          refine g_iconst X dX6_namesFault_46 (v := 0) (by decide) (n := 47) rfl ?_
          refine g_sub [1, 2] (lv' := [(0, .ref (a 0)), (1, .int v1)]) rfl ?_
          exact wX6_namesFault_b47 X hk2 hret hf
        · replace hf := k_pos c_10 hf
          refine g_sub [1, 2] (lv' := [(0, .ref (a 0)), (1, .int v1)]) rfl ?_
          exact wX6_namesFault_b42 X hk2 hret hf
set_option maxRecDepth 100000 in
set_option maxHeartbeats 4000000 in
theorem wX6_namesFault_l2 {D : va_G} {l : Launch} {E : k_E} {N : Nat} {a : Nat → Nat} {pad : VX5} {now : VX3} {fi : VX3} {se : VX3} {li : VX4} {so : VX4} {lo : VX1} {re : VX2} {ru : VX0} {ot : VX0} {le : Nat → Int32} {res : Int32} (X : k_X D E cX6_namesFault RX6 4 2 42) (hret : ∀ (pc : Nat) (lv : List (Nat × Value)), decode cX6_namesFault pc = .ok (.ireturn, 1) → k_G D l E (pic_X6 D a pad now fi se li so lo re ru ot le) lv pc [.int res]) : ∀ (n0 : Nat) (v1 : Int32) , fX6_namesFault_l2 N pad n0 v1 = some res → k_G D l E (pic_X6 D a pad now fi se li so lo re ru ot le) [(0, .ref (a 0)), (1, .int v1)] 2 [] := by
  intro n0
  induction n0 with
  | zero => intro v1 hf; cases hf
  | succ n0 ih => intro v1 hf; exact wX6_namesFault_b2 (N := N) (k2 := fX6_namesFault_l2 N pad n0) X  ih hret hf
set_option maxRecDepth 100000 in
set_option maxHeartbeats 4000000 in
theorem wX6_namesFault {D : va_G} {l : Launch} {E : k_E} {N : Nat} {a : Nat → Nat} {pad : VX5} {now : VX3} {fi : VX3} {se : VX3} {li : VX4} {so : VX4} {lo : VX1} {re : VX2} {ru : VX0} {ot : VX0} {le : Nat → Int32} {res : Int32} (X : k_X D E cX6_namesFault RX6 4 2 42) (hret : ∀ (pc : Nat) (lv : List (Nat × Value)), decode cX6_namesFault pc = .ok (.ireturn, 1) → k_G D l E (pic_X6 D a pad now fi se li so lo re ru ot le) lv pc [.int res]) (hf : fX6_namesFault N pad = some res) : k_G D l E (pic_X6 D a pad now fi se li so lo re ru ot le) [(0, .ref (a 0))] 0 [] := by
  unfold fX6_namesFault at hf
  refine g_iconst X dX6_namesFault_0 (v := 0) (by decide) (n := 1) rfl ?_
  refine g_istore_n X dX6_namesFault_1 rfl (by decide) (lv2 := [(1, .int 0), (0, .ref (a 0))]) rfl (n := 2) rfl ?_
  refine g_sub [1, 0] (lv' := [(0, .ref (a 0)), (1, .int 0)]) rfl ?_
  exact wX6_namesFault_l2 X  hret _ _ hf
set_option maxRecDepth 100000 in
set_option maxHeartbeats 4000000 in
theorem mX6_namesFault {l : Launch} {D : va_G} {N : Nat} {a : Nat → Nat} {pad : VX5} {now : VX3} {fi : VX3} {se : VX3} {li : VX4} {so : VX4} {lo : VX1} {re : VX2} {ru : VX0} {ot : VX0} {le : Nat → Int32} {res : Int32} (hf : fX6_namesFault N pad = some res) : k_Met l yX6_namesFault cX6_namesFault 4 (some .int) 2 42 D [.ref (a 0)] (pic_X6 D a pad now fi se li so lo re ru ot le) (some (.int res)) (pic_X6 D a pad now fi se li so lo re ru ot le) :=
  k_of_i (by decide) (Nat.le_of_ble_eq_true rfl) (fun E X hret => wX6_namesFault X hret hf)
set_option maxRecDepth 100000 in
set_option maxHeartbeats 4000000 in
theorem wX6_isOperand {D : va_G} {l : Launch} {E : k_E} {p0 : Int32} {res : Bool} (X : k_X D E cX6_isOperand RX6 1 1 22) (hret : ∀ (pc : Nat) (lv : List (Nat × Value)), decode cX6_isOperand pc = .ok (.ireturn, 1) → k_G D l E ([]) lv pc [.int (bI res)]) (hf : fX6_isOperand p0 = some res) : k_G D l E ([]) [(0, .int p0)] 0 [] := by
  unfold fX6_isOperand at hf
  refine g_iload_n X dX6_isOperand_0 0 rfl rfl (n := 1) rfl ?_
  refine g_bipush X dX6_isOperand_1 (v := 78) (by decide) (n := 3) rfl ?_
  refine g_icmp_eq X dX6_isOperand_3 (t := 35) (by decide) (n := 6) rfl (fun c_1 => ?_) (fun c_1 => ?_)
  · replace hf := k_pos c_1 hf
    refine g_iconst X dX6_isOperand_35 (v := 1) (by decide) (n := 36) rfl ?_
    refine g_goto X dX6_isOperand_36 (n := 40) (by decide) ?_
    obtain rfl := Option.some.inj hf
    exact hret _ _ dX6_isOperand_40
  · replace hf := k_neg c_1 hf
    refine g_iload_n X dX6_isOperand_6 0 rfl rfl (n := 7) rfl ?_
    refine g_bipush X dX6_isOperand_7 (v := 107) (by decide) (n := 9) rfl ?_
    refine g_icmp_eq X dX6_isOperand_9 (t := 35) (by decide) (n := 12) rfl (fun c_2 => ?_) (fun c_2 => ?_)
    · replace hf := k_pos c_2 hf
      refine g_iconst X dX6_isOperand_35 (v := 1) (by decide) (n := 36) rfl ?_
      refine g_goto X dX6_isOperand_36 (n := 40) (by decide) ?_
      obtain rfl := Option.some.inj hf
      exact hret _ _ dX6_isOperand_40
    · replace hf := k_neg c_2 hf
      refine g_iload_n X dX6_isOperand_12 0 rfl rfl (n := 13) rfl ?_
      refine g_bipush X dX6_isOperand_13 (v := 118) (by decide) (n := 15) rfl ?_
      refine g_icmp_eq X dX6_isOperand_15 (t := 35) (by decide) (n := 18) rfl (fun c_3 => ?_) (fun c_3 => ?_)
      · replace hf := k_pos c_3 hf
        refine g_iconst X dX6_isOperand_35 (v := 1) (by decide) (n := 36) rfl ?_
        refine g_goto X dX6_isOperand_36 (n := 40) (by decide) ?_
        obtain rfl := Option.some.inj hf
        exact hret _ _ dX6_isOperand_40
      · replace hf := k_neg c_3 hf
        refine g_iload_n X dX6_isOperand_18 0 rfl rfl (n := 19) rfl ?_
        refine g_bipush X dX6_isOperand_19 (v := 100) (by decide) (n := 21) rfl ?_
        refine g_icmp_eq X dX6_isOperand_21 (t := 35) (by decide) (n := 24) rfl (fun c_4 => ?_) (fun c_4 => ?_)
        · replace hf := k_pos c_4 hf
          refine g_iconst X dX6_isOperand_35 (v := 1) (by decide) (n := 36) rfl ?_
          refine g_goto X dX6_isOperand_36 (n := 40) (by decide) ?_
          obtain rfl := Option.some.inj hf
          exact hret _ _ dX6_isOperand_40
        · replace hf := k_neg c_4 hf
          refine g_iload_n X dX6_isOperand_24 0 rfl rfl (n := 25) rfl ?_
          refine g_bipush X dX6_isOperand_25 (v := 48) (by decide) (n := 27) rfl ?_
          refine g_bipush X dX6_isOperand_27 (v := 57) (by decide) (n := 29) rfl ?_
          obtain ⟨x_5, g_6, hf⟩ := k_b1s hf
          refine g_callS0 X (mX6_isWithin (D := D) (l := l)  g_6) lk_X6_isWithin mlX6_69 dX6_isOperand_29 (n := 32) rfl (st := []) rfl (st2 := [.int (bI x_5)]) rfl rfl ⟨Nat.le_of_ble_eq_true rfl, Nat.le_of_ble_eq_true rfl⟩ (Nat.le_of_ble_eq_true rfl) ?_
          refine g_if_eqB X dX6_isOperand_32 (t := 39) (by decide) (n := 35) rfl (fun c_7 => ?_) (fun c_7 => ?_)
          · replace hf := k_neg c_7 hf
            refine g_iconst X dX6_isOperand_39 (v := 0) (by decide) (n := 40) rfl ?_
            obtain rfl := Option.some.inj hf
            exact hret _ _ dX6_isOperand_40
          · replace hf := k_pos c_7 hf
            refine g_iconst X dX6_isOperand_35 (v := 1) (by decide) (n := 36) rfl ?_
            refine g_goto X dX6_isOperand_36 (n := 40) (by decide) ?_
            obtain rfl := Option.some.inj hf
            exact hret _ _ dX6_isOperand_40
set_option maxRecDepth 100000 in
set_option maxHeartbeats 4000000 in
theorem mX6_isOperand {l : Launch} {D : va_G} {p0 : Int32} {res : Bool} (hf : fX6_isOperand p0 = some res) : k_Met l yX6_isOperand cX6_isOperand 1 (some .boolean) 1 22 D [.int p0] ([]) (some (.int (bI res))) ([]) :=
  k_of_z (by decide) (Nat.le_of_ble_eq_true rfl) (fun E X hret => wX6_isOperand X hret hf)
set_option maxRecDepth 100000 in
set_option maxHeartbeats 4000000 in
theorem wX6_ruleFault_b64 {D : va_G} {l : Launch} {E : k_E} {N : Nat} {a : Nat → Nat} {k4 : Int32 → Int32 → Option (Int32)} {v1 : Int32} {v2 : Int32} {pad : VX5} {now : VX3} {fi : VX3} {se : VX3} {li : VX4} {so : VX4} {lo : VX1} {re : VX2} {ru : VX0} {ot : VX0} {le : Nat → Int32} {res : Int32} (X : k_X D E cX6_ruleFault RX6 4 2 42) (hk4 : ∀ (v1 : Int32) (v2 : Int32) , k4 v1 v2 = some res → k_G D l E (pic_X6 D a pad now fi se li so lo re ru ot le) [(0, .ref (a 0)), (1, .int v1), (2, .int v2)] 4 []) (hret : ∀ (pc : Nat) (lv : List (Nat × Value)), decode cX6_ruleFault pc = .ok (.ireturn, 1) → k_G D l E (pic_X6 D a pad now fi se li so lo re ru ot le) lv pc [.int res]) (hf : fX6_ruleFault_b64 N pad k4 v1 v2 = some res) : k_G D l E (pic_X6 D a pad now fi se li so lo re ru ot le) [(0, .ref (a 0)), (1, .int v1), (2, .int v2)] 64 [] := by
  unfold fX6_ruleFault_b64 at hf
  refine g_iinc X dX6_ruleFault_64 2 rfl (v := v2 + 1) rfl (by decide) (lv2 := [(2, .int (v2 + 1)), (0, .ref (a 0)), (1, .int v1)]) rfl (n := 67) rfl ?_
  refine g_goto X dX6_ruleFault_67 (n := 4) (by decide) ?_
  refine g_sub [1, 2, 0] (lv' := [(0, .ref (a 0)), (1, .int v1), (2, .int (v2 + 1))]) rfl ?_
  exact hk4 _ _ hf
set_option maxRecDepth 100000 in
set_option maxHeartbeats 4000000 in
theorem wX6_ruleFault_b4 {D : va_G} {l : Launch} {E : k_E} {N : Nat} {a : Nat → Nat} {k4 : Int32 → Int32 → Option (Int32)} {v1 : Int32} {v2 : Int32} {pad : VX5} {now : VX3} {fi : VX3} {se : VX3} {li : VX4} {so : VX4} {lo : VX1} {re : VX2} {ru : VX0} {ot : VX0} {le : Nat → Int32} {res : Int32} (X : k_X D E cX6_ruleFault RX6 4 2 42) (hk4 : ∀ (v1 : Int32) (v2 : Int32) , k4 v1 v2 = some res → k_G D l E (pic_X6 D a pad now fi se li so lo re ru ot le) [(0, .ref (a 0)), (1, .int v1), (2, .int v2)] 4 []) (hret : ∀ (pc : Nat) (lv : List (Nat × Value)), decode cX6_ruleFault pc = .ok (.ireturn, 1) → k_G D l E (pic_X6 D a pad now fi se li so lo re ru ot le) lv pc [.int res]) (hf : fX6_ruleFault_b4 N pad k4 v1 v2 = some res) : k_G D l E (pic_X6 D a pad now fi se li so lo re ru ot le) [(0, .ref (a 0)), (1, .int v1), (2, .int v2)] 4 [] := by
  unfold fX6_ruleFault_b4 at hf
  refine g_iload_n X dX6_ruleFault_4 2 rfl rfl (n := 5) rfl ?_
  refine g_aload_n X dX6_ruleFault_5 0 rfl rfl (n := 6) rfl ?_
  refine g_get X dX6_ruleFault_6 flX6_14 0 rfl (v := .ref (a 1)) rfl (n := 9) rfl ?_
  refine g_getN X dX6_ruleFault_9 flX6_77 1 rfl (v := .int pad.2) rfl (n := 12) rfl ?_
  refine g_icmp_ge X dX6_ruleFault_12 (t := 70) (by decide) (n := 15) rfl (fun c_1 => ?_) (fun c_1 => ?_)
  · replace hf := k_pos c_1 hf
    refine g_iload_n X dX6_ruleFault_70 1 rfl rfl (n := 71) rfl ?_
    refine g_if_ne X dX6_ruleFault_71 (t := 79) (by decide) (n := 74) rfl (fun c_2 => ?_) (fun c_2 => ?_)
    · replace hf := k_neg c_2 hf
      refine g_aload_n X dX6_ruleFault_79 0 rfl rfl (n := 80) rfl ?_
      refine g_get X dX6_ruleFault_80 flX6_14 0 rfl (v := .ref (a 1)) rfl (n := 83) rfl ?_
      refine g_getN X dX6_ruleFault_83 flX6_77 1 rfl (v := .int pad.2) rfl (n := 86) rfl ?_
      obtain rfl := Option.some.inj hf
      exact hret _ _ dX6_ruleFault_86
    · replace hf := k_pos c_2 hf
      refine g_bipush X dX6_ruleFault_74 (v := (-6)) (by decide) (n := 76) rfl ?_
      refine g_goto X dX6_ruleFault_76 (n := 86) (by decide) ?_
      obtain rfl := Option.some.inj hf
      exact hret _ _ dX6_ruleFault_86
  · replace hf := k_neg c_1 hf
    refine g_aload_n X dX6_ruleFault_15 0 rfl rfl (n := 16) rfl ?_
    refine g_get X dX6_ruleFault_16 flX6_14 0 rfl (v := .ref (a 1)) rfl (n := 19) rfl ?_
    refine g_iload_n X dX6_ruleFault_19 2 rfl rfl (n := 20) rfl ?_
    obtain ⟨x_3, g_4, hf⟩ := k_b1s hf
    refine g_callV X (mX5_signAt (D := D) (l := l) (a0 := (a 1)) (a1 := (a 2)) (n := 16) g_4) lk_X5_signAt mlX6_300 dX6_ruleFault_20 (n := 23) rfl (st := []) rfl (st2 := [.int x_3]) rfl [1, 2] rfl rfl rfl rfl rfl rfl (ws2 := pic_X6 D a pad now fi se li so lo re ru ot le) rfl rfl rfl ⟨Nat.le_of_ble_eq_true rfl, Nat.le_of_ble_eq_true rfl⟩ (Nat.le_of_ble_eq_true rfl) ?_
    refine g_istore_n X dX6_ruleFault_23 rfl (by decide) (lv2 := [(3, .int x_3), (0, .ref (a 0)), (1, .int v1), (2, .int v2)]) rfl (n := 24) rfl ?_
    refine g_iload_n X dX6_ruleFault_24 3 rfl rfl (n := 25) rfl ?_
    refine g_bipush X dX6_ruleFault_25 (v := 11) (by decide) (n := 27) rfl ?_
    refine g_icmp_ge X dX6_ruleFault_27 (t := 34) (by decide) (n := 30) rfl (fun c_5 => ?_) (fun c_5 => ?_)
    · replace hf := k_pos c_5 hf
      refine g_iload_n X dX6_ruleFault_34 3 rfl rfl (n := 35) rfl ?_
      obtain rfl := Option.some.inj hf
      exact hret _ _ dX6_ruleFault_35
    · replace hf := k_neg c_5 hf
      refine g_iload_n X dX6_ruleFault_30 2 rfl rfl (n := 31) rfl ?_
      refine g_if_ne X dX6_ruleFault_31 (t := 36) (by decide) (n := 34) rfl (fun c_6 => ?_) (fun c_6 => ?_)
      · replace hf := k_neg c_6 hf
        refine g_iload_n X dX6_ruleFault_36 0 rfl rfl (n := 37) rfl ?_
        obtain ⟨x_7, g_8, hf⟩ := k_b1s hf
        refine g_callS0 X (mX6_isOperator (D := D) (l := l)  g_8) lk_X6_isOperator mlX6_309 dX6_ruleFault_37 (n := 40) rfl (st := []) rfl (st2 := [.int (bI x_7)]) rfl rfl ⟨Nat.le_of_ble_eq_true rfl, Nat.le_of_ble_eq_true rfl⟩ (Nat.le_of_ble_eq_true rfl) ?_
        refine g_if_eqB X dX6_ruleFault_40 (t := 49) (by decide) (n := 43) rfl (fun c_9 => ?_) (fun c_9 => ?_)
        · replace hf := k_neg c_9 hf
          refine g_iload_n X dX6_ruleFault_49 0 rfl rfl (n := 50) rfl ?_
          obtain ⟨x_10, g_11, hf⟩ := k_b1s hf
          refine g_callS0 X (mX6_isOperand (D := D) (l := l)  g_11) lk_X6_isOperand mlX6_312 dX6_ruleFault_50 (n := 53) rfl (st := []) rfl (st2 := [.int (bI x_10)]) rfl rfl ⟨Nat.le_of_ble_eq_true rfl, Nat.le_of_ble_eq_true rfl⟩ (Nat.le_of_ble_eq_true rfl) ?_
          refine g_if_eqB X dX6_ruleFault_53 (t := 62) (by decide) (n := 56) rfl (fun c_12 => ?_) (fun c_12 => ?_)
          · replace hf := k_neg c_12 hf
            refine g_iload_n X dX6_ruleFault_62 3 rfl rfl (n := 63) rfl ?_
            obtain rfl := Option.some.inj hf
            exact hret _ _ dX6_ruleFault_63
          · replace hf := k_pos c_12 hf
            refine g_iinc X dX6_ruleFault_56 2 rfl (v := v1 + (-1)) rfl (by decide) (lv2 := [(1, .int (v1 + (-1))), (3, .int x_3), (0, .ref (a 0)), (2, .int v2)]) rfl (n := 59) rfl ?_
            refine g_goto X dX6_ruleFault_59 (n := 64) (by decide) ?_
            refine g_sub [2, 0, 3] (lv' := [(0, .ref (a 0)), (1, .int (v1 + (-1))), (2, .int v2)]) rfl ?_
            exact wX6_ruleFault_b64 X hk4 hret hf
        · replace hf := k_pos c_9 hf
          refine g_iinc X dX6_ruleFault_43 2 rfl (v := v1 + 1) rfl (by decide) (lv2 := [(1, .int (v1 + 1)), (3, .int x_3), (0, .ref (a 0)), (2, .int v2)]) rfl (n := 46) rfl ?_
          refine g_goto X dX6_ruleFault_46 (n := 64) (by decide) ?_
          refine g_sub [2, 0, 3] (lv' := [(0, .ref (a 0)), (1, .int (v1 + 1)), (2, .int v2)]) rfl ?_
          exact wX6_ruleFault_b64 X hk4 hret hf
      · replace hf := k_pos c_6 hf
        refine g_iload_n X dX6_ruleFault_34 3 rfl rfl (n := 35) rfl ?_
        obtain rfl := Option.some.inj hf
        exact hret _ _ dX6_ruleFault_35
set_option maxRecDepth 100000 in
set_option maxHeartbeats 4000000 in
theorem wX6_ruleFault_l4 {D : va_G} {l : Launch} {E : k_E} {N : Nat} {a : Nat → Nat} {pad : VX5} {now : VX3} {fi : VX3} {se : VX3} {li : VX4} {so : VX4} {lo : VX1} {re : VX2} {ru : VX0} {ot : VX0} {le : Nat → Int32} {res : Int32} (X : k_X D E cX6_ruleFault RX6 4 2 42) (hret : ∀ (pc : Nat) (lv : List (Nat × Value)), decode cX6_ruleFault pc = .ok (.ireturn, 1) → k_G D l E (pic_X6 D a pad now fi se li so lo re ru ot le) lv pc [.int res]) : ∀ (n0 : Nat) (v1 : Int32) (v2 : Int32) , fX6_ruleFault_l4 N pad n0 v1 v2 = some res → k_G D l E (pic_X6 D a pad now fi se li so lo re ru ot le) [(0, .ref (a 0)), (1, .int v1), (2, .int v2)] 4 [] := by
  intro n0
  induction n0 with
  | zero => intro v1 v2 hf; cases hf
  | succ n0 ih => intro v1 v2 hf; exact wX6_ruleFault_b4 (N := N) (k4 := fX6_ruleFault_l4 N pad n0) X  ih hret hf
set_option maxRecDepth 100000 in
set_option maxHeartbeats 4000000 in
theorem wX6_ruleFault {D : va_G} {l : Launch} {E : k_E} {N : Nat} {a : Nat → Nat} {pad : VX5} {now : VX3} {fi : VX3} {se : VX3} {li : VX4} {so : VX4} {lo : VX1} {re : VX2} {ru : VX0} {ot : VX0} {le : Nat → Int32} {res : Int32} (X : k_X D E cX6_ruleFault RX6 4 2 42) (hret : ∀ (pc : Nat) (lv : List (Nat × Value)), decode cX6_ruleFault pc = .ok (.ireturn, 1) → k_G D l E (pic_X6 D a pad now fi se li so lo re ru ot le) lv pc [.int res]) (hf : fX6_ruleFault N pad = some res) : k_G D l E (pic_X6 D a pad now fi se li so lo re ru ot le) [(0, .ref (a 0))] 0 [] := by
  unfold fX6_ruleFault at hf
  refine g_iconst X dX6_ruleFault_0 (v := 1) (by decide) (n := 1) rfl ?_
  refine g_istore_n X dX6_ruleFault_1 rfl (by decide) (lv2 := [(1, .int 1), (0, .ref (a 0))]) rfl (n := 2) rfl ?_
  refine g_iconst X dX6_ruleFault_2 (v := 0) (by decide) (n := 3) rfl ?_
  refine g_istore_n X dX6_ruleFault_3 rfl (by decide) (lv2 := [(2, .int 0), (1, .int 1), (0, .ref (a 0))]) rfl (n := 4) rfl ?_
  refine g_sub [2, 1, 0] (lv' := [(0, .ref (a 0)), (1, .int 1), (2, .int 0)]) rfl ?_
  exact wX6_ruleFault_l4 X  hret _ _ _ hf
set_option maxRecDepth 100000 in
set_option maxHeartbeats 4000000 in
theorem mX6_ruleFault {l : Launch} {D : va_G} {N : Nat} {a : Nat → Nat} {pad : VX5} {now : VX3} {fi : VX3} {se : VX3} {li : VX4} {so : VX4} {lo : VX1} {re : VX2} {ru : VX0} {ot : VX0} {le : Nat → Int32} {res : Int32} (hf : fX6_ruleFault N pad = some res) : k_Met l yX6_ruleFault cX6_ruleFault 4 (some .int) 2 42 D [.ref (a 0)] (pic_X6 D a pad now fi se li so lo re ru ot le) (some (.int res)) (pic_X6 D a pad now fi se li so lo re ru ot le) :=
  k_of_i (by decide) (Nat.le_of_ble_eq_true rfl) (fun E X hret => wX6_ruleFault X hret hf)
set_option maxRecDepth 100000 in
set_option maxHeartbeats 4000000 in
theorem wX6_fault {D : va_G} {l : Launch} {E : k_E} {N : Nat} {a : Nat → Nat} {p1 : Int32} {pad : VX5} {now : VX3} {fi : VX3} {se : VX3} {li : VX4} {so : VX4} {lo : VX1} {re : VX2} {ru : VX0} {ot : VX0} {le : Nat → Int32} {res : Int32} (X : k_X D E cX6_fault RX6 2 3 65) (hret : ∀ (pc : Nat) (lv : List (Nat × Value)), decode cX6_fault pc = .ok (.ireturn, 1) → k_G D l E (pic_X6 D a pad now fi se li so lo re ru ot le) lv pc [.int res]) (hf : fX6_fault N pad p1 = some res) : k_G D l E (pic_X6 D a pad now fi se li so lo re ru ot le) [(0, .ref (a 0)), (1, .int p1)] 0 [] := by
  unfold fX6_fault at hf
  refine g_iload_n X dX6_fault_0 1 rfl rfl (n := 1) rfl ?_
  refine g_iconst X dX6_fault_1 (v := 0) (by decide) (n := 2) rfl ?_
  refine g_iconst X dX6_fault_2 (v := 1) (by decide) (n := 3) rfl ?_
  obtain ⟨x_1, g_2, hf⟩ := k_b1s hf
  refine g_callS0 X (mX6_isWithin (D := D) (l := l)  g_2) lk_X6_isWithin mlX6_69 dX6_fault_3 (n := 6) rfl (st := []) rfl (st2 := [.int (bI x_1)]) rfl rfl ⟨Nat.le_of_ble_eq_true rfl, Nat.le_of_ble_eq_true rfl⟩ (Nat.le_of_ble_eq_true rfl) ?_
  refine g_if_neB X dX6_fault_6 (t := 12) (by decide) (n := 9) rfl (fun c_3 => ?_) (fun c_3 => ?_)
  · replace hf := k_pos c_3 hf
    refine g_iload_n X dX6_fault_12 1 rfl rfl (n := 13) rfl ?_
    refine g_if_ne X dX6_fault_13 (t := 23) (by decide) (n := 16) rfl (fun c_4 => ?_) (fun c_4 => ?_)
    · replace hf := k_neg c_4 hf
      refine g_aload_n X dX6_fault_23 0 rfl rfl (n := 24) rfl ?_
      obtain ⟨x_5, g_6, hf⟩ := k_b1s hf
      refine g_callV0 X (mX6_ruleFault (D := D) (l := l) (a := a) (now := now) (fi := fi) (se := se) (li := li) (so := so) (lo := lo) (re := re) (ru := ru) (ot := ot) (le := le) g_6) lk_X6_ruleFault mlX6_88 dX6_fault_24 (n := 27) rfl (st := []) rfl (st2 := [.int x_5]) rfl rfl rfl rfl (ws2 := pic_X6 D a pad now fi se li so lo re ru ot le) (ad_X6 _ _ _ _ _ _ _ _ _ _ _ _ _ _ _ _ _ _ _ _ _ _ _ _) rfl ⟨Nat.le_of_ble_eq_true rfl, Nat.le_of_ble_eq_true rfl⟩ (Nat.le_of_ble_eq_true rfl) ?_
      obtain rfl := Option.some.inj hf
      exact hret _ _ dX6_fault_27
    · replace hf := k_pos c_4 hf
      refine g_aload_n X dX6_fault_16 0 rfl rfl (n := 17) rfl ?_
      obtain ⟨x_7, g_8, hf⟩ := k_b1s hf
      refine g_callV0 X (mX6_namesFault (D := D) (l := l) (a := a) (now := now) (fi := fi) (se := se) (li := li) (so := so) (lo := lo) (re := re) (ru := ru) (ot := ot) (le := le) g_8) lk_X6_namesFault mlX6_84 dX6_fault_17 (n := 20) rfl (st := []) rfl (st2 := [.int x_7]) rfl rfl rfl rfl (ws2 := pic_X6 D a pad now fi se li so lo re ru ot le) (ad_X6 _ _ _ _ _ _ _ _ _ _ _ _ _ _ _ _ _ _ _ _ _ _ _ _) rfl ⟨Nat.le_of_ble_eq_true rfl, Nat.le_of_ble_eq_true rfl⟩ (Nat.le_of_ble_eq_true rfl) ?_
      refine g_goto X dX6_fault_20 (n := 27) (by decide) ?_
      obtain rfl := Option.some.inj hf
      exact hret _ _ dX6_fault_27
  · replace hf := k_neg c_3 hf
    refine g_bipush X dX6_fault_9 (v := (-2)) (by decide) (n := 11) rfl ?_
    obtain rfl := Option.some.inj hf
    exact hret _ _ dX6_fault_11
set_option maxRecDepth 100000 in
set_option maxHeartbeats 4000000 in
theorem mX6_fault {l : Launch} {D : va_G} {N : Nat} {a : Nat → Nat} {p1 : Int32} {pad : VX5} {now : VX3} {fi : VX3} {se : VX3} {li : VX4} {so : VX4} {lo : VX1} {re : VX2} {ru : VX0} {ot : VX0} {le : Nat → Int32} {res : Int32} (hf : fX6_fault N pad p1 = some res) : k_Met l yX6_fault cX6_fault 2 (some .int) 3 65 D [.ref (a 0), .int p1] (pic_X6 D a pad now fi se li so lo re ru ot le) (some (.int res)) (pic_X6 D a pad now fi se li so lo re ru ot le) :=
  k_of_i (by decide) (Nat.le_of_ble_eq_true rfl) (fun E X hret => wX6_fault X hret hf)
set_option maxRecDepth 100000 in
set_option maxHeartbeats 4000000 in
theorem wX6_isSheet {D : va_G} {l : Launch} {E : k_E} {p0 : Int32} {res : Bool} (X : k_X D E cX6_isSheet RX6 1 1 22) (hret : ∀ (pc : Nat) (lv : List (Nat × Value)), decode cX6_isSheet pc = .ok (.ireturn, 1) → k_G D l E ([]) lv pc [.int (bI res)]) (hf : fX6_isSheet p0 = some res) : k_G D l E ([]) [(0, .int p0)] 0 [] := by
  unfold fX6_isSheet at hf
  refine g_iload_n X dX6_isSheet_0 0 rfl rfl (n := 1) rfl ?_
  refine g_iconst X dX6_isSheet_1 (v := 0) (by decide) (n := 2) rfl ?_
  refine g_iconst X dX6_isSheet_2 (v := 5) (by decide) (n := 3) rfl ?_
  obtain ⟨x_1, g_2, hf⟩ := k_b1s hf
  refine g_callS0 X (mX6_isWithin (D := D) (l := l)  g_2) lk_X6_isWithin mlX6_69 dX6_isSheet_3 (n := 6) rfl (st := []) rfl (st2 := [.int (bI x_1)]) rfl rfl ⟨Nat.le_of_ble_eq_true rfl, Nat.le_of_ble_eq_true rfl⟩ (Nat.le_of_ble_eq_true rfl) ?_
  obtain rfl := Option.some.inj hf
  exact hret _ _ dX6_isSheet_6
set_option maxRecDepth 100000 in
set_option maxHeartbeats 4000000 in
theorem mX6_isSheet {l : Launch} {D : va_G} {p0 : Int32} {res : Bool} (hf : fX6_isSheet p0 = some res) : k_Met l yX6_isSheet cX6_isSheet 1 (some .boolean) 1 22 D [.int p0] ([]) (some (.int (bI res))) ([]) :=
  k_of_z (by decide) (Nat.le_of_ble_eq_true rfl) (fun E X hret => wX6_isSheet X hret hf)
set_option maxRecDepth 100000 in
set_option maxHeartbeats 4000000 in
theorem wX6_names {D : va_G} {l : Launch} {E : k_E} {N : Nat} {a : Nat → Nat} {p1 : Int32} {pad : VX5} {now : VX3} {fi : VX3} {se : VX3} {li : VX4} {so : VX4} {lo : VX1} {re : VX2} {ru : VX0} {ot : VX0} {le : Nat → Int32} {res : Int32 × VX5 × VX3} (X : k_X D E cX6_names RX6 2 3 65) (hret : ∀ (pc : Nat) (lv : List (Nat × Value)), decode cX6_names pc = .ok (.ireturn, 1) → k_G D l E (pic_X6 D a res.2.1 res.2.2 fi se li so lo re ru ot le) lv pc [.int res.1]) (hf : fX6_names N p1 pad now = some res) : k_G D l E (pic_X6 D a pad now fi se li so lo re ru ot le) [(0, .ref (a 0)), (1, .int p1)] 0 [] := by
  unfold fX6_names at hf
  refine g_iload_n X dX6_names_0 1 rfl rfl (n := 1) rfl ?_
  obtain ⟨x_1, g_2, hf⟩ := k_b1s hf
  refine g_callS0 X (mX6_isSheet (D := D) (l := l)  g_2) lk_X6_isSheet mlX6_91 dX6_names_1 (n := 4) rfl (st := []) rfl (st2 := [.int (bI x_1)]) rfl rfl ⟨Nat.le_of_ble_eq_true rfl, Nat.le_of_ble_eq_true rfl⟩ (Nat.le_of_ble_eq_true rfl) ?_
  refine g_if_neB X dX6_names_4 (t := 9) (by decide) (n := 7) rfl (fun c_3 => ?_) (fun c_3 => ?_)
  · replace hf := k_pos c_3 hf
    refine g_aload_n X dX6_names_9 0 rfl rfl (n := 10) rfl ?_
    obtain ⟨x_4, g_5, hf⟩ := k_b1s hf
    refine g_callV0 X (mX6_namesFault (D := D) (l := l) (a := a) (now := now) (fi := fi) (se := se) (li := li) (so := so) (lo := lo) (re := re) (ru := ru) (ot := ot) (le := le) g_5) lk_X6_namesFault mlX6_84 dX6_names_10 (n := 13) rfl (st := []) rfl (st2 := [.int x_4]) rfl rfl rfl rfl (ws2 := pic_X6 D a pad now fi se li so lo re ru ot le) (ad_X6 _ _ _ _ _ _ _ _ _ _ _ _ _ _ _ _ _ _ _ _ _ _ _ _) rfl ⟨Nat.le_of_ble_eq_true rfl, Nat.le_of_ble_eq_true rfl⟩ (Nat.le_of_ble_eq_true rfl) ?_
    refine g_bipush X dX6_names_13 (v := (-6)) (by decide) (n := 15) rfl ?_
    refine g_icmp_eq X dX6_names_15 (t := 21) (by decide) (n := 18) rfl (fun c_6 => ?_) (fun c_6 => ?_)
    · replace hf := k_pos c_6 hf
      refine g_aload_n X dX6_names_21 0 rfl rfl (n := 22) rfl ?_
      refine g_get X dX6_names_22 flX6_21 0 rfl (v := .ref (a 3)) rfl (n := 25) rfl ?_
      refine g_iload_n X dX6_names_25 1 rfl rfl (n := 26) rfl ?_
      refine g_aload_n X dX6_names_26 0 rfl rfl (n := 27) rfl ?_
      refine g_get X dX6_names_27 flX6_14 0 rfl (v := .ref (a 1)) rfl (n := 30) rfl ?_
      obtain ⟨now_7, g_8, hf⟩ := k_b1s hf
      refine g_callV X (mX3_fillSheet (D := D) (l := l) (a0 := (a 3)) (a1 := (a 4)) (a2 := (a 5)) (a3 := (a 6)) (a4 := (a 7)) (a5 := (a 8)) (b0 := (a 1)) (b1 := (a 2)) (n := 16) g_8) lk_X3_fillSheet mlX6_94 dX6_names_30 (n := 33) rfl (st := []) rfl (st2 := []) rfl [3, 4, 5, 6, 7, 8, 1, 2] rfl rfl rfl rfl rfl rfl (ws2 := pic_X6 D a pad now_7 fi se li so lo re ru ot le) rfl rfl rfl ⟨Nat.le_of_ble_eq_true rfl, Nat.le_of_ble_eq_true rfl⟩ (Nat.le_of_ble_eq_true rfl) ?_
      refine g_aload_n X dX6_names_33 0 rfl rfl (n := 34) rfl ?_
      obtain ⟨x_9, pad_10, g_11, hf⟩ := k_b2s hf
      refine g_callV0 X (mX6_wipe (D := D) (l := l) (a := a) (now := now_7) (fi := fi) (se := se) (li := li) (so := so) (lo := lo) (re := re) (ru := ru) (ot := ot) (le := le) g_11) lk_X6_wipe mlX6_98 dX6_names_34 (n := 37) rfl (st := []) rfl (st2 := [.int x_9]) rfl rfl rfl rfl (ws2 := pic_X6 D a pad_10 now_7 fi se li so lo re ru ot le) (ad_X6 _ _ _ _ _ _ _ _ _ _ _ _ _ _ _ _ _ _ _ _ _ _ _ _) rfl ⟨Nat.le_of_ble_eq_true rfl, Nat.le_of_ble_eq_true rfl⟩ (Nat.le_of_ble_eq_true rfl) ?_
      obtain rfl := Option.some.inj hf
      exact hret _ _ dX6_names_37
    · replace hf := k_neg c_6 hf
      refine g_bipush X dX6_names_18 (v := (-5)) (by decide) (n := 20) rfl ?_
      obtain rfl := Option.some.inj hf
      exact hret _ _ dX6_names_20
  · replace hf := k_neg c_3 hf
    refine g_iconst X dX6_names_7 (v := (-1)) (by decide) (n := 8) rfl ?_
    obtain rfl := Option.some.inj hf
    exact hret _ _ dX6_names_8
set_option maxRecDepth 100000 in
set_option maxHeartbeats 4000000 in
theorem mX6_names {l : Launch} {D : va_G} {N : Nat} {a : Nat → Nat} {p1 : Int32} {pad : VX5} {now : VX3} {fi : VX3} {se : VX3} {li : VX4} {so : VX4} {lo : VX1} {re : VX2} {ru : VX0} {ot : VX0} {le : Nat → Int32} {res : Int32 × VX5 × VX3} (hf : fX6_names N p1 pad now = some res) : k_Met l yX6_names cX6_names 2 (some .int) 3 65 D [.ref (a 0), .int p1] (pic_X6 D a pad now fi se li so lo re ru ot le) (some (.int res.1)) (pic_X6 D a res.2.1 res.2.2 fi se li so lo re ru ot le) :=
  k_of_i (by decide) (Nat.le_of_ble_eq_true rfl) (fun E X hret => wX6_names X hret hf)
set_option maxRecDepth 100000 in
set_option maxHeartbeats 4000000 in
theorem wX6_set_b29 {D : va_G} {l : Launch} {E : k_E} {a : Nat → Nat} {v1 : Int32} {v2 : Int32} {v3 : Int32} {s0 : Int32} {s2 : Int32} {pad : VX5} {now : VX3} {fi : VX3} {se : VX3} {li : VX4} {so : VX4} {lo : VX1} {re : VX2} {ru : VX0} {ot : VX0} {le : Nat → Int32} {res : Int32 × VX3} (X : k_X D E cX6_set RX6 4 2 44) (hret : ∀ (pc : Nat) (lv : List (Nat × Value)), decode cX6_set pc = .ok (.ireturn, 1) → k_G D l E (pic_X6 D a pad res.2 fi se li so lo re ru ot le) lv pc [.int res.1]) (hf : fX6_set_b29 v1 v2 v3 s0 s2 now = some res) : k_G D l E (pic_X6 D a pad now fi se li so lo re ru ot le) [(0, .ref (a 0)), (1, .int v1), (2, .int v2), (3, .int v3)] 29 [.int s2, .int 0, .int s0] := by
  unfold fX6_set_b29 at hf
  obtain ⟨x_1, g_2, hf⟩ := k_b1s hf
  refine g_callS0 X (mX6_isWithin (D := D) (l := l)  g_2) lk_X6_isWithin mlX6_69 dX6_set_29 (n := 32) rfl (st := []) rfl (st2 := [.int (bI x_1)]) rfl rfl ⟨Nat.le_of_ble_eq_true rfl, Nat.le_of_ble_eq_true rfl⟩ (Nat.le_of_ble_eq_true rfl) ?_
  refine g_if_neB X dX6_set_32 (t := 38) (by decide) (n := 35) rfl (fun c_3 => ?_) (fun c_3 => ?_)
  · replace hf := k_pos c_3 hf
    refine g_iload_n X dX6_set_38 2 rfl rfl (n := 39) rfl ?_
    refine g_if_ne X dX6_set_39 (t := 54) (by decide) (n := 42) rfl (fun c_4 => ?_) (fun c_4 => ?_)
    · replace hf := k_neg c_4 hf
      refine g_aload_n X dX6_set_54 0 rfl rfl (n := 55) rfl ?_
      refine g_get X dX6_set_55 flX6_21 0 rfl (v := .ref (a 3)) rfl (n := 58) rfl ?_
      refine g_iload_n X dX6_set_58 1 rfl rfl (n := 59) rfl ?_
      refine g_iload_n X dX6_set_59 3 rfl rfl (n := 60) rfl ?_
      obtain ⟨x_5, now_6, g_7, hf⟩ := k_b2s hf
      refine g_callV X (mX3_strikeOut (D := D) (l := l) (a0 := (a 3)) (a1 := (a 4)) (a2 := (a 5)) (a3 := (a 6)) (a4 := (a 7)) (a5 := (a 8)) g_7) lk_X3_strikeOut mlX6_105 dX6_set_60 (n := 63) rfl (st := []) rfl (st2 := [.int x_5]) rfl [3, 4, 5, 6, 7, 8] rfl rfl rfl rfl rfl rfl (ws2 := pic_X6 D a pad now_6 fi se li so lo re ru ot le) rfl rfl rfl ⟨Nat.le_of_ble_eq_true rfl, Nat.le_of_ble_eq_true rfl⟩ (Nat.le_of_ble_eq_true rfl) ?_
      obtain rfl := Option.some.inj hf
      exact hret _ _ dX6_set_63
    · replace hf := k_pos c_4 hf
      refine g_aload_n X dX6_set_42 0 rfl rfl (n := 43) rfl ?_
      refine g_get X dX6_set_43 flX6_21 0 rfl (v := .ref (a 3)) rfl (n := 46) rfl ?_
      refine g_iload_n X dX6_set_46 1 rfl rfl (n := 47) rfl ?_
      refine g_iload_n X dX6_set_47 3 rfl rfl (n := 48) rfl ?_
      obtain ⟨x_8, now_9, g_10, hf⟩ := k_b2s hf
      refine g_callV X (mX3_giveTo (D := D) (l := l) (a0 := (a 3)) (a1 := (a 4)) (a2 := (a 5)) (a3 := (a 6)) (a4 := (a 7)) (a5 := (a 8)) g_10) lk_X3_giveTo mlX6_101 dX6_set_48 (n := 51) rfl (st := []) rfl (st2 := [.int x_8]) rfl [3, 4, 5, 6, 7, 8] rfl rfl rfl rfl rfl rfl (ws2 := pic_X6 D a pad now_9 fi se li so lo re ru ot le) rfl rfl rfl ⟨Nat.le_of_ble_eq_true rfl, Nat.le_of_ble_eq_true rfl⟩ (Nat.le_of_ble_eq_true rfl) ?_
      refine g_goto X dX6_set_51 (n := 63) (by decide) ?_
      obtain rfl := Option.some.inj hf
      exact hret _ _ dX6_set_63
  · replace hf := k_neg c_3 hf
    refine g_bipush X dX6_set_35 (v := (-2)) (by decide) (n := 37) rfl ?_
    obtain rfl := Option.some.inj hf
    exact hret _ _ dX6_set_37
set_option maxRecDepth 100000 in
set_option maxHeartbeats 4000000 in
theorem wX6_set {D : va_G} {l : Launch} {E : k_E} {a : Nat → Nat} {p1 : Int32} {p2 : Int32} {p3 : Int32} {pad : VX5} {now : VX3} {fi : VX3} {se : VX3} {li : VX4} {so : VX4} {lo : VX1} {re : VX2} {ru : VX0} {ot : VX0} {le : Nat → Int32} {res : Int32 × VX3} (X : k_X D E cX6_set RX6 4 2 44) (hret : ∀ (pc : Nat) (lv : List (Nat × Value)), decode cX6_set pc = .ok (.ireturn, 1) → k_G D l E (pic_X6 D a pad res.2 fi se li so lo re ru ot le) lv pc [.int res.1]) (hf : fX6_set p1 p2 p3 now = some res) : k_G D l E (pic_X6 D a pad now fi se li so lo re ru ot le) [(0, .ref (a 0)), (1, .int p1), (2, .int p2), (3, .int p3)] 0 [] := by
  unfold fX6_set at hf
  refine g_iload_n X dX6_set_0 1 rfl rfl (n := 1) rfl ?_
  obtain ⟨x_1, g_2, hf⟩ := k_b1s hf
  refine g_callS0 X (mX6_isSheet (D := D) (l := l)  g_2) lk_X6_isSheet mlX6_91 dX6_set_1 (n := 4) rfl (st := []) rfl (st2 := [.int (bI x_1)]) rfl rfl ⟨Nat.le_of_ble_eq_true rfl, Nat.le_of_ble_eq_true rfl⟩ (Nat.le_of_ble_eq_true rfl) ?_
  refine g_if_neB X dX6_set_4 (t := 9) (by decide) (n := 7) rfl (fun c_3 => ?_) (fun c_3 => ?_)
  · replace hf := k_pos c_3 hf
    refine g_iload_n X dX6_set_9 2 rfl rfl (n := 10) rfl ?_
    refine g_iconst X dX6_set_10 (v := 0) (by decide) (n := 11) rfl ?_
    refine g_iconst X dX6_set_11 (v := 1) (by decide) (n := 12) rfl ?_
    obtain ⟨x_4, g_5, hf⟩ := k_b1s hf
    refine g_callS0 X (mX6_isWithin (D := D) (l := l)  g_5) lk_X6_isWithin mlX6_69 dX6_set_12 (n := 15) rfl (st := []) rfl (st2 := [.int (bI x_4)]) rfl rfl ⟨Nat.le_of_ble_eq_true rfl, Nat.le_of_ble_eq_true rfl⟩ (Nat.le_of_ble_eq_true rfl) ?_
    refine g_if_eqB X dX6_set_15 (t := 35) (by decide) (n := 18) rfl (fun c_6 => ?_) (fun c_6 => ?_)
    · replace hf := k_neg c_6 hf
      refine g_bipush X dX6_set_35 (v := (-2)) (by decide) (n := 37) rfl ?_
      obtain rfl := Option.some.inj hf
      exact hret _ _ dX6_set_37
    · replace hf := k_pos c_6 hf
      refine g_iload_n X dX6_set_18 3 rfl rfl (n := 19) rfl ?_
      refine g_iconst X dX6_set_19 (v := 0) (by decide) (n := 20) rfl ?_
      refine g_iload_n X dX6_set_20 2 rfl rfl (n := 21) rfl ?_
      refine g_if_ne X dX6_set_21 (t := 28) (by decide) (n := 24) rfl (fun c_7 => ?_) (fun c_7 => ?_)
      · replace hf := k_neg c_7 hf
        refine g_iconst X dX6_set_28 (v := 1) (by decide) (n := 29) rfl ?_
        refine g_sub [0, 1, 2, 3] (lv' := [(0, .ref (a 0)), (1, .int p1), (2, .int p2), (3, .int p3)]) rfl ?_
        exact wX6_set_b29 X  hret hf
      · replace hf := k_pos c_7 hf
        refine g_iconst X dX6_set_24 (v := 4) (by decide) (n := 25) rfl ?_
        refine g_goto X dX6_set_25 (n := 29) (by decide) ?_
        refine g_sub [0, 1, 2, 3] (lv' := [(0, .ref (a 0)), (1, .int p1), (2, .int p2), (3, .int p3)]) rfl ?_
        exact wX6_set_b29 X  hret hf
  · replace hf := k_neg c_3 hf
    refine g_iconst X dX6_set_7 (v := (-1)) (by decide) (n := 8) rfl ?_
    obtain rfl := Option.some.inj hf
    exact hret _ _ dX6_set_8
set_option maxRecDepth 100000 in
set_option maxHeartbeats 4000000 in
theorem mX6_set {l : Launch} {D : va_G} {a : Nat → Nat} {p1 : Int32} {p2 : Int32} {p3 : Int32} {pad : VX5} {now : VX3} {fi : VX3} {se : VX3} {li : VX4} {so : VX4} {lo : VX1} {re : VX2} {ru : VX0} {ot : VX0} {le : Nat → Int32} {res : Int32 × VX3} (hf : fX6_set p1 p2 p3 now = some res) : k_Met l yX6_set cX6_set 4 (some .int) 2 44 D [.ref (a 0), .int p1, .int p2, .int p3] (pic_X6 D a pad now fi se li so lo re ru ot le) (some (.int res.1)) (pic_X6 D a pad res.2 fi se li so lo re ru ot le) :=
  k_of_i (by decide) (Nat.le_of_ble_eq_true rfl) (fun E X hret => wX6_set X hret hf)
set_option maxRecDepth 100000 in
set_option maxHeartbeats 4000000 in
theorem wX6_sheet {D : va_G} {l : Launch} {E : k_E} {a : Nat → Nat} {p1 : Int32} {p2 : Int32} {pad : VX5} {now : VX3} {fi : VX3} {se : VX3} {li : VX4} {so : VX4} {lo : VX1} {re : VX2} {ru : VX0} {ot : VX0} {le : Nat → Int32} {res : Int32} (X : k_X D E cX6_sheet RX6 3 2 44) (hret : ∀ (pc : Nat) (lv : List (Nat × Value)), decode cX6_sheet pc = .ok (.ireturn, 1) → k_G D l E (pic_X6 D a pad now fi se li so lo re ru ot le) lv pc [.int res]) (hf : fX6_sheet now p1 p2 = some res) : k_G D l E (pic_X6 D a pad now fi se li so lo re ru ot le) [(0, .ref (a 0)), (1, .int p1), (2, .int p2)] 0 [] := by
  unfold fX6_sheet at hf
  refine g_iload_n X dX6_sheet_0 1 rfl rfl (n := 1) rfl ?_
  obtain ⟨x_1, g_2, hf⟩ := k_b1s hf
  refine g_callS0 X (mX6_isSheet (D := D) (l := l)  g_2) lk_X6_isSheet mlX6_91 dX6_sheet_1 (n := 4) rfl (st := []) rfl (st2 := [.int (bI x_1)]) rfl rfl ⟨Nat.le_of_ble_eq_true rfl, Nat.le_of_ble_eq_true rfl⟩ (Nat.le_of_ble_eq_true rfl) ?_
  refine g_if_neB X dX6_sheet_4 (t := 9) (by decide) (n := 7) rfl (fun c_3 => ?_) (fun c_3 => ?_)
  · replace hf := k_pos c_3 hf
    refine g_iload_n X dX6_sheet_9 2 rfl rfl (n := 10) rfl ?_
    refine g_iconst X dX6_sheet_10 (v := (-1)) (by decide) (n := 11) rfl ?_
    refine g_icmp_ne X dX6_sheet_11 (t := 25) (by decide) (n := 14) rfl (fun c_4 => ?_) (fun c_4 => ?_)
    · replace hf := k_neg c_4 hf
      refine g_aload_n X dX6_sheet_25 0 rfl rfl (n := 26) rfl ?_
      refine g_get X dX6_sheet_26 flX6_21 0 rfl (v := .ref (a 3)) rfl (n := 29) rfl ?_
      refine g_iload_n X dX6_sheet_29 1 rfl rfl (n := 30) rfl ?_
      refine g_iload_n X dX6_sheet_30 2 rfl rfl (n := 31) rfl ?_
      obtain ⟨x_5, g_6, hf⟩ := k_b1s hf
      refine g_callV X (mX3_signOf (D := D) (l := l) (a0 := (a 3)) (a1 := (a 4)) (a2 := (a 5)) (a3 := (a 6)) (a4 := (a 7)) (a5 := (a 8)) g_6) lk_X3_signOf mlX6_112 dX6_sheet_31 (n := 34) rfl (st := []) rfl (st2 := [.int x_5]) rfl [3, 4, 5, 6, 7, 8] rfl rfl rfl rfl rfl rfl (ws2 := pic_X6 D a pad now fi se li so lo re ru ot le) rfl rfl rfl ⟨Nat.le_of_ble_eq_true rfl, Nat.le_of_ble_eq_true rfl⟩ (Nat.le_of_ble_eq_true rfl) ?_
      obtain rfl := Option.some.inj hf
      exact hret _ _ dX6_sheet_34
    · replace hf := k_pos c_4 hf
      refine g_aload_n X dX6_sheet_14 0 rfl rfl (n := 15) rfl ?_
      refine g_get X dX6_sheet_15 flX6_21 0 rfl (v := .ref (a 3)) rfl (n := 18) rfl ?_
      refine g_iload_n X dX6_sheet_18 1 rfl rfl (n := 19) rfl ?_
      obtain ⟨x_7, g_8, hf⟩ := k_b1s hf
      refine g_callV X (mX3_sizeOf (D := D) (l := l) (a0 := (a 3)) (a1 := (a 4)) (a2 := (a 5)) (a3 := (a 6)) (a4 := (a 7)) (a5 := (a 8)) g_8) lk_X3_sizeOf mlX6_108 dX6_sheet_19 (n := 22) rfl (st := []) rfl (st2 := [.int x_7]) rfl [3, 4, 5, 6, 7, 8] rfl rfl rfl rfl rfl rfl (ws2 := pic_X6 D a pad now fi se li so lo re ru ot le) rfl rfl rfl ⟨Nat.le_of_ble_eq_true rfl, Nat.le_of_ble_eq_true rfl⟩ (Nat.le_of_ble_eq_true rfl) ?_
      refine g_goto X dX6_sheet_22 (n := 34) (by decide) ?_
      obtain rfl := Option.some.inj hf
      exact hret _ _ dX6_sheet_34
  · replace hf := k_neg c_3 hf
    refine g_iconst X dX6_sheet_7 (v := (-1)) (by decide) (n := 8) rfl ?_
    obtain rfl := Option.some.inj hf
    exact hret _ _ dX6_sheet_8
set_option maxRecDepth 100000 in
set_option maxHeartbeats 4000000 in
theorem mX6_sheet {l : Launch} {D : va_G} {a : Nat → Nat} {p1 : Int32} {p2 : Int32} {pad : VX5} {now : VX3} {fi : VX3} {se : VX3} {li : VX4} {so : VX4} {lo : VX1} {re : VX2} {ru : VX0} {ot : VX0} {le : Nat → Int32} {res : Int32} (hf : fX6_sheet now p1 p2 = some res) : k_Met l yX6_sheet cX6_sheet 3 (some .int) 2 44 D [.ref (a 0), .int p1, .int p2] (pic_X6 D a pad now fi se li so lo re ru ot le) (some (.int res)) (pic_X6 D a pad now fi se li so lo re ru ot le) :=
  k_of_i (by decide) (Nat.le_of_ble_eq_true rfl) (fun E X hret => wX6_sheet X hret hf)
set_option maxRecDepth 100000 in
set_option maxHeartbeats 4000000 in
theorem wX6_readList {D : va_G} {l : Launch} {E : k_E} {N : Nat} {a : Nat → Nat} {pad : VX5} {now : VX3} {fi : VX3} {se : VX3} {li : VX4} {so : VX4} {lo : VX1} {re : VX2} {ru : VX0} {ot : VX0} {le : Nat → Int32} {res : VX4} (X : k_X D E cX6_readList RX6 1 3 69) (hret : ∀ (pc : Nat) (lv : List (Nat × Value)), decode cX6_readList pc = .ok (.return_, 1) → k_G D l E (pic_X6 D a pad now fi se res so lo re ru ot le) lv pc []) (hf : fX6_readList N now li = some res) : k_G D l E (pic_X6 D a pad now fi se li so lo re ru ot le) [(0, .ref (a 0))] 0 [] := by
  unfold fX6_readList at hf
  refine g_aload_n X dX6_readList_0 0 rfl rfl (n := 1) rfl ?_
  refine g_get X dX6_readList_1 flX6_34 0 rfl (v := .ref (a 21)) rfl (n := 4) rfl ?_
  refine g_aload_n X dX6_readList_4 0 rfl rfl (n := 5) rfl ?_
  refine g_get X dX6_readList_5 flX6_21 0 rfl (v := .ref (a 3)) rfl (n := 8) rfl ?_
  refine g_bipush X dX6_readList_8 (v := 63) (by decide) (n := 10) rfl ?_
  refine g_aload_n X dX6_readList_10 0 rfl rfl (n := 11) rfl ?_
  refine g_get X dX6_readList_11 flX6_21 0 rfl (v := .ref (a 3)) rfl (n := 14) rfl ?_
  refine g_getN X dX6_readList_14 flX6_297 3 rfl (v := .int now.2.2.2.2.1) rfl (n := 17) rfl ?_
  refine g_iconst X dX6_readList_17 (v := (-1)) (by decide) (n := 18) rfl ?_
  refine g_ixor X dX6_readList_18 (n := 19) rfl ?_
  refine g_iand X dX6_readList_19 (n := 20) rfl ?_
  obtain ⟨li_1, g_2, hf⟩ := k_b1s hf
  refine g_callV X (mX4_readSheets (D := D) (l := l) (a0 := (a 21)) (a1 := (a 22)) (b0 := (a 3)) (b1 := (a 4)) (b2 := (a 5)) (b3 := (a 6)) (b4 := (a 7)) (b5 := (a 8)) g_2) lk_X4_readSheets mlX6_217 dX6_readList_20 (n := 23) rfl (st := []) rfl (st2 := []) rfl [21, 22, 3, 4, 5, 6, 7, 8] rfl rfl rfl rfl rfl rfl (ws2 := pic_X6 D a pad now fi se li_1 so lo re ru ot le) rfl rfl rfl ⟨Nat.le_of_ble_eq_true rfl, Nat.le_of_ble_eq_true rfl⟩ (Nat.le_of_ble_eq_true rfl) ?_
  obtain rfl := Option.some.inj hf
  exact hret _ _ dX6_readList_23
set_option maxRecDepth 100000 in
set_option maxHeartbeats 4000000 in
theorem mX6_readList {l : Launch} {D : va_G} {N : Nat} {a : Nat → Nat} {pad : VX5} {now : VX3} {fi : VX3} {se : VX3} {li : VX4} {so : VX4} {lo : VX1} {re : VX2} {ru : VX0} {ot : VX0} {le : Nat → Int32} {res : VX4} (hf : fX6_readList N now li = some res) : k_Met l yX6_readList cX6_readList 1 none 3 69 D [.ref (a 0)] (pic_X6 D a pad now fi se li so lo re ru ot le) none (pic_X6 D a pad now fi se res so lo re ru ot le) :=
  k_of_v (by decide) (Nat.le_of_ble_eq_true rfl) (fun E X hret => wX6_readList X hret hf)
set_option maxRecDepth 100000 in
set_option maxHeartbeats 4000000 in
theorem wX6_count {D : va_G} {l : Launch} {E : k_E} {N : Nat} {a : Nat → Nat} {p1 : Int32} {pad : VX5} {now : VX3} {fi : VX3} {se : VX3} {li : VX4} {so : VX4} {lo : VX1} {re : VX2} {ru : VX0} {ot : VX0} {le : Nat → Int32} {res : Int32 × VX4} (X : k_X D E cX6_count RX6 2 4 89) (hret : ∀ (pc : Nat) (lv : List (Nat × Value)), decode cX6_count pc = .ok (.ireturn, 1) → k_G D l E (pic_X6 D a pad now fi se res.2 so lo re ru ot le) lv pc [.int res.1]) (hf : fX6_count N now p1 li = some res) : k_G D l E (pic_X6 D a pad now fi se li so lo re ru ot le) [(0, .ref (a 0)), (1, .int p1)] 0 [] := by
  unfold fX6_count at hf
  refine g_iload_n X dX6_count_0 1 rfl rfl (n := 1) rfl ?_
  refine g_iconst X dX6_count_1 (v := 0) (by decide) (n := 2) rfl ?_
  refine g_iconst X dX6_count_2 (v := 3) (by decide) (n := 3) rfl ?_
  obtain ⟨x_1, g_2, hf⟩ := k_b1s hf
  refine g_callS0 X (mX6_isWithin (D := D) (l := l)  g_2) lk_X6_isWithin mlX6_69 dX6_count_3 (n := 6) rfl (st := []) rfl (st2 := [.int (bI x_1)]) rfl rfl ⟨Nat.le_of_ble_eq_true rfl, Nat.le_of_ble_eq_true rfl⟩ (Nat.le_of_ble_eq_true rfl) ?_
  refine g_if_neB X dX6_count_6 (t := 12) (by decide) (n := 9) rfl (fun c_3 => ?_) (fun c_3 => ?_)
  · replace hf := k_pos c_3 hf
    refine g_aload_n X dX6_count_12 0 rfl rfl (n := 13) rfl ?_
    obtain ⟨li_4, g_5, hf⟩ := k_b1s hf
    refine g_callV0 X (mX6_readList (D := D) (l := l) (a := a) (pad := pad) (fi := fi) (se := se) (so := so) (lo := lo) (re := re) (ru := ru) (ot := ot) (le := le) g_5) lk_X6_readList mlX6_115 dX6_count_13 (n := 16) rfl (st := []) rfl (st2 := []) rfl rfl rfl rfl (ws2 := pic_X6 D a pad now fi se li_4 so lo re ru ot le) (ad_X6 _ _ _ _ _ _ _ _ _ _ _ _ _ _ _ _ _ _ _ _ _ _ _ _) rfl ⟨Nat.le_of_ble_eq_true rfl, Nat.le_of_ble_eq_true rfl⟩ (Nat.le_of_ble_eq_true rfl) ?_
    refine g_iload_n X dX6_count_16 1 rfl rfl (n := 17) rfl ?_
    refine g_if_ne X dX6_count_17 (t := 28) (by decide) (n := 20) rfl (fun c_6 => ?_) (fun c_6 => ?_)
    · replace hf := k_neg c_6 hf
      refine g_iload_n X dX6_count_28 1 rfl rfl (n := 29) rfl ?_
      refine g_iconst X dX6_count_29 (v := 1) (by decide) (n := 30) rfl ?_
      refine g_icmp_ne X dX6_count_30 (t := 41) (by decide) (n := 33) rfl (fun c_7 => ?_) (fun c_7 => ?_)
      · replace hf := k_neg c_7 hf
        refine g_aload_n X dX6_count_41 0 rfl rfl (n := 42) rfl ?_
        refine g_get X dX6_count_42 flX6_34 0 rfl (v := .ref (a 21)) rfl (n := 45) rfl ?_
        refine g_getN X dX6_count_45 flX6_124 21 rfl (v := .int (bI li_4.2.2.2.2.2.2)) rfl (n := 48) rfl ?_
        refine g_if_eqB X dX6_count_48 (t := 54) (by decide) (n := 51) rfl (fun c_8 => ?_) (fun c_8 => ?_)
        · replace hf := k_neg c_8 hf
          refine g_iload_n X dX6_count_54 1 rfl rfl (n := 55) rfl ?_
          refine g_iconst X dX6_count_55 (v := 2) (by decide) (n := 56) rfl ?_
          refine g_icmp_ne X dX6_count_56 (t := 69) (by decide) (n := 59) rfl (fun c_9 => ?_) (fun c_9 => ?_)
          · replace hf := k_neg c_9 hf
            refine g_aload_n X dX6_count_69 0 rfl rfl (n := 70) rfl ?_
            refine g_get X dX6_count_70 flX6_34 0 rfl (v := .ref (a 21)) rfl (n := 73) rfl ?_
            obtain ⟨x_10, g_11, hf⟩ := k_b1s hf
            refine g_callV X (mX4_good (D := D) (l := l) (a0 := (a 21)) (a1 := (a 22)) g_11) lk_X4_good mlX6_131 dX6_count_73 (n := 76) rfl (st := []) rfl (st2 := [.int x_10]) rfl [21, 22] rfl rfl rfl rfl rfl rfl (ws2 := pic_X6 D a pad now fi se li_4 so lo re ru ot le) rfl rfl rfl ⟨Nat.le_of_ble_eq_true rfl, Nat.le_of_ble_eq_true rfl⟩ (Nat.le_of_ble_eq_true rfl) ?_
            obtain rfl := Option.some.inj hf
            exact hret _ _ dX6_count_76
          · replace hf := k_pos c_9 hf
            refine g_aload_n X dX6_count_59 0 rfl rfl (n := 60) rfl ?_
            refine g_get X dX6_count_60 flX6_34 0 rfl (v := .ref (a 21)) rfl (n := 63) rfl ?_
            refine g_getN X dX6_count_63 flX6_128 21 rfl (v := .int li_4.2.2.2.2.2.1) rfl (n := 66) rfl ?_
            refine g_goto X dX6_count_66 (n := 76) (by decide) ?_
            obtain rfl := Option.some.inj hf
            exact hret _ _ dX6_count_76
        · replace hf := k_pos c_8 hf
          refine g_bipush X dX6_count_51 (v := (-3)) (by decide) (n := 53) rfl ?_
          obtain rfl := Option.some.inj hf
          exact hret _ _ dX6_count_53
      · replace hf := k_pos c_7 hf
        refine g_aload_n X dX6_count_33 0 rfl rfl (n := 34) rfl ?_
        refine g_get X dX6_count_34 flX6_34 0 rfl (v := .ref (a 21)) rfl (n := 37) rfl ?_
        refine g_getN X dX6_count_37 flX6_121 21 rfl (v := .int li_4.2.2.1) rfl (n := 40) rfl ?_
        obtain rfl := Option.some.inj hf
        exact hret _ _ dX6_count_40
    · replace hf := k_pos c_6 hf
      refine g_aload_n X dX6_count_20 0 rfl rfl (n := 21) rfl ?_
      refine g_get X dX6_count_21 flX6_34 0 rfl (v := .ref (a 21)) rfl (n := 24) rfl ?_
      refine g_getN X dX6_count_24 flX6_118 21 rfl (v := .int li_4.2.1) rfl (n := 27) rfl ?_
      obtain rfl := Option.some.inj hf
      exact hret _ _ dX6_count_27
  · replace hf := k_neg c_3 hf
    refine g_bipush X dX6_count_9 (v := (-2)) (by decide) (n := 11) rfl ?_
    obtain rfl := Option.some.inj hf
    exact hret _ _ dX6_count_11
set_option maxRecDepth 100000 in
set_option maxHeartbeats 4000000 in
theorem mX6_count {l : Launch} {D : va_G} {N : Nat} {a : Nat → Nat} {p1 : Int32} {pad : VX5} {now : VX3} {fi : VX3} {se : VX3} {li : VX4} {so : VX4} {lo : VX1} {re : VX2} {ru : VX0} {ot : VX0} {le : Nat → Int32} {res : Int32 × VX4} (hf : fX6_count N now p1 li = some res) : k_Met l yX6_count cX6_count 2 (some .int) 4 89 D [.ref (a 0), .int p1] (pic_X6 D a pad now fi se li so lo re ru ot le) (some (.int res.1)) (pic_X6 D a pad now fi se res.2 so lo re ru ot le) :=
  k_of_i (by decide) (Nat.le_of_ble_eq_true rfl) (fun E X hret => wX6_count X hret hf)
