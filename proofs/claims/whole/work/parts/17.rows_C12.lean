/-! walks: X7_set X7_sheet X7_layList X7_valid X7_good -/
set_option maxRecDepth 100000 in
set_option maxHeartbeats 4000000 in
theorem wX7_set_b57 {D : va_G} {l : Launch} {E : k_E} {a : Nat → Nat} {v1 : Int32} {v2 : Int32} {v3 : Int32} {s0 : Int32} {mp : VMp} {mg : VMg} {mc : Nat → Int64} {ml : VMl} {mq : VMq} {mh : VMh} {ms : VMs} {mr : Nat → Int32} {mi : VMi} {res : Int32 × VMg} (X : k_X D E cX7_set RX7 5 2 42) (hret : ∀ (pc : Nat) (lv : List (Nat × Value)), decode cX7_set pc = .ok (.ireturn, 1) → k_G D l E (pic_X7 D a mp res.2 mc ml mq mh ms mr mi) lv pc [.int res.1]) (hf : fX7_set_b57 v1 v2 v3 s0 mg = some res) : k_G D l E (pic_X7 D a mp mg mc ml mq mh ms mr mi) [(0, .ref (a 0)), (1, .int v1), (2, .int v2), (3, .int v3)] 57 [.int s0] := by
  unfold fX7_set_b57 at hf
  refine g_istore X dX7_set_57 (by decide) (lv2 := [(4, .int s0), (0, .ref (a 0)), (1, .int v1), (2, .int v2), (3, .int v3)]) rfl (n := 59) rfl ?_
  refine g_iload_n X dX7_set_59 3 rfl rfl (n := 60) rfl ?_
  refine g_if_ne X dX7_set_60 (t := 73) (by decide) (n := 63) rfl (fun c_1 => ?_) (fun c_1 => ?_)
  · replace hf := k_neg c_1 hf
    refine g_aload_n X dX7_set_73 1 rfl rfl (n := 74) rfl ?_
    refine g_get X dX7_set_74 flX7_16 0 rfl (v := .ref (a 3)) rfl (n := 77) rfl ?_
    refine g_iload_n X dX7_set_77 2 rfl rfl (n := 78) rfl ?_
    refine g_iload_n X dX7_set_78 4 rfl rfl (n := 79) rfl ?_
    obtain ⟨h_2, hf⟩ := k_guard hf
    refine g_iastore X dX7_set_79 3 (f := mg.2.1) rfl rfl h_2 (ws2 := pic_X7 D a mp (mg.1, upd mg.2.1 (v1).toNatClampNeg v3, mg.2.2.1, mg.2.2.2.1, mg.2.2.2.2.1, mg.2.2.2.2.2.1, mg.2.2.2.2.2.2) mc ml mq mh ms mr mi) rfl (n := 80) rfl ?_
    refine g_iload X dX7_set_80 0 rfl (n := 82) rfl ?_
    obtain rfl := Option.some.inj hf
    exact hret _ _ dX7_set_82
  · replace hf := k_pos c_1 hf
    refine g_aload_n X dX7_set_63 1 rfl rfl (n := 64) rfl ?_
    refine g_get X dX7_set_64 flX7_13 0 rfl (v := .ref (a 2)) rfl (n := 67) rfl ?_
    refine g_iload_n X dX7_set_67 2 rfl rfl (n := 68) rfl ?_
    refine g_iload_n X dX7_set_68 4 rfl rfl (n := 69) rfl ?_
    obtain ⟨h_3, hf⟩ := k_guard hf
    refine g_iastore X dX7_set_69 2 (f := mg.1) rfl rfl h_3 (ws2 := pic_X7 D a mp (upd mg.1 (v1).toNatClampNeg v3, mg.2.1, mg.2.2.1, mg.2.2.2.1, mg.2.2.2.2.1, mg.2.2.2.2.2.1, mg.2.2.2.2.2.2) mc ml mq mh ms mr mi) rfl (n := 70) rfl ?_
    refine g_goto X dX7_set_70 (n := 80) (by decide) ?_
    refine g_iload X dX7_set_80 0 rfl (n := 82) rfl ?_
    obtain rfl := Option.some.inj hf
    exact hret _ _ dX7_set_82
set_option maxRecDepth 100000 in
set_option maxHeartbeats 4000000 in
theorem wX7_set_b29 {D : va_G} {l : Launch} {E : k_E} {a : Nat → Nat} {v1 : Int32} {v2 : Int32} {v3 : Int32} {s0 : Int32} {s2 : Int32} {mp : VMp} {mg : VMg} {mc : Nat → Int64} {ml : VMl} {mq : VMq} {mh : VMh} {ms : VMs} {mr : Nat → Int32} {mi : VMi} {res : Int32 × VMg} (X : k_X D E cX7_set RX7 5 2 42) (hret : ∀ (pc : Nat) (lv : List (Nat × Value)), decode cX7_set pc = .ok (.ireturn, 1) → k_G D l E (pic_X7 D a mp res.2 mc ml mq mh ms mr mi) lv pc [.int res.1]) (hf : fX7_set_b29 v1 v2 v3 s0 s2 mg = some res) : k_G D l E (pic_X7 D a mp mg mc ml mq mh ms mr mi) [(0, .ref (a 0)), (1, .int v1), (2, .int v2), (3, .int v3)] 29 [.int s2, .int 0, .int s0] := by
  unfold fX7_set_b29 at hf
  obtain ⟨x_1, g_2, hf⟩ := k_b1s hf
  refine g_callS0 X (mX7_in (D := D) (l := l)  g_2) lk_X7_in mlX7_58 dX7_set_29 (n := 32) rfl (st := []) rfl (st2 := [.int (bI x_1)]) rfl rfl ⟨Nat.le_of_ble_eq_true rfl, Nat.le_of_ble_eq_true rfl⟩ (Nat.le_of_ble_eq_true rfl) ?_
  refine g_if_neB X dX7_set_32 (t := 38) (by decide) (n := 35) rfl (fun c_3 => ?_) (fun c_3 => ?_)
  · replace hf := k_pos c_3 hf
    refine g_iload_n X dX7_set_38 2 rfl rfl (n := 39) rfl ?_
    refine g_if_ne X dX7_set_39 (t := 51) (by decide) (n := 42) rfl (fun c_4 => ?_) (fun c_4 => ?_)
    · replace hf := k_neg c_4 hf
      refine g_aload_n X dX7_set_51 0 rfl rfl (n := 52) rfl ?_
      refine g_get X dX7_set_52 flX7_16 0 rfl (v := .ref (a 3)) rfl (n := 55) rfl ?_
      refine g_iload_n X dX7_set_55 1 rfl rfl (n := 56) rfl ?_
      obtain ⟨h_5, hf⟩ := k_guard hf
      refine g_iaload X dX7_set_56 3 (f := mg.2.1) rfl rfl h_5 (n := 57) rfl ?_
      refine g_sub [0, 1, 2, 3] (lv' := [(0, .ref (a 0)), (1, .int v1), (2, .int v2), (3, .int v3)]) rfl ?_
      exact wX7_set_b57 X  hret hf
    · replace hf := k_pos c_4 hf
      refine g_aload_n X dX7_set_42 0 rfl rfl (n := 43) rfl ?_
      refine g_get X dX7_set_43 flX7_13 0 rfl (v := .ref (a 2)) rfl (n := 46) rfl ?_
      refine g_iload_n X dX7_set_46 1 rfl rfl (n := 47) rfl ?_
      obtain ⟨h_6, hf⟩ := k_guard hf
      refine g_iaload X dX7_set_47 2 (f := mg.1) rfl rfl h_6 (n := 48) rfl ?_
      refine g_goto X dX7_set_48 (n := 57) (by decide) ?_
      refine g_sub [0, 1, 2, 3] (lv' := [(0, .ref (a 0)), (1, .int v1), (2, .int v2), (3, .int v3)]) rfl ?_
      exact wX7_set_b57 X  hret hf
  · replace hf := k_neg c_3 hf
    refine g_bipush X dX7_set_35 (v := (-2)) (by decide) (n := 37) rfl ?_
    obtain rfl := Option.some.inj hf
    exact hret _ _ dX7_set_37
set_option maxRecDepth 100000 in
set_option maxHeartbeats 4000000 in
theorem wX7_set {D : va_G} {l : Launch} {E : k_E} {a : Nat → Nat} {p1 : Int32} {p2 : Int32} {p3 : Int32} {mp : VMp} {mg : VMg} {mc : Nat → Int64} {ml : VMl} {mq : VMq} {mh : VMh} {ms : VMs} {mr : Nat → Int32} {mi : VMi} {res : Int32 × VMg} (X : k_X D E cX7_set RX7 5 2 42) (hret : ∀ (pc : Nat) (lv : List (Nat × Value)), decode cX7_set pc = .ok (.ireturn, 1) → k_G D l E (pic_X7 D a mp res.2 mc ml mq mh ms mr mi) lv pc [.int res.1]) (hf : fX7_set p1 p2 p3 mg = some res) : k_G D l E (pic_X7 D a mp mg mc ml mq mh ms mr mi) [(0, .ref (a 0)), (1, .int p1), (2, .int p2), (3, .int p3)] 0 [] := by
  unfold fX7_set at hf
  refine g_iload_n X dX7_set_0 1 rfl rfl (n := 1) rfl ?_
  obtain ⟨x_1, g_2, hf⟩ := k_b1s hf
  refine g_callS0 X (mX7_isSheet (D := D) (l := l)  g_2) lk_X7_isSheet mlX7_86 dX7_set_1 (n := 4) rfl (st := []) rfl (st2 := [.int (bI x_1)]) rfl rfl ⟨Nat.le_of_ble_eq_true rfl, Nat.le_of_ble_eq_true rfl⟩ (Nat.le_of_ble_eq_true rfl) ?_
  refine g_if_neB X dX7_set_4 (t := 9) (by decide) (n := 7) rfl (fun c_3 => ?_) (fun c_3 => ?_)
  · replace hf := k_pos c_3 hf
    refine g_iload_n X dX7_set_9 2 rfl rfl (n := 10) rfl ?_
    refine g_iconst X dX7_set_10 (v := 0) (by decide) (n := 11) rfl ?_
    refine g_iconst X dX7_set_11 (v := 1) (by decide) (n := 12) rfl ?_
    obtain ⟨x_4, g_5, hf⟩ := k_b1s hf
    refine g_callS0 X (mX7_in (D := D) (l := l)  g_5) lk_X7_in mlX7_58 dX7_set_12 (n := 15) rfl (st := []) rfl (st2 := [.int (bI x_4)]) rfl rfl ⟨Nat.le_of_ble_eq_true rfl, Nat.le_of_ble_eq_true rfl⟩ (Nat.le_of_ble_eq_true rfl) ?_
    refine g_if_eqB X dX7_set_15 (t := 35) (by decide) (n := 18) rfl (fun c_6 => ?_) (fun c_6 => ?_)
    · replace hf := k_neg c_6 hf
      refine g_bipush X dX7_set_35 (v := (-2)) (by decide) (n := 37) rfl ?_
      obtain rfl := Option.some.inj hf
      exact hret _ _ dX7_set_37
    · replace hf := k_pos c_6 hf
      refine g_iload_n X dX7_set_18 3 rfl rfl (n := 19) rfl ?_
      refine g_iconst X dX7_set_19 (v := 0) (by decide) (n := 20) rfl ?_
      refine g_iload_n X dX7_set_20 2 rfl rfl (n := 21) rfl ?_
      refine g_if_ne X dX7_set_21 (t := 28) (by decide) (n := 24) rfl (fun c_7 => ?_) (fun c_7 => ?_)
      · replace hf := k_neg c_7 hf
        refine g_iconst X dX7_set_28 (v := 1) (by decide) (n := 29) rfl ?_
        refine g_sub [0, 1, 2, 3] (lv' := [(0, .ref (a 0)), (1, .int p1), (2, .int p2), (3, .int p3)]) rfl ?_
        exact wX7_set_b29 X  hret hf
      · replace hf := k_pos c_7 hf
        refine g_iconst X dX7_set_24 (v := 4) (by decide) (n := 25) rfl ?_
        refine g_goto X dX7_set_25 (n := 29) (by decide) ?_
        refine g_sub [0, 1, 2, 3] (lv' := [(0, .ref (a 0)), (1, .int p1), (2, .int p2), (3, .int p3)]) rfl ?_
        exact wX7_set_b29 X  hret hf
  · replace hf := k_neg c_3 hf
    refine g_iconst X dX7_set_7 (v := (-1)) (by decide) (n := 8) rfl ?_
    obtain rfl := Option.some.inj hf
    exact hret _ _ dX7_set_8
set_option maxRecDepth 100000 in
set_option maxHeartbeats 4000000 in
theorem mX7_set {l : Launch} {D : va_G} {a : Nat → Nat} {p1 : Int32} {p2 : Int32} {p3 : Int32} {mp : VMp} {mg : VMg} {mc : Nat → Int64} {ml : VMl} {mq : VMq} {mh : VMh} {ms : VMs} {mr : Nat → Int32} {mi : VMi} {res : Int32 × VMg} (hf : fX7_set p1 p2 p3 mg = some res) : k_Met l yX7_set cX7_set 5 (some .int) 2 42 D [.ref (a 0), .int p1, .int p2, .int p3] (pic_X7 D a mp mg mc ml mq mh ms mr mi) (some (.int res.1)) (pic_X7 D a mp res.2 mc ml mq mh ms mr mi) :=
  k_of_i (by decide) (Nat.le_of_ble_eq_true rfl) (fun E X hret => wX7_set X hret hf)
set_option maxRecDepth 100000 in
set_option maxHeartbeats 4000000 in
theorem wX7_sheet {D : va_G} {l : Launch} {E : k_E} {a : Nat → Nat} {p1 : Int32} {p2 : Int32} {mp : VMp} {mg : VMg} {mc : Nat → Int64} {ml : VMl} {mq : VMq} {mh : VMh} {ms : VMs} {mr : Nat → Int32} {mi : VMi} {res : Int32} (X : k_X D E cX7_sheet RX7 3 2 42) (hret : ∀ (pc : Nat) (lv : List (Nat × Value)), decode cX7_sheet pc = .ok (.ireturn, 1) → k_G D l E (pic_X7 D a mp mg mc ml mq mh ms mr mi) lv pc [.int res]) (hf : fX7_sheet mg p1 p2 = some res) : k_G D l E (pic_X7 D a mp mg mc ml mq mh ms mr mi) [(0, .ref (a 0)), (1, .int p1), (2, .int p2)] 0 [] := by
  unfold fX7_sheet at hf
  refine g_iload_n X dX7_sheet_0 1 rfl rfl (n := 1) rfl ?_
  obtain ⟨x_1, g_2, hf⟩ := k_b1s hf
  refine g_callS0 X (mX7_isSheet (D := D) (l := l)  g_2) lk_X7_isSheet mlX7_86 dX7_sheet_1 (n := 4) rfl (st := []) rfl (st2 := [.int (bI x_1)]) rfl rfl ⟨Nat.le_of_ble_eq_true rfl, Nat.le_of_ble_eq_true rfl⟩ (Nat.le_of_ble_eq_true rfl) ?_
  refine g_if_neB X dX7_sheet_4 (t := 9) (by decide) (n := 7) rfl (fun c_3 => ?_) (fun c_3 => ?_)
  · replace hf := k_pos c_3 hf
    refine g_iload_n X dX7_sheet_9 2 rfl rfl (n := 10) rfl ?_
    refine g_iconst X dX7_sheet_10 (v := (-1)) (by decide) (n := 11) rfl ?_
    refine g_icmp_ne X dX7_sheet_11 (t := 23) (by decide) (n := 14) rfl (fun c_4 => ?_) (fun c_4 => ?_)
    · replace hf := k_neg c_4 hf
      refine g_iload_n X dX7_sheet_23 2 rfl rfl (n := 24) rfl ?_
      refine g_iconst X dX7_sheet_24 (v := 0) (by decide) (n := 25) rfl ?_
      refine g_aload_n X dX7_sheet_25 0 rfl rfl (n := 26) rfl ?_
      refine g_get X dX7_sheet_26 flX7_19 0 rfl (v := .ref (a 4)) rfl (n := 29) rfl ?_
      refine g_iload_n X dX7_sheet_29 1 rfl rfl (n := 30) rfl ?_
      obtain ⟨h_5, hf⟩ := k_guard hf
      refine g_iaload X dX7_sheet_30 4 (f := mg.2.2.1) rfl rfl h_5 (n := 31) rfl ?_
      refine g_iconst X dX7_sheet_31 (v := 1) (by decide) (n := 32) rfl ?_
      refine g_isub X dX7_sheet_32 (n := 33) rfl ?_
      obtain ⟨x_6, g_7, hf⟩ := k_b1s hf
      refine g_callS0 X (mX7_in (D := D) (l := l)  g_7) lk_X7_in mlX7_58 dX7_sheet_33 (n := 36) rfl (st := []) rfl (st2 := [.int (bI x_6)]) rfl rfl ⟨Nat.le_of_ble_eq_true rfl, Nat.le_of_ble_eq_true rfl⟩ (Nat.le_of_ble_eq_true rfl) ?_
      refine g_if_eqB X dX7_sheet_36 (t := 53) (by decide) (n := 39) rfl (fun c_8 => ?_) (fun c_8 => ?_)
      · replace hf := k_neg c_8 hf
        refine g_bipush X dX7_sheet_53 (v := (-6)) (by decide) (n := 55) rfl ?_
        obtain rfl := Option.some.inj hf
        exact hret _ _ dX7_sheet_55
      · replace hf := k_pos c_8 hf
        refine g_aload_n X dX7_sheet_39 0 rfl rfl (n := 40) rfl ?_
        refine g_get X dX7_sheet_40 flX7_22 0 rfl (v := .ref (a 5)) rfl (n := 43) rfl ?_
        refine g_bipush X dX7_sheet_43 (v := 10) (by decide) (n := 45) rfl ?_
        refine g_iload_n X dX7_sheet_45 1 rfl rfl (n := 46) rfl ?_
        refine g_imul X dX7_sheet_46 (n := 47) rfl ?_
        refine g_iload_n X dX7_sheet_47 2 rfl rfl (n := 48) rfl ?_
        refine g_iadd X dX7_sheet_48 (n := 49) rfl ?_
        obtain ⟨h_9, hf⟩ := k_guard hf
        refine g_iaload X dX7_sheet_49 5 (f := mg.2.2.2.1) rfl rfl h_9 (n := 50) rfl ?_
        refine g_goto X dX7_sheet_50 (n := 55) (by decide) ?_
        obtain rfl := Option.some.inj hf
        exact hret _ _ dX7_sheet_55
    · replace hf := k_pos c_4 hf
      refine g_aload_n X dX7_sheet_14 0 rfl rfl (n := 15) rfl ?_
      refine g_get X dX7_sheet_15 flX7_19 0 rfl (v := .ref (a 4)) rfl (n := 18) rfl ?_
      refine g_iload_n X dX7_sheet_18 1 rfl rfl (n := 19) rfl ?_
      obtain ⟨h_10, hf⟩ := k_guard hf
      refine g_iaload X dX7_sheet_19 4 (f := mg.2.2.1) rfl rfl h_10 (n := 20) rfl ?_
      refine g_goto X dX7_sheet_20 (n := 55) (by decide) ?_
      obtain rfl := Option.some.inj hf
      exact hret _ _ dX7_sheet_55
  · replace hf := k_neg c_3 hf
    refine g_iconst X dX7_sheet_7 (v := (-1)) (by decide) (n := 8) rfl ?_
    obtain rfl := Option.some.inj hf
    exact hret _ _ dX7_sheet_8
set_option maxRecDepth 100000 in
set_option maxHeartbeats 4000000 in
theorem mX7_sheet {l : Launch} {D : va_G} {a : Nat → Nat} {p1 : Int32} {p2 : Int32} {mp : VMp} {mg : VMg} {mc : Nat → Int64} {ml : VMl} {mq : VMq} {mh : VMh} {ms : VMs} {mr : Nat → Int32} {mi : VMi} {res : Int32} (hf : fX7_sheet mg p1 p2 = some res) : k_Met l yX7_sheet cX7_sheet 3 (some .int) 2 42 D [.ref (a 0), .int p1, .int p2] (pic_X7 D a mp mg mc ml mq mh ms mr mi) (some (.int res)) (pic_X7 D a mp mg mc ml mq mh ms mr mi) :=
  k_of_i (by decide) (Nat.le_of_ble_eq_true rfl) (fun E X hret => wX7_sheet X hret hf)
set_option maxRecDepth 100000 in
set_option maxHeartbeats 4000000 in
theorem wX7_layList_b259 {D : va_G} {l : Launch} {E : k_E} {N : Nat} {a : Nat → Nat} {k182 : Int32 → VMl → Option (VMl)} {v2 : Int32} {s1 : Bool} {mp : VMp} {mg : VMg} {mc : Nat → Int64} {ml : VMl} {mq : VMq} {mh : VMh} {ms : VMs} {mr : Nat → Int32} {mi : VMi} {res : VMl} (X : k_X D E cX7_layList RX7 5 2 42) (hk182 : ∀ (v2 : Int32) (ml : VMl), k182 v2 ml = some res → k_G D l E (pic_X7 D a mp mg mc ml mq mh ms mr mi) [(0, .ref (a 0)), (2, .int v2)] 182 []) (hret : ∀ (pc : Nat) (lv : List (Nat × Value)), decode cX7_layList pc = .ok (.return_, 1) → k_G D l E (pic_X7 D a mp mg mc res mq mh ms mr mi) lv pc []) (hf : fX7_layList_b259 N mg k182 v2 s1 ml = some res) : k_G D l E (pic_X7 D a mp mg mc ml mq mh ms mr mi) [(0, .ref (a 0)), (2, .int v2)] 259 [.int (bI s1), .ref (a 0)] := by
  unfold fX7_layList_b259 at hf
  refine g_put X dX7_layList_259 flX7_104 0 rfl (bI_n _) (bI_fit _) (Nat.le_of_ble_eq_true rfl) (ws2 := pic_X7 D a mp mg mc (ml.1, ml.2.1, ml.2.2.1, ml.2.2.2.1, ml.2.2.2.2.1, ml.2.2.2.2.2.1, s1) mq mh ms mr mi) rfl (n := 262) rfl ?_
  refine g_iinc X dX7_layList_262 1 rfl (v := v2 + 1) rfl (by decide) (lv2 := [(2, .int (v2 + 1)), (0, .ref (a 0))]) rfl (n := 265) rfl ?_
  refine g_goto X dX7_layList_265 (n := 182) (by decide) ?_
  refine g_sub [1, 0] (lv' := [(0, .ref (a 0)), (2, .int (v2 + 1))]) rfl ?_
  exact hk182 _ _ hf
set_option maxRecDepth 100000 in
set_option maxHeartbeats 4000000 in
theorem wX7_layList_b254 {D : va_G} {l : Launch} {E : k_E} {N : Nat} {a : Nat → Nat} {k182 : Int32 → VMl → Option (VMl)} {v2 : Int32} {mp : VMp} {mg : VMg} {mc : Nat → Int64} {ml : VMl} {mq : VMq} {mh : VMh} {ms : VMs} {mr : Nat → Int32} {mi : VMi} {res : VMl} (X : k_X D E cX7_layList RX7 5 2 42) (hk182 : ∀ (v2 : Int32) (ml : VMl), k182 v2 ml = some res → k_G D l E (pic_X7 D a mp mg mc ml mq mh ms mr mi) [(0, .ref (a 0)), (2, .int v2)] 182 []) (hret : ∀ (pc : Nat) (lv : List (Nat × Value)), decode cX7_layList pc = .ok (.return_, 1) → k_G D l E (pic_X7 D a mp mg mc res mq mh ms mr mi) lv pc []) (hf : fX7_layList_b254 N mg k182 v2 ml = some res) : k_G D l E (pic_X7 D a mp mg mc ml mq mh ms mr mi) [(0, .ref (a 0)), (2, .int v2)] 254 [.ref (a 0)] := by
  unfold fX7_layList_b254 at hf
  refine g_iconst X dX7_layList_254 (v := 1) (by decide) (n := 255) rfl ?_
  refine g_goto X dX7_layList_255 (n := 259) (by decide) ?_
  refine g_sub [0, 1] (lv' := [(0, .ref (a 0)), (2, .int v2)]) rfl ?_
  exact wX7_layList_b259 X hk182 hret hf
set_option maxRecDepth 100000 in
set_option maxHeartbeats 4000000 in
theorem wX7_layList_b232 {D : va_G} {l : Launch} {E : k_E} {N : Nat} {a : Nat → Nat} {k182 : Int32 → VMl → Option (VMl)} {v2 : Int32} {s1 : Int32} {s2 : Bool} {mp : VMp} {mg : VMg} {mc : Nat → Int64} {ml : VMl} {mq : VMq} {mh : VMh} {ms : VMs} {mr : Nat → Int32} {mi : VMi} {res : VMl} (X : k_X D E cX7_layList RX7 5 2 42) (hk182 : ∀ (v2 : Int32) (ml : VMl), k182 v2 ml = some res → k_G D l E (pic_X7 D a mp mg mc ml mq mh ms mr mi) [(0, .ref (a 0)), (2, .int v2)] 182 []) (hret : ∀ (pc : Nat) (lv : List (Nat × Value)), decode cX7_layList pc = .ok (.return_, 1) → k_G D l E (pic_X7 D a mp mg mc res mq mh ms mr mi) lv pc []) (hf : fX7_layList_b232 N mg k182 v2 s1 s2 ml = some res) : k_G D l E (pic_X7 D a mp mg mc ml mq mh ms mr mi) [(0, .ref (a 0)), (2, .int v2)] 232 [.int (bI s2), .int s1, .ref (a 0)] := by
  unfold fX7_layList_b232 at hf
  refine g_iadd X dX7_layList_232 (n := 233) rfl ?_
  refine g_put X dX7_layList_233 flX7_101 0 rfl rfl rfl (Nat.le_of_ble_eq_true rfl) (ws2 := pic_X7 D a mp mg mc (ml.1, ml.2.1, ml.2.2.1, ml.2.2.2.1, ml.2.2.2.2.1, (s1 + (bI s2)), ml.2.2.2.2.2.2) mq mh ms mr mi) rfl (n := 236) rfl ?_
  refine g_aload_n X dX7_layList_236 0 rfl rfl (n := 237) rfl ?_
  refine g_aload_n X dX7_layList_237 0 rfl rfl (n := 238) rfl ?_
  refine g_get X dX7_layList_238 flX7_104 0 rfl (v := .int (bI ml.2.2.2.2.2.2)) rfl (n := 241) rfl ?_
  refine g_if_neB X dX7_layList_241 (t := 254) (by decide) (n := 244) rfl (fun c_1 => ?_) (fun c_1 => ?_)
  · replace hf := k_pos c_1 hf
    refine g_sub [0, 1] (lv' := [(0, .ref (a 0)), (2, .int v2)]) rfl ?_
    exact wX7_layList_b254 X hk182 hret hf
  · replace hf := k_neg c_1 hf
    refine g_aload_n X dX7_layList_244 0 rfl rfl (n := 245) rfl ?_
    refine g_get X dX7_layList_245 flX7_39 0 rfl (v := .ref (a 8)) rfl (n := 248) rfl ?_
    refine g_iload_n X dX7_layList_248 1 rfl rfl (n := 249) rfl ?_
    obtain ⟨h_2, hf⟩ := k_guard hf
    refine g_iaload X dX7_layList_249 8 (f := ml.1) rfl rfl h_2 (n := 250) rfl ?_
    refine g_iconst X dX7_layList_250 (v := 2) (by decide) (n := 251) rfl ?_
    refine g_icmp_le X dX7_layList_251 (t := 258) (by decide) (n := 254) rfl (fun c_3 => ?_) (fun c_3 => ?_)
    · replace hf := k_pos c_3 hf
      refine g_iconst X dX7_layList_258 (v := 0) (by decide) (n := 259) rfl ?_
      refine g_sub [0, 1] (lv' := [(0, .ref (a 0)), (2, .int v2)]) rfl ?_
      exact wX7_layList_b259 X hk182 hret hf
    · replace hf := k_neg c_3 hf
      refine g_sub [0, 1] (lv' := [(0, .ref (a 0)), (2, .int v2)]) rfl ?_
      exact wX7_layList_b254 X hk182 hret hf
set_option maxRecDepth 100000 in
set_option maxHeartbeats 4000000 in
theorem wX7_layList_b208 {D : va_G} {l : Launch} {E : k_E} {N : Nat} {a : Nat → Nat} {k182 : Int32 → VMl → Option (VMl)} {v2 : Int32} {s1 : Int32} {s2 : Bool} {mp : VMp} {mg : VMg} {mc : Nat → Int64} {ml : VMl} {mq : VMq} {mh : VMh} {ms : VMs} {mr : Nat → Int32} {mi : VMi} {res : VMl} (X : k_X D E cX7_layList RX7 5 2 42) (hk182 : ∀ (v2 : Int32) (ml : VMl), k182 v2 ml = some res → k_G D l E (pic_X7 D a mp mg mc ml mq mh ms mr mi) [(0, .ref (a 0)), (2, .int v2)] 182 []) (hret : ∀ (pc : Nat) (lv : List (Nat × Value)), decode cX7_layList pc = .ok (.return_, 1) → k_G D l E (pic_X7 D a mp mg mc res mq mh ms mr mi) lv pc []) (hf : fX7_layList_b208 N mg k182 v2 s1 s2 ml = some res) : k_G D l E (pic_X7 D a mp mg mc ml mq mh ms mr mi) [(0, .ref (a 0)), (2, .int v2)] 208 [.int (bI s2), .int s1, .ref (a 0)] := by
  unfold fX7_layList_b208 at hf
  refine g_iadd X dX7_layList_208 (n := 209) rfl ?_
  refine g_put X dX7_layList_209 flX7_98 0 rfl rfl rfl (Nat.le_of_ble_eq_true rfl) (ws2 := pic_X7 D a mp mg mc (ml.1, ml.2.1, ml.2.2.1, ml.2.2.2.1, (s1 + (bI s2)), ml.2.2.2.2.2.1, ml.2.2.2.2.2.2) mq mh ms mr mi) rfl (n := 212) rfl ?_
  refine g_aload_n X dX7_layList_212 0 rfl rfl (n := 213) rfl ?_
  refine g_dup X dX7_layList_213 rfl (n := 214) rfl ?_
  refine g_get X dX7_layList_214 flX7_101 0 rfl (v := .int ml.2.2.2.2.2.1) rfl (n := 217) rfl ?_
  refine g_aload_n X dX7_layList_217 0 rfl rfl (n := 218) rfl ?_
  refine g_get X dX7_layList_218 flX7_39 0 rfl (v := .ref (a 8)) rfl (n := 221) rfl ?_
  refine g_iload_n X dX7_layList_221 1 rfl rfl (n := 222) rfl ?_
  obtain ⟨h_1, hf⟩ := k_guard hf
  refine g_iaload X dX7_layList_222 8 (f := ml.1) rfl rfl h_1 (n := 223) rfl ?_
  refine g_iconst X dX7_layList_223 (v := 2) (by decide) (n := 224) rfl ?_
  refine g_icmp_ne X dX7_layList_224 (t := 231) (by decide) (n := 227) rfl (fun c_2 => ?_) (fun c_2 => ?_)
  · replace hf := k_neg c_2 hf
    refine g_iconst X dX7_layList_231 (v := 0) (by decide) (n := 232) rfl ?_
    refine g_sub [0, 1] (lv' := [(0, .ref (a 0)), (2, .int v2)]) rfl ?_
    exact wX7_layList_b232 X hk182 hret hf
  · replace hf := k_pos c_2 hf
    refine g_iconst X dX7_layList_227 (v := 1) (by decide) (n := 228) rfl ?_
    refine g_goto X dX7_layList_228 (n := 232) (by decide) ?_
    refine g_sub [0, 1] (lv' := [(0, .ref (a 0)), (2, .int v2)]) rfl ?_
    exact wX7_layList_b232 X hk182 hret hf
set_option maxRecDepth 100000 in
set_option maxHeartbeats 4000000 in
theorem wX7_layList_b182 {D : va_G} {l : Launch} {E : k_E} {N : Nat} {a : Nat → Nat} {k182 : Int32 → VMl → Option (VMl)} {v2 : Int32} {mp : VMp} {mg : VMg} {mc : Nat → Int64} {ml : VMl} {mq : VMq} {mh : VMh} {ms : VMs} {mr : Nat → Int32} {mi : VMi} {res : VMl} (X : k_X D E cX7_layList RX7 5 2 42) (hk182 : ∀ (v2 : Int32) (ml : VMl), k182 v2 ml = some res → k_G D l E (pic_X7 D a mp mg mc ml mq mh ms mr mi) [(0, .ref (a 0)), (2, .int v2)] 182 []) (hret : ∀ (pc : Nat) (lv : List (Nat × Value)), decode cX7_layList pc = .ok (.return_, 1) → k_G D l E (pic_X7 D a mp mg mc res mq mh ms mr mi) lv pc []) (hf : fX7_layList_b182 N mg k182 v2 ml = some res) : k_G D l E (pic_X7 D a mp mg mc ml mq mh ms mr mi) [(0, .ref (a 0)), (2, .int v2)] 182 [] := by
  unfold fX7_layList_b182 at hf
  refine g_iload_n X dX7_layList_182 1 rfl rfl (n := 183) rfl ?_
  refine g_bipush X dX7_layList_183 (v := 26) (by decide) (n := 185) rfl ?_
  refine g_icmp_ge X dX7_layList_185 (t := 268) (by decide) (n := 188) rfl (fun c_1 => ?_) (fun c_1 => ?_)
  · replace hf := k_pos c_1 hf
    obtain rfl := Option.some.inj hf
    exact hret _ _ dX7_layList_268
  · replace hf := k_neg c_1 hf
    refine g_aload_n X dX7_layList_188 0 rfl rfl (n := 189) rfl ?_
    refine g_dup X dX7_layList_189 rfl (n := 190) rfl ?_
    refine g_get X dX7_layList_190 flX7_98 0 rfl (v := .int ml.2.2.2.2.1) rfl (n := 193) rfl ?_
    refine g_aload_n X dX7_layList_193 0 rfl rfl (n := 194) rfl ?_
    refine g_get X dX7_layList_194 flX7_39 0 rfl (v := .ref (a 8)) rfl (n := 197) rfl ?_
    refine g_iload_n X dX7_layList_197 1 rfl rfl (n := 198) rfl ?_
    obtain ⟨h_2, hf⟩ := k_guard hf
    refine g_iaload X dX7_layList_198 8 (f := ml.1) rfl rfl h_2 (n := 199) rfl ?_
    refine g_iconst X dX7_layList_199 (v := 1) (by decide) (n := 200) rfl ?_
    refine g_icmp_ne X dX7_layList_200 (t := 207) (by decide) (n := 203) rfl (fun c_3 => ?_) (fun c_3 => ?_)
    · replace hf := k_neg c_3 hf
      refine g_iconst X dX7_layList_207 (v := 0) (by decide) (n := 208) rfl ?_
      refine g_sub [0, 1] (lv' := [(0, .ref (a 0)), (2, .int v2)]) rfl ?_
      exact wX7_layList_b208 X hk182 hret hf
    · replace hf := k_pos c_3 hf
      refine g_iconst X dX7_layList_203 (v := 1) (by decide) (n := 204) rfl ?_
      refine g_goto X dX7_layList_204 (n := 208) (by decide) ?_
      refine g_sub [0, 1] (lv' := [(0, .ref (a 0)), (2, .int v2)]) rfl ?_
      exact wX7_layList_b208 X hk182 hret hf
set_option maxRecDepth 100000 in
set_option maxHeartbeats 4000000 in
theorem wX7_layList_l182 {D : va_G} {l : Launch} {E : k_E} {N : Nat} {a : Nat → Nat} {mp : VMp} {mg : VMg} {mc : Nat → Int64} {mq : VMq} {mh : VMh} {ms : VMs} {mr : Nat → Int32} {mi : VMi} {res : VMl} (X : k_X D E cX7_layList RX7 5 2 42) (hret : ∀ (pc : Nat) (lv : List (Nat × Value)), decode cX7_layList pc = .ok (.return_, 1) → k_G D l E (pic_X7 D a mp mg mc res mq mh ms mr mi) lv pc []) : ∀ (n0 : Nat) (v2 : Int32) (ml : VMl), fX7_layList_l182 N mg n0 v2 ml = some res → k_G D l E (pic_X7 D a mp mg mc ml mq mh ms mr mi) [(0, .ref (a 0)), (2, .int v2)] 182 [] := by
  intro n0
  induction n0 with
  | zero => intro v2 ml hf; cases hf
  | succ n0 ih => intro v2 ml hf; exact wX7_layList_b182 (N := N) (k182 := fX7_layList_l182 N mg n0) X  ih hret hf
set_option maxRecDepth 100000 in
set_option maxHeartbeats 4000000 in
theorem wX7_layList_b174 {D : va_G} {l : Launch} {E : k_E} {N : Nat} {a : Nat → Nat} {k53 : Int32 → Int32 → VMl → Option (VMl)} {v1 : Int32} {v2 : Int32} {mp : VMp} {mg : VMg} {mc : Nat → Int64} {ml : VMl} {mq : VMq} {mh : VMh} {ms : VMs} {mr : Nat → Int32} {mi : VMi} {res : VMl} (X : k_X D E cX7_layList RX7 5 2 42) (hk53 : ∀ (v1 : Int32) (v2 : Int32) (ml : VMl), k53 v1 v2 ml = some res → k_G D l E (pic_X7 D a mp mg mc ml mq mh ms mr mi) [(0, .ref (a 0)), (1, .int v1), (2, .int v2)] 53 []) (hret : ∀ (pc : Nat) (lv : List (Nat × Value)), decode cX7_layList pc = .ok (.return_, 1) → k_G D l E (pic_X7 D a mp mg mc res mq mh ms mr mi) lv pc []) (hf : fX7_layList_b174 N mg k53 v1 v2 ml = some res) : k_G D l E (pic_X7 D a mp mg mc ml mq mh ms mr mi) [(0, .ref (a 0)), (1, .int v1), (2, .int v2)] 174 [] := by
  unfold fX7_layList_b174 at hf
  refine g_iinc X dX7_layList_174 2 rfl (v := v2 + 1) rfl (by decide) (lv2 := [(2, .int (v2 + 1)), (0, .ref (a 0)), (1, .int v1)]) rfl (n := 177) rfl ?_
  refine g_goto X dX7_layList_177 (n := 53) (by decide) ?_
  refine g_sub [1, 2, 0] (lv' := [(0, .ref (a 0)), (1, .int v1), (2, .int (v2 + 1))]) rfl ?_
  exact hk53 _ _ _ hf
set_option maxRecDepth 100000 in
set_option maxHeartbeats 4000000 in
theorem wX7_layList_b168 {D : va_G} {l : Launch} {E : k_E} {N : Nat} {a : Nat → Nat} {k53 : Int32 → Int32 → VMl → Option (VMl)} {k61 : Int32 → Int32 → Int32 → VMl → Option (VMl)} {v1 : Int32} {v2 : Int32} {v3 : Int32} {mp : VMp} {mg : VMg} {mc : Nat → Int64} {ml : VMl} {mq : VMq} {mh : VMh} {ms : VMs} {mr : Nat → Int32} {mi : VMi} {res : VMl} (X : k_X D E cX7_layList RX7 5 2 42) (hk53 : ∀ (v1 : Int32) (v2 : Int32) (ml : VMl), k53 v1 v2 ml = some res → k_G D l E (pic_X7 D a mp mg mc ml mq mh ms mr mi) [(0, .ref (a 0)), (1, .int v1), (2, .int v2)] 53 []) (hk61 : ∀ (v1 : Int32) (v2 : Int32) (v3 : Int32) (ml : VMl), k61 v1 v2 v3 ml = some res → k_G D l E (pic_X7 D a mp mg mc ml mq mh ms mr mi) [(0, .ref (a 0)), (1, .int v1), (2, .int v2), (3, .int v3)] 61 []) (hret : ∀ (pc : Nat) (lv : List (Nat × Value)), decode cX7_layList pc = .ok (.return_, 1) → k_G D l E (pic_X7 D a mp mg mc res mq mh ms mr mi) lv pc []) (hf : fX7_layList_b168 N mg k53 k61 v1 v2 v3 ml = some res) : k_G D l E (pic_X7 D a mp mg mc ml mq mh ms mr mi) [(0, .ref (a 0)), (1, .int v1), (2, .int v2), (3, .int v3)] 168 [] := by
  unfold fX7_layList_b168 at hf
  refine g_iinc X dX7_layList_168 3 rfl (v := v3 + 1) rfl (by decide) (lv2 := [(3, .int (v3 + 1)), (0, .ref (a 0)), (1, .int v1), (2, .int v2)]) rfl (n := 171) rfl ?_
  refine g_goto X dX7_layList_171 (n := 61) (by decide) ?_
  refine g_sub [1, 2, 3, 0] (lv' := [(0, .ref (a 0)), (1, .int v1), (2, .int v2), (3, .int (v3 + 1))]) rfl ?_
  exact hk61 _ _ _ _ hf
set_option maxRecDepth 100000 in
set_option maxHeartbeats 4000000 in
theorem wX7_layList_b142 {D : va_G} {l : Launch} {E : k_E} {N : Nat} {a : Nat → Nat} {k53 : Int32 → Int32 → VMl → Option (VMl)} {k61 : Int32 → Int32 → Int32 → VMl → Option (VMl)} {v1 : Int32} {v2 : Int32} {v3 : Int32} {v4 : Int32} {s1 : Int32} {s2 : Bool} {mp : VMp} {mg : VMg} {mc : Nat → Int64} {ml : VMl} {mq : VMq} {mh : VMh} {ms : VMs} {mr : Nat → Int32} {mi : VMi} {res : VMl} (X : k_X D E cX7_layList RX7 5 2 42) (hk53 : ∀ (v1 : Int32) (v2 : Int32) (ml : VMl), k53 v1 v2 ml = some res → k_G D l E (pic_X7 D a mp mg mc ml mq mh ms mr mi) [(0, .ref (a 0)), (1, .int v1), (2, .int v2)] 53 []) (hk61 : ∀ (v1 : Int32) (v2 : Int32) (v3 : Int32) (ml : VMl), k61 v1 v2 v3 ml = some res → k_G D l E (pic_X7 D a mp mg mc ml mq mh ms mr mi) [(0, .ref (a 0)), (1, .int v1), (2, .int v2), (3, .int v3)] 61 []) (hret : ∀ (pc : Nat) (lv : List (Nat × Value)), decode cX7_layList pc = .ok (.return_, 1) → k_G D l E (pic_X7 D a mp mg mc res mq mh ms mr mi) lv pc []) (hf : fX7_layList_b142 N mg k53 k61 v1 v2 v3 v4 s1 s2 ml = some res) : k_G D l E (pic_X7 D a mp mg mc ml mq mh ms mr mi) [(0, .ref (a 0)), (1, .int v1), (2, .int v2), (3, .int v3), (4, .int v4)] 142 [.int (bI s2), .int s1, .ref (a 0)] := by
  unfold fX7_layList_b142 at hf
  refine g_iadd X dX7_layList_142 (n := 143) rfl ?_
  refine g_put X dX7_layList_143 flX7_95 0 rfl rfl rfl (Nat.le_of_ble_eq_true rfl) (ws2 := pic_X7 D a mp mg mc (ml.1, ml.2.1, ml.2.2.1, (s1 + (bI s2)), ml.2.2.2.2.1, ml.2.2.2.2.2.1, ml.2.2.2.2.2.2) mq mh ms mr mi) rfl (n := 146) rfl ?_
  refine g_iload X dX7_layList_146 4 rfl (n := 148) rfl ?_
  obtain ⟨x_1, g_2, hf⟩ := k_b1s hf
  refine g_callS0 X (mX7_isPerson (D := D) (l := l)  g_2) lk_X7_isPerson mlX7_73 dX7_layList_148 (n := 151) rfl (st := []) rfl (st2 := [.int (bI x_1)]) rfl rfl ⟨Nat.le_of_ble_eq_true rfl, Nat.le_of_ble_eq_true rfl⟩ (Nat.le_of_ble_eq_true rfl) ?_
  refine g_if_eqB X dX7_layList_151 (t := 168) (by decide) (n := 154) rfl (fun c_3 => ?_) (fun c_3 => ?_)
  · replace hf := k_neg c_3 hf
    refine g_sub [0, 1, 2, 3] (lv' := [(0, .ref (a 0)), (1, .int v1), (2, .int v2), (3, .int v3)]) rfl ?_
    exact wX7_layList_b168 X hk53 hk61 hret hf
  · replace hf := k_pos c_3 hf
    refine g_aload_n X dX7_layList_154 0 rfl rfl (n := 155) rfl ?_
    refine g_get X dX7_layList_155 flX7_39 0 rfl (v := .ref (a 8)) rfl (n := 158) rfl ?_
    refine g_iload X dX7_layList_158 4 rfl (n := 160) rfl ?_
    refine g_bipush X dX7_layList_160 (v := 65) (by decide) (n := 162) rfl ?_
    refine g_isub X dX7_layList_162 (n := 163) rfl ?_
    refine g_dup2 X dX7_layList_163 rfl rfl (n := 164) rfl ?_
    obtain ⟨h_4, hf⟩ := k_guard hf
    refine g_iaload X dX7_layList_164 8 (f := ml.1) rfl rfl h_4 (n := 165) rfl ?_
    refine g_iconst X dX7_layList_165 (v := 1) (by decide) (n := 166) rfl ?_
    refine g_iadd X dX7_layList_166 (n := 167) rfl ?_
    obtain ⟨h_5, hf⟩ := k_guard hf
    refine g_iastore X dX7_layList_167 8 (f := ml.1) rfl rfl h_5 (ws2 := pic_X7 D a mp mg mc (upd ml.1 ((v4 - 65)).toNatClampNeg ((ml.1 (v4 - 65).toNatClampNeg) + 1), ml.2.1, ml.2.2.1, (s1 + (bI s2)), ml.2.2.2.2.1, ml.2.2.2.2.2.1, ml.2.2.2.2.2.2) mq mh ms mr mi) rfl (n := 168) rfl ?_
    refine g_sub [0, 1, 2, 3] (lv' := [(0, .ref (a 0)), (1, .int v1), (2, .int v2), (3, .int v3)]) rfl ?_
    exact wX7_layList_b168 X hk53 hk61 hret hf
set_option maxRecDepth 100000 in
set_option maxHeartbeats 4000000 in
theorem wX7_layList_b121 {D : va_G} {l : Launch} {E : k_E} {N : Nat} {a : Nat → Nat} {k53 : Int32 → Int32 → VMl → Option (VMl)} {k61 : Int32 → Int32 → Int32 → VMl → Option (VMl)} {v1 : Int32} {v2 : Int32} {v3 : Int32} {v4 : Int32} {s1 : Int32} {s2 : Bool} {mp : VMp} {mg : VMg} {mc : Nat → Int64} {ml : VMl} {mq : VMq} {mh : VMh} {ms : VMs} {mr : Nat → Int32} {mi : VMi} {res : VMl} (X : k_X D E cX7_layList RX7 5 2 42) (hk53 : ∀ (v1 : Int32) (v2 : Int32) (ml : VMl), k53 v1 v2 ml = some res → k_G D l E (pic_X7 D a mp mg mc ml mq mh ms mr mi) [(0, .ref (a 0)), (1, .int v1), (2, .int v2)] 53 []) (hk61 : ∀ (v1 : Int32) (v2 : Int32) (v3 : Int32) (ml : VMl), k61 v1 v2 v3 ml = some res → k_G D l E (pic_X7 D a mp mg mc ml mq mh ms mr mi) [(0, .ref (a 0)), (1, .int v1), (2, .int v2), (3, .int v3)] 61 []) (hret : ∀ (pc : Nat) (lv : List (Nat × Value)), decode cX7_layList pc = .ok (.return_, 1) → k_G D l E (pic_X7 D a mp mg mc res mq mh ms mr mi) lv pc []) (hf : fX7_layList_b121 N mg k53 k61 v1 v2 v3 v4 s1 s2 ml = some res) : k_G D l E (pic_X7 D a mp mg mc ml mq mh ms mr mi) [(0, .ref (a 0)), (1, .int v1), (2, .int v2), (3, .int v3), (4, .int v4)] 121 [.int (bI s2), .int s1, .ref (a 0)] := by
  unfold fX7_layList_b121 at hf
  refine g_iadd X dX7_layList_121 (n := 122) rfl ?_
  refine g_put X dX7_layList_122 flX7_92 0 rfl rfl rfl (Nat.le_of_ble_eq_true rfl) (ws2 := pic_X7 D a mp mg mc (ml.1, ml.2.1, (s1 + (bI s2)), ml.2.2.2.1, ml.2.2.2.2.1, ml.2.2.2.2.2.1, ml.2.2.2.2.2.2) mq mh ms mr mi) rfl (n := 125) rfl ?_
  refine g_aload_n X dX7_layList_125 0 rfl rfl (n := 126) rfl ?_
  refine g_dup X dX7_layList_126 rfl (n := 127) rfl ?_
  refine g_get X dX7_layList_127 flX7_95 0 rfl (v := .int ml.2.2.2.1) rfl (n := 130) rfl ?_
  refine g_iload X dX7_layList_130 4 rfl (n := 132) rfl ?_
  refine g_bipush X dX7_layList_132 (v := 46) (by decide) (n := 134) rfl ?_
  refine g_icmp_ne X dX7_layList_134 (t := 141) (by decide) (n := 137) rfl (fun c_1 => ?_) (fun c_1 => ?_)
  · replace hf := k_neg c_1 hf
    refine g_iconst X dX7_layList_141 (v := 0) (by decide) (n := 142) rfl ?_
    refine g_sub [0, 1, 2, 3, 4] (lv' := [(0, .ref (a 0)), (1, .int v1), (2, .int v2), (3, .int v3), (4, .int v4)]) rfl ?_
    exact wX7_layList_b142 X hk53 hk61 hret hf
  · replace hf := k_pos c_1 hf
    refine g_iconst X dX7_layList_137 (v := 1) (by decide) (n := 138) rfl ?_
    refine g_goto X dX7_layList_138 (n := 142) (by decide) ?_
    refine g_sub [0, 1, 2, 3, 4] (lv' := [(0, .ref (a 0)), (1, .int v1), (2, .int v2), (3, .int v3), (4, .int v4)]) rfl ?_
    exact wX7_layList_b142 X hk53 hk61 hret hf
set_option maxRecDepth 100000 in
set_option maxHeartbeats 4000000 in
theorem wX7_layList_b61 {D : va_G} {l : Launch} {E : k_E} {N : Nat} {a : Nat → Nat} {k53 : Int32 → Int32 → VMl → Option (VMl)} {k61 : Int32 → Int32 → Int32 → VMl → Option (VMl)} {v1 : Int32} {v2 : Int32} {v3 : Int32} {mp : VMp} {mg : VMg} {mc : Nat → Int64} {ml : VMl} {mq : VMq} {mh : VMh} {ms : VMs} {mr : Nat → Int32} {mi : VMi} {res : VMl} (X : k_X D E cX7_layList RX7 5 2 42) (hk53 : ∀ (v1 : Int32) (v2 : Int32) (ml : VMl), k53 v1 v2 ml = some res → k_G D l E (pic_X7 D a mp mg mc ml mq mh ms mr mi) [(0, .ref (a 0)), (1, .int v1), (2, .int v2)] 53 []) (hk61 : ∀ (v1 : Int32) (v2 : Int32) (v3 : Int32) (ml : VMl), k61 v1 v2 v3 ml = some res → k_G D l E (pic_X7 D a mp mg mc ml mq mh ms mr mi) [(0, .ref (a 0)), (1, .int v1), (2, .int v2), (3, .int v3)] 61 []) (hret : ∀ (pc : Nat) (lv : List (Nat × Value)), decode cX7_layList pc = .ok (.return_, 1) → k_G D l E (pic_X7 D a mp mg mc res mq mh ms mr mi) lv pc []) (hf : fX7_layList_b61 N mg k53 k61 v1 v2 v3 ml = some res) : k_G D l E (pic_X7 D a mp mg mc ml mq mh ms mr mi) [(0, .ref (a 0)), (1, .int v1), (2, .int v2), (3, .int v3)] 61 [] := by
  unfold fX7_layList_b61 at hf
  refine g_iload_n X dX7_layList_61 3 rfl rfl (n := 62) rfl ?_
  refine g_aload_n X dX7_layList_62 0 rfl rfl (n := 63) rfl ?_
  refine g_get X dX7_layList_63 flX7_19 0 rfl (v := .ref (a 4)) rfl (n := 66) rfl ?_
  refine g_iload_n X dX7_layList_66 2 rfl rfl (n := 67) rfl ?_
  obtain ⟨h_1, hf⟩ := k_guard hf
  refine g_iaload X dX7_layList_67 4 (f := mg.2.2.1) rfl rfl h_1 (n := 68) rfl ?_
  refine g_icmp_ge X dX7_layList_68 (t := 174) (by decide) (n := 71) rfl (fun c_2 => ?_) (fun c_2 => ?_)
  · replace hf := k_pos c_2 hf
    refine g_sub [0, 1, 2] (lv' := [(0, .ref (a 0)), (1, .int v1), (2, .int v2)]) rfl ?_
    exact wX7_layList_b174 X hk53 hret hf
  · replace hf := k_neg c_2 hf
    refine g_iload_n X dX7_layList_71 1 rfl rfl (n := 72) rfl ?_
    refine g_iload_n X dX7_layList_72 2 rfl rfl (n := 73) rfl ?_
    refine g_ishr X dX7_layList_73 (n := 74) rfl ?_
    refine g_iconst X dX7_layList_74 (v := 1) (by decide) (n := 75) rfl ?_
    refine g_iand X dX7_layList_75 (n := 76) rfl ?_
    refine g_iconst X dX7_layList_76 (v := 1) (by decide) (n := 77) rfl ?_
    refine g_icmp_ne X dX7_layList_77 (t := 174) (by decide) (n := 80) rfl (fun c_3 => ?_) (fun c_3 => ?_)
    · replace hf := k_neg c_3 hf
      refine g_sub [0, 1, 2] (lv' := [(0, .ref (a 0)), (1, .int v1), (2, .int v2)]) rfl ?_
      exact wX7_layList_b174 X hk53 hret hf
    · replace hf := k_pos c_3 hf
      refine g_aload_n X dX7_layList_80 0 rfl rfl (n := 81) rfl ?_
      refine g_get X dX7_layList_81 flX7_22 0 rfl (v := .ref (a 5)) rfl (n := 84) rfl ?_
      refine g_bipush X dX7_layList_84 (v := 10) (by decide) (n := 86) rfl ?_
      refine g_iload_n X dX7_layList_86 2 rfl rfl (n := 87) rfl ?_
      refine g_imul X dX7_layList_87 (n := 88) rfl ?_
      refine g_iload_n X dX7_layList_88 3 rfl rfl (n := 89) rfl ?_
      refine g_iadd X dX7_layList_89 (n := 90) rfl ?_
      obtain ⟨h_4, hf⟩ := k_guard hf
      refine g_iaload X dX7_layList_90 5 (f := mg.2.2.2.1) rfl rfl h_4 (n := 91) rfl ?_
      obtain ⟨x_5, e_6, hf⟩ := k_b1s hf
      replace e_6 := Option.some.inj e_6
      refine g_eq (st' := [.int x_5]) rfl rfl (by rw [← e_6]) ?_
      refine g_istore X dX7_layList_91 (by decide) (lv2 := [(4, .int x_5), (0, .ref (a 0)), (1, .int v1), (2, .int v2), (3, .int v3)]) rfl (n := 93) rfl ?_
      refine g_aload_n X dX7_layList_93 1 rfl rfl (n := 94) rfl ?_
      refine g_dup X dX7_layList_94 rfl (n := 95) rfl ?_
      refine g_get X dX7_layList_95 flX7_89 0 rfl (v := .int ml.2.1) rfl (n := 98) rfl ?_
      refine g_iconst X dX7_layList_98 (v := 1) (by decide) (n := 99) rfl ?_
      refine g_iadd X dX7_layList_99 (n := 100) rfl ?_
      refine g_put X dX7_layList_100 flX7_89 0 rfl rfl rfl (Nat.le_of_ble_eq_true rfl) (ws2 := pic_X7 D a mp mg mc (ml.1, (ml.2.1 + 1), ml.2.2.1, ml.2.2.2.1, ml.2.2.2.2.1, ml.2.2.2.2.2.1, ml.2.2.2.2.2.2) mq mh ms mr mi) rfl (n := 103) rfl ?_
      refine g_aload_n X dX7_layList_103 1 rfl rfl (n := 104) rfl ?_
      refine g_dup X dX7_layList_104 rfl (n := 105) rfl ?_
      refine g_get X dX7_layList_105 flX7_92 0 rfl (v := .int ml.2.2.1) rfl (n := 108) rfl ?_
      refine g_iload X dX7_layList_108 0 rfl (n := 110) rfl ?_
      obtain ⟨x_7, g_8, hf⟩ := k_b1s hf
      refine g_callS0 X (mX7_isBad (D := D) (l := l)  g_8) lk_X7_isBad mlX7_69 dX7_layList_110 (n := 113) rfl (st := [.int ml.2.2.1, .ref (a 0)]) rfl (st2 := [.int (bI x_7), .int ml.2.2.1, .ref (a 0)]) rfl rfl ⟨Nat.le_of_ble_eq_true rfl, Nat.le_of_ble_eq_true rfl⟩ (Nat.le_of_ble_eq_true rfl) ?_
      refine g_if_eqB X dX7_layList_113 (t := 120) (by decide) (n := 116) rfl (fun c_9 => ?_) (fun c_9 => ?_)
      · replace hf := k_neg c_9 hf
        refine g_iconst X dX7_layList_120 (v := 0) (by decide) (n := 121) rfl ?_
        refine g_sub [1, 2, 3, 4, 0] (lv' := [(0, .ref (a 0)), (1, .int v1), (2, .int v2), (3, .int v3), (4, .int x_5)]) rfl ?_
        exact wX7_layList_b121 X hk53 hk61 hret hf
      · replace hf := k_pos c_9 hf
        refine g_iconst X dX7_layList_116 (v := 1) (by decide) (n := 117) rfl ?_
        refine g_goto X dX7_layList_117 (n := 121) (by decide) ?_
        refine g_sub [1, 2, 3, 4, 0] (lv' := [(0, .ref (a 0)), (1, .int v1), (2, .int v2), (3, .int v3), (4, .int x_5)]) rfl ?_
        exact wX7_layList_b121 X hk53 hk61 hret hf
set_option maxRecDepth 100000 in
set_option maxHeartbeats 4000000 in
theorem wX7_layList_l61 {D : va_G} {l : Launch} {E : k_E} {N : Nat} {a : Nat → Nat} {k53 : Int32 → Int32 → VMl → Option (VMl)} {mp : VMp} {mg : VMg} {mc : Nat → Int64} {mq : VMq} {mh : VMh} {ms : VMs} {mr : Nat → Int32} {mi : VMi} {res : VMl} (X : k_X D E cX7_layList RX7 5 2 42) (hk53 : ∀ (v1 : Int32) (v2 : Int32) (ml : VMl), k53 v1 v2 ml = some res → k_G D l E (pic_X7 D a mp mg mc ml mq mh ms mr mi) [(0, .ref (a 0)), (1, .int v1), (2, .int v2)] 53 []) (hret : ∀ (pc : Nat) (lv : List (Nat × Value)), decode cX7_layList pc = .ok (.return_, 1) → k_G D l E (pic_X7 D a mp mg mc res mq mh ms mr mi) lv pc []) : ∀ (n0 : Nat) (v1 : Int32) (v2 : Int32) (v3 : Int32) (ml : VMl), fX7_layList_l61 N mg k53 n0 v1 v2 v3 ml = some res → k_G D l E (pic_X7 D a mp mg mc ml mq mh ms mr mi) [(0, .ref (a 0)), (1, .int v1), (2, .int v2), (3, .int v3)] 61 [] := by
  intro n0
  induction n0 with
  | zero => intro v1 v2 v3 ml hf; cases hf
  | succ n0 ih => intro v1 v2 v3 ml hf; exact wX7_layList_b61 (N := N) (k61 := fX7_layList_l61 N mg k53 n0) X hk53 ih hret hf
set_option maxRecDepth 100000 in
set_option maxHeartbeats 4000000 in
theorem wX7_layList_b53 {D : va_G} {l : Launch} {E : k_E} {N : Nat} {a : Nat → Nat} {k53 : Int32 → Int32 → VMl → Option (VMl)} {v1 : Int32} {v2 : Int32} {mp : VMp} {mg : VMg} {mc : Nat → Int64} {ml : VMl} {mq : VMq} {mh : VMh} {ms : VMs} {mr : Nat → Int32} {mi : VMi} {res : VMl} (X : k_X D E cX7_layList RX7 5 2 42) (hk53 : ∀ (v1 : Int32) (v2 : Int32) (ml : VMl), k53 v1 v2 ml = some res → k_G D l E (pic_X7 D a mp mg mc ml mq mh ms mr mi) [(0, .ref (a 0)), (1, .int v1), (2, .int v2)] 53 []) (hret : ∀ (pc : Nat) (lv : List (Nat × Value)), decode cX7_layList pc = .ok (.return_, 1) → k_G D l E (pic_X7 D a mp mg mc res mq mh ms mr mi) lv pc []) (hf : fX7_layList_b53 N mg k53 v1 v2 ml = some res) : k_G D l E (pic_X7 D a mp mg mc ml mq mh ms mr mi) [(0, .ref (a 0)), (1, .int v1), (2, .int v2)] 53 [] := by
  unfold fX7_layList_b53 at hf
  refine g_iload_n X dX7_layList_53 2 rfl rfl (n := 54) rfl ?_
  refine g_bipush X dX7_layList_54 (v := 6) (by decide) (n := 56) rfl ?_
  refine g_icmp_ge X dX7_layList_56 (t := 180) (by decide) (n := 59) rfl (fun c_1 => ?_) (fun c_1 => ?_)
  · replace hf := k_pos c_1 hf
    refine g_iconst X dX7_layList_180 (v := 0) (by decide) (n := 181) rfl ?_
    refine g_istore_n X dX7_layList_181 rfl (by decide) (lv2 := [(2, .int 0), (0, .ref (a 0)), (1, .int v1)]) rfl (n := 182) rfl ?_
    refine g_sub [1, 0] (lv' := [(0, .ref (a 0)), (2, .int 0)]) rfl ?_
    exact wX7_layList_l182 X  hret _ _ _ hf
  · replace hf := k_neg c_1 hf
    refine g_iconst X dX7_layList_59 (v := 0) (by decide) (n := 60) rfl ?_
    refine g_istore_n X dX7_layList_60 rfl (by decide) (lv2 := [(3, .int 0), (0, .ref (a 0)), (1, .int v1), (2, .int v2)]) rfl (n := 61) rfl ?_
    refine g_sub [1, 2, 3, 0] (lv' := [(0, .ref (a 0)), (1, .int v1), (2, .int v2), (3, .int 0)]) rfl ?_
    exact wX7_layList_l61 X hk53 hret _ _ _ _ _ hf
set_option maxRecDepth 100000 in
set_option maxHeartbeats 4000000 in
theorem wX7_layList_l53 {D : va_G} {l : Launch} {E : k_E} {N : Nat} {a : Nat → Nat} {mp : VMp} {mg : VMg} {mc : Nat → Int64} {mq : VMq} {mh : VMh} {ms : VMs} {mr : Nat → Int32} {mi : VMi} {res : VMl} (X : k_X D E cX7_layList RX7 5 2 42) (hret : ∀ (pc : Nat) (lv : List (Nat × Value)), decode cX7_layList pc = .ok (.return_, 1) → k_G D l E (pic_X7 D a mp mg mc res mq mh ms mr mi) lv pc []) : ∀ (n0 : Nat) (v1 : Int32) (v2 : Int32) (ml : VMl), fX7_layList_l53 N mg n0 v1 v2 ml = some res → k_G D l E (pic_X7 D a mp mg mc ml mq mh ms mr mi) [(0, .ref (a 0)), (1, .int v1), (2, .int v2)] 53 [] := by
  intro n0
  induction n0 with
  | zero => intro v1 v2 ml hf; cases hf
  | succ n0 ih => intro v1 v2 ml hf; exact wX7_layList_b53 (N := N) (k53 := fX7_layList_l53 N mg n0) X  ih hret hf
set_option maxRecDepth 100000 in
set_option maxHeartbeats 4000000 in
theorem wX7_layList_b32 {D : va_G} {l : Launch} {E : k_E} {N : Nat} {a : Nat → Nat} {k32 : Int32 → Int32 → VMl → Option (VMl)} {v1 : Int32} {v2 : Int32} {mp : VMp} {mg : VMg} {mc : Nat → Int64} {ml : VMl} {mq : VMq} {mh : VMh} {ms : VMs} {mr : Nat → Int32} {mi : VMi} {res : VMl} (X : k_X D E cX7_layList RX7 5 2 42) (hk32 : ∀ (v1 : Int32) (v2 : Int32) (ml : VMl), k32 v1 v2 ml = some res → k_G D l E (pic_X7 D a mp mg mc ml mq mh ms mr mi) [(0, .ref (a 0)), (1, .int v1), (2, .int v2)] 32 []) (hret : ∀ (pc : Nat) (lv : List (Nat × Value)), decode cX7_layList pc = .ok (.return_, 1) → k_G D l E (pic_X7 D a mp mg mc res mq mh ms mr mi) lv pc []) (hf : fX7_layList_b32 N mg k32 v1 v2 ml = some res) : k_G D l E (pic_X7 D a mp mg mc ml mq mh ms mr mi) [(0, .ref (a 0)), (1, .int v1), (2, .int v2)] 32 [] := by
  unfold fX7_layList_b32 at hf
  refine g_iload_n X dX7_layList_32 2 rfl rfl (n := 33) rfl ?_
  refine g_bipush X dX7_layList_33 (v := 26) (by decide) (n := 35) rfl ?_
  refine g_icmp_ge X dX7_layList_35 (t := 51) (by decide) (n := 38) rfl (fun c_1 => ?_) (fun c_1 => ?_)
  · replace hf := k_pos c_1 hf
    refine g_iconst X dX7_layList_51 (v := 0) (by decide) (n := 52) rfl ?_
    refine g_istore_n X dX7_layList_52 rfl (by decide) (lv2 := [(2, .int 0), (0, .ref (a 0)), (1, .int v1)]) rfl (n := 53) rfl ?_
    refine g_sub [1, 2, 0] (lv' := [(0, .ref (a 0)), (1, .int v1), (2, .int 0)]) rfl ?_
    exact wX7_layList_l53 X  hret _ _ _ _ hf
  · replace hf := k_neg c_1 hf
    refine g_aload_n X dX7_layList_38 0 rfl rfl (n := 39) rfl ?_
    refine g_get X dX7_layList_39 flX7_39 0 rfl (v := .ref (a 8)) rfl (n := 42) rfl ?_
    refine g_iload_n X dX7_layList_42 2 rfl rfl (n := 43) rfl ?_
    refine g_iconst X dX7_layList_43 (v := 0) (by decide) (n := 44) rfl ?_
    obtain ⟨h_2, hf⟩ := k_guard hf
    refine g_iastore X dX7_layList_44 8 (f := ml.1) rfl rfl h_2 (ws2 := pic_X7 D a mp mg mc (upd ml.1 (v2).toNatClampNeg 0, ml.2.1, ml.2.2.1, ml.2.2.2.1, ml.2.2.2.2.1, ml.2.2.2.2.2.1, ml.2.2.2.2.2.2) mq mh ms mr mi) rfl (n := 45) rfl ?_
    refine g_iinc X dX7_layList_45 2 rfl (v := v2 + 1) rfl (by decide) (lv2 := [(2, .int (v2 + 1)), (0, .ref (a 0)), (1, .int v1)]) rfl (n := 48) rfl ?_
    refine g_goto X dX7_layList_48 (n := 32) (by decide) ?_
    refine g_sub [1, 2, 0] (lv' := [(0, .ref (a 0)), (1, .int v1), (2, .int (v2 + 1))]) rfl ?_
    exact hk32 _ _ _ hf
set_option maxRecDepth 100000 in
set_option maxHeartbeats 4000000 in
theorem wX7_layList_l32 {D : va_G} {l : Launch} {E : k_E} {N : Nat} {a : Nat → Nat} {mp : VMp} {mg : VMg} {mc : Nat → Int64} {mq : VMq} {mh : VMh} {ms : VMs} {mr : Nat → Int32} {mi : VMi} {res : VMl} (X : k_X D E cX7_layList RX7 5 2 42) (hret : ∀ (pc : Nat) (lv : List (Nat × Value)), decode cX7_layList pc = .ok (.return_, 1) → k_G D l E (pic_X7 D a mp mg mc res mq mh ms mr mi) lv pc []) : ∀ (n0 : Nat) (v1 : Int32) (v2 : Int32) (ml : VMl), fX7_layList_l32 N mg n0 v1 v2 ml = some res → k_G D l E (pic_X7 D a mp mg mc ml mq mh ms mr mi) [(0, .ref (a 0)), (1, .int v1), (2, .int v2)] 32 [] := by
  intro n0
  induction n0 with
  | zero => intro v1 v2 ml hf; cases hf
  | succ n0 ih => intro v1 v2 ml hf; exact wX7_layList_b32 (N := N) (k32 := fX7_layList_l32 N mg n0) X  ih hret hf
set_option maxRecDepth 100000 in
set_option maxHeartbeats 4000000 in
theorem wX7_layList {D : va_G} {l : Launch} {E : k_E} {N : Nat} {a : Nat → Nat} {p1 : Int32} {mp : VMp} {mg : VMg} {mc : Nat → Int64} {ml : VMl} {mq : VMq} {mh : VMh} {ms : VMs} {mr : Nat → Int32} {mi : VMi} {res : VMl} (X : k_X D E cX7_layList RX7 5 2 42) (hret : ∀ (pc : Nat) (lv : List (Nat × Value)), decode cX7_layList pc = .ok (.return_, 1) → k_G D l E (pic_X7 D a mp mg mc res mq mh ms mr mi) lv pc []) (hf : fX7_layList N mg p1 ml = some res) : k_G D l E (pic_X7 D a mp mg mc ml mq mh ms mr mi) [(0, .ref (a 0)), (1, .int p1)] 0 [] := by
  unfold fX7_layList at hf
  refine g_aload_n X dX7_layList_0 0 rfl rfl (n := 1) rfl ?_
  refine g_iconst X dX7_layList_1 (v := 0) (by decide) (n := 2) rfl ?_
  refine g_put X dX7_layList_2 flX7_89 0 rfl rfl rfl (Nat.le_of_ble_eq_true rfl) (ws2 := pic_X7 D a mp mg mc (ml.1, (0 : Int32), ml.2.2.1, ml.2.2.2.1, ml.2.2.2.2.1, ml.2.2.2.2.2.1, ml.2.2.2.2.2.2) mq mh ms mr mi) rfl (n := 5) rfl ?_
  refine g_aload_n X dX7_layList_5 0 rfl rfl (n := 6) rfl ?_
  refine g_iconst X dX7_layList_6 (v := 0) (by decide) (n := 7) rfl ?_
  refine g_put X dX7_layList_7 flX7_92 0 rfl rfl rfl (Nat.le_of_ble_eq_true rfl) (ws2 := pic_X7 D a mp mg mc (ml.1, (0 : Int32), (0 : Int32), ml.2.2.2.1, ml.2.2.2.2.1, ml.2.2.2.2.2.1, ml.2.2.2.2.2.2) mq mh ms mr mi) rfl (n := 10) rfl ?_
  refine g_aload_n X dX7_layList_10 0 rfl rfl (n := 11) rfl ?_
  refine g_iconst X dX7_layList_11 (v := 0) (by decide) (n := 12) rfl ?_
  refine g_put X dX7_layList_12 flX7_95 0 rfl rfl rfl (Nat.le_of_ble_eq_true rfl) (ws2 := pic_X7 D a mp mg mc (ml.1, (0 : Int32), (0 : Int32), (0 : Int32), ml.2.2.2.2.1, ml.2.2.2.2.2.1, ml.2.2.2.2.2.2) mq mh ms mr mi) rfl (n := 15) rfl ?_
  refine g_aload_n X dX7_layList_15 0 rfl rfl (n := 16) rfl ?_
  refine g_iconst X dX7_layList_16 (v := 0) (by decide) (n := 17) rfl ?_
  refine g_put X dX7_layList_17 flX7_98 0 rfl rfl rfl (Nat.le_of_ble_eq_true rfl) (ws2 := pic_X7 D a mp mg mc (ml.1, (0 : Int32), (0 : Int32), (0 : Int32), (0 : Int32), ml.2.2.2.2.2.1, ml.2.2.2.2.2.2) mq mh ms mr mi) rfl (n := 20) rfl ?_
  refine g_aload_n X dX7_layList_20 0 rfl rfl (n := 21) rfl ?_
  refine g_iconst X dX7_layList_21 (v := 0) (by decide) (n := 22) rfl ?_
  refine g_put X dX7_layList_22 flX7_101 0 rfl rfl rfl (Nat.le_of_ble_eq_true rfl) (ws2 := pic_X7 D a mp mg mc (ml.1, (0 : Int32), (0 : Int32), (0 : Int32), (0 : Int32), (0 : Int32), ml.2.2.2.2.2.2) mq mh ms mr mi) rfl (n := 25) rfl ?_
  refine g_aload_n X dX7_layList_25 0 rfl rfl (n := 26) rfl ?_
  refine g_iconst X dX7_layList_26 (v := 0) (by decide) (n := 27) rfl ?_
  refine g_put X dX7_layList_27 flX7_104 0 rfl rfl rfl (Nat.le_of_ble_eq_true rfl) (ws2 := pic_X7 D a mp mg mc (ml.1, (0 : Int32), (0 : Int32), (0 : Int32), (0 : Int32), (0 : Int32), false) mq mh ms mr mi) rfl (n := 30) rfl ?_
  refine g_iconst X dX7_layList_30 (v := 0) (by decide) (n := 31) rfl ?_
  refine g_istore_n X dX7_layList_31 rfl (by decide) (lv2 := [(2, .int 0), (0, .ref (a 0)), (1, .int p1)]) rfl (n := 32) rfl ?_
  refine g_sub [1, 2, 0] (lv' := [(0, .ref (a 0)), (1, .int p1), (2, .int 0)]) rfl ?_
  exact wX7_layList_l32 X  hret _ _ _ _ hf
set_option maxRecDepth 100000 in
set_option maxHeartbeats 4000000 in
theorem mX7_layList {l : Launch} {D : va_G} {N : Nat} {a : Nat → Nat} {p1 : Int32} {mp : VMp} {mg : VMg} {mc : Nat → Int64} {ml : VMl} {mq : VMq} {mh : VMh} {ms : VMs} {mr : Nat → Int32} {mi : VMi} {res : VMl} (hf : fX7_layList N mg p1 ml = some res) : k_Met l yX7_layList cX7_layList 5 none 2 42 D [.ref (a 0), .int p1] (pic_X7 D a mp mg mc ml mq mh ms mr mi) none (pic_X7 D a mp mg mc res mq mh ms mr mi) :=
  k_of_v (by decide) (Nat.le_of_ble_eq_true rfl) (fun E X hret => wX7_layList X hret hf)
set_option maxRecDepth 100000 in
set_option maxHeartbeats 4000000 in
theorem wX7_valid_b27 {D : va_G} {l : Launch} {E : k_E} {N : Nat} {a : Nat → Nat} {k4 : Int32 → Int32 → Option (Int32)} {v2 : Int32} {s0 : Int32} {s1 : Int32} {mp : VMp} {mg : VMg} {mc : Nat → Int64} {ml : VMl} {mq : VMq} {mh : VMh} {ms : VMs} {mr : Nat → Int32} {mi : VMi} {res : Int32} (X : k_X D E cX7_valid RX7 3 0 0) (hk4 : ∀ (v1 : Int32) (v2 : Int32) , k4 v1 v2 = some res → k_G D l E (pic_X7 D a mp mg mc ml mq mh ms mr mi) [(0, .ref (a 0)), (1, .int v1), (2, .int v2)] 4 []) (hret : ∀ (pc : Nat) (lv : List (Nat × Value)), decode cX7_valid pc = .ok (.ireturn, 1) → k_G D l E (pic_X7 D a mp mg mc ml mq mh ms mr mi) lv pc [.int res]) (hf : fX7_valid_b27 N mg k4 v2 s0 s1 = some res) : k_G D l E (pic_X7 D a mp mg mc ml mq mh ms mr mi) [(0, .ref (a 0)), (2, .int v2)] 27 [.int s1, .int s0] := by
  unfold fX7_valid_b27 at hf
  refine g_ior X dX7_valid_27 (n := 28) rfl ?_
  refine g_istore_n X dX7_valid_28 rfl (by decide) (lv2 := [(1, .int (s0 ||| s1)), (0, .ref (a 0)), (2, .int v2)]) rfl (n := 29) rfl ?_
  refine g_iinc X dX7_valid_29 2 rfl (v := v2 + 1) rfl (by decide) (lv2 := [(2, .int (v2 + 1)), (1, .int (s0 ||| s1)), (0, .ref (a 0))]) rfl (n := 32) rfl ?_
  refine g_goto X dX7_valid_32 (n := 4) (by decide) ?_
  refine g_sub [2, 1, 0] (lv' := [(0, .ref (a 0)), (1, .int (s0 ||| s1)), (2, .int (v2 + 1))]) rfl ?_
  exact hk4 _ _ hf
set_option maxRecDepth 100000 in
set_option maxHeartbeats 4000000 in
theorem wX7_valid_b4 {D : va_G} {l : Launch} {E : k_E} {N : Nat} {a : Nat → Nat} {k4 : Int32 → Int32 → Option (Int32)} {v1 : Int32} {v2 : Int32} {mp : VMp} {mg : VMg} {mc : Nat → Int64} {ml : VMl} {mq : VMq} {mh : VMh} {ms : VMs} {mr : Nat → Int32} {mi : VMi} {res : Int32} (X : k_X D E cX7_valid RX7 3 0 0) (hk4 : ∀ (v1 : Int32) (v2 : Int32) , k4 v1 v2 = some res → k_G D l E (pic_X7 D a mp mg mc ml mq mh ms mr mi) [(0, .ref (a 0)), (1, .int v1), (2, .int v2)] 4 []) (hret : ∀ (pc : Nat) (lv : List (Nat × Value)), decode cX7_valid pc = .ok (.ireturn, 1) → k_G D l E (pic_X7 D a mp mg mc ml mq mh ms mr mi) lv pc [.int res]) (hf : fX7_valid_b4 N mg k4 v1 v2 = some res) : k_G D l E (pic_X7 D a mp mg mc ml mq mh ms mr mi) [(0, .ref (a 0)), (1, .int v1), (2, .int v2)] 4 [] := by
  unfold fX7_valid_b4 at hf
  refine g_iload_n X dX7_valid_4 2 rfl rfl (n := 5) rfl ?_
  refine g_bipush X dX7_valid_5 (v := 6) (by decide) (n := 7) rfl ?_
  refine g_icmp_ge X dX7_valid_7 (t := 35) (by decide) (n := 10) rfl (fun c_1 => ?_) (fun c_1 => ?_)
  · replace hf := k_pos c_1 hf
    refine g_iload_n X dX7_valid_35 1 rfl rfl (n := 36) rfl ?_
    obtain rfl := Option.some.inj hf
    exact hret _ _ dX7_valid_36
  · replace hf := k_neg c_1 hf
    refine g_iload_n X dX7_valid_10 1 rfl rfl (n := 11) rfl ?_
    refine g_aload_n X dX7_valid_11 0 rfl rfl (n := 12) rfl ?_
    refine g_get X dX7_valid_12 flX7_16 0 rfl (v := .ref (a 3)) rfl (n := 15) rfl ?_
    refine g_iload_n X dX7_valid_15 2 rfl rfl (n := 16) rfl ?_
    obtain ⟨h_2, hf⟩ := k_guard hf
    refine g_iaload X dX7_valid_16 3 (f := mg.2.1) rfl rfl h_2 (n := 17) rfl ?_
    refine g_if_ne X dX7_valid_17 (t := 26) (by decide) (n := 20) rfl (fun c_3 => ?_) (fun c_3 => ?_)
    · replace hf := k_neg c_3 hf
      refine g_iconst X dX7_valid_26 (v := 0) (by decide) (n := 27) rfl ?_
      refine g_sub [0, 2] (lv' := [(0, .ref (a 0)), (2, .int v2)]) rfl ?_
      exact wX7_valid_b27 X hk4 hret hf
    · replace hf := k_pos c_3 hf
      refine g_iconst X dX7_valid_20 (v := 1) (by decide) (n := 21) rfl ?_
      refine g_iload_n X dX7_valid_21 2 rfl rfl (n := 22) rfl ?_
      refine g_ishl X dX7_valid_22 (n := 23) rfl ?_
      refine g_goto X dX7_valid_23 (n := 27) (by decide) ?_
      refine g_sub [0, 2] (lv' := [(0, .ref (a 0)), (2, .int v2)]) rfl ?_
      exact wX7_valid_b27 X hk4 hret hf
set_option maxRecDepth 100000 in
set_option maxHeartbeats 4000000 in
theorem wX7_valid_l4 {D : va_G} {l : Launch} {E : k_E} {N : Nat} {a : Nat → Nat} {mp : VMp} {mg : VMg} {mc : Nat → Int64} {ml : VMl} {mq : VMq} {mh : VMh} {ms : VMs} {mr : Nat → Int32} {mi : VMi} {res : Int32} (X : k_X D E cX7_valid RX7 3 0 0) (hret : ∀ (pc : Nat) (lv : List (Nat × Value)), decode cX7_valid pc = .ok (.ireturn, 1) → k_G D l E (pic_X7 D a mp mg mc ml mq mh ms mr mi) lv pc [.int res]) : ∀ (n0 : Nat) (v1 : Int32) (v2 : Int32) , fX7_valid_l4 N mg n0 v1 v2 = some res → k_G D l E (pic_X7 D a mp mg mc ml mq mh ms mr mi) [(0, .ref (a 0)), (1, .int v1), (2, .int v2)] 4 [] := by
  intro n0
  induction n0 with
  | zero => intro v1 v2 hf; cases hf
  | succ n0 ih => intro v1 v2 hf; exact wX7_valid_b4 (N := N) (k4 := fX7_valid_l4 N mg n0) X  ih hret hf
set_option maxRecDepth 100000 in
set_option maxHeartbeats 4000000 in
theorem wX7_valid {D : va_G} {l : Launch} {E : k_E} {N : Nat} {a : Nat → Nat} {mp : VMp} {mg : VMg} {mc : Nat → Int64} {ml : VMl} {mq : VMq} {mh : VMh} {ms : VMs} {mr : Nat → Int32} {mi : VMi} {res : Int32} (X : k_X D E cX7_valid RX7 3 0 0) (hret : ∀ (pc : Nat) (lv : List (Nat × Value)), decode cX7_valid pc = .ok (.ireturn, 1) → k_G D l E (pic_X7 D a mp mg mc ml mq mh ms mr mi) lv pc [.int res]) (hf : fX7_valid N mg = some res) : k_G D l E (pic_X7 D a mp mg mc ml mq mh ms mr mi) [(0, .ref (a 0))] 0 [] := by
  unfold fX7_valid at hf
  refine g_iconst X dX7_valid_0 (v := 0) (by decide) (n := 1) rfl ?_
  refine g_istore_n X dX7_valid_1 rfl (by decide) (lv2 := [(1, .int 0), (0, .ref (a 0))]) rfl (n := 2) rfl ?_
  refine g_iconst X dX7_valid_2 (v := 0) (by decide) (n := 3) rfl ?_
  refine g_istore_n X dX7_valid_3 rfl (by decide) (lv2 := [(2, .int 0), (1, .int 0), (0, .ref (a 0))]) rfl (n := 4) rfl ?_
  refine g_sub [2, 1, 0] (lv' := [(0, .ref (a 0)), (1, .int 0), (2, .int 0)]) rfl ?_
  exact wX7_valid_l4 X  hret _ _ _ hf
set_option maxRecDepth 100000 in
set_option maxHeartbeats 4000000 in
theorem mX7_valid {l : Launch} {D : va_G} {N : Nat} {a : Nat → Nat} {mp : VMp} {mg : VMg} {mc : Nat → Int64} {ml : VMl} {mq : VMq} {mh : VMh} {ms : VMs} {mr : Nat → Int32} {mi : VMi} {res : Int32} (hf : fX7_valid N mg = some res) : k_Met l yX7_valid cX7_valid 3 (some .int) 0 0 D [.ref (a 0)] (pic_X7 D a mp mg mc ml mq mh ms mr mi) (some (.int res)) (pic_X7 D a mp mg mc ml mq mh ms mr mi) :=
  k_of_i (by decide) (Nat.le_of_ble_eq_true rfl) (fun E X hret => wX7_valid X hret hf)
set_option maxRecDepth 100000 in
set_option maxHeartbeats 4000000 in
theorem wX7_good {D : va_G} {l : Launch} {E : k_E} {a : Nat → Nat} {mp : VMp} {mg : VMg} {mc : Nat → Int64} {ml : VMl} {mq : VMq} {mh : VMh} {ms : VMs} {mr : Nat → Int32} {mi : VMi} {res : Int32} (X : k_X D E cX7_good RX7 1 0 0) (hret : ∀ (pc : Nat) (lv : List (Nat × Value)), decode cX7_good pc = .ok (.ireturn, 1) → k_G D l E (pic_X7 D a mp mg mc ml mq mh ms mr mi) lv pc [.int res]) (hf : fX7_good ml = some res) : k_G D l E (pic_X7 D a mp mg mc ml mq mh ms mr mi) [(0, .ref (a 0))] 0 [] := by
  unfold fX7_good at hf
  refine g_aload_n X dX7_good_0 0 rfl rfl (n := 1) rfl ?_
  refine g_get X dX7_good_1 flX7_95 0 rfl (v := .int ml.2.2.2.1) rfl (n := 4) rfl ?_
  refine g_aload_n X dX7_good_4 0 rfl rfl (n := 5) rfl ?_
  refine g_get X dX7_good_5 flX7_98 0 rfl (v := .int ml.2.2.2.2.1) rfl (n := 8) rfl ?_
  refine g_iadd X dX7_good_8 (n := 9) rfl ?_
  refine g_aload_n X dX7_good_9 0 rfl rfl (n := 10) rfl ?_
  refine g_get X dX7_good_10 flX7_101 0 rfl (v := .int ml.2.2.2.2.2.1) rfl (n := 13) rfl ?_
  refine g_iadd X dX7_good_13 (n := 14) rfl ?_
  obtain rfl := Option.some.inj hf
  exact hret _ _ dX7_good_14
set_option maxRecDepth 100000 in
set_option maxHeartbeats 4000000 in
theorem mX7_good {l : Launch} {D : va_G} {a : Nat → Nat} {mp : VMp} {mg : VMg} {mc : Nat → Int64} {ml : VMl} {mq : VMq} {mh : VMh} {ms : VMs} {mr : Nat → Int32} {mi : VMi} {res : Int32} (hf : fX7_good ml = some res) : k_Met l yX7_good cX7_good 1 (some .int) 0 0 D [.ref (a 0)] (pic_X7 D a mp mg mc ml mq mh ms mr mi) (some (.int res)) (pic_X7 D a mp mg mc ml mq mh ms mr mi) :=
  k_of_i (by decide) (Nat.le_of_ble_eq_true rfl) (fun E X hret => wX7_good X hret hf)
