/-! walks: X7_comes X7_lotsOf X7_yesOf X7_yesNow X7_barOfLot X7_yes X7_bits -/
set_option maxRecDepth 100000 in
set_option maxHeartbeats 4000000 in
theorem wX7_comes {D : va_G} {l : Launch} {E : k_E} {N : Nat} {a : Nat → Nat} {p1 : Int32} {p2 : Int32} {p3 : Int32} {p4 : Int32} {p5 : Int32} {mp : VMp} {mg : VMg} {mc : Nat → Int64} {ml : VMl} {mq : VMq} {mh : VMh} {ms : VMs} {mr : Nat → Int32} {mi : VMi} {res : Int64 × VMq} (X : k_X D E cX7_comes RX7 6 2 70) (hret : ∀ (pc : Nat) (lv : List (Nat × Value)), decode cX7_comes pc = .ok (.lreturn, 1) → k_G D l E (pic_X7 D a mp mg mc ml res.2 mh ms mr mi) lv pc [.long res.1]) (hf : fX7_comes N mg p1 p2 p3 p4 p5 mq = some res) : k_G D l E (pic_X7 D a mp mg mc ml mq mh ms mr mi) [(0, .ref (a 0)), (1, .int p1), (2, .int p2), (3, .int p3), (4, .int p4), (5, .int p5)] 0 [] := by
  unfold fX7_comes at hf
  refine g_iload_n X dX7_comes_0 1 rfl rfl (n := 1) rfl ?_
  refine g_iconst X dX7_comes_1 (v := 0) (by decide) (n := 2) rfl ?_
  refine g_bipush X dX7_comes_2 (v := 60) (by decide) (n := 4) rfl ?_
  obtain ⟨x_1, g_2, hf⟩ := k_b1s hf
  refine g_callS0 X (mX7_in (D := D) (l := l)  g_2) lk_X7_in mlX7_58 dX7_comes_4 (n := 7) rfl (st := []) rfl (st2 := [.int (bI x_1)]) rfl rfl ⟨Nat.le_of_ble_eq_true rfl, Nat.le_of_ble_eq_true rfl⟩ (Nat.le_of_ble_eq_true rfl) ?_
  refine g_if_eqB X dX7_comes_7 (t := 49) (by decide) (n := 10) rfl (fun c_3 => ?_) (fun c_3 => ?_)
  · replace hf := k_neg c_3 hf
    refine g_ldc2 X dX7_comes_49 kcX7_132 (n := 52) rfl ?_
    obtain rfl := Option.some.inj hf
    exact hret _ _ dX7_comes_52
  · replace hf := k_pos c_3 hf
    refine g_iload_n X dX7_comes_10 2 rfl rfl (n := 11) rfl ?_
    refine g_iconst X dX7_comes_11 (v := 0) (by decide) (n := 12) rfl ?_
    refine g_bipush X dX7_comes_12 (v := 60) (by decide) (n := 14) rfl ?_
    obtain ⟨x_4, g_5, hf⟩ := k_b1s hf
    refine g_callS0 X (mX7_in (D := D) (l := l)  g_5) lk_X7_in mlX7_58 dX7_comes_14 (n := 17) rfl (st := []) rfl (st2 := [.int (bI x_4)]) rfl rfl ⟨Nat.le_of_ble_eq_true rfl, Nat.le_of_ble_eq_true rfl⟩ (Nat.le_of_ble_eq_true rfl) ?_
    refine g_if_eqB X dX7_comes_17 (t := 49) (by decide) (n := 20) rfl (fun c_6 => ?_) (fun c_6 => ?_)
    · replace hf := k_neg c_6 hf
      refine g_ldc2 X dX7_comes_49 kcX7_132 (n := 52) rfl ?_
      obtain rfl := Option.some.inj hf
      exact hret _ _ dX7_comes_52
    · replace hf := k_pos c_6 hf
      refine g_iload_n X dX7_comes_20 3 rfl rfl (n := 21) rfl ?_
      refine g_iconst X dX7_comes_21 (v := 0) (by decide) (n := 22) rfl ?_
      refine g_bipush X dX7_comes_22 (v := 60) (by decide) (n := 24) rfl ?_
      obtain ⟨x_7, g_8, hf⟩ := k_b1s hf
      refine g_callS0 X (mX7_in (D := D) (l := l)  g_8) lk_X7_in mlX7_58 dX7_comes_24 (n := 27) rfl (st := []) rfl (st2 := [.int (bI x_7)]) rfl rfl ⟨Nat.le_of_ble_eq_true rfl, Nat.le_of_ble_eq_true rfl⟩ (Nat.le_of_ble_eq_true rfl) ?_
      refine g_if_eqB X dX7_comes_27 (t := 49) (by decide) (n := 30) rfl (fun c_9 => ?_) (fun c_9 => ?_)
      · replace hf := k_neg c_9 hf
        refine g_ldc2 X dX7_comes_49 kcX7_132 (n := 52) rfl ?_
        obtain rfl := Option.some.inj hf
        exact hret _ _ dX7_comes_52
      · replace hf := k_pos c_9 hf
        refine g_iload X dX7_comes_30 4 rfl (n := 32) rfl ?_
        refine g_iconst X dX7_comes_32 (v := 0) (by decide) (n := 33) rfl ?_
        refine g_bipush X dX7_comes_33 (v := 60) (by decide) (n := 35) rfl ?_
        obtain ⟨x_10, g_11, hf⟩ := k_b1s hf
        refine g_callS0 X (mX7_in (D := D) (l := l)  g_11) lk_X7_in mlX7_58 dX7_comes_35 (n := 38) rfl (st := []) rfl (st2 := [.int (bI x_10)]) rfl rfl ⟨Nat.le_of_ble_eq_true rfl, Nat.le_of_ble_eq_true rfl⟩ (Nat.le_of_ble_eq_true rfl) ?_
        refine g_if_eqB X dX7_comes_38 (t := 49) (by decide) (n := 41) rfl (fun c_12 => ?_) (fun c_12 => ?_)
        · replace hf := k_neg c_12 hf
          refine g_ldc2 X dX7_comes_49 kcX7_132 (n := 52) rfl ?_
          obtain rfl := Option.some.inj hf
          exact hret _ _ dX7_comes_52
        · replace hf := k_pos c_12 hf
          refine g_iload X dX7_comes_41 5 rfl (n := 43) rfl ?_
          obtain ⟨x_13, g_14, hf⟩ := k_b1s hf
          refine g_callS0 X (mX7_isPart (D := D) (l := l)  g_14) lk_X7_isPart mlX7_129 dX7_comes_43 (n := 46) rfl (st := []) rfl (st2 := [.int (bI x_13)]) rfl rfl ⟨Nat.le_of_ble_eq_true rfl, Nat.le_of_ble_eq_true rfl⟩ (Nat.le_of_ble_eq_true rfl) ?_
          refine g_if_neB X dX7_comes_46 (t := 53) (by decide) (n := 49) rfl (fun c_15 => ?_) (fun c_15 => ?_)
          · replace hf := k_pos c_15 hf
            refine g_aload_n X dX7_comes_53 0 rfl rfl (n := 54) rfl ?_
            refine g_iload_n X dX7_comes_54 1 rfl rfl (n := 55) rfl ?_
            refine g_iload_n X dX7_comes_55 2 rfl rfl (n := 56) rfl ?_
            refine g_iload_n X dX7_comes_56 3 rfl rfl (n := 57) rfl ?_
            refine g_iload X dX7_comes_57 4 rfl (n := 59) rfl ?_
            obtain ⟨x_16, mq_17, g_18, hf⟩ := k_b2s hf
            refine g_callV0 X (mX7_comesTo (D := D) (l := l) (a := a) (mp := mp) (mc := mc) (ml := ml) (mh := mh) (ms := ms) (mr := mr) (mi := mi) g_18) lk_X7_comesTo mlX7_125 dX7_comes_59 (n := 62) rfl (st := []) rfl (st2 := [.int (bI x_16)]) rfl rfl rfl rfl (ws2 := pic_X7 D a mp mg mc ml mq_17 mh ms mr mi) (ad_X7 _ _ _ _ _ _ _ _ _ _ _ _ _ _ _ _ _ _ _ _) rfl ⟨Nat.le_of_ble_eq_true rfl, Nat.le_of_ble_eq_true rfl⟩ (Nat.le_of_ble_eq_true rfl) ?_
            refine g_if_neB X dX7_comes_62 (t := 71) (by decide) (n := 65) rfl (fun c_19 => ?_) (fun c_19 => ?_)
            · replace hf := k_pos c_19 hf
              refine g_iload X dX7_comes_71 5 rfl (n := 73) rfl ?_
              refine g_if_ne X dX7_comes_73 (t := 83) (by decide) (n := 76) rfl (fun c_20 => ?_) (fun c_20 => ?_)
              · replace hf := k_neg c_20 hf
                refine g_aload_n X dX7_comes_83 0 rfl rfl (n := 84) rfl ?_
                refine g_get X dX7_comes_84 flX7_122 0 rfl (v := .long mq_17.2.2.2) rfl (n := 87) rfl ?_
                obtain rfl := Option.some.inj hf
                exact hret _ _ dX7_comes_87
              · replace hf := k_pos c_20 hf
                refine g_aload_n X dX7_comes_76 0 rfl rfl (n := 77) rfl ?_
                refine g_get X dX7_comes_77 flX7_118 0 rfl (v := .long mq_17.2.2.1) rfl (n := 80) rfl ?_
                refine g_goto X dX7_comes_80 (n := 87) (by decide) ?_
                obtain rfl := Option.some.inj hf
                exact hret _ _ dX7_comes_87
            · replace hf := k_neg c_19 hf
              refine g_ldc2 X dX7_comes_65 kcX7_134 (n := 68) rfl ?_
              refine g_goto X dX7_comes_68 (n := 87) (by decide) ?_
              obtain rfl := Option.some.inj hf
              exact hret _ _ dX7_comes_87
          · replace hf := k_neg c_15 hf
            refine g_ldc2 X dX7_comes_49 kcX7_132 (n := 52) rfl ?_
            obtain rfl := Option.some.inj hf
            exact hret _ _ dX7_comes_52
set_option maxRecDepth 100000 in
set_option maxHeartbeats 4000000 in
theorem mX7_comes {l : Launch} {D : va_G} {N : Nat} {a : Nat → Nat} {p1 : Int32} {p2 : Int32} {p3 : Int32} {p4 : Int32} {p5 : Int32} {mp : VMp} {mg : VMg} {mc : Nat → Int64} {ml : VMl} {mq : VMq} {mh : VMh} {ms : VMs} {mr : Nat → Int32} {mi : VMi} {res : Int64 × VMq} (hf : fX7_comes N mg p1 p2 p3 p4 p5 mq = some res) : k_Met l yX7_comes cX7_comes 6 (some .long) 2 70 D [.ref (a 0), .int p1, .int p2, .int p3, .int p4, .int p5] (pic_X7 D a mp mg mc ml mq mh ms mr mi) (some (.long res.1)) (pic_X7 D a mp mg mc ml res.2 mh ms mr mi) :=
  k_of_l (by decide) (Nat.le_of_ble_eq_true rfl) (fun E X hret => wX7_comes X hret hf)
set_option maxRecDepth 100000 in
set_option maxHeartbeats 4000000 in
theorem wX7_lotsOf_b6 {D : va_G} {l : Launch} {E : k_E} {N : Nat} {a : Nat → Nat} {k6 : Int32 → Int32 → Int32 → Int32 → Int64 → Int32 → Option (Int64)} {v1 : Int32} {v2 : Int32} {v3 : Int32} {v4 : Int32} {v5 : Int64} {v7 : Int32} {mp : VMp} {mg : VMg} {mc : Nat → Int64} {ml : VMl} {mq : VMq} {mh : VMh} {ms : VMs} {mr : Nat → Int32} {mi : VMi} {res : Int64} (X : k_X D E cX7_lotsOf RX7 8 1 22) (hk6 : ∀ (v1 : Int32) (v2 : Int32) (v3 : Int32) (v4 : Int32) (v5 : Int64) (v7 : Int32) , k6 v1 v2 v3 v4 v5 v7 = some res → k_G D l E (pic_X7 D a mp mg mc ml mq mh ms mr mi) [(0, .ref (a 0)), (1, .int v1), (2, .int v2), (3, .int v3), (4, .int v4), (5, .long v5), (7, .int v7)] 6 []) (hret : ∀ (pc : Nat) (lv : List (Nat × Value)), decode cX7_lotsOf pc = .ok (.lreturn, 1) → k_G D l E (pic_X7 D a mp mg mc ml mq mh ms mr mi) lv pc [.long res]) (hf : fX7_lotsOf_b6 N mc k6 v1 v2 v3 v4 v5 v7 = some res) : k_G D l E (pic_X7 D a mp mg mc ml mq mh ms mr mi) [(0, .ref (a 0)), (1, .int v1), (2, .int v2), (3, .int v3), (4, .int v4), (5, .long v5), (7, .int v7)] 6 [] := by
  unfold fX7_lotsOf_b6 at hf
  refine g_iload X dX7_lotsOf_6 6 rfl (n := 8) rfl ?_
  refine g_iload_n X dX7_lotsOf_8 1 rfl rfl (n := 9) rfl ?_
  refine g_iload_n X dX7_lotsOf_9 3 rfl rfl (n := 10) rfl ?_
  refine g_isub X dX7_lotsOf_10 (n := 11) rfl ?_
  refine g_icmp_gt X dX7_lotsOf_11 (t := 72) (by decide) (n := 14) rfl (fun c_1 => ?_) (fun c_1 => ?_)
  · replace hf := k_pos c_1 hf
    refine g_lload X dX7_lotsOf_72 5 rfl (n := 74) rfl ?_
    obtain rfl := Option.some.inj hf
    exact hret _ _ dX7_lotsOf_74
  · replace hf := k_neg c_1 hf
    refine g_iconst X dX7_lotsOf_14 (v := 2) (by decide) (n := 15) rfl ?_
    refine g_iload_n X dX7_lotsOf_15 3 rfl rfl (n := 16) rfl ?_
    refine g_imul X dX7_lotsOf_16 (n := 17) rfl ?_
    refine g_iload X dX7_lotsOf_17 6 rfl (n := 19) rfl ?_
    refine g_iadd X dX7_lotsOf_19 (n := 20) rfl ?_
    refine g_iload X dX7_lotsOf_20 4 rfl (n := 22) rfl ?_
    refine g_icmp_gt X dX7_lotsOf_22 (t := 72) (by decide) (n := 25) rfl (fun c_2 => ?_) (fun c_2 => ?_)
    · replace hf := k_pos c_2 hf
      refine g_lload X dX7_lotsOf_72 5 rfl (n := 74) rfl ?_
      obtain rfl := Option.some.inj hf
      exact hret _ _ dX7_lotsOf_74
    · replace hf := k_neg c_2 hf
      refine g_lload X dX7_lotsOf_25 5 rfl (n := 27) rfl ?_
      refine g_aload_n X dX7_lotsOf_27 0 rfl rfl (n := 28) rfl ?_
      refine g_iload_n X dX7_lotsOf_28 1 rfl rfl (n := 29) rfl ?_
      refine g_iload_n X dX7_lotsOf_29 3 rfl rfl (n := 30) rfl ?_
      obtain ⟨x_3, g_4, hf⟩ := k_b1s hf
      refine g_callV0 X (mX7_ways (D := D) (l := l) (a := a) (mp := mp) (mg := mg) (ml := ml) (mq := mq) (mh := mh) (ms := ms) (mr := mr) (mi := mi) g_4) lk_X7_ways mlX7_136 dX7_lotsOf_30 (n := 33) rfl (st := [.long v5]) rfl (st2 := [.long x_3, .long v5]) rfl rfl rfl rfl (ws2 := pic_X7 D a mp mg mc ml mq mh ms mr mi) (ad_X7 _ _ _ _ _ _ _ _ _ _ _ _ _ _ _ _ _ _ _ _) rfl ⟨Nat.le_of_ble_eq_true rfl, Nat.le_of_ble_eq_true rfl⟩ (Nat.le_of_ble_eq_true rfl) ?_
      refine g_aload_n X dX7_lotsOf_33 0 rfl rfl (n := 34) rfl ?_
      refine g_iload_n X dX7_lotsOf_34 1 rfl rfl (n := 35) rfl ?_
      refine g_iload_n X dX7_lotsOf_35 3 rfl rfl (n := 36) rfl ?_
      refine g_isub X dX7_lotsOf_36 (n := 37) rfl ?_
      refine g_iload X dX7_lotsOf_37 6 rfl (n := 39) rfl ?_
      obtain ⟨x_5, g_6, hf⟩ := k_b1s hf
      refine g_callV0 X (mX7_ways (D := D) (l := l) (a := a) (mp := mp) (mg := mg) (ml := ml) (mq := mq) (mh := mh) (ms := ms) (mr := mr) (mi := mi) g_6) lk_X7_ways mlX7_136 dX7_lotsOf_39 (n := 42) rfl (st := [.long x_3, .long v5]) rfl (st2 := [.long x_5, .long x_3, .long v5]) rfl rfl rfl rfl (ws2 := pic_X7 D a mp mg mc ml mq mh ms mr mi) (ad_X7 _ _ _ _ _ _ _ _ _ _ _ _ _ _ _ _ _ _ _ _) rfl ⟨Nat.le_of_ble_eq_true rfl, Nat.le_of_ble_eq_true rfl⟩ (Nat.le_of_ble_eq_true rfl) ?_
      refine g_lmul X dX7_lotsOf_42 (n := 43) rfl ?_
      refine g_lconst X dX7_lotsOf_43 (v := 1) rfl (n := 44) rfl ?_
      refine g_iload X dX7_lotsOf_44 6 rfl (n := 46) rfl ?_
      refine g_lshl X dX7_lotsOf_46 (n := 47) rfl ?_
      refine g_lmul X dX7_lotsOf_47 (n := 48) rfl ?_
      refine g_aload_n X dX7_lotsOf_48 0 rfl rfl (n := 49) rfl ?_
      refine g_iload_n X dX7_lotsOf_49 2 rfl rfl (n := 50) rfl ?_
      refine g_iload X dX7_lotsOf_50 4 rfl (n := 52) rfl ?_
      refine g_iconst X dX7_lotsOf_52 (v := 2) (by decide) (n := 53) rfl ?_
      refine g_iload_n X dX7_lotsOf_53 3 rfl rfl (n := 54) rfl ?_
      refine g_imul X dX7_lotsOf_54 (n := 55) rfl ?_
      refine g_isub X dX7_lotsOf_55 (n := 56) rfl ?_
      refine g_iload X dX7_lotsOf_56 6 rfl (n := 58) rfl ?_
      refine g_isub X dX7_lotsOf_58 (n := 59) rfl ?_
      obtain ⟨x_7, g_8, hf⟩ := k_b1s hf
      refine g_callV0 X (mX7_ways (D := D) (l := l) (a := a) (mp := mp) (mg := mg) (ml := ml) (mq := mq) (mh := mh) (ms := ms) (mr := mr) (mi := mi) g_8) lk_X7_ways mlX7_136 dX7_lotsOf_59 (n := 62) rfl (st := [.long ((x_3 * x_5) * ((1 : Int64) <<< ((v7).toInt64 &&& 63))), .long v5]) rfl (st2 := [.long x_7, .long ((x_3 * x_5) * ((1 : Int64) <<< ((v7).toInt64 &&& 63))), .long v5]) rfl rfl rfl rfl (ws2 := pic_X7 D a mp mg mc ml mq mh ms mr mi) (ad_X7 _ _ _ _ _ _ _ _ _ _ _ _ _ _ _ _ _ _ _ _) rfl ⟨Nat.le_of_ble_eq_true rfl, Nat.le_of_ble_eq_true rfl⟩ (Nat.le_of_ble_eq_true rfl) ?_
      refine g_lmul X dX7_lotsOf_62 (n := 63) rfl ?_
      refine g_ladd X dX7_lotsOf_63 (n := 64) rfl ?_
      obtain ⟨x_9, e_10, hf⟩ := k_b1s hf
      replace e_10 := Option.some.inj e_10
      refine g_eq (st' := [.long x_9]) rfl rfl (by rw [← e_10]) ?_
      refine g_lstore X dX7_lotsOf_64 (by decide) (lv2 := [(5, .long x_9), (0, .ref (a 0)), (1, .int v1), (2, .int v2), (3, .int v3), (4, .int v4), (7, .int v7)]) rfl (n := 66) rfl ?_
      refine g_iinc X dX7_lotsOf_66 6 rfl (v := v7 + 1) rfl (by decide) (lv2 := [(7, .int (v7 + 1)), (5, .long x_9), (0, .ref (a 0)), (1, .int v1), (2, .int v2), (3, .int v3), (4, .int v4)]) rfl (n := 69) rfl ?_
      refine g_goto X dX7_lotsOf_69 (n := 6) (by decide) ?_
      refine g_sub [2, 3, 4, 5, 6, 1, 0] (lv' := [(0, .ref (a 0)), (1, .int v1), (2, .int v2), (3, .int v3), (4, .int v4), (5, .long x_9), (7, .int (v7 + 1))]) rfl ?_
      exact hk6 _ _ _ _ _ _ hf
set_option maxRecDepth 100000 in
set_option maxHeartbeats 4000000 in
theorem wX7_lotsOf_l6 {D : va_G} {l : Launch} {E : k_E} {N : Nat} {a : Nat → Nat} {mp : VMp} {mg : VMg} {mc : Nat → Int64} {ml : VMl} {mq : VMq} {mh : VMh} {ms : VMs} {mr : Nat → Int32} {mi : VMi} {res : Int64} (X : k_X D E cX7_lotsOf RX7 8 1 22) (hret : ∀ (pc : Nat) (lv : List (Nat × Value)), decode cX7_lotsOf pc = .ok (.lreturn, 1) → k_G D l E (pic_X7 D a mp mg mc ml mq mh ms mr mi) lv pc [.long res]) : ∀ (n0 : Nat) (v1 : Int32) (v2 : Int32) (v3 : Int32) (v4 : Int32) (v5 : Int64) (v7 : Int32) , fX7_lotsOf_l6 N mc n0 v1 v2 v3 v4 v5 v7 = some res → k_G D l E (pic_X7 D a mp mg mc ml mq mh ms mr mi) [(0, .ref (a 0)), (1, .int v1), (2, .int v2), (3, .int v3), (4, .int v4), (5, .long v5), (7, .int v7)] 6 [] := by
  intro n0
  induction n0 with
  | zero => intro v1 v2 v3 v4 v5 v7 hf; cases hf
  | succ n0 ih => intro v1 v2 v3 v4 v5 v7 hf; exact wX7_lotsOf_b6 (N := N) (k6 := fX7_lotsOf_l6 N mc n0) X  ih hret hf
set_option maxRecDepth 100000 in
set_option maxHeartbeats 4000000 in
theorem wX7_lotsOf {D : va_G} {l : Launch} {E : k_E} {N : Nat} {a : Nat → Nat} {p1 : Int32} {p2 : Int32} {p3 : Int32} {p4 : Int32} {mp : VMp} {mg : VMg} {mc : Nat → Int64} {ml : VMl} {mq : VMq} {mh : VMh} {ms : VMs} {mr : Nat → Int32} {mi : VMi} {res : Int64} (X : k_X D E cX7_lotsOf RX7 8 1 22) (hret : ∀ (pc : Nat) (lv : List (Nat × Value)), decode cX7_lotsOf pc = .ok (.lreturn, 1) → k_G D l E (pic_X7 D a mp mg mc ml mq mh ms mr mi) lv pc [.long res]) (hf : fX7_lotsOf N mc p1 p2 p3 p4 = some res) : k_G D l E (pic_X7 D a mp mg mc ml mq mh ms mr mi) [(0, .ref (a 0)), (1, .int p1), (2, .int p2), (3, .int p3), (4, .int p4)] 0 [] := by
  unfold fX7_lotsOf at hf
  refine g_lconst X dX7_lotsOf_0 (v := 0) rfl (n := 1) rfl ?_
  refine g_lstore X dX7_lotsOf_1 (by decide) (lv2 := [(5, .long (0 : Int64)), (0, .ref (a 0)), (1, .int p1), (2, .int p2), (3, .int p3), (4, .int p4)]) rfl (n := 3) rfl ?_
  refine g_iconst X dX7_lotsOf_3 (v := 0) (by decide) (n := 4) rfl ?_
  refine g_istore X dX7_lotsOf_4 (by decide) (lv2 := [(7, .int 0), (5, .long (0 : Int64)), (0, .ref (a 0)), (1, .int p1), (2, .int p2), (3, .int p3), (4, .int p4)]) rfl (n := 6) rfl ?_
  refine g_sub [2, 3, 4, 5, 6, 1, 0] (lv' := [(0, .ref (a 0)), (1, .int p1), (2, .int p2), (3, .int p3), (4, .int p4), (5, .long (0 : Int64)), (7, .int 0)]) rfl ?_
  exact wX7_lotsOf_l6 X  hret _ _ _ _ _ _ _ hf
set_option maxRecDepth 100000 in
set_option maxHeartbeats 4000000 in
theorem mX7_lotsOf {l : Launch} {D : va_G} {N : Nat} {a : Nat → Nat} {p1 : Int32} {p2 : Int32} {p3 : Int32} {p4 : Int32} {mp : VMp} {mg : VMg} {mc : Nat → Int64} {ml : VMl} {mq : VMq} {mh : VMh} {ms : VMs} {mr : Nat → Int32} {mi : VMi} {res : Int64} (hf : fX7_lotsOf N mc p1 p2 p3 p4 = some res) : k_Met l yX7_lotsOf cX7_lotsOf 8 (some .long) 1 22 D [.ref (a 0), .int p1, .int p2, .int p3, .int p4] (pic_X7 D a mp mg mc ml mq mh ms mr mi) (some (.long res)) (pic_X7 D a mp mg mc ml mq mh ms mr mi) :=
  k_of_l (by decide) (Nat.le_of_ble_eq_true rfl) (fun E X hret => wX7_lotsOf X hret hf)
set_option maxRecDepth 100000 in
set_option maxHeartbeats 4000000 in
theorem wX7_yesOf_b115 {D : va_G} {l : Launch} {E : k_E} {N : Nat} {a : Nat → Nat} {k15 : Int32 → Int32 → Int32 → Int32 → Int32 → Int64 → Int32 → VMq → Option (Int64 × VMq)} {k36 : Int32 → Int32 → Int32 → Int32 → Int32 → Int64 → Int32 → Int32 → VMq → Option (Int64 × VMq)} {v1 : Int32} {v2 : Int32} {v3 : Int32} {v4 : Int32} {v5 : Int32} {v8 : Int32} {v9 : Int32} {s0 : Int64} {s1 : Int64} {mp : VMp} {mg : VMg} {mc : Nat → Int64} {ml : VMl} {mq : VMq} {mh : VMh} {ms : VMs} {mr : Nat → Int32} {mi : VMi} {res : Int64 × VMq} (X : k_X D E cX7_yesOf RX7 12 3 94) (hk15 : ∀ (v1 : Int32) (v2 : Int32) (v3 : Int32) (v4 : Int32) (v5 : Int32) (v6 : Int64) (v8 : Int32) (mq : VMq), k15 v1 v2 v3 v4 v5 v6 v8 mq = some res → k_G D l E (pic_X7 D a mp mg mc ml mq mh ms mr mi) [(0, .ref (a 0)), (1, .int v1), (2, .int v2), (3, .int v3), (4, .int v4), (5, .int v5), (6, .long v6), (8, .int v8)] 15 []) (hk36 : ∀ (v1 : Int32) (v2 : Int32) (v3 : Int32) (v4 : Int32) (v5 : Int32) (v6 : Int64) (v8 : Int32) (v9 : Int32) (mq : VMq), k36 v1 v2 v3 v4 v5 v6 v8 v9 mq = some res → k_G D l E (pic_X7 D a mp mg mc ml mq mh ms mr mi) [(0, .ref (a 0)), (1, .int v1), (2, .int v2), (3, .int v3), (4, .int v4), (5, .int v5), (6, .long v6), (8, .int v8), (9, .int v9)] 36 []) (hret : ∀ (pc : Nat) (lv : List (Nat × Value)), decode cX7_yesOf pc = .ok (.lreturn, 1) → k_G D l E (pic_X7 D a mp mg mc ml res.2 mh ms mr mi) lv pc [.long res.1]) (hf : fX7_yesOf_b115 N mg mc k15 k36 v1 v2 v3 v4 v5 v8 v9 s0 s1 mq = some res) : k_G D l E (pic_X7 D a mp mg mc ml mq mh ms mr mi) [(0, .ref (a 0)), (1, .int v1), (2, .int v2), (3, .int v3), (4, .int v4), (5, .int v5), (8, .int v8), (9, .int v9)] 115 [.long s1, .long s0] := by
  unfold fX7_yesOf_b115 at hf
  refine g_ladd X dX7_yesOf_115 (n := 116) rfl ?_
  refine g_lstore X dX7_yesOf_116 (by decide) (lv2 := [(6, .long (s0 + s1)), (0, .ref (a 0)), (1, .int v1), (2, .int v2), (3, .int v3), (4, .int v4), (5, .int v5), (8, .int v8), (9, .int v9)]) rfl (n := 118) rfl ?_
  refine g_iinc X dX7_yesOf_118 8 rfl (v := v9 + 1) rfl (by decide) (lv2 := [(9, .int (v9 + 1)), (6, .long (s0 + s1)), (0, .ref (a 0)), (1, .int v1), (2, .int v2), (3, .int v3), (4, .int v4), (5, .int v5), (8, .int v8)]) rfl (n := 121) rfl ?_
  refine g_goto X dX7_yesOf_121 (n := 36) (by decide) ?_
  refine g_sub [2, 3, 4, 5, 6, 7, 1, 8, 0] (lv' := [(0, .ref (a 0)), (1, .int v1), (2, .int v2), (3, .int v3), (4, .int v4), (5, .int v5), (6, .long (s0 + s1)), (8, .int v8), (9, .int (v9 + 1))]) rfl ?_
  exact hk36 _ _ _ _ _ _ _ _ _ hf
set_option maxRecDepth 100000 in
set_option maxHeartbeats 4000000 in
theorem wX7_yesOf_b114 {D : va_G} {l : Launch} {E : k_E} {N : Nat} {a : Nat → Nat} {k15 : Int32 → Int32 → Int32 → Int32 → Int32 → Int64 → Int32 → VMq → Option (Int64 × VMq)} {k36 : Int32 → Int32 → Int32 → Int32 → Int32 → Int64 → Int32 → Int32 → VMq → Option (Int64 × VMq)} {v1 : Int32} {v2 : Int32} {v3 : Int32} {v4 : Int32} {v5 : Int32} {v8 : Int32} {v9 : Int32} {s0 : Int64} {mp : VMp} {mg : VMg} {mc : Nat → Int64} {ml : VMl} {mq : VMq} {mh : VMh} {ms : VMs} {mr : Nat → Int32} {mi : VMi} {res : Int64 × VMq} (X : k_X D E cX7_yesOf RX7 12 3 94) (hk15 : ∀ (v1 : Int32) (v2 : Int32) (v3 : Int32) (v4 : Int32) (v5 : Int32) (v6 : Int64) (v8 : Int32) (mq : VMq), k15 v1 v2 v3 v4 v5 v6 v8 mq = some res → k_G D l E (pic_X7 D a mp mg mc ml mq mh ms mr mi) [(0, .ref (a 0)), (1, .int v1), (2, .int v2), (3, .int v3), (4, .int v4), (5, .int v5), (6, .long v6), (8, .int v8)] 15 []) (hk36 : ∀ (v1 : Int32) (v2 : Int32) (v3 : Int32) (v4 : Int32) (v5 : Int32) (v6 : Int64) (v8 : Int32) (v9 : Int32) (mq : VMq), k36 v1 v2 v3 v4 v5 v6 v8 v9 mq = some res → k_G D l E (pic_X7 D a mp mg mc ml mq mh ms mr mi) [(0, .ref (a 0)), (1, .int v1), (2, .int v2), (3, .int v3), (4, .int v4), (5, .int v5), (6, .long v6), (8, .int v8), (9, .int v9)] 36 []) (hret : ∀ (pc : Nat) (lv : List (Nat × Value)), decode cX7_yesOf pc = .ok (.lreturn, 1) → k_G D l E (pic_X7 D a mp mg mc ml res.2 mh ms mr mi) lv pc [.long res.1]) (hf : fX7_yesOf_b114 N mg mc k15 k36 v1 v2 v3 v4 v5 v8 v9 s0 mq = some res) : k_G D l E (pic_X7 D a mp mg mc ml mq mh ms mr mi) [(0, .ref (a 0)), (1, .int v1), (2, .int v2), (3, .int v3), (4, .int v4), (5, .int v5), (8, .int v8), (9, .int v9)] 114 [.long s0] := by
  unfold fX7_yesOf_b114 at hf
  refine g_lconst X dX7_yesOf_114 (v := 0) rfl (n := 115) rfl ?_
  refine g_sub [0, 1, 2, 3, 4, 5, 6, 7] (lv' := [(0, .ref (a 0)), (1, .int v1), (2, .int v2), (3, .int v3), (4, .int v4), (5, .int v5), (8, .int v8), (9, .int v9)]) rfl ?_
  exact wX7_yesOf_b115 X hk15 hk36 hret hf
set_option maxRecDepth 100000 in
set_option maxHeartbeats 4000000 in
theorem wX7_yesOf_b72 {D : va_G} {l : Launch} {E : k_E} {N : Nat} {a : Nat → Nat} {k15 : Int32 → Int32 → Int32 → Int32 → Int32 → Int64 → Int32 → VMq → Option (Int64 × VMq)} {k36 : Int32 → Int32 → Int32 → Int32 → Int32 → Int64 → Int32 → Int32 → VMq → Option (Int64 × VMq)} {v1 : Int32} {v2 : Int32} {v3 : Int32} {v4 : Int32} {v5 : Int32} {v6 : Int64} {v8 : Int32} {v9 : Int32} {s0 : Int64} {mp : VMp} {mg : VMg} {mc : Nat → Int64} {ml : VMl} {mq : VMq} {mh : VMh} {ms : VMs} {mr : Nat → Int32} {mi : VMi} {res : Int64 × VMq} (X : k_X D E cX7_yesOf RX7 12 3 94) (hk15 : ∀ (v1 : Int32) (v2 : Int32) (v3 : Int32) (v4 : Int32) (v5 : Int32) (v6 : Int64) (v8 : Int32) (mq : VMq), k15 v1 v2 v3 v4 v5 v6 v8 mq = some res → k_G D l E (pic_X7 D a mp mg mc ml mq mh ms mr mi) [(0, .ref (a 0)), (1, .int v1), (2, .int v2), (3, .int v3), (4, .int v4), (5, .int v5), (6, .long v6), (8, .int v8)] 15 []) (hk36 : ∀ (v1 : Int32) (v2 : Int32) (v3 : Int32) (v4 : Int32) (v5 : Int32) (v6 : Int64) (v8 : Int32) (v9 : Int32) (mq : VMq), k36 v1 v2 v3 v4 v5 v6 v8 v9 mq = some res → k_G D l E (pic_X7 D a mp mg mc ml mq mh ms mr mi) [(0, .ref (a 0)), (1, .int v1), (2, .int v2), (3, .int v3), (4, .int v4), (5, .int v5), (6, .long v6), (8, .int v8), (9, .int v9)] 36 []) (hret : ∀ (pc : Nat) (lv : List (Nat × Value)), decode cX7_yesOf pc = .ok (.lreturn, 1) → k_G D l E (pic_X7 D a mp mg mc ml res.2 mh ms mr mi) lv pc [.long res.1]) (hf : fX7_yesOf_b72 N mg mc k15 k36 v1 v2 v3 v4 v5 v6 v8 v9 s0 mq = some res) : k_G D l E (pic_X7 D a mp mg mc ml mq mh ms mr mi) [(0, .ref (a 0)), (1, .int v1), (2, .int v2), (3, .int v3), (4, .int v4), (5, .int v5), (6, .long v6), (8, .int v8), (9, .int v9)] 72 [.long s0] := by
  unfold fX7_yesOf_b72 at hf
  refine g_lstore X dX7_yesOf_72 (by decide) (lv2 := [(10, .long s0), (0, .ref (a 0)), (1, .int v1), (2, .int v2), (3, .int v3), (4, .int v4), (5, .int v5), (6, .long v6), (8, .int v8), (9, .int v9)]) rfl (n := 74) rfl ?_
  refine g_lload X dX7_yesOf_74 7 rfl (n := 76) rfl ?_
  refine g_lload X dX7_yesOf_76 0 rfl (n := 78) rfl ?_
  refine g_lconst X dX7_yesOf_78 (v := 0) rfl (n := 79) rfl ?_
  refine g_lcmp_le X dX7_yesOf_79 dX7_yesOf_80 (t := 114) (by decide) (n := 83) rfl (fun c_1 => ?_) (fun c_1 => ?_)
  · replace hf := k_pos c_1 hf
    refine g_sub [1, 2, 3, 4, 5, 6, 8, 9] (lv' := [(0, .ref (a 0)), (1, .int v1), (2, .int v2), (3, .int v3), (4, .int v4), (5, .int v5), (8, .int v8), (9, .int v9)]) rfl ?_
    exact wX7_yesOf_b114 X hk15 hk36 hret hf
  · replace hf := k_neg c_1 hf
    refine g_aload_n X dX7_yesOf_83 1 rfl rfl (n := 84) rfl ?_
    refine g_iload X dX7_yesOf_84 6 rfl (n := 86) rfl ?_
    refine g_iload X dX7_yesOf_86 5 rfl (n := 88) rfl ?_
    refine g_iload X dX7_yesOf_88 9 rfl (n := 90) rfl ?_
    refine g_iload X dX7_yesOf_90 8 rfl (n := 92) rfl ?_
    obtain ⟨x_2, mq_3, g_4, hf⟩ := k_b2s hf
    refine g_callV0 X (mX7_saysYes (D := D) (l := l) (a := a) (mp := mp) (mc := mc) (ml := ml) (mh := mh) (ms := ms) (mr := mr) (mi := mi) g_4) lk_X7_saysYes mlX7_144 dX7_yesOf_92 (n := 95) rfl (st := [.long v6]) rfl (st2 := [.int (bI x_2), .long v6]) rfl rfl rfl rfl (ws2 := pic_X7 D a mp mg mc ml mq_3 mh ms mr mi) (ad_X7 _ _ _ _ _ _ _ _ _ _ _ _ _ _ _ _ _ _ _ _) rfl ⟨Nat.le_of_ble_eq_true rfl, Nat.le_of_ble_eq_true rfl⟩ (Nat.le_of_ble_eq_true rfl) ?_
    refine g_if_eqB X dX7_yesOf_95 (t := 114) (by decide) (n := 98) rfl (fun c_5 => ?_) (fun c_5 => ?_)
    · replace hf := k_neg c_5 hf
      refine g_sub [1, 2, 3, 4, 5, 6, 8, 9] (lv' := [(0, .ref (a 0)), (1, .int v1), (2, .int v2), (3, .int v3), (4, .int v4), (5, .int v5), (8, .int v8), (9, .int v9)]) rfl ?_
      exact wX7_yesOf_b114 X hk15 hk36 hret hf
    · replace hf := k_pos c_5 hf
      refine g_lload X dX7_yesOf_98 0 rfl (n := 100) rfl ?_
      refine g_aload_n X dX7_yesOf_100 1 rfl rfl (n := 101) rfl ?_
      refine g_iload_n X dX7_yesOf_101 4 rfl rfl (n := 102) rfl ?_
      refine g_iload X dX7_yesOf_102 5 rfl (n := 104) rfl ?_
      refine g_iload X dX7_yesOf_104 9 rfl (n := 106) rfl ?_
      refine g_isub X dX7_yesOf_106 (n := 107) rfl ?_
      obtain ⟨x_6, g_7, hf⟩ := k_b1s hf
      refine g_callV0 X (mX7_ways (D := D) (l := l) (a := a) (mp := mp) (mg := mg) (ml := ml) (mq := mq_3) (mh := mh) (ms := ms) (mr := mr) (mi := mi) g_7) lk_X7_ways mlX7_136 dX7_yesOf_107 (n := 110) rfl (st := [.long s0, .long v6]) rfl (st2 := [.long x_6, .long s0, .long v6]) rfl rfl rfl rfl (ws2 := pic_X7 D a mp mg mc ml mq_3 mh ms mr mi) (ad_X7 _ _ _ _ _ _ _ _ _ _ _ _ _ _ _ _ _ _ _ _) rfl ⟨Nat.le_of_ble_eq_true rfl, Nat.le_of_ble_eq_true rfl⟩ (Nat.le_of_ble_eq_true rfl) ?_
      refine g_lmul X dX7_yesOf_110 (n := 111) rfl ?_
      refine g_goto X dX7_yesOf_111 (n := 115) (by decide) ?_
      refine g_sub [1, 2, 3, 4, 5, 6, 8, 9] (lv' := [(0, .ref (a 0)), (1, .int v1), (2, .int v2), (3, .int v3), (4, .int v4), (5, .int v5), (8, .int v8), (9, .int v9)]) rfl ?_
      exact wX7_yesOf_b115 X hk15 hk36 hret hf
set_option maxRecDepth 100000 in
set_option maxHeartbeats 4000000 in
theorem wX7_yesOf_b36 {D : va_G} {l : Launch} {E : k_E} {N : Nat} {a : Nat → Nat} {k15 : Int32 → Int32 → Int32 → Int32 → Int32 → Int64 → Int32 → VMq → Option (Int64 × VMq)} {k36 : Int32 → Int32 → Int32 → Int32 → Int32 → Int64 → Int32 → Int32 → VMq → Option (Int64 × VMq)} {v1 : Int32} {v2 : Int32} {v3 : Int32} {v4 : Int32} {v5 : Int32} {v6 : Int64} {v8 : Int32} {v9 : Int32} {mp : VMp} {mg : VMg} {mc : Nat → Int64} {ml : VMl} {mq : VMq} {mh : VMh} {ms : VMs} {mr : Nat → Int32} {mi : VMi} {res : Int64 × VMq} (X : k_X D E cX7_yesOf RX7 12 3 94) (hk15 : ∀ (v1 : Int32) (v2 : Int32) (v3 : Int32) (v4 : Int32) (v5 : Int32) (v6 : Int64) (v8 : Int32) (mq : VMq), k15 v1 v2 v3 v4 v5 v6 v8 mq = some res → k_G D l E (pic_X7 D a mp mg mc ml mq mh ms mr mi) [(0, .ref (a 0)), (1, .int v1), (2, .int v2), (3, .int v3), (4, .int v4), (5, .int v5), (6, .long v6), (8, .int v8)] 15 []) (hk36 : ∀ (v1 : Int32) (v2 : Int32) (v3 : Int32) (v4 : Int32) (v5 : Int32) (v6 : Int64) (v8 : Int32) (v9 : Int32) (mq : VMq), k36 v1 v2 v3 v4 v5 v6 v8 v9 mq = some res → k_G D l E (pic_X7 D a mp mg mc ml mq mh ms mr mi) [(0, .ref (a 0)), (1, .int v1), (2, .int v2), (3, .int v3), (4, .int v4), (5, .int v5), (6, .long v6), (8, .int v8), (9, .int v9)] 36 []) (hret : ∀ (pc : Nat) (lv : List (Nat × Value)), decode cX7_yesOf pc = .ok (.lreturn, 1) → k_G D l E (pic_X7 D a mp mg mc ml res.2 mh ms mr mi) lv pc [.long res.1]) (hf : fX7_yesOf_b36 N mg mc k15 k36 v1 v2 v3 v4 v5 v6 v8 v9 mq = some res) : k_G D l E (pic_X7 D a mp mg mc ml mq mh ms mr mi) [(0, .ref (a 0)), (1, .int v1), (2, .int v2), (3, .int v3), (4, .int v4), (5, .int v5), (6, .long v6), (8, .int v8), (9, .int v9)] 36 [] := by
  unfold fX7_yesOf_b36 at hf
  refine g_iload X dX7_yesOf_36 8 rfl (n := 38) rfl ?_
  refine g_iload X dX7_yesOf_38 4 rfl (n := 40) rfl ?_
  refine g_icmp_gt X dX7_yesOf_40 (t := 124) (by decide) (n := 43) rfl (fun c_1 => ?_) (fun c_1 => ?_)
  · replace hf := k_pos c_1 hf
    refine g_iinc X dX7_yesOf_124 7 rfl (v := v8 + 1) rfl (by decide) (lv2 := [(8, .int (v8 + 1)), (0, .ref (a 0)), (1, .int v1), (2, .int v2), (3, .int v3), (4, .int v4), (5, .int v5), (6, .long v6), (9, .int v9)]) rfl (n := 127) rfl ?_
    refine g_goto X dX7_yesOf_127 (n := 15) (by decide) ?_
    refine g_sub [1, 2, 3, 4, 5, 6, 7, 0] (lv' := [(0, .ref (a 0)), (1, .int v1), (2, .int v2), (3, .int v3), (4, .int v4), (5, .int v5), (6, .long v6), (8, .int (v8 + 1))]) rfl ?_
    exact hk15 _ _ _ _ _ _ _ _ hf
  · replace hf := k_neg c_1 hf
    refine g_aload_n X dX7_yesOf_43 0 rfl rfl (n := 44) rfl ?_
    refine g_iload_n X dX7_yesOf_44 3 rfl rfl (n := 45) rfl ?_
    refine g_iload X dX7_yesOf_45 4 rfl (n := 47) rfl ?_
    refine g_iload X dX7_yesOf_47 8 rfl (n := 49) rfl ?_
    refine g_isub X dX7_yesOf_49 (n := 50) rfl ?_
    obtain ⟨x_2, g_3, hf⟩ := k_b1s hf
    refine g_callV0 X (mX7_ways (D := D) (l := l) (a := a) (mp := mp) (mg := mg) (ml := ml) (mq := mq) (mh := mh) (ms := ms) (mr := mr) (mi := mi) g_3) lk_X7_ways mlX7_136 dX7_yesOf_50 (n := 53) rfl (st := []) rfl (st2 := [.long x_2]) rfl rfl rfl rfl (ws2 := pic_X7 D a mp mg mc ml mq mh ms mr mi) (ad_X7 _ _ _ _ _ _ _ _ _ _ _ _ _ _ _ _ _ _ _ _) rfl ⟨Nat.le_of_ble_eq_true rfl, Nat.le_of_ble_eq_true rfl⟩ (Nat.le_of_ble_eq_true rfl) ?_
    refine g_lconst X dX7_yesOf_53 (v := 0) rfl (n := 54) rfl ?_
    refine g_lcmp_ne X dX7_yesOf_54 dX7_yesOf_55 (t := 62) (by decide) (n := 58) rfl (fun c_4 => ?_) (fun c_4 => ?_)
    · replace hf := k_neg c_4 hf
      refine g_aload_n X dX7_yesOf_62 0 rfl rfl (n := 63) rfl ?_
      refine g_iload_n X dX7_yesOf_63 1 rfl rfl (n := 64) rfl ?_
      refine g_iload_n X dX7_yesOf_64 2 rfl rfl (n := 65) rfl ?_
      refine g_iload X dX7_yesOf_65 7 rfl (n := 67) rfl ?_
      refine g_iload X dX7_yesOf_67 8 rfl (n := 69) rfl ?_
      obtain ⟨x_5, g_6, hf⟩ := k_b1s hf
      refine g_callV0 X (mX7_lotsOf (D := D) (l := l) (a := a) (mp := mp) (mg := mg) (ml := ml) (mq := mq) (mh := mh) (ms := ms) (mr := mr) (mi := mi) g_6) lk_X7_lotsOf mlX7_140 dX7_yesOf_69 (n := 72) rfl (st := []) rfl (st2 := [.long x_5]) rfl rfl rfl rfl (ws2 := pic_X7 D a mp mg mc ml mq mh ms mr mi) (ad_X7 _ _ _ _ _ _ _ _ _ _ _ _ _ _ _ _ _ _ _ _) rfl ⟨Nat.le_of_ble_eq_true rfl, Nat.le_of_ble_eq_true rfl⟩ (Nat.le_of_ble_eq_true rfl) ?_
      refine g_sub [0, 1, 2, 3, 4, 5, 6, 7, 8] (lv' := [(0, .ref (a 0)), (1, .int v1), (2, .int v2), (3, .int v3), (4, .int v4), (5, .int v5), (6, .long v6), (8, .int v8), (9, .int v9)]) rfl ?_
      exact wX7_yesOf_b72 X hk15 hk36 hret hf
    · replace hf := k_pos c_4 hf
      refine g_lconst X dX7_yesOf_58 (v := 0) rfl (n := 59) rfl ?_
      refine g_goto X dX7_yesOf_59 (n := 72) (by decide) ?_
      refine g_sub [0, 1, 2, 3, 4, 5, 6, 7, 8] (lv' := [(0, .ref (a 0)), (1, .int v1), (2, .int v2), (3, .int v3), (4, .int v4), (5, .int v5), (6, .long v6), (8, .int v8), (9, .int v9)]) rfl ?_
      exact wX7_yesOf_b72 X hk15 hk36 hret hf
set_option maxRecDepth 100000 in
set_option maxHeartbeats 4000000 in
theorem wX7_yesOf_l36 {D : va_G} {l : Launch} {E : k_E} {N : Nat} {a : Nat → Nat} {k15 : Int32 → Int32 → Int32 → Int32 → Int32 → Int64 → Int32 → VMq → Option (Int64 × VMq)} {mp : VMp} {mg : VMg} {mc : Nat → Int64} {ml : VMl} {mh : VMh} {ms : VMs} {mr : Nat → Int32} {mi : VMi} {res : Int64 × VMq} (X : k_X D E cX7_yesOf RX7 12 3 94) (hk15 : ∀ (v1 : Int32) (v2 : Int32) (v3 : Int32) (v4 : Int32) (v5 : Int32) (v6 : Int64) (v8 : Int32) (mq : VMq), k15 v1 v2 v3 v4 v5 v6 v8 mq = some res → k_G D l E (pic_X7 D a mp mg mc ml mq mh ms mr mi) [(0, .ref (a 0)), (1, .int v1), (2, .int v2), (3, .int v3), (4, .int v4), (5, .int v5), (6, .long v6), (8, .int v8)] 15 []) (hret : ∀ (pc : Nat) (lv : List (Nat × Value)), decode cX7_yesOf pc = .ok (.lreturn, 1) → k_G D l E (pic_X7 D a mp mg mc ml res.2 mh ms mr mi) lv pc [.long res.1]) : ∀ (n0 : Nat) (v1 : Int32) (v2 : Int32) (v3 : Int32) (v4 : Int32) (v5 : Int32) (v6 : Int64) (v8 : Int32) (v9 : Int32) (mq : VMq), fX7_yesOf_l36 N mg mc k15 n0 v1 v2 v3 v4 v5 v6 v8 v9 mq = some res → k_G D l E (pic_X7 D a mp mg mc ml mq mh ms mr mi) [(0, .ref (a 0)), (1, .int v1), (2, .int v2), (3, .int v3), (4, .int v4), (5, .int v5), (6, .long v6), (8, .int v8), (9, .int v9)] 36 [] := by
  intro n0
  induction n0 with
  | zero => intro v1 v2 v3 v4 v5 v6 v8 v9 mq hf; cases hf
  | succ n0 ih => intro v1 v2 v3 v4 v5 v6 v8 v9 mq hf; exact wX7_yesOf_b36 (N := N) (k36 := fX7_yesOf_l36 N mg mc k15 n0) X hk15 ih hret hf
set_option maxRecDepth 100000 in
set_option maxHeartbeats 4000000 in
theorem wX7_yesOf_b15 {D : va_G} {l : Launch} {E : k_E} {N : Nat} {a : Nat → Nat} {k15 : Int32 → Int32 → Int32 → Int32 → Int32 → Int64 → Int32 → VMq → Option (Int64 × VMq)} {v1 : Int32} {v2 : Int32} {v3 : Int32} {v4 : Int32} {v5 : Int32} {v6 : Int64} {v8 : Int32} {mp : VMp} {mg : VMg} {mc : Nat → Int64} {ml : VMl} {mq : VMq} {mh : VMh} {ms : VMs} {mr : Nat → Int32} {mi : VMi} {res : Int64 × VMq} (X : k_X D E cX7_yesOf RX7 12 3 94) (hk15 : ∀ (v1 : Int32) (v2 : Int32) (v3 : Int32) (v4 : Int32) (v5 : Int32) (v6 : Int64) (v8 : Int32) (mq : VMq), k15 v1 v2 v3 v4 v5 v6 v8 mq = some res → k_G D l E (pic_X7 D a mp mg mc ml mq mh ms mr mi) [(0, .ref (a 0)), (1, .int v1), (2, .int v2), (3, .int v3), (4, .int v4), (5, .int v5), (6, .long v6), (8, .int v8)] 15 []) (hret : ∀ (pc : Nat) (lv : List (Nat × Value)), decode cX7_yesOf pc = .ok (.lreturn, 1) → k_G D l E (pic_X7 D a mp mg mc ml res.2 mh ms mr mi) lv pc [.long res.1]) (hf : fX7_yesOf_b15 N mg mc k15 v1 v2 v3 v4 v5 v6 v8 mq = some res) : k_G D l E (pic_X7 D a mp mg mc ml mq mh ms mr mi) [(0, .ref (a 0)), (1, .int v1), (2, .int v2), (3, .int v3), (4, .int v4), (5, .int v5), (6, .long v6), (8, .int v8)] 15 [] := by
  unfold fX7_yesOf_b15 at hf
  refine g_iload X dX7_yesOf_15 7 rfl (n := 17) rfl ?_
  refine g_iload_n X dX7_yesOf_17 1 rfl rfl (n := 18) rfl ?_
  refine g_icmp_gt X dX7_yesOf_18 (t := 130) (by decide) (n := 21) rfl (fun c_1 => ?_) (fun c_1 => ?_)
  · replace hf := k_pos c_1 hf
    refine g_lload X dX7_yesOf_130 6 rfl (n := 132) rfl ?_
    obtain rfl := Option.some.inj hf
    exact hret _ _ dX7_yesOf_132
  · replace hf := k_neg c_1 hf
    refine g_iconst X dX7_yesOf_21 (v := 2) (by decide) (n := 22) rfl ?_
    refine g_iload X dX7_yesOf_22 7 rfl (n := 24) rfl ?_
    refine g_imul X dX7_yesOf_24 (n := 25) rfl ?_
    refine g_iload X dX7_yesOf_25 4 rfl (n := 27) rfl ?_
    refine g_icmp_gt X dX7_yesOf_27 (t := 130) (by decide) (n := 30) rfl (fun c_2 => ?_) (fun c_2 => ?_)
    · replace hf := k_pos c_2 hf
      refine g_lload X dX7_yesOf_130 6 rfl (n := 132) rfl ?_
      obtain rfl := Option.some.inj hf
      exact hret _ _ dX7_yesOf_132
    · replace hf := k_neg c_2 hf
      refine g_iconst X dX7_yesOf_30 (v := 2) (by decide) (n := 31) rfl ?_
      refine g_iload X dX7_yesOf_31 7 rfl (n := 33) rfl ?_
      refine g_imul X dX7_yesOf_33 (n := 34) rfl ?_
      refine g_istore X dX7_yesOf_34 (by decide) (lv2 := [(9, .int ((2 : Int32) * v8)), (0, .ref (a 0)), (1, .int v1), (2, .int v2), (3, .int v3), (4, .int v4), (5, .int v5), (6, .long v6), (8, .int v8)]) rfl (n := 36) rfl ?_
      refine g_sub [1, 2, 3, 4, 5, 6, 7, 8, 0] (lv' := [(0, .ref (a 0)), (1, .int v1), (2, .int v2), (3, .int v3), (4, .int v4), (5, .int v5), (6, .long v6), (8, .int v8), (9, .int ((2 : Int32) * v8))]) rfl ?_
      exact wX7_yesOf_l36 X hk15 hret _ _ _ _ _ _ _ _ _ _ hf
set_option maxRecDepth 100000 in
set_option maxHeartbeats 4000000 in
theorem wX7_yesOf_l15 {D : va_G} {l : Launch} {E : k_E} {N : Nat} {a : Nat → Nat} {mp : VMp} {mg : VMg} {mc : Nat → Int64} {ml : VMl} {mh : VMh} {ms : VMs} {mr : Nat → Int32} {mi : VMi} {res : Int64 × VMq} (X : k_X D E cX7_yesOf RX7 12 3 94) (hret : ∀ (pc : Nat) (lv : List (Nat × Value)), decode cX7_yesOf pc = .ok (.lreturn, 1) → k_G D l E (pic_X7 D a mp mg mc ml res.2 mh ms mr mi) lv pc [.long res.1]) : ∀ (n0 : Nat) (v1 : Int32) (v2 : Int32) (v3 : Int32) (v4 : Int32) (v5 : Int32) (v6 : Int64) (v8 : Int32) (mq : VMq), fX7_yesOf_l15 N mg mc n0 v1 v2 v3 v4 v5 v6 v8 mq = some res → k_G D l E (pic_X7 D a mp mg mc ml mq mh ms mr mi) [(0, .ref (a 0)), (1, .int v1), (2, .int v2), (3, .int v3), (4, .int v4), (5, .int v5), (6, .long v6), (8, .int v8)] 15 [] := by
  intro n0
  induction n0 with
  | zero => intro v1 v2 v3 v4 v5 v6 v8 mq hf; cases hf
  | succ n0 ih => intro v1 v2 v3 v4 v5 v6 v8 mq hf; exact wX7_yesOf_b15 (N := N) (k15 := fX7_yesOf_l15 N mg mc n0) X  ih hret hf
set_option maxRecDepth 100000 in
set_option maxHeartbeats 4000000 in
theorem wX7_yesOf {D : va_G} {l : Launch} {E : k_E} {N : Nat} {a : Nat → Nat} {p1 : Int32} {p2 : Int32} {p3 : Int32} {p4 : Int32} {mp : VMp} {mg : VMg} {mc : Nat → Int64} {ml : VMl} {mq : VMq} {mh : VMh} {ms : VMs} {mr : Nat → Int32} {mi : VMi} {res : Int64 × VMq} (X : k_X D E cX7_yesOf RX7 12 3 94) (hret : ∀ (pc : Nat) (lv : List (Nat × Value)), decode cX7_yesOf pc = .ok (.lreturn, 1) → k_G D l E (pic_X7 D a mp mg mc ml res.2 mh ms mr mi) lv pc [.long res.1]) (hf : fX7_yesOf N mg mc p1 p2 p3 p4 mq = some res) : k_G D l E (pic_X7 D a mp mg mc ml mq mh ms mr mi) [(0, .ref (a 0)), (1, .int p1), (2, .int p2), (3, .int p3), (4, .int p4)] 0 [] := by
  unfold fX7_yesOf at hf
  refine g_iconst X dX7_yesOf_0 (v := 2) (by decide) (n := 1) rfl ?_
  refine g_iload_n X dX7_yesOf_1 1 rfl rfl (n := 2) rfl ?_
  refine g_imul X dX7_yesOf_2 (n := 3) rfl ?_
  refine g_iload_n X dX7_yesOf_3 2 rfl rfl (n := 4) rfl ?_
  refine g_iadd X dX7_yesOf_4 (n := 5) rfl ?_
  refine g_iload_n X dX7_yesOf_5 3 rfl rfl (n := 6) rfl ?_
  refine g_iadd X dX7_yesOf_6 (n := 7) rfl ?_
  refine g_istore X dX7_yesOf_7 (by decide) (lv2 := [(5, .int ((((2 : Int32) * p1) + p2) + p3)), (0, .ref (a 0)), (1, .int p1), (2, .int p2), (3, .int p3), (4, .int p4)]) rfl (n := 9) rfl ?_
  refine g_lconst X dX7_yesOf_9 (v := 0) rfl (n := 10) rfl ?_
  refine g_lstore X dX7_yesOf_10 (by decide) (lv2 := [(6, .long (0 : Int64)), (5, .int ((((2 : Int32) * p1) + p2) + p3)), (0, .ref (a 0)), (1, .int p1), (2, .int p2), (3, .int p3), (4, .int p4)]) rfl (n := 12) rfl ?_
  refine g_iconst X dX7_yesOf_12 (v := 0) (by decide) (n := 13) rfl ?_
  refine g_istore X dX7_yesOf_13 (by decide) (lv2 := [(8, .int 0), (6, .long (0 : Int64)), (5, .int ((((2 : Int32) * p1) + p2) + p3)), (0, .ref (a 0)), (1, .int p1), (2, .int p2), (3, .int p3), (4, .int p4)]) rfl (n := 15) rfl ?_
  refine g_sub [3, 4, 5, 6, 7, 2, 1, 0] (lv' := [(0, .ref (a 0)), (1, .int p1), (2, .int p2), (3, .int p3), (4, .int p4), (5, .int ((((2 : Int32) * p1) + p2) + p3)), (6, .long (0 : Int64)), (8, .int 0)]) rfl ?_
  exact wX7_yesOf_l15 X  hret _ _ _ _ _ _ _ _ _ hf
set_option maxRecDepth 100000 in
set_option maxHeartbeats 4000000 in
theorem mX7_yesOf {l : Launch} {D : va_G} {N : Nat} {a : Nat → Nat} {p1 : Int32} {p2 : Int32} {p3 : Int32} {p4 : Int32} {mp : VMp} {mg : VMg} {mc : Nat → Int64} {ml : VMl} {mq : VMq} {mh : VMh} {ms : VMs} {mr : Nat → Int32} {mi : VMi} {res : Int64 × VMq} (hf : fX7_yesOf N mg mc p1 p2 p3 p4 mq = some res) : k_Met l yX7_yesOf cX7_yesOf 12 (some .long) 3 94 D [.ref (a 0), .int p1, .int p2, .int p3, .int p4] (pic_X7 D a mp mg mc ml mq mh ms mr mi) (some (.long res.1)) (pic_X7 D a mp mg mc ml res.2 mh ms mr mi) :=
  k_of_l (by decide) (Nat.le_of_ble_eq_true rfl) (fun E X hret => wX7_yesOf X hret hf)
set_option maxRecDepth 100000 in
set_option maxHeartbeats 4000000 in
theorem wX7_yesNow {D : va_G} {l : Launch} {E : k_E} {N : Nat} {a : Nat → Nat} {p1 : Int32} {mp : VMp} {mg : VMg} {mc : Nat → Int64} {ml : VMl} {mq : VMq} {mh : VMh} {ms : VMs} {mr : Nat → Int32} {mi : VMi} {res : Int64 × VMq} (X : k_X D E cX7_yesNow RX7 2 4 125) (hret : ∀ (pc : Nat) (lv : List (Nat × Value)), decode cX7_yesNow pc = .ok (.lreturn, 1) → k_G D l E (pic_X7 D a mp mg mc ml res.2 mh ms mr mi) lv pc [.long res.1]) (hf : fX7_yesNow N mg mc ml p1 mq = some res) : k_G D l E (pic_X7 D a mp mg mc ml mq mh ms mr mi) [(0, .ref (a 0)), (1, .int p1)] 0 [] := by
  unfold fX7_yesNow at hf
  refine g_aload_n X dX7_yesNow_0 0 rfl rfl (n := 1) rfl ?_
  refine g_aload_n X dX7_yesNow_1 0 rfl rfl (n := 2) rfl ?_
  refine g_get X dX7_yesNow_2 flX7_101 0 rfl (v := .int ml.2.2.2.2.2.1) rfl (n := 5) rfl ?_
  refine g_aload_n X dX7_yesNow_5 0 rfl rfl (n := 6) rfl ?_
  refine g_get X dX7_yesNow_6 flX7_95 0 rfl (v := .int ml.2.2.2.1) rfl (n := 9) rfl ?_
  refine g_aload_n X dX7_yesNow_9 0 rfl rfl (n := 10) rfl ?_
  refine g_get X dX7_yesNow_10 flX7_98 0 rfl (v := .int ml.2.2.2.2.1) rfl (n := 13) rfl ?_
  refine g_iadd X dX7_yesNow_13 (n := 14) rfl ?_
  refine g_aload_n X dX7_yesNow_14 0 rfl rfl (n := 15) rfl ?_
  refine g_get X dX7_yesNow_15 flX7_92 0 rfl (v := .int ml.2.2.1) rfl (n := 18) rfl ?_
  refine g_iload_n X dX7_yesNow_18 1 rfl rfl (n := 19) rfl ?_
  obtain ⟨x_1, mq_2, g_3, hf⟩ := k_b2s hf
  refine g_callV0 X (mX7_yesOf (D := D) (l := l) (a := a) (mp := mp) (ml := ml) (mh := mh) (ms := ms) (mr := mr) (mi := mi) g_3) lk_X7_yesOf mlX7_147 dX7_yesNow_19 (n := 22) rfl (st := []) rfl (st2 := [.long x_1]) rfl rfl rfl rfl (ws2 := pic_X7 D a mp mg mc ml mq_2 mh ms mr mi) (ad_X7 _ _ _ _ _ _ _ _ _ _ _ _ _ _ _ _ _ _ _ _) rfl ⟨Nat.le_of_ble_eq_true rfl, Nat.le_of_ble_eq_true rfl⟩ (Nat.le_of_ble_eq_true rfl) ?_
  obtain rfl := Option.some.inj hf
  exact hret _ _ dX7_yesNow_22
set_option maxRecDepth 100000 in
set_option maxHeartbeats 4000000 in
theorem mX7_yesNow {l : Launch} {D : va_G} {N : Nat} {a : Nat → Nat} {p1 : Int32} {mp : VMp} {mg : VMg} {mc : Nat → Int64} {ml : VMl} {mq : VMq} {mh : VMh} {ms : VMs} {mr : Nat → Int32} {mi : VMi} {res : Int64 × VMq} (hf : fX7_yesNow N mg mc ml p1 mq = some res) : k_Met l yX7_yesNow cX7_yesNow 2 (some .long) 4 125 D [.ref (a 0), .int p1] (pic_X7 D a mp mg mc ml mq mh ms mr mi) (some (.long res.1)) (pic_X7 D a mp mg mc ml res.2 mh ms mr mi) :=
  k_of_l (by decide) (Nat.le_of_ble_eq_true rfl) (fun E X hret => wX7_yesNow X hret hf)
set_option maxRecDepth 100000 in
set_option maxHeartbeats 4000000 in
theorem wX7_barOfLot {D : va_G} {l : Launch} {E : k_E} {N : Nat} {a : Nat → Nat} {p1 : Int32} {p2 : Bool} {mp : VMp} {mg : VMg} {mc : Nat → Int64} {ml : VMl} {mq : VMq} {mh : VMh} {ms : VMs} {mr : Nat → Int32} {mi : VMi} {res : Int32 × VMl} (X : k_X D E cX7_barOfLot RX7 3 3 66) (hret : ∀ (pc : Nat) (lv : List (Nat × Value)), decode cX7_barOfLot pc = .ok (.ireturn, 1) → k_G D l E (pic_X7 D a mp mg mc res.2 mq mh ms mr mi) lv pc [.int res.1]) (hf : fX7_barOfLot N mg p1 p2 ml = some res) : k_G D l E (pic_X7 D a mp mg mc ml mq mh ms mr mi) [(0, .ref (a 0)), (1, .int p1), (2, .int (bI p2))] 0 [] := by
  unfold fX7_barOfLot at hf
  refine g_aload_n X dX7_barOfLot_0 0 rfl rfl (n := 1) rfl ?_
  refine g_aload_n X dX7_barOfLot_1 0 rfl rfl (n := 2) rfl ?_
  obtain ⟨x_1, g_2, hf⟩ := k_b1s hf
  refine g_callV0 X (mX7_valid (D := D) (l := l) (a := a) (mp := mp) (mc := mc) (ml := ml) (mq := mq) (mh := mh) (ms := ms) (mr := mr) (mi := mi) g_2) lk_X7_valid mlX7_108 dX7_barOfLot_2 (n := 5) rfl (st := [.ref (a 0)]) rfl (st2 := [.int x_1, .ref (a 0)]) rfl rfl rfl rfl (ws2 := pic_X7 D a mp mg mc ml mq mh ms mr mi) (ad_X7 _ _ _ _ _ _ _ _ _ _ _ _ _ _ _ _ _ _ _ _) rfl ⟨Nat.le_of_ble_eq_true rfl, Nat.le_of_ble_eq_true rfl⟩ (Nat.le_of_ble_eq_true rfl) ?_
  obtain ⟨ml_3, g_4, hf⟩ := k_b1s hf
  refine g_callV0 X (mX7_layList (D := D) (l := l) (a := a) (mp := mp) (mc := mc) (mq := mq) (mh := mh) (ms := ms) (mr := mr) (mi := mi) g_4) lk_X7_layList mlX7_111 dX7_barOfLot_5 (n := 8) rfl (st := []) rfl (st2 := []) rfl rfl rfl rfl (ws2 := pic_X7 D a mp mg mc ml_3 mq mh ms mr mi) (ad_X7 _ _ _ _ _ _ _ _ _ _ _ _ _ _ _ _ _ _ _ _) rfl ⟨Nat.le_of_ble_eq_true rfl, Nat.le_of_ble_eq_true rfl⟩ (Nat.le_of_ble_eq_true rfl) ?_
  refine g_iload_n X dX7_barOfLot_8 1 rfl rfl (n := 9) rfl ?_
  refine g_iconst X dX7_barOfLot_9 (v := 1) (by decide) (n := 10) rfl ?_
  refine g_aload_n X dX7_barOfLot_10 0 rfl rfl (n := 11) rfl ?_
  refine g_get X dX7_barOfLot_11 flX7_89 0 rfl (v := .int ml_3.2.1) rfl (n := 14) rfl ?_
  obtain ⟨x_5, g_6, hf⟩ := k_b1s hf
  refine g_callS0 X (mX7_in (D := D) (l := l)  g_6) lk_X7_in mlX7_58 dX7_barOfLot_14 (n := 17) rfl (st := []) rfl (st2 := [.int (bI x_5)]) rfl rfl ⟨Nat.le_of_ble_eq_true rfl, Nat.le_of_ble_eq_true rfl⟩ (Nat.le_of_ble_eq_true rfl) ?_
  refine g_if_eqB X dX7_barOfLot_17 (t := 24) (by decide) (n := 20) rfl (fun c_7 => ?_) (fun c_7 => ?_)
  · replace hf := k_neg c_7 hf
    refine g_bipush X dX7_barOfLot_24 (v := (-2)) (by decide) (n := 26) rfl ?_
    refine g_goto X dX7_barOfLot_26 (n := 42) (by decide) ?_
    obtain rfl := Option.some.inj hf
    exact hret _ _ dX7_barOfLot_42
  · replace hf := k_pos c_7 hf
    refine g_iload_n X dX7_barOfLot_20 2 rfl rfl (n := 21) rfl ?_
    refine g_if_neB X dX7_barOfLot_21 (t := 29) (by decide) (n := 24) rfl (fun c_8 => ?_) (fun c_8 => ?_)
    · replace hf := k_pos c_8 hf
      refine g_aload_n X dX7_barOfLot_29 0 rfl rfl (n := 30) rfl ?_
      refine g_get X dX7_barOfLot_30 flX7_104 0 rfl (v := .int (bI ml_3.2.2.2.2.2.2)) rfl (n := 33) rfl ?_
      refine g_if_eqB X dX7_barOfLot_33 (t := 41) (by decide) (n := 36) rfl (fun c_9 => ?_) (fun c_9 => ?_)
      · replace hf := k_neg c_9 hf
        refine g_iconst X dX7_barOfLot_41 (v := 0) (by decide) (n := 42) rfl ?_
        obtain rfl := Option.some.inj hf
        exact hret _ _ dX7_barOfLot_42
      · replace hf := k_pos c_9 hf
        refine g_bipush X dX7_barOfLot_36 (v := (-3)) (by decide) (n := 38) rfl ?_
        refine g_goto X dX7_barOfLot_38 (n := 42) (by decide) ?_
        obtain rfl := Option.some.inj hf
        exact hret _ _ dX7_barOfLot_42
    · replace hf := k_neg c_8 hf
      refine g_bipush X dX7_barOfLot_24 (v := (-2)) (by decide) (n := 26) rfl ?_
      refine g_goto X dX7_barOfLot_26 (n := 42) (by decide) ?_
      obtain rfl := Option.some.inj hf
      exact hret _ _ dX7_barOfLot_42
set_option maxRecDepth 100000 in
set_option maxHeartbeats 4000000 in
theorem mX7_barOfLot {l : Launch} {D : va_G} {N : Nat} {a : Nat → Nat} {p1 : Int32} {p2 : Bool} {mp : VMp} {mg : VMg} {mc : Nat → Int64} {ml : VMl} {mq : VMq} {mh : VMh} {ms : VMs} {mr : Nat → Int32} {mi : VMi} {res : Int32 × VMl} (hf : fX7_barOfLot N mg p1 p2 ml = some res) : k_Met l yX7_barOfLot cX7_barOfLot 3 (some .int) 3 66 D [.ref (a 0), .int p1, .int (bI p2)] (pic_X7 D a mp mg mc ml mq mh ms mr mi) (some (.int res.1)) (pic_X7 D a mp mg mc res.2 mq mh ms mr mi) :=
  k_of_i (by decide) (Nat.le_of_ble_eq_true rfl) (fun E X hret => wX7_barOfLot X hret hf)
set_option maxRecDepth 100000 in
set_option maxHeartbeats 4000000 in
theorem wX7_yes {D : va_G} {l : Launch} {E : k_E} {N : Nat} {a : Nat → Nat} {p1 : Int32} {p2 : Int32} {mp : VMp} {mg : VMg} {mc : Nat → Int64} {ml : VMl} {mq : VMq} {mh : VMh} {ms : VMs} {mr : Nat → Int32} {mi : VMi} {res : Int64 × VMl × VMq} (X : k_X D E cX7_yes RX7 4 5 146) (hret : ∀ (pc : Nat) (lv : List (Nat × Value)), decode cX7_yes pc = .ok (.lreturn, 1) → k_G D l E (pic_X7 D a mp mg mc res.2.1 res.2.2 mh ms mr mi) lv pc [.long res.1]) (hf : fX7_yes N mg mc p1 p2 ml mq = some res) : k_G D l E (pic_X7 D a mp mg mc ml mq mh ms mr mi) [(0, .ref (a 0)), (1, .int p1), (2, .int p2)] 0 [] := by
  unfold fX7_yes at hf
  refine g_aload_n X dX7_yes_0 0 rfl rfl (n := 1) rfl ?_
  refine g_iload_n X dX7_yes_1 1 rfl rfl (n := 2) rfl ?_
  refine g_iload_n X dX7_yes_2 2 rfl rfl (n := 3) rfl ?_
  obtain ⟨x_1, g_2, hf⟩ := k_b1s hf
  refine g_callS0 X (mX7_isPart (D := D) (l := l)  g_2) lk_X7_isPart mlX7_129 dX7_yes_3 (n := 6) rfl (st := [.int p1, .ref (a 0)]) rfl (st2 := [.int (bI x_1), .int p1, .ref (a 0)]) rfl rfl ⟨Nat.le_of_ble_eq_true rfl, Nat.le_of_ble_eq_true rfl⟩ (Nat.le_of_ble_eq_true rfl) ?_
  obtain ⟨x_3, ml_4, g_5, hf⟩ := k_b2s hf
  refine g_callV0 X (mX7_barOfLot (D := D) (l := l) (a := a) (mp := mp) (mc := mc) (mq := mq) (mh := mh) (ms := ms) (mr := mr) (mi := mi) g_5) lk_X7_barOfLot mlX7_150 dX7_yes_6 (n := 9) rfl (st := []) rfl (st2 := [.int x_3]) rfl rfl rfl rfl (ws2 := pic_X7 D a mp mg mc ml_4 mq mh ms mr mi) (ad_X7 _ _ _ _ _ _ _ _ _ _ _ _ _ _ _ _ _ _ _ _) rfl ⟨Nat.le_of_ble_eq_true rfl, Nat.le_of_ble_eq_true rfl⟩ (Nat.le_of_ble_eq_true rfl) ?_
  refine g_istore_n X dX7_yes_9 rfl (by decide) (lv2 := [(3, .int x_3), (0, .ref (a 0)), (1, .int p1), (2, .int p2)]) rfl (n := 10) rfl ?_
  refine g_iload_n X dX7_yes_10 0 rfl rfl (n := 11) rfl ?_
  refine g_if_ge X dX7_yes_11 (t := 23) (by decide) (n := 14) rfl (fun c_6 => ?_) (fun c_6 => ?_)
  · replace hf := k_pos c_6 hf
    refine g_aload_n X dX7_yes_23 1 rfl rfl (n := 24) rfl ?_
    refine g_iload_n X dX7_yes_24 2 rfl rfl (n := 25) rfl ?_
    obtain ⟨x_7, mq_8, g_9, hf⟩ := k_b2s hf
    refine g_callV0 X (mX7_yesNow (D := D) (l := l) (a := a) (mp := mp) (mh := mh) (ms := ms) (mr := mr) (mi := mi) g_9) lk_X7_yesNow mlX7_156 dX7_yes_25 (n := 28) rfl (st := []) rfl (st2 := [.long x_7]) rfl rfl rfl rfl (ws2 := pic_X7 D a mp mg mc ml_4 mq_8 mh ms mr mi) (ad_X7 _ _ _ _ _ _ _ _ _ _ _ _ _ _ _ _ _ _ _ _) rfl ⟨Nat.le_of_ble_eq_true rfl, Nat.le_of_ble_eq_true rfl⟩ (Nat.le_of_ble_eq_true rfl) ?_
    refine g_aload_n X dX7_yes_28 1 rfl rfl (n := 29) rfl ?_
    refine g_aload_n X dX7_yes_29 1 rfl rfl (n := 30) rfl ?_
    refine g_get X dX7_yes_30 flX7_89 0 rfl (v := .int ml_4.2.1) rfl (n := 33) rfl ?_
    refine g_iload_n X dX7_yes_33 2 rfl rfl (n := 34) rfl ?_
    obtain ⟨x_10, g_11, hf⟩ := k_b1s hf
    refine g_callV0 X (mX7_ways (D := D) (l := l) (a := a) (mp := mp) (mg := mg) (ml := ml_4) (mq := mq_8) (mh := mh) (ms := ms) (mr := mr) (mi := mi) g_11) lk_X7_ways mlX7_136 dX7_yes_34 (n := 37) rfl (st := [.long x_7]) rfl (st2 := [.long x_10, .long x_7]) rfl rfl rfl rfl (ws2 := pic_X7 D a mp mg mc ml_4 mq_8 mh ms mr mi) (ad_X7 _ _ _ _ _ _ _ _ _ _ _ _ _ _ _ _ _ _ _ _) rfl ⟨Nat.le_of_ble_eq_true rfl, Nat.le_of_ble_eq_true rfl⟩ (Nat.le_of_ble_eq_true rfl) ?_
    refine g_iload_n X dX7_yes_37 3 rfl rfl (n := 38) rfl ?_
    obtain ⟨x_12, g_13, hf⟩ := k_b1s hf
    refine g_callS0 X (mX7_term (D := D) (l := l)  g_13) lk_X7_term mlX7_160 dX7_yes_38 (n := 41) rfl (st := []) rfl (st2 := [.long x_12]) rfl rfl ⟨Nat.le_of_ble_eq_true rfl, Nat.le_of_ble_eq_true rfl⟩ (Nat.le_of_ble_eq_true rfl) ?_
    obtain rfl := Option.some.inj hf
    exact hret _ _ dX7_yes_41
  · replace hf := k_neg c_6 hf
    refine g_ldc2 X dX7_yes_14 kcX7_154 (n := 17) rfl ?_
    refine g_iload_n X dX7_yes_17 0 rfl rfl (n := 18) rfl ?_
    refine g_i2l X dX7_yes_18 (n := 19) rfl ?_
    refine g_ladd X dX7_yes_19 (n := 20) rfl ?_
    refine g_goto X dX7_yes_20 (n := 41) (by decide) ?_
    obtain rfl := Option.some.inj hf
    exact hret _ _ dX7_yes_41
set_option maxRecDepth 100000 in
set_option maxHeartbeats 4000000 in
theorem mX7_yes {l : Launch} {D : va_G} {N : Nat} {a : Nat → Nat} {p1 : Int32} {p2 : Int32} {mp : VMp} {mg : VMg} {mc : Nat → Int64} {ml : VMl} {mq : VMq} {mh : VMh} {ms : VMs} {mr : Nat → Int32} {mi : VMi} {res : Int64 × VMl × VMq} (hf : fX7_yes N mg mc p1 p2 ml mq = some res) : k_Met l yX7_yes cX7_yes 4 (some .long) 5 146 D [.ref (a 0), .int p1, .int p2] (pic_X7 D a mp mg mc ml mq mh ms mr mi) (some (.long res.1)) (pic_X7 D a mp mg mc res.2.1 res.2.2 mh ms mr mi) :=
  k_of_l (by decide) (Nat.le_of_ble_eq_true rfl) (fun E X hret => wX7_yes X hret hf)
set_option maxRecDepth 100000 in
set_option maxHeartbeats 4000000 in
theorem wX7_bits_b4 {D : va_G} {l : Launch} {E : k_E} {N : Nat} {k4 : Int32 → Int32 → Int32 → Option (Int32)} {v0 : Int32} {v1 : Int32} {v2 : Int32} {res : Int32} (X : k_X D E cX7_bits RX7 3 0 0) (hk4 : ∀ (v0 : Int32) (v1 : Int32) (v2 : Int32) , k4 v0 v1 v2 = some res → k_G D l E ([]) [(0, .int v0), (1, .int v1), (2, .int v2)] 4 []) (hret : ∀ (pc : Nat) (lv : List (Nat × Value)), decode cX7_bits pc = .ok (.ireturn, 1) → k_G D l E ([]) lv pc [.int res]) (hf : fX7_bits_b4 N k4 v0 v1 v2 = some res) : k_G D l E ([]) [(0, .int v0), (1, .int v1), (2, .int v2)] 4 [] := by
  unfold fX7_bits_b4 at hf
  refine g_iload_n X dX7_bits_4 2 rfl rfl (n := 5) rfl ?_
  refine g_bipush X dX7_bits_5 (v := 6) (by decide) (n := 7) rfl ?_
  refine g_icmp_ge X dX7_bits_7 (t := 24) (by decide) (n := 10) rfl (fun c_1 => ?_) (fun c_1 => ?_)
  · replace hf := k_pos c_1 hf
    refine g_iload_n X dX7_bits_24 1 rfl rfl (n := 25) rfl ?_
    obtain rfl := Option.some.inj hf
    exact hret _ _ dX7_bits_25
  · replace hf := k_neg c_1 hf
    refine g_iload_n X dX7_bits_10 1 rfl rfl (n := 11) rfl ?_
    refine g_iload_n X dX7_bits_11 0 rfl rfl (n := 12) rfl ?_
    refine g_iload_n X dX7_bits_12 2 rfl rfl (n := 13) rfl ?_
    refine g_ishr X dX7_bits_13 (n := 14) rfl ?_
    refine g_iconst X dX7_bits_14 (v := 1) (by decide) (n := 15) rfl ?_
    refine g_iand X dX7_bits_15 (n := 16) rfl ?_
    refine g_iadd X dX7_bits_16 (n := 17) rfl ?_
    refine g_istore_n X dX7_bits_17 rfl (by decide) (lv2 := [(1, .int (v1 + ((v0 >>> (v2 &&& 31)) &&& 1))), (0, .int v0), (2, .int v2)]) rfl (n := 18) rfl ?_
    refine g_iinc X dX7_bits_18 2 rfl (v := v2 + 1) rfl (by decide) (lv2 := [(2, .int (v2 + 1)), (1, .int (v1 + ((v0 >>> (v2 &&& 31)) &&& 1))), (0, .int v0)]) rfl (n := 21) rfl ?_
    refine g_goto X dX7_bits_21 (n := 4) (by decide) ?_
    refine g_sub [2, 1, 0] (lv' := [(0, .int v0), (1, .int (v1 + ((v0 >>> (v2 &&& 31)) &&& 1))), (2, .int (v2 + 1))]) rfl ?_
    exact hk4 _ _ _ hf
set_option maxRecDepth 100000 in
set_option maxHeartbeats 4000000 in
theorem wX7_bits_l4 {D : va_G} {l : Launch} {E : k_E} {N : Nat} {res : Int32} (X : k_X D E cX7_bits RX7 3 0 0) (hret : ∀ (pc : Nat) (lv : List (Nat × Value)), decode cX7_bits pc = .ok (.ireturn, 1) → k_G D l E ([]) lv pc [.int res]) : ∀ (n0 : Nat) (v0 : Int32) (v1 : Int32) (v2 : Int32) , fX7_bits_l4 N n0 v0 v1 v2 = some res → k_G D l E ([]) [(0, .int v0), (1, .int v1), (2, .int v2)] 4 [] := by
  intro n0
  induction n0 with
  | zero => intro v0 v1 v2 hf; cases hf
  | succ n0 ih => intro v0 v1 v2 hf; exact wX7_bits_b4 (N := N) (k4 := fX7_bits_l4 N n0) X  ih hret hf
set_option maxRecDepth 100000 in
set_option maxHeartbeats 4000000 in
theorem wX7_bits {D : va_G} {l : Launch} {E : k_E} {N : Nat} {p0 : Int32} {res : Int32} (X : k_X D E cX7_bits RX7 3 0 0) (hret : ∀ (pc : Nat) (lv : List (Nat × Value)), decode cX7_bits pc = .ok (.ireturn, 1) → k_G D l E ([]) lv pc [.int res]) (hf : fX7_bits N p0 = some res) : k_G D l E ([]) [(0, .int p0)] 0 [] := by
  unfold fX7_bits at hf
  refine g_iconst X dX7_bits_0 (v := 0) (by decide) (n := 1) rfl ?_
  refine g_istore_n X dX7_bits_1 rfl (by decide) (lv2 := [(1, .int 0), (0, .int p0)]) rfl (n := 2) rfl ?_
  refine g_iconst X dX7_bits_2 (v := 0) (by decide) (n := 3) rfl ?_
  refine g_istore_n X dX7_bits_3 rfl (by decide) (lv2 := [(2, .int 0), (1, .int 0), (0, .int p0)]) rfl (n := 4) rfl ?_
  refine g_sub [2, 1, 0] (lv' := [(0, .int p0), (1, .int 0), (2, .int 0)]) rfl ?_
  exact wX7_bits_l4 X  hret _ _ _ _ hf
set_option maxRecDepth 100000 in
set_option maxHeartbeats 4000000 in
theorem mX7_bits {l : Launch} {D : va_G} {N : Nat} {p0 : Int32} {res : Int32} (hf : fX7_bits N p0 = some res) : k_Met l yX7_bits cX7_bits 3 (some .int) 0 0 D [.int p0] ([]) (some (.int res)) ([]) :=
  k_of_i (by decide) (Nat.le_of_ble_eq_true rfl) (fun E X hret => wX7_bits X hret hf)
