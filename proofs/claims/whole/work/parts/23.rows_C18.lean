/-! walks: X7_against -/
set_option maxRecDepth 100000 in
set_option maxHeartbeats 4000000 in
theorem wX7_against_b124 {D : va_G} {l : Launch} {E : k_E} {N : Nat} {a : Nat → Nat} {k45 : Int32 → Int32 → Int32 → Int32 → VMl → VMq → Option (Int32 × VMl × VMq)} {v1 : Int32} {v2 : Int32} {v4 : Int32} {v5 : Int32} {s0 : Int64} {mp : VMp} {mg : VMg} {mc : Nat → Int64} {ml : VMl} {mq : VMq} {mh : VMh} {ms : VMs} {mr : Nat → Int32} {mi : VMi} {res : Int32 × VMl × VMq} (X : k_X D E cX7_against RX7 8 4 125) (hk45 : ∀ (v1 : Int32) (v2 : Int32) (v4 : Int32) (v5 : Int32) (ml : VMl) (mq : VMq), k45 v1 v2 v4 v5 ml mq = some res → k_G D l E (pic_X7 D a mp mg mc ml mq mh ms mr mi) [(0, .ref (a 0)), (1, .int v1), (2, .int v2), (4, .int v4), (5, .int v5)] 45 []) (hret : ∀ (pc : Nat) (lv : List (Nat × Value)), decode cX7_against pc = .ok (.ireturn, 1) → k_G D l E (pic_X7 D a mp mg mc res.2.1 res.2.2 mh ms mr mi) lv pc [.int res.1]) (hf : fX7_against_b124 N mg mc k45 v1 v2 v4 v5 s0 ml mq = some res) : k_G D l E (pic_X7 D a mp mg mc ml mq mh ms mr mi) [(0, .ref (a 0)), (1, .int v1), (2, .int v2), (4, .int v4), (5, .int v5)] 124 [.long s0] := by
  unfold fX7_against_b124 at hf
  refine g_lstore X dX7_against_124 (by decide) (lv2 := [(6, .long s0), (0, .ref (a 0)), (1, .int v1), (2, .int v2), (4, .int v4), (5, .int v5)]) rfl (n := 126) rfl ?_
  refine g_ldc2 X dX7_against_126 kcX7_209 (n := 129) rfl ?_
  refine g_lload X dX7_against_129 0 rfl (n := 131) rfl ?_
  refine g_lmul X dX7_against_131 (n := 132) rfl ?_
  refine g_aload_n X dX7_against_132 1 rfl rfl (n := 133) rfl ?_
  refine g_aload_n X dX7_against_133 1 rfl rfl (n := 134) rfl ?_
  refine g_get X dX7_against_134 flX7_89 0 rfl (v := .int ml.2.1) rfl (n := 137) rfl ?_
  refine g_iload X dX7_against_137 5 rfl (n := 139) rfl ?_
  refine g_iadd X dX7_against_139 (n := 140) rfl ?_
  refine g_iload_n X dX7_against_140 3 rfl rfl (n := 141) rfl ?_
  obtain ⟨x_1, g_2, hf⟩ := k_b1s hf
  refine g_callV0 X (mX7_ways (D := D) (l := l) (a := a) (mp := mp) (mg := mg) (ml := ml) (mq := mq) (mh := mh) (ms := ms) (mr := mr) (mi := mi) g_2) lk_X7_ways mlX7_136 dX7_against_141 (n := 144) rfl (st := [.long ((2 : Int64) * s0)]) rfl (st2 := [.long x_1, .long ((2 : Int64) * s0)]) rfl rfl rfl rfl (ws2 := pic_X7 D a mp mg mc ml mq mh ms mr mi) (ad_X7 _ _ _ _ _ _ _ _ _ _ _ _ _ _ _ _ _ _ _ _) rfl ⟨Nat.le_of_ble_eq_true rfl, Nat.le_of_ble_eq_true rfl⟩ (Nat.le_of_ble_eq_true rfl) ?_
  refine g_lcmp_ge X dX7_against_144 dX7_against_145 (t := 151) (by decide) (n := 148) rfl (fun c_3 => ?_) (fun c_3 => ?_)
  · replace hf := k_pos c_3 hf
    refine g_iinc X dX7_against_151 5 rfl (v := v5 + 1) rfl (by decide) (lv2 := [(5, .int (v5 + 1)), (6, .long s0), (0, .ref (a 0)), (1, .int v1), (2, .int v2), (4, .int v4)]) rfl (n := 154) rfl ?_
    refine g_goto X dX7_against_154 (n := 45) (by decide) ?_
    refine g_sub [2, 3, 4, 5, 0] (lv' := [(0, .ref (a 0)), (1, .int v1), (2, .int v2), (4, .int v4), (5, .int (v5 + 1))]) rfl ?_
    exact hk45 _ _ _ _ _ _ hf
  · replace hf := k_neg c_3 hf
    refine g_iload X dX7_against_148 5 rfl (n := 150) rfl ?_
    obtain rfl := Option.some.inj hf
    exact hret _ _ dX7_against_150
set_option maxRecDepth 100000 in
set_option maxHeartbeats 4000000 in
theorem wX7_against_b45 {D : va_G} {l : Launch} {E : k_E} {N : Nat} {a : Nat → Nat} {k45 : Int32 → Int32 → Int32 → Int32 → VMl → VMq → Option (Int32 × VMl × VMq)} {v1 : Int32} {v2 : Int32} {v4 : Int32} {v5 : Int32} {mp : VMp} {mg : VMg} {mc : Nat → Int64} {ml : VMl} {mq : VMq} {mh : VMh} {ms : VMs} {mr : Nat → Int32} {mi : VMi} {res : Int32 × VMl × VMq} (X : k_X D E cX7_against RX7 8 4 125) (hk45 : ∀ (v1 : Int32) (v2 : Int32) (v4 : Int32) (v5 : Int32) (ml : VMl) (mq : VMq), k45 v1 v2 v4 v5 ml mq = some res → k_G D l E (pic_X7 D a mp mg mc ml mq mh ms mr mi) [(0, .ref (a 0)), (1, .int v1), (2, .int v2), (4, .int v4), (5, .int v5)] 45 []) (hret : ∀ (pc : Nat) (lv : List (Nat × Value)), decode cX7_against pc = .ok (.ireturn, 1) → k_G D l E (pic_X7 D a mp mg mc res.2.1 res.2.2 mh ms mr mi) lv pc [.int res.1]) (hf : fX7_against_b45 N mg mc k45 v1 v2 v4 v5 ml mq = some res) : k_G D l E (pic_X7 D a mp mg mc ml mq mh ms mr mi) [(0, .ref (a 0)), (1, .int v1), (2, .int v2), (4, .int v4), (5, .int v5)] 45 [] := by
  unfold fX7_against_b45 at hf
  refine g_iload X dX7_against_45 4 rfl (n := 47) rfl ?_
  refine g_iload X dX7_against_47 3 rfl (n := 49) rfl ?_
  refine g_icmp_gt X dX7_against_49 (t := 157) (by decide) (n := 52) rfl (fun c_1 => ?_) (fun c_1 => ?_)
  · replace hf := k_pos c_1 hf
    refine g_bipush X dX7_against_157 (v := (-6)) (by decide) (n := 159) rfl ?_
    obtain rfl := Option.some.inj hf
    exact hret _ _ dX7_against_159
  · replace hf := k_neg c_1 hf
    refine g_aload_n X dX7_against_52 0 rfl rfl (n := 53) rfl ?_
    refine g_get X dX7_against_53 flX7_89 0 rfl (v := .int ml.2.1) rfl (n := 56) rfl ?_
    refine g_iload X dX7_against_56 4 rfl (n := 58) rfl ?_
    refine g_iadd X dX7_against_58 (n := 59) rfl ?_
    refine g_bipush X dX7_against_59 (v := 60) (by decide) (n := 61) rfl ?_
    refine g_icmp_gt X dX7_against_61 (t := 157) (by decide) (n := 64) rfl (fun c_2 => ?_) (fun c_2 => ?_)
    · replace hf := k_pos c_2 hf
      refine g_bipush X dX7_against_157 (v := (-6)) (by decide) (n := 159) rfl ?_
      obtain rfl := Option.some.inj hf
      exact hret _ _ dX7_against_159
    · replace hf := k_neg c_2 hf
      refine g_iload_n X dX7_against_64 1 rfl rfl (n := 65) rfl ?_
      refine g_if_ne X dX7_against_65 (t := 96) (by decide) (n := 68) rfl (fun c_3 => ?_) (fun c_3 => ?_)
      · replace hf := k_neg c_3 hf
        refine g_aload_n X dX7_against_96 0 rfl rfl (n := 97) rfl ?_
        refine g_aload_n X dX7_against_97 0 rfl rfl (n := 98) rfl ?_
        refine g_get X dX7_against_98 flX7_101 0 rfl (v := .int ml.2.2.2.2.2.1) rfl (n := 101) rfl ?_
        refine g_iload X dX7_against_101 4 rfl (n := 103) rfl ?_
        refine g_iadd X dX7_against_103 (n := 104) rfl ?_
        refine g_aload_n X dX7_against_104 0 rfl rfl (n := 105) rfl ?_
        refine g_get X dX7_against_105 flX7_95 0 rfl (v := .int ml.2.2.2.1) rfl (n := 108) rfl ?_
        refine g_aload_n X dX7_against_108 0 rfl rfl (n := 109) rfl ?_
        refine g_get X dX7_against_109 flX7_98 0 rfl (v := .int ml.2.2.2.2.1) rfl (n := 112) rfl ?_
        refine g_iadd X dX7_against_112 (n := 113) rfl ?_
        refine g_iload X dX7_against_113 4 rfl (n := 115) rfl ?_
        refine g_isub X dX7_against_115 (n := 116) rfl ?_
        refine g_aload_n X dX7_against_116 0 rfl rfl (n := 117) rfl ?_
        refine g_get X dX7_against_117 flX7_92 0 rfl (v := .int ml.2.2.1) rfl (n := 120) rfl ?_
        refine g_iload_n X dX7_against_120 2 rfl rfl (n := 121) rfl ?_
        obtain ⟨x_4, mq_5, g_6, hf⟩ := k_b2s hf
        refine g_callV0 X (mX7_yesOf (D := D) (l := l) (a := a) (mp := mp) (ml := ml) (mh := mh) (ms := ms) (mr := mr) (mi := mi) g_6) lk_X7_yesOf mlX7_147 dX7_against_121 (n := 124) rfl (st := []) rfl (st2 := [.long x_4]) rfl rfl rfl rfl (ws2 := pic_X7 D a mp mg mc ml mq_5 mh ms mr mi) (ad_X7 _ _ _ _ _ _ _ _ _ _ _ _ _ _ _ _ _ _ _ _) rfl ⟨Nat.le_of_ble_eq_true rfl, Nat.le_of_ble_eq_true rfl⟩ (Nat.le_of_ble_eq_true rfl) ?_
        refine g_sub [0, 1, 2, 3, 4] (lv' := [(0, .ref (a 0)), (1, .int v1), (2, .int v2), (4, .int v4), (5, .int v5)]) rfl ?_
        exact wX7_against_b124 X hk45 hret hf
      · replace hf := k_pos c_3 hf
        refine g_aload_n X dX7_against_68 0 rfl rfl (n := 69) rfl ?_
        refine g_aload_n X dX7_against_69 0 rfl rfl (n := 70) rfl ?_
        refine g_get X dX7_against_70 flX7_101 0 rfl (v := .int ml.2.2.2.2.2.1) rfl (n := 73) rfl ?_
        refine g_aload_n X dX7_against_73 0 rfl rfl (n := 74) rfl ?_
        refine g_get X dX7_against_74 flX7_95 0 rfl (v := .int ml.2.2.2.1) rfl (n := 77) rfl ?_
        refine g_aload_n X dX7_against_77 0 rfl rfl (n := 78) rfl ?_
        refine g_get X dX7_against_78 flX7_98 0 rfl (v := .int ml.2.2.2.2.1) rfl (n := 81) rfl ?_
        refine g_iadd X dX7_against_81 (n := 82) rfl ?_
        refine g_aload_n X dX7_against_82 0 rfl rfl (n := 83) rfl ?_
        refine g_get X dX7_against_83 flX7_92 0 rfl (v := .int ml.2.2.1) rfl (n := 86) rfl ?_
        refine g_iload X dX7_against_86 4 rfl (n := 88) rfl ?_
        refine g_iadd X dX7_against_88 (n := 89) rfl ?_
        refine g_iload_n X dX7_against_89 2 rfl rfl (n := 90) rfl ?_
        obtain ⟨x_7, mq_8, g_9, hf⟩ := k_b2s hf
        refine g_callV0 X (mX7_yesOf (D := D) (l := l) (a := a) (mp := mp) (ml := ml) (mh := mh) (ms := ms) (mr := mr) (mi := mi) g_9) lk_X7_yesOf mlX7_147 dX7_against_90 (n := 93) rfl (st := []) rfl (st2 := [.long x_7]) rfl rfl rfl rfl (ws2 := pic_X7 D a mp mg mc ml mq_8 mh ms mr mi) (ad_X7 _ _ _ _ _ _ _ _ _ _ _ _ _ _ _ _ _ _ _ _) rfl ⟨Nat.le_of_ble_eq_true rfl, Nat.le_of_ble_eq_true rfl⟩ (Nat.le_of_ble_eq_true rfl) ?_
        refine g_goto X dX7_against_93 (n := 124) (by decide) ?_
        refine g_sub [0, 1, 2, 3, 4] (lv' := [(0, .ref (a 0)), (1, .int v1), (2, .int v2), (4, .int v4), (5, .int v5)]) rfl ?_
        exact wX7_against_b124 X hk45 hret hf
set_option maxRecDepth 100000 in
set_option maxHeartbeats 4000000 in
theorem wX7_against_l45 {D : va_G} {l : Launch} {E : k_E} {N : Nat} {a : Nat → Nat} {mp : VMp} {mg : VMg} {mc : Nat → Int64} {mh : VMh} {ms : VMs} {mr : Nat → Int32} {mi : VMi} {res : Int32 × VMl × VMq} (X : k_X D E cX7_against RX7 8 4 125) (hret : ∀ (pc : Nat) (lv : List (Nat × Value)), decode cX7_against pc = .ok (.ireturn, 1) → k_G D l E (pic_X7 D a mp mg mc res.2.1 res.2.2 mh ms mr mi) lv pc [.int res.1]) : ∀ (n0 : Nat) (v1 : Int32) (v2 : Int32) (v4 : Int32) (v5 : Int32) (ml : VMl) (mq : VMq), fX7_against_l45 N mg mc n0 v1 v2 v4 v5 ml mq = some res → k_G D l E (pic_X7 D a mp mg mc ml mq mh ms mr mi) [(0, .ref (a 0)), (1, .int v1), (2, .int v2), (4, .int v4), (5, .int v5)] 45 [] := by
  intro n0
  induction n0 with
  | zero => intro v1 v2 v4 v5 ml mq hf; cases hf
  | succ n0 ih => intro v1 v2 v4 v5 ml mq hf; exact wX7_against_b45 (N := N) (k45 := fX7_against_l45 N mg mc n0) X  ih hret hf
set_option maxRecDepth 100000 in
set_option maxHeartbeats 4000000 in
theorem wX7_against_b40 {D : va_G} {l : Launch} {E : k_E} {N : Nat} {a : Nat → Nat} {v1 : Int32} {v2 : Int32} {s0 : Int32} {mp : VMp} {mg : VMg} {mc : Nat → Int64} {ml : VMl} {mq : VMq} {mh : VMh} {ms : VMs} {mr : Nat → Int32} {mi : VMi} {res : Int32 × VMl × VMq} (X : k_X D E cX7_against RX7 8 4 125) (hret : ∀ (pc : Nat) (lv : List (Nat × Value)), decode cX7_against pc = .ok (.ireturn, 1) → k_G D l E (pic_X7 D a mp mg mc res.2.1 res.2.2 mh ms mr mi) lv pc [.int res.1]) (hf : fX7_against_b40 N mg mc v1 v2 s0 ml mq = some res) : k_G D l E (pic_X7 D a mp mg mc ml mq mh ms mr mi) [(0, .ref (a 0)), (1, .int v1), (2, .int v2)] 40 [.int s0] := by
  unfold fX7_against_b40 at hf
  refine g_istore X dX7_against_40 (by decide) (lv2 := [(4, .int s0), (0, .ref (a 0)), (1, .int v1), (2, .int v2)]) rfl (n := 42) rfl ?_
  refine g_iconst X dX7_against_42 (v := 0) (by decide) (n := 43) rfl ?_
  refine g_istore X dX7_against_43 (by decide) (lv2 := [(5, .int 0), (4, .int s0), (0, .ref (a 0)), (1, .int v1), (2, .int v2)]) rfl (n := 45) rfl ?_
  refine g_sub [2, 3, 4, 1, 0] (lv' := [(0, .ref (a 0)), (1, .int v1), (2, .int v2), (4, .int s0), (5, .int 0)]) rfl ?_
  exact wX7_against_l45 X  hret _ _ _ _ _ _ _ hf
set_option maxRecDepth 100000 in
set_option maxHeartbeats 4000000 in
theorem wX7_against_b31 {D : va_G} {l : Launch} {E : k_E} {N : Nat} {a : Nat → Nat} {v1 : Int32} {v2 : Int32} {mp : VMp} {mg : VMg} {mc : Nat → Int64} {ml : VMl} {mq : VMq} {mh : VMh} {ms : VMs} {mr : Nat → Int32} {mi : VMi} {res : Int32 × VMl × VMq} (X : k_X D E cX7_against RX7 8 4 125) (hret : ∀ (pc : Nat) (lv : List (Nat × Value)), decode cX7_against pc = .ok (.ireturn, 1) → k_G D l E (pic_X7 D a mp mg mc res.2.1 res.2.2 mh ms mr mi) lv pc [.int res.1]) (hf : fX7_against_b31 N mg mc v1 v2 ml mq = some res) : k_G D l E (pic_X7 D a mp mg mc ml mq mh ms mr mi) [(0, .ref (a 0)), (1, .int v1), (2, .int v2)] 31 [] := by
  unfold fX7_against_b31 at hf
  refine g_bipush X dX7_against_31 (v := 30) (by decide) (n := 33) rfl ?_
  refine g_goto X dX7_against_33 (n := 40) (by decide) ?_
  refine g_sub [0, 1, 2] (lv' := [(0, .ref (a 0)), (1, .int v1), (2, .int v2)]) rfl ?_
  exact wX7_against_b40 X  hret hf
set_option maxRecDepth 100000 in
set_option maxHeartbeats 4000000 in
theorem wX7_against {D : va_G} {l : Launch} {E : k_E} {N : Nat} {a : Nat → Nat} {p1 : Int32} {p2 : Int32} {mp : VMp} {mg : VMg} {mc : Nat → Int64} {ml : VMl} {mq : VMq} {mh : VMh} {ms : VMs} {mr : Nat → Int32} {mi : VMi} {res : Int32 × VMl × VMq} (X : k_X D E cX7_against RX7 8 4 125) (hret : ∀ (pc : Nat) (lv : List (Nat × Value)), decode cX7_against pc = .ok (.ireturn, 1) → k_G D l E (pic_X7 D a mp mg mc res.2.1 res.2.2 mh ms mr mi) lv pc [.int res.1]) (hf : fX7_against N mg mc p1 p2 ml mq = some res) : k_G D l E (pic_X7 D a mp mg mc ml mq mh ms mr mi) [(0, .ref (a 0)), (1, .int p1), (2, .int p2)] 0 [] := by
  unfold fX7_against at hf
  refine g_aload_n X dX7_against_0 0 rfl rfl (n := 1) rfl ?_
  refine g_iload_n X dX7_against_1 2 rfl rfl (n := 2) rfl ?_
  refine g_iload_n X dX7_against_2 1 rfl rfl (n := 3) rfl ?_
  refine g_iconst X dX7_against_3 (v := 0) (by decide) (n := 4) rfl ?_
  refine g_iconst X dX7_against_4 (v := 1) (by decide) (n := 5) rfl ?_
  obtain ⟨x_1, g_2, hf⟩ := k_b1s hf
  refine g_callS0 X (mX7_in (D := D) (l := l)  g_2) lk_X7_in mlX7_58 dX7_against_5 (n := 8) rfl (st := [.int p2, .ref (a 0)]) rfl (st2 := [.int (bI x_1), .int p2, .ref (a 0)]) rfl rfl ⟨Nat.le_of_ble_eq_true rfl, Nat.le_of_ble_eq_true rfl⟩ (Nat.le_of_ble_eq_true rfl) ?_
  obtain ⟨x_3, ml_4, g_5, hf⟩ := k_b2s hf
  refine g_callV0 X (mX7_barOfLot (D := D) (l := l) (a := a) (mp := mp) (mc := mc) (mq := mq) (mh := mh) (ms := ms) (mr := mr) (mi := mi) g_5) lk_X7_barOfLot mlX7_150 dX7_against_8 (n := 11) rfl (st := []) rfl (st2 := [.int x_3]) rfl rfl rfl rfl (ws2 := pic_X7 D a mp mg mc ml_4 mq mh ms mr mi) (ad_X7 _ _ _ _ _ _ _ _ _ _ _ _ _ _ _ _ _ _ _ _) rfl ⟨Nat.le_of_ble_eq_true rfl, Nat.le_of_ble_eq_true rfl⟩ (Nat.le_of_ble_eq_true rfl) ?_
  refine g_istore_n X dX7_against_11 rfl (by decide) (lv2 := [(3, .int x_3), (0, .ref (a 0)), (1, .int p1), (2, .int p2)]) rfl (n := 12) rfl ?_
  refine g_iload_n X dX7_against_12 0 rfl rfl (n := 13) rfl ?_
  refine g_if_ge X dX7_against_13 (t := 18) (by decide) (n := 16) rfl (fun c_6 => ?_) (fun c_6 => ?_)
  · replace hf := k_pos c_6 hf
    refine g_iload_n X dX7_against_18 2 rfl rfl (n := 19) rfl ?_
    refine g_if_eq X dX7_against_19 (t := 31) (by decide) (n := 22) rfl (fun c_7 => ?_) (fun c_7 => ?_)
    · replace hf := k_pos c_7 hf
      refine g_sub [1, 2, 3] (lv' := [(0, .ref (a 0)), (1, .int p1), (2, .int p2)]) rfl ?_
      exact wX7_against_b31 X  hret hf
    · replace hf := k_neg c_7 hf
      refine g_aload_n X dX7_against_22 1 rfl rfl (n := 23) rfl ?_
      refine g_get X dX7_against_23 flX7_95 0 rfl (v := .int ml_4.2.2.2.1) rfl (n := 26) rfl ?_
      refine g_bipush X dX7_against_26 (v := 30) (by decide) (n := 28) rfl ?_
      refine g_icmp_le X dX7_against_28 (t := 36) (by decide) (n := 31) rfl (fun c_8 => ?_) (fun c_8 => ?_)
      · replace hf := k_pos c_8 hf
        refine g_aload_n X dX7_against_36 1 rfl rfl (n := 37) rfl ?_
        refine g_get X dX7_against_37 flX7_95 0 rfl (v := .int ml_4.2.2.2.1) rfl (n := 40) rfl ?_
        refine g_sub [1, 2, 3] (lv' := [(0, .ref (a 0)), (1, .int p1), (2, .int p2)]) rfl ?_
        exact wX7_against_b40 X  hret hf
      · replace hf := k_neg c_8 hf
        refine g_sub [1, 2, 3] (lv' := [(0, .ref (a 0)), (1, .int p1), (2, .int p2)]) rfl ?_
        exact wX7_against_b31 X  hret hf
  · replace hf := k_neg c_6 hf
    refine g_iload_n X dX7_against_16 0 rfl rfl (n := 17) rfl ?_
    obtain rfl := Option.some.inj hf
    exact hret _ _ dX7_against_17
set_option maxRecDepth 100000 in
set_option maxHeartbeats 4000000 in
theorem mX7_against {l : Launch} {D : va_G} {N : Nat} {a : Nat → Nat} {p1 : Int32} {p2 : Int32} {mp : VMp} {mg : VMg} {mc : Nat → Int64} {ml : VMl} {mq : VMq} {mh : VMh} {ms : VMs} {mr : Nat → Int32} {mi : VMi} {res : Int32 × VMl × VMq} (hf : fX7_against N mg mc p1 p2 ml mq = some res) : k_Met l yX7_against cX7_against 8 (some .int) 4 125 D [.ref (a 0), .int p1, .int p2] (pic_X7 D a mp mg mc ml mq mh ms mr mi) (some (.int res.1)) (pic_X7 D a mp mg mc res.2.1 res.2.2 mh ms mr mi) :=
  k_of_i (by decide) (Nat.le_of_ble_eq_true rfl) (fun E X hret => wX7_against X hret hf)
