/-! walks: X6_against X6_numberList X6_takeOut X6_drawHeap X6_heap X6_imageOf -/
set_option maxRecDepth 100000 in
set_option maxHeartbeats 4000000 in
theorem wX6_against_b97 {D : va_G} {l : Launch} {E : k_E} {N : Nat} {a : Nat → Nat} {k80 : Int32 → Int32 → Int32 → Int32 → VX4 → VX1 → VX2 → Option (Int32 × VX4 × VX1 × VX2)} {v1 : Int32} {v2 : Int32} {v3 : Int32} {v4 : Int32} {s0 : Int32} {pad : VX5} {now : VX3} {fi : VX3} {se : VX3} {li : VX4} {so : VX4} {lo : VX1} {re : VX2} {ru : VX0} {ot : VX0} {le : Nat → Int32} {res : Int32 × VX4 × VX1 × VX2} (X : k_X D E cX6_against RX6 6 5 134) (hk80 : ∀ (v1 : Int32) (v2 : Int32) (v3 : Int32) (v4 : Int32) (li : VX4) (lo : VX1) (re : VX2), k80 v1 v2 v3 v4 li lo re = some res → k_G D l E (pic_X6 D a pad now fi se li so lo re ru ot le) [(0, .ref (a 0)), (1, .int v1), (2, .int v2), (3, .int v3), (4, .int v4)] 80 []) (hret : ∀ (pc : Nat) (lv : List (Nat × Value)), decode cX6_against pc = .ok (.ireturn, 1) → k_G D l E (pic_X6 D a pad now fi se res.2.1 so res.2.2.1 res.2.2.2 ru ot le) lv pc [.int res.1]) (hf : fX6_against_b97 N now k80 v1 v2 v3 v4 s0 li lo re = some res) : k_G D l E (pic_X6 D a pad now fi se li so lo re ru ot le) [(0, .ref (a 0)), (1, .int v1), (2, .int v2), (3, .int v3), (4, .int v4)] 97 [.int s0] := by
  unfold fX6_against_b97 at hf
  refine g_istore X dX6_against_97 (by decide) (lv2 := [(5, .int s0), (0, .ref (a 0)), (1, .int v1), (2, .int v2), (3, .int v3), (4, .int v4)]) rfl (n := 99) rfl ?_
  refine g_aload_n X dX6_against_99 1 rfl rfl (n := 100) rfl ?_
  refine g_get X dX6_against_100 flX6_44 0 rfl (v := .ref (a 25)) rfl (n := 103) rfl ?_
  refine g_aload_n X dX6_against_103 1 rfl rfl (n := 104) rfl ?_
  refine g_get X dX6_against_104 flX6_34 0 rfl (v := .ref (a 21)) rfl (n := 107) rfl ?_
  obtain ⟨x_1, g_2, hf⟩ := k_b1s hf
  refine g_callV X (mX4_singles (D := D) (l := l) (a0 := (a 21)) (a1 := (a 22)) g_2) lk_X4_singles mlX6_265 dX6_against_107 (n := 110) rfl (st := [.ref (a 25)]) rfl (st2 := [.int x_1, .ref (a 25)]) rfl [21, 22] rfl rfl rfl rfl rfl rfl (ws2 := pic_X6 D a pad now fi se li so lo re ru ot le) rfl rfl rfl ⟨Nat.le_of_ble_eq_true rfl, Nat.le_of_ble_eq_true rfl⟩ (Nat.le_of_ble_eq_true rfl) ?_
  refine g_iload X dX6_against_110 0 rfl (n := 112) rfl ?_
  refine g_isub X dX6_against_112 (n := 113) rfl ?_
  refine g_aload_n X dX6_against_113 1 rfl rfl (n := 114) rfl ?_
  refine g_get X dX6_against_114 flX6_34 0 rfl (v := .ref (a 21)) rfl (n := 117) rfl ?_
  refine g_getN X dX6_against_117 flX6_121 21 rfl (v := .int li.2.2.1) rfl (n := 120) rfl ?_
  refine g_iload X dX6_against_120 5 rfl (n := 122) rfl ?_
  refine g_iadd X dX6_against_122 (n := 123) rfl ?_
  refine g_iload X dX6_against_123 0 rfl (n := 125) rfl ?_
  refine g_isub X dX6_against_125 (n := 126) rfl ?_
  refine g_aload_n X dX6_against_126 1 rfl rfl (n := 127) rfl ?_
  refine g_get X dX6_against_127 flX6_34 0 rfl (v := .ref (a 21)) rfl (n := 130) rfl ?_
  refine g_getN X dX6_against_130 flX6_128 21 rfl (v := .int li.2.2.2.2.2.1) rfl (n := 133) rfl ?_
  refine g_iload X dX6_against_133 0 rfl (n := 135) rfl ?_
  refine g_iadd X dX6_against_135 (n := 136) rfl ?_
  obtain ⟨lo_3, g_4, hf⟩ := k_b1s hf
  refine g_callV X (mX1_lay (D := D) (l := l) (a0 := (a 25)) (a1 := (a 26)) (a2 := (a 27)) g_4) lk_X1_lay mlX6_268 dX6_against_136 (n := 139) rfl (st := []) rfl (st2 := []) rfl [25, 26, 27] rfl rfl rfl rfl rfl rfl (ws2 := pic_X6 D a pad now fi se li so lo_3 re ru ot le) rfl rfl rfl ⟨Nat.le_of_ble_eq_true rfl, Nat.le_of_ble_eq_true rfl⟩ (Nat.le_of_ble_eq_true rfl) ?_
  refine g_ldc2 X dX6_against_139 kcX6_272 (n := 142) rfl ?_
  refine g_aload_n X dX6_against_142 1 rfl rfl (n := 143) rfl ?_
  refine g_iload_n X dX6_against_143 3 rfl rfl (n := 144) rfl ?_
  obtain ⟨x_5, re_6, g_7, hf⟩ := k_b2s hf
  refine g_callV0 X (mX6_waysToYes (D := D) (l := l) (a := a) (pad := pad) (fi := fi) (se := se) (li := li) (so := so) (ru := ru) (ot := ot) (le := le) g_7) lk_X6_waysToYes mlX6_180 dX6_against_144 (n := 147) rfl (st := [.long (2 : Int64)]) rfl (st2 := [.long x_5, .long (2 : Int64)]) rfl rfl rfl rfl (ws2 := pic_X6 D a pad now fi se li so lo_3 re_6 ru ot le) (ad_X6 _ _ _ _ _ _ _ _ _ _ _ _ _ _ _ _ _ _ _ _ _ _ _ _) rfl ⟨Nat.le_of_ble_eq_true rfl, Nat.le_of_ble_eq_true rfl⟩ (Nat.le_of_ble_eq_true rfl) ?_
  refine g_lmul X dX6_against_147 (n := 148) rfl ?_
  refine g_aload_n X dX6_against_148 1 rfl rfl (n := 149) rfl ?_
  refine g_get X dX6_against_149 flX6_44 0 rfl (v := .ref (a 25)) rfl (n := 152) rfl ?_
  refine g_aload_n X dX6_against_152 1 rfl rfl (n := 153) rfl ?_
  refine g_get X dX6_against_153 flX6_44 0 rfl (v := .ref (a 25)) rfl (n := 156) rfl ?_
  obtain ⟨x_8, g_9, hf⟩ := k_b1s hf
  refine g_callV X (mX1_all (D := D) (l := l) (a0 := (a 25)) (a1 := (a 26)) (a2 := (a 27)) g_9) lk_X1_all mlX6_274 dX6_against_156 (n := 159) rfl (st := [.ref (a 25), .long ((2 : Int64) * x_5)]) rfl (st2 := [.int x_8, .ref (a 25), .long ((2 : Int64) * x_5)]) rfl [25, 26, 27] rfl rfl rfl rfl rfl rfl (ws2 := pic_X6 D a pad now fi se li so lo_3 re_6 ru ot le) rfl rfl rfl ⟨Nat.le_of_ble_eq_true rfl, Nat.le_of_ble_eq_true rfl⟩ (Nat.le_of_ble_eq_true rfl) ?_
  refine g_iload_n X dX6_against_159 3 rfl rfl (n := 160) rfl ?_
  obtain ⟨x_10, g_11, hf⟩ := k_b1s hf
  refine g_callV X (mX1_choose (D := D) (l := l) (a0 := (a 25)) (a1 := (a 26)) (a2 := (a 27)) g_11) lk_X1_choose mlX6_183 dX6_against_160 (n := 163) rfl (st := [.long ((2 : Int64) * x_5)]) rfl (st2 := [.long x_10, .long ((2 : Int64) * x_5)]) rfl [25, 26, 27] rfl rfl rfl rfl rfl rfl (ws2 := pic_X6 D a pad now fi se li so lo_3 re_6 ru ot le) rfl rfl rfl ⟨Nat.le_of_ble_eq_true rfl, Nat.le_of_ble_eq_true rfl⟩ (Nat.le_of_ble_eq_true rfl) ?_
  refine g_lcmp_ge X dX6_against_163 dX6_against_164 (t := 170) (by decide) (n := 167) rfl (fun c_12 => ?_) (fun c_12 => ?_)
  · replace hf := k_pos c_12 hf
    refine g_iinc X dX6_against_170 5 rfl (v := v4 + 1) rfl (by decide) (lv2 := [(4, .int (v4 + 1)), (5, .int s0), (0, .ref (a 0)), (1, .int v1), (2, .int v2), (3, .int v3)]) rfl (n := 173) rfl ?_
    refine g_goto X dX6_against_173 (n := 80) (by decide) ?_
    refine g_sub [2, 3, 4, 5, 0] (lv' := [(0, .ref (a 0)), (1, .int v1), (2, .int v2), (3, .int v3), (4, .int (v4 + 1))]) rfl ?_
    exact hk80 _ _ _ _ _ _ _ hf
  · replace hf := k_neg c_12 hf
    refine g_iload X dX6_against_167 5 rfl (n := 169) rfl ?_
    obtain rfl := Option.some.inj hf
    exact hret _ _ dX6_against_169
set_option maxRecDepth 100000 in
set_option maxHeartbeats 4000000 in
theorem wX6_against_b80 {D : va_G} {l : Launch} {E : k_E} {N : Nat} {a : Nat → Nat} {k80 : Int32 → Int32 → Int32 → Int32 → VX4 → VX1 → VX2 → Option (Int32 × VX4 × VX1 × VX2)} {v1 : Int32} {v2 : Int32} {v3 : Int32} {v4 : Int32} {pad : VX5} {now : VX3} {fi : VX3} {se : VX3} {li : VX4} {so : VX4} {lo : VX1} {re : VX2} {ru : VX0} {ot : VX0} {le : Nat → Int32} {res : Int32 × VX4 × VX1 × VX2} (X : k_X D E cX6_against RX6 6 5 134) (hk80 : ∀ (v1 : Int32) (v2 : Int32) (v3 : Int32) (v4 : Int32) (li : VX4) (lo : VX1) (re : VX2), k80 v1 v2 v3 v4 li lo re = some res → k_G D l E (pic_X6 D a pad now fi se li so lo re ru ot le) [(0, .ref (a 0)), (1, .int v1), (2, .int v2), (3, .int v3), (4, .int v4)] 80 []) (hret : ∀ (pc : Nat) (lv : List (Nat × Value)), decode cX6_against pc = .ok (.ireturn, 1) → k_G D l E (pic_X6 D a pad now fi se res.2.1 so res.2.2.1 res.2.2.2 ru ot le) lv pc [.int res.1]) (hf : fX6_against_b80 N now k80 v1 v2 v3 v4 li lo re = some res) : k_G D l E (pic_X6 D a pad now fi se li so lo re ru ot le) [(0, .ref (a 0)), (1, .int v1), (2, .int v2), (3, .int v3), (4, .int v4)] 80 [] := by
  unfold fX6_against_b80 at hf
  refine g_iload X dX6_against_80 4 rfl (n := 82) rfl ?_
  refine g_iload_n X dX6_against_82 3 rfl rfl (n := 83) rfl ?_
  refine g_icmp_gt X dX6_against_83 (t := 176) (by decide) (n := 86) rfl (fun c_1 => ?_) (fun c_1 => ?_)
  · replace hf := k_pos c_1 hf
    refine g_bipush X dX6_against_176 (v := (-6)) (by decide) (n := 178) rfl ?_
    obtain rfl := Option.some.inj hf
    exact hret _ _ dX6_against_178
  · replace hf := k_neg c_1 hf
    refine g_iload_n X dX6_against_86 1 rfl rfl (n := 87) rfl ?_
    refine g_iconst X dX6_against_87 (v := 1) (by decide) (n := 88) rfl ?_
    refine g_icmp_ne X dX6_against_88 (t := 96) (by decide) (n := 91) rfl (fun c_2 => ?_) (fun c_2 => ?_)
    · replace hf := k_neg c_2 hf
      refine g_iconst X dX6_against_96 (v := 0) (by decide) (n := 97) rfl ?_
      refine g_sub [0, 1, 2, 3, 4] (lv' := [(0, .ref (a 0)), (1, .int v1), (2, .int v2), (3, .int v3), (4, .int v4)]) rfl ?_
      exact wX6_against_b97 X hk80 hret hf
    · replace hf := k_pos c_2 hf
      refine g_iload X dX6_against_91 4 rfl (n := 93) rfl ?_
      refine g_goto X dX6_against_93 (n := 97) (by decide) ?_
      refine g_sub [0, 1, 2, 3, 4] (lv' := [(0, .ref (a 0)), (1, .int v1), (2, .int v2), (3, .int v3), (4, .int v4)]) rfl ?_
      exact wX6_against_b97 X hk80 hret hf
set_option maxRecDepth 100000 in
set_option maxHeartbeats 4000000 in
theorem wX6_against_l80 {D : va_G} {l : Launch} {E : k_E} {N : Nat} {a : Nat → Nat} {pad : VX5} {now : VX3} {fi : VX3} {se : VX3} {so : VX4} {ru : VX0} {ot : VX0} {le : Nat → Int32} {res : Int32 × VX4 × VX1 × VX2} (X : k_X D E cX6_against RX6 6 5 134) (hret : ∀ (pc : Nat) (lv : List (Nat × Value)), decode cX6_against pc = .ok (.ireturn, 1) → k_G D l E (pic_X6 D a pad now fi se res.2.1 so res.2.2.1 res.2.2.2 ru ot le) lv pc [.int res.1]) : ∀ (n0 : Nat) (v1 : Int32) (v2 : Int32) (v3 : Int32) (v4 : Int32) (li : VX4) (lo : VX1) (re : VX2), fX6_against_l80 N now n0 v1 v2 v3 v4 li lo re = some res → k_G D l E (pic_X6 D a pad now fi se li so lo re ru ot le) [(0, .ref (a 0)), (1, .int v1), (2, .int v2), (3, .int v3), (4, .int v4)] 80 [] := by
  intro n0
  induction n0 with
  | zero => intro v1 v2 v3 v4 li lo re hf; cases hf
  | succ n0 ih => intro v1 v2 v3 v4 li lo re hf; exact wX6_against_b80 (N := N) (k80 := fX6_against_l80 N now n0) X  ih hret hf
set_option maxRecDepth 100000 in
set_option maxHeartbeats 4000000 in
theorem wX6_against_b77 {D : va_G} {l : Launch} {E : k_E} {N : Nat} {a : Nat → Nat} {v1 : Int32} {v2 : Int32} {v3 : Int32} {pad : VX5} {now : VX3} {fi : VX3} {se : VX3} {li : VX4} {so : VX4} {lo : VX1} {re : VX2} {ru : VX0} {ot : VX0} {le : Nat → Int32} {res : Int32 × VX4 × VX1 × VX2} (X : k_X D E cX6_against RX6 6 5 134) (hret : ∀ (pc : Nat) (lv : List (Nat × Value)), decode cX6_against pc = .ok (.ireturn, 1) → k_G D l E (pic_X6 D a pad now fi se res.2.1 so res.2.2.1 res.2.2.2 ru ot le) lv pc [.int res.1]) (hf : fX6_against_b77 N now v1 v2 v3 li lo re = some res) : k_G D l E (pic_X6 D a pad now fi se li so lo re ru ot le) [(0, .ref (a 0)), (1, .int v1), (2, .int v2), (3, .int v3)] 77 [] := by
  unfold fX6_against_b77 at hf
  refine g_iconst X dX6_against_77 (v := 0) (by decide) (n := 78) rfl ?_
  refine g_istore X dX6_against_78 (by decide) (lv2 := [(4, .int 0), (0, .ref (a 0)), (1, .int v1), (2, .int v2), (3, .int v3)]) rfl (n := 80) rfl ?_
  refine g_sub [1, 2, 3, 4, 0] (lv' := [(0, .ref (a 0)), (1, .int v1), (2, .int v2), (3, .int v3), (4, .int 0)]) rfl ?_
  exact wX6_against_l80 X  hret _ _ _ _ _ _ _ _ hf
set_option maxRecDepth 100000 in
set_option maxHeartbeats 4000000 in
theorem wX6_against {D : va_G} {l : Launch} {E : k_E} {N : Nat} {a : Nat → Nat} {p1 : Int32} {p2 : Int32} {pad : VX5} {now : VX3} {fi : VX3} {se : VX3} {li : VX4} {so : VX4} {lo : VX1} {re : VX2} {ru : VX0} {ot : VX0} {le : Nat → Int32} {res : Int32 × VX4 × VX1 × VX2} (X : k_X D E cX6_against RX6 6 5 134) (hret : ∀ (pc : Nat) (lv : List (Nat × Value)), decode cX6_against pc = .ok (.ireturn, 1) → k_G D l E (pic_X6 D a pad now fi se res.2.1 so res.2.2.1 res.2.2.2 ru ot le) lv pc [.int res.1]) (hf : fX6_against N now p1 p2 li lo re = some res) : k_G D l E (pic_X6 D a pad now fi se li so lo re ru ot le) [(0, .ref (a 0)), (1, .int p1), (2, .int p2)] 0 [] := by
  unfold fX6_against at hf
  refine g_aload_n X dX6_against_0 0 rfl rfl (n := 1) rfl ?_
  obtain ⟨li_1, g_2, hf⟩ := k_b1s hf
  refine g_callV0 X (mX6_readList (D := D) (l := l) (a := a) (pad := pad) (fi := fi) (se := se) (so := so) (lo := lo) (re := re) (ru := ru) (ot := ot) (le := le) g_2) lk_X6_readList mlX6_115 dX6_against_1 (n := 4) rfl (st := []) rfl (st2 := []) rfl rfl rfl rfl (ws2 := pic_X6 D a pad now fi se li_1 so lo re ru ot le) (ad_X6 _ _ _ _ _ _ _ _ _ _ _ _ _ _ _ _ _ _ _ _ _ _ _ _) rfl ⟨Nat.le_of_ble_eq_true rfl, Nat.le_of_ble_eq_true rfl⟩ (Nat.le_of_ble_eq_true rfl) ?_
  refine g_iload_n X dX6_against_4 1 rfl rfl (n := 5) rfl ?_
  refine g_iconst X dX6_against_5 (v := 0) (by decide) (n := 6) rfl ?_
  refine g_iconst X dX6_against_6 (v := 1) (by decide) (n := 7) rfl ?_
  obtain ⟨x_3, g_4, hf⟩ := k_b1s hf
  refine g_callS0 X (mX6_isWithin (D := D) (l := l)  g_4) lk_X6_isWithin mlX6_69 dX6_against_7 (n := 10) rfl (st := []) rfl (st2 := [.int (bI x_3)]) rfl rfl ⟨Nat.le_of_ble_eq_true rfl, Nat.le_of_ble_eq_true rfl⟩ (Nat.le_of_ble_eq_true rfl) ?_
  refine g_if_eqB X dX6_against_10 (t := 28) (by decide) (n := 13) rfl (fun c_5 => ?_) (fun c_5 => ?_)
  · replace hf := k_neg c_5 hf
    refine g_bipush X dX6_against_28 (v := (-2)) (by decide) (n := 30) rfl ?_
    obtain rfl := Option.some.inj hf
    exact hret _ _ dX6_against_30
  · replace hf := k_pos c_5 hf
    refine g_iload_n X dX6_against_13 2 rfl rfl (n := 14) rfl ?_
    refine g_iconst X dX6_against_14 (v := 1) (by decide) (n := 15) rfl ?_
    refine g_aload_n X dX6_against_15 0 rfl rfl (n := 16) rfl ?_
    refine g_get X dX6_against_16 flX6_34 0 rfl (v := .ref (a 21)) rfl (n := 19) rfl ?_
    refine g_getN X dX6_against_19 flX6_118 21 rfl (v := .int li_1.2.1) rfl (n := 22) rfl ?_
    obtain ⟨x_6, g_7, hf⟩ := k_b1s hf
    refine g_callS0 X (mX6_isWithin (D := D) (l := l)  g_7) lk_X6_isWithin mlX6_69 dX6_against_22 (n := 25) rfl (st := []) rfl (st2 := [.int (bI x_6)]) rfl rfl ⟨Nat.le_of_ble_eq_true rfl, Nat.le_of_ble_eq_true rfl⟩ (Nat.le_of_ble_eq_true rfl) ?_
    refine g_if_neB X dX6_against_25 (t := 31) (by decide) (n := 28) rfl (fun c_8 => ?_) (fun c_8 => ?_)
    · replace hf := k_pos c_8 hf
      refine g_aload_n X dX6_against_31 0 rfl rfl (n := 32) rfl ?_
      refine g_get X dX6_against_32 flX6_34 0 rfl (v := .ref (a 21)) rfl (n := 35) rfl ?_
      refine g_getN X dX6_against_35 flX6_124 21 rfl (v := .int (bI li_1.2.2.2.2.2.2)) rfl (n := 38) rfl ?_
      refine g_if_eqB X dX6_against_38 (t := 44) (by decide) (n := 41) rfl (fun c_9 => ?_) (fun c_9 => ?_)
      · replace hf := k_neg c_9 hf
        refine g_bipush X dX6_against_44 (v := 30) (by decide) (n := 46) rfl ?_
        refine g_bipush X dX6_against_46 (v := 60) (by decide) (n := 48) rfl ?_
        refine g_aload_n X dX6_against_48 0 rfl rfl (n := 49) rfl ?_
        refine g_get X dX6_against_49 flX6_34 0 rfl (v := .ref (a 21)) rfl (n := 52) rfl ?_
        refine g_getN X dX6_against_52 flX6_118 21 rfl (v := .int li_1.2.1) rfl (n := 55) rfl ?_
        refine g_isub X dX6_against_55 (n := 56) rfl ?_
        refine g_min X lkM_min mlX6_260 dX6_against_56 (n := 59) rfl ⟨Nat.le_of_ble_eq_true rfl, Nat.le_of_ble_eq_true rfl⟩ (Nat.le_of_ble_eq_true rfl) ?_
        obtain ⟨x_10, e_11, hf⟩ := k_b1s hf
        replace e_11 := Option.some.inj e_11
        refine g_eq (st' := [.int x_10]) rfl rfl (by rw [← e_11]) ?_
        refine g_istore_n X dX6_against_59 rfl (by decide) (lv2 := [(3, .int x_10), (0, .ref (a 0)), (1, .int p1), (2, .int p2)]) rfl (n := 60) rfl ?_
        refine g_iload_n X dX6_against_60 2 rfl rfl (n := 61) rfl ?_
        refine g_iconst X dX6_against_61 (v := 1) (by decide) (n := 62) rfl ?_
        refine g_icmp_ne X dX6_against_62 (t := 77) (by decide) (n := 65) rfl (fun c_12 => ?_) (fun c_12 => ?_)
        · replace hf := k_neg c_12 hf
          refine g_sub [1, 2, 3, 0] (lv' := [(0, .ref (a 0)), (1, .int p1), (2, .int p2), (3, .int x_10)]) rfl ?_
          exact wX6_against_b77 X  hret hf
        · replace hf := k_pos c_12 hf
          refine g_iload_n X dX6_against_65 0 rfl rfl (n := 66) rfl ?_
          refine g_aload_n X dX6_against_66 1 rfl rfl (n := 67) rfl ?_
          refine g_get X dX6_against_67 flX6_34 0 rfl (v := .ref (a 21)) rfl (n := 70) rfl ?_
          refine g_getN X dX6_against_70 flX6_262 21 rfl (v := .int li_1.2.2.2.1) rfl (n := 73) rfl ?_
          refine g_min X lkM_min mlX6_260 dX6_against_73 (n := 76) rfl ⟨Nat.le_of_ble_eq_true rfl, Nat.le_of_ble_eq_true rfl⟩ (Nat.le_of_ble_eq_true rfl) ?_
          obtain ⟨x_13, e_14, hf⟩ := k_b1s hf
          replace e_14 := Option.some.inj e_14
          refine g_eq (st' := [.int x_13]) rfl rfl (by rw [← e_14]) ?_
          refine g_istore_n X dX6_against_76 rfl (by decide) (lv2 := [(3, .int x_13), (0, .ref (a 0)), (1, .int p1), (2, .int p2)]) rfl (n := 77) rfl ?_
          refine g_sub [1, 2, 3, 0] (lv' := [(0, .ref (a 0)), (1, .int p1), (2, .int p2), (3, .int x_13)]) rfl ?_
          exact wX6_against_b77 X  hret hf
      · replace hf := k_pos c_9 hf
        refine g_bipush X dX6_against_41 (v := (-3)) (by decide) (n := 43) rfl ?_
        obtain rfl := Option.some.inj hf
        exact hret _ _ dX6_against_43
    · replace hf := k_neg c_8 hf
      refine g_bipush X dX6_against_28 (v := (-2)) (by decide) (n := 30) rfl ?_
      obtain rfl := Option.some.inj hf
      exact hret _ _ dX6_against_30
set_option maxRecDepth 100000 in
set_option maxHeartbeats 4000000 in
theorem mX6_against {l : Launch} {D : va_G} {N : Nat} {a : Nat → Nat} {p1 : Int32} {p2 : Int32} {pad : VX5} {now : VX3} {fi : VX3} {se : VX3} {li : VX4} {so : VX4} {lo : VX1} {re : VX2} {ru : VX0} {ot : VX0} {le : Nat → Int32} {res : Int32 × VX4 × VX1 × VX2} (hf : fX6_against N now p1 p2 li lo re = some res) : k_Met l yX6_against cX6_against 6 (some .int) 5 134 D [.ref (a 0), .int p1, .int p2] (pic_X6 D a pad now fi se li so lo re ru ot le) (some (.int res.1)) (pic_X6 D a pad now fi se res.2.1 so res.2.2.1 res.2.2.2 ru ot le) :=
  k_of_i (by decide) (Nat.le_of_ble_eq_true rfl) (fun E X hret => wX6_against X hret hf)
set_option maxRecDepth 100000 in
set_option maxHeartbeats 4000000 in
theorem wX6_numberList_b77 {D : va_G} {l : Launch} {E : k_E} {N : Nat} {a : Nat → Nat} {k4 : Int32 → Int32 → (Nat → Int32) → Option (Int32 × (Nat → Int32))} {v1 : Int32} {v2 : Int32} {pad : VX5} {now : VX3} {fi : VX3} {se : VX3} {li : VX4} {so : VX4} {lo : VX1} {re : VX2} {ru : VX0} {ot : VX0} {le : Nat → Int32} {res : Int32 × (Nat → Int32)} (X : k_X D E cX6_numberList RX6 5 2 44) (hk4 : ∀ (v1 : Int32) (v2 : Int32) (le : Nat → Int32), k4 v1 v2 le = some res → k_G D l E (pic_X6 D a pad now fi se li so lo re ru ot le) [(0, .ref (a 0)), (1, .int v1), (2, .int v2)] 4 []) (hret : ∀ (pc : Nat) (lv : List (Nat × Value)), decode cX6_numberList pc = .ok (.ireturn, 1) → k_G D l E (pic_X6 D a pad now fi se li so lo re ru ot res.2) lv pc [.int res.1]) (hf : fX6_numberList_b77 N now k4 v1 v2 le = some res) : k_G D l E (pic_X6 D a pad now fi se li so lo re ru ot le) [(0, .ref (a 0)), (1, .int v1), (2, .int v2)] 77 [] := by
  unfold fX6_numberList_b77 at hf
  refine g_iinc X dX6_numberList_77 2 rfl (v := v2 + 1) rfl (by decide) (lv2 := [(2, .int (v2 + 1)), (0, .ref (a 0)), (1, .int v1)]) rfl (n := 80) rfl ?_
  refine g_goto X dX6_numberList_80 (n := 4) (by decide) ?_
  refine g_sub [1, 2, 0] (lv' := [(0, .ref (a 0)), (1, .int v1), (2, .int (v2 + 1))]) rfl ?_
  exact hk4 _ _ _ hf
set_option maxRecDepth 100000 in
set_option maxHeartbeats 4000000 in
theorem wX6_numberList_b37 {D : va_G} {l : Launch} {E : k_E} {N : Nat} {a : Nat → Nat} {k4 : Int32 → Int32 → (Nat → Int32) → Option (Int32 × (Nat → Int32))} {k37 : Int32 → Int32 → Int32 → Int32 → (Nat → Int32) → Option (Int32 × (Nat → Int32))} {v1 : Int32} {v2 : Int32} {v3 : Int32} {v4 : Int32} {pad : VX5} {now : VX3} {fi : VX3} {se : VX3} {li : VX4} {so : VX4} {lo : VX1} {re : VX2} {ru : VX0} {ot : VX0} {le : Nat → Int32} {res : Int32 × (Nat → Int32)} (X : k_X D E cX6_numberList RX6 5 2 44) (hk4 : ∀ (v1 : Int32) (v2 : Int32) (le : Nat → Int32), k4 v1 v2 le = some res → k_G D l E (pic_X6 D a pad now fi se li so lo re ru ot le) [(0, .ref (a 0)), (1, .int v1), (2, .int v2)] 4 []) (hk37 : ∀ (v1 : Int32) (v2 : Int32) (v3 : Int32) (v4 : Int32) (le : Nat → Int32), k37 v1 v2 v3 v4 le = some res → k_G D l E (pic_X6 D a pad now fi se li so lo re ru ot le) [(0, .ref (a 0)), (1, .int v1), (2, .int v2), (3, .int v3), (4, .int v4)] 37 []) (hret : ∀ (pc : Nat) (lv : List (Nat × Value)), decode cX6_numberList pc = .ok (.ireturn, 1) → k_G D l E (pic_X6 D a pad now fi se li so lo re ru ot res.2) lv pc [.int res.1]) (hf : fX6_numberList_b37 N now k4 k37 v1 v2 v3 v4 le = some res) : k_G D l E (pic_X6 D a pad now fi se li so lo re ru ot le) [(0, .ref (a 0)), (1, .int v1), (2, .int v2), (3, .int v3), (4, .int v4)] 37 [] := by
  unfold fX6_numberList_b37 at hf
  refine g_iload X dX6_numberList_37 4 rfl (n := 39) rfl ?_
  refine g_iload_n X dX6_numberList_39 3 rfl rfl (n := 40) rfl ?_
  refine g_icmp_ge X dX6_numberList_40 (t := 77) (by decide) (n := 43) rfl (fun c_1 => ?_) (fun c_1 => ?_)
  · replace hf := k_pos c_1 hf
    refine g_sub [0, 1, 2] (lv' := [(0, .ref (a 0)), (1, .int v1), (2, .int v2)]) rfl ?_
    exact wX6_numberList_b77 X hk4 hret hf
  · replace hf := k_neg c_1 hf
    refine g_iload_n X dX6_numberList_43 1 rfl rfl (n := 44) rfl ?_
    refine g_aload_n X dX6_numberList_44 0 rfl rfl (n := 45) rfl ?_
    refine g_get X dX6_numberList_45 flX6_65 0 rfl (v := .ref (a 33)) rfl (n := 48) rfl ?_
    refine g_alen X dX6_numberList_48 33 0 rfl rfl (v := 60) rfl (n := 49) rfl ?_
    refine g_icmp_ge X dX6_numberList_49 (t := 77) (by decide) (n := 52) rfl (fun c_2 => ?_) (fun c_2 => ?_)
    · replace hf := k_pos c_2 hf
      refine g_sub [0, 1, 2] (lv' := [(0, .ref (a 0)), (1, .int v1), (2, .int v2)]) rfl ?_
      exact wX6_numberList_b77 X hk4 hret hf
    · replace hf := k_neg c_2 hf
      refine g_aload_n X dX6_numberList_52 0 rfl rfl (n := 53) rfl ?_
      refine g_get X dX6_numberList_53 flX6_65 0 rfl (v := .ref (a 33)) rfl (n := 56) rfl ?_
      refine g_iload_n X dX6_numberList_56 1 rfl rfl (n := 57) rfl ?_
      refine g_aload_n X dX6_numberList_57 0 rfl rfl (n := 58) rfl ?_
      refine g_get X dX6_numberList_58 flX6_21 0 rfl (v := .ref (a 3)) rfl (n := 61) rfl ?_
      refine g_iload_n X dX6_numberList_61 2 rfl rfl (n := 62) rfl ?_
      refine g_iload X dX6_numberList_62 4 rfl (n := 64) rfl ?_
      obtain ⟨x_3, g_4, hf⟩ := k_b1s hf
      refine g_callV X (mX3_signOf (D := D) (l := l) (a0 := (a 3)) (a1 := (a 4)) (a2 := (a 5)) (a3 := (a 6)) (a4 := (a 7)) (a5 := (a 8)) g_4) lk_X3_signOf mlX6_112 dX6_numberList_64 (n := 67) rfl (st := [.int v1, .ref (a 33)]) rfl (st2 := [.int x_3, .int v1, .ref (a 33)]) rfl [3, 4, 5, 6, 7, 8] rfl rfl rfl rfl rfl rfl (ws2 := pic_X6 D a pad now fi se li so lo re ru ot le) rfl rfl rfl ⟨Nat.le_of_ble_eq_true rfl, Nat.le_of_ble_eq_true rfl⟩ (Nat.le_of_ble_eq_true rfl) ?_
      obtain ⟨h_5, hf⟩ := k_guard hf
      refine g_iastore X dX6_numberList_67 33 (f := le) rfl rfl h_5 (ws2 := pic_X6 D a pad now fi se li so lo re ru ot (upd le (v1).toNatClampNeg x_3)) rfl (n := 68) rfl ?_
      refine g_iinc X dX6_numberList_68 1 rfl (v := v1 + 1) rfl (by decide) (lv2 := [(1, .int (v1 + 1)), (0, .ref (a 0)), (2, .int v2), (3, .int v3), (4, .int v4)]) rfl (n := 71) rfl ?_
      refine g_iinc X dX6_numberList_71 4 rfl (v := v4 + 1) rfl (by decide) (lv2 := [(4, .int (v4 + 1)), (1, .int (v1 + 1)), (0, .ref (a 0)), (2, .int v2), (3, .int v3)]) rfl (n := 74) rfl ?_
      refine g_goto X dX6_numberList_74 (n := 37) (by decide) ?_
      refine g_sub [2, 1, 3, 4, 0] (lv' := [(0, .ref (a 0)), (1, .int (v1 + 1)), (2, .int v2), (3, .int v3), (4, .int (v4 + 1))]) rfl ?_
      exact hk37 _ _ _ _ _ hf
set_option maxRecDepth 100000 in
set_option maxHeartbeats 4000000 in
theorem wX6_numberList_l37 {D : va_G} {l : Launch} {E : k_E} {N : Nat} {a : Nat → Nat} {k4 : Int32 → Int32 → (Nat → Int32) → Option (Int32 × (Nat → Int32))} {pad : VX5} {now : VX3} {fi : VX3} {se : VX3} {li : VX4} {so : VX4} {lo : VX1} {re : VX2} {ru : VX0} {ot : VX0} {res : Int32 × (Nat → Int32)} (X : k_X D E cX6_numberList RX6 5 2 44) (hk4 : ∀ (v1 : Int32) (v2 : Int32) (le : Nat → Int32), k4 v1 v2 le = some res → k_G D l E (pic_X6 D a pad now fi se li so lo re ru ot le) [(0, .ref (a 0)), (1, .int v1), (2, .int v2)] 4 []) (hret : ∀ (pc : Nat) (lv : List (Nat × Value)), decode cX6_numberList pc = .ok (.ireturn, 1) → k_G D l E (pic_X6 D a pad now fi se li so lo re ru ot res.2) lv pc [.int res.1]) : ∀ (n0 : Nat) (v1 : Int32) (v2 : Int32) (v3 : Int32) (v4 : Int32) (le : Nat → Int32), fX6_numberList_l37 N now k4 n0 v1 v2 v3 v4 le = some res → k_G D l E (pic_X6 D a pad now fi se li so lo re ru ot le) [(0, .ref (a 0)), (1, .int v1), (2, .int v2), (3, .int v3), (4, .int v4)] 37 [] := by
  intro n0
  induction n0 with
  | zero => intro v1 v2 v3 v4 le hf; cases hf
  | succ n0 ih => intro v1 v2 v3 v4 le hf; exact wX6_numberList_b37 (N := N) (k37 := fX6_numberList_l37 N now k4 n0) X hk4 ih hret hf
set_option maxRecDepth 100000 in
set_option maxHeartbeats 4000000 in
theorem wX6_numberList_b33 {D : va_G} {l : Launch} {E : k_E} {N : Nat} {a : Nat → Nat} {k4 : Int32 → Int32 → (Nat → Int32) → Option (Int32 × (Nat → Int32))} {v1 : Int32} {v2 : Int32} {s0 : Int32} {pad : VX5} {now : VX3} {fi : VX3} {se : VX3} {li : VX4} {so : VX4} {lo : VX1} {re : VX2} {ru : VX0} {ot : VX0} {le : Nat → Int32} {res : Int32 × (Nat → Int32)} (X : k_X D E cX6_numberList RX6 5 2 44) (hk4 : ∀ (v1 : Int32) (v2 : Int32) (le : Nat → Int32), k4 v1 v2 le = some res → k_G D l E (pic_X6 D a pad now fi se li so lo re ru ot le) [(0, .ref (a 0)), (1, .int v1), (2, .int v2)] 4 []) (hret : ∀ (pc : Nat) (lv : List (Nat × Value)), decode cX6_numberList pc = .ok (.ireturn, 1) → k_G D l E (pic_X6 D a pad now fi se li so lo re ru ot res.2) lv pc [.int res.1]) (hf : fX6_numberList_b33 N now k4 v1 v2 s0 le = some res) : k_G D l E (pic_X6 D a pad now fi se li so lo re ru ot le) [(0, .ref (a 0)), (1, .int v1), (2, .int v2)] 33 [.int s0] := by
  unfold fX6_numberList_b33 at hf
  refine g_istore_n X dX6_numberList_33 rfl (by decide) (lv2 := [(3, .int s0), (0, .ref (a 0)), (1, .int v1), (2, .int v2)]) rfl (n := 34) rfl ?_
  refine g_iconst X dX6_numberList_34 (v := 0) (by decide) (n := 35) rfl ?_
  refine g_istore X dX6_numberList_35 (by decide) (lv2 := [(4, .int 0), (3, .int s0), (0, .ref (a 0)), (1, .int v1), (2, .int v2)]) rfl (n := 37) rfl ?_
  refine g_sub [2, 3, 4, 1, 0] (lv' := [(0, .ref (a 0)), (1, .int v1), (2, .int v2), (3, .int s0), (4, .int 0)]) rfl ?_
  exact wX6_numberList_l37 X hk4 hret _ _ _ _ _ _ hf
set_option maxRecDepth 100000 in
set_option maxHeartbeats 4000000 in
theorem wX6_numberList_b4 {D : va_G} {l : Launch} {E : k_E} {N : Nat} {a : Nat → Nat} {k4 : Int32 → Int32 → (Nat → Int32) → Option (Int32 × (Nat → Int32))} {v1 : Int32} {v2 : Int32} {pad : VX5} {now : VX3} {fi : VX3} {se : VX3} {li : VX4} {so : VX4} {lo : VX1} {re : VX2} {ru : VX0} {ot : VX0} {le : Nat → Int32} {res : Int32 × (Nat → Int32)} (X : k_X D E cX6_numberList RX6 5 2 44) (hk4 : ∀ (v1 : Int32) (v2 : Int32) (le : Nat → Int32), k4 v1 v2 le = some res → k_G D l E (pic_X6 D a pad now fi se li so lo re ru ot le) [(0, .ref (a 0)), (1, .int v1), (2, .int v2)] 4 []) (hret : ∀ (pc : Nat) (lv : List (Nat × Value)), decode cX6_numberList pc = .ok (.ireturn, 1) → k_G D l E (pic_X6 D a pad now fi se li so lo re ru ot res.2) lv pc [.int res.1]) (hf : fX6_numberList_b4 N now k4 v1 v2 le = some res) : k_G D l E (pic_X6 D a pad now fi se li so lo re ru ot le) [(0, .ref (a 0)), (1, .int v1), (2, .int v2)] 4 [] := by
  unfold fX6_numberList_b4 at hf
  refine g_iload_n X dX6_numberList_4 2 rfl rfl (n := 5) rfl ?_
  refine g_bipush X dX6_numberList_5 (v := 6) (by decide) (n := 7) rfl ?_
  refine g_icmp_ge X dX6_numberList_7 (t := 83) (by decide) (n := 10) rfl (fun c_1 => ?_) (fun c_1 => ?_)
  · replace hf := k_pos c_1 hf
    refine g_iload_n X dX6_numberList_83 1 rfl rfl (n := 84) rfl ?_
    obtain rfl := Option.some.inj hf
    exact hret _ _ dX6_numberList_84
  · replace hf := k_neg c_1 hf
    refine g_aload_n X dX6_numberList_10 0 rfl rfl (n := 11) rfl ?_
    refine g_get X dX6_numberList_11 flX6_21 0 rfl (v := .ref (a 3)) rfl (n := 14) rfl ?_
    refine g_iload_n X dX6_numberList_14 2 rfl rfl (n := 15) rfl ?_
    obtain ⟨x_2, g_3, hf⟩ := k_b1s hf
    refine g_callV X (mX3_isStruck (D := D) (l := l) (a0 := (a 3)) (a1 := (a 4)) (a2 := (a 5)) (a3 := (a 6)) (a4 := (a 7)) (a5 := (a 8)) g_3) lk_X3_isStruck mlX6_254 dX6_numberList_15 (n := 18) rfl (st := []) rfl (st2 := [.int (bI x_2)]) rfl [3, 4, 5, 6, 7, 8] rfl rfl rfl rfl rfl rfl (ws2 := pic_X6 D a pad now fi se li so lo re ru ot le) rfl rfl rfl ⟨Nat.le_of_ble_eq_true rfl, Nat.le_of_ble_eq_true rfl⟩ (Nat.le_of_ble_eq_true rfl) ?_
    refine g_if_eqB X dX6_numberList_18 (t := 25) (by decide) (n := 21) rfl (fun c_4 => ?_) (fun c_4 => ?_)
    · replace hf := k_neg c_4 hf
      refine g_aload_n X dX6_numberList_25 0 rfl rfl (n := 26) rfl ?_
      refine g_get X dX6_numberList_26 flX6_21 0 rfl (v := .ref (a 3)) rfl (n := 29) rfl ?_
      refine g_iload_n X dX6_numberList_29 2 rfl rfl (n := 30) rfl ?_
      obtain ⟨x_5, g_6, hf⟩ := k_b1s hf
      refine g_callV X (mX3_sizeOf (D := D) (l := l) (a0 := (a 3)) (a1 := (a 4)) (a2 := (a 5)) (a3 := (a 6)) (a4 := (a 7)) (a5 := (a 8)) g_6) lk_X3_sizeOf mlX6_108 dX6_numberList_30 (n := 33) rfl (st := []) rfl (st2 := [.int x_5]) rfl [3, 4, 5, 6, 7, 8] rfl rfl rfl rfl rfl rfl (ws2 := pic_X6 D a pad now fi se li so lo re ru ot le) rfl rfl rfl ⟨Nat.le_of_ble_eq_true rfl, Nat.le_of_ble_eq_true rfl⟩ (Nat.le_of_ble_eq_true rfl) ?_
      refine g_sub [0, 1, 2] (lv' := [(0, .ref (a 0)), (1, .int v1), (2, .int v2)]) rfl ?_
      exact wX6_numberList_b33 X hk4 hret hf
    · replace hf := k_pos c_4 hf
      refine g_iconst X dX6_numberList_21 (v := 0) (by decide) (n := 22) rfl ?_
      refine g_goto X dX6_numberList_22 (n := 33) (by decide) ?_
      refine g_sub [0, 1, 2] (lv' := [(0, .ref (a 0)), (1, .int v1), (2, .int v2)]) rfl ?_
      exact wX6_numberList_b33 X hk4 hret hf
set_option maxRecDepth 100000 in
set_option maxHeartbeats 4000000 in
theorem wX6_numberList_l4 {D : va_G} {l : Launch} {E : k_E} {N : Nat} {a : Nat → Nat} {pad : VX5} {now : VX3} {fi : VX3} {se : VX3} {li : VX4} {so : VX4} {lo : VX1} {re : VX2} {ru : VX0} {ot : VX0} {res : Int32 × (Nat → Int32)} (X : k_X D E cX6_numberList RX6 5 2 44) (hret : ∀ (pc : Nat) (lv : List (Nat × Value)), decode cX6_numberList pc = .ok (.ireturn, 1) → k_G D l E (pic_X6 D a pad now fi se li so lo re ru ot res.2) lv pc [.int res.1]) : ∀ (n0 : Nat) (v1 : Int32) (v2 : Int32) (le : Nat → Int32), fX6_numberList_l4 N now n0 v1 v2 le = some res → k_G D l E (pic_X6 D a pad now fi se li so lo re ru ot le) [(0, .ref (a 0)), (1, .int v1), (2, .int v2)] 4 [] := by
  intro n0
  induction n0 with
  | zero => intro v1 v2 le hf; cases hf
  | succ n0 ih => intro v1 v2 le hf; exact wX6_numberList_b4 (N := N) (k4 := fX6_numberList_l4 N now n0) X  ih hret hf
set_option maxRecDepth 100000 in
set_option maxHeartbeats 4000000 in
theorem wX6_numberList {D : va_G} {l : Launch} {E : k_E} {N : Nat} {a : Nat → Nat} {pad : VX5} {now : VX3} {fi : VX3} {se : VX3} {li : VX4} {so : VX4} {lo : VX1} {re : VX2} {ru : VX0} {ot : VX0} {le : Nat → Int32} {res : Int32 × (Nat → Int32)} (X : k_X D E cX6_numberList RX6 5 2 44) (hret : ∀ (pc : Nat) (lv : List (Nat × Value)), decode cX6_numberList pc = .ok (.ireturn, 1) → k_G D l E (pic_X6 D a pad now fi se li so lo re ru ot res.2) lv pc [.int res.1]) (hf : fX6_numberList N now le = some res) : k_G D l E (pic_X6 D a pad now fi se li so lo re ru ot le) [(0, .ref (a 0))] 0 [] := by
  unfold fX6_numberList at hf
  refine g_iconst X dX6_numberList_0 (v := 0) (by decide) (n := 1) rfl ?_
  refine g_istore_n X dX6_numberList_1 rfl (by decide) (lv2 := [(1, .int 0), (0, .ref (a 0))]) rfl (n := 2) rfl ?_
  refine g_iconst X dX6_numberList_2 (v := 0) (by decide) (n := 3) rfl ?_
  refine g_istore_n X dX6_numberList_3 rfl (by decide) (lv2 := [(2, .int 0), (1, .int 0), (0, .ref (a 0))]) rfl (n := 4) rfl ?_
  refine g_sub [2, 1, 0] (lv' := [(0, .ref (a 0)), (1, .int 0), (2, .int 0)]) rfl ?_
  exact wX6_numberList_l4 X  hret _ _ _ _ hf
set_option maxRecDepth 100000 in
set_option maxHeartbeats 4000000 in
theorem mX6_numberList {l : Launch} {D : va_G} {N : Nat} {a : Nat → Nat} {pad : VX5} {now : VX3} {fi : VX3} {se : VX3} {li : VX4} {so : VX4} {lo : VX1} {re : VX2} {ru : VX0} {ot : VX0} {le : Nat → Int32} {res : Int32 × (Nat → Int32)} (hf : fX6_numberList N now le = some res) : k_Met l yX6_numberList cX6_numberList 5 (some .int) 2 44 D [.ref (a 0)] (pic_X6 D a pad now fi se li so lo re ru ot le) (some (.int res.1)) (pic_X6 D a pad now fi se li so lo re ru ot res.2) :=
  k_of_i (by decide) (Nat.le_of_ble_eq_true rfl) (fun E X hret => wX6_numberList X hret hf)
set_option maxRecDepth 100000 in
set_option maxHeartbeats 4000000 in
theorem wX6_takeOut_b31 {D : va_G} {l : Launch} {E : k_E} {N : Nat} {a : Nat → Nat} {k31 : Int32 → Int32 → Int32 → (Nat → Int32) → Option (Int32 × (Nat → Int32))} {v2 : Int32} {v3 : Int32} {v4 : Int32} {pad : VX5} {now : VX3} {fi : VX3} {se : VX3} {li : VX4} {so : VX4} {lo : VX1} {re : VX2} {ru : VX0} {ot : VX0} {le : Nat → Int32} {res : Int32 × (Nat → Int32)} (X : k_X D E cX6_takeOut RX6 5 0 0) (hk31 : ∀ (v2 : Int32) (v3 : Int32) (v4 : Int32) (le : Nat → Int32), k31 v2 v3 v4 le = some res → k_G D l E (pic_X6 D a pad now fi se li so lo re ru ot le) [(0, .ref (a 0)), (2, .int v2), (3, .int v3), (4, .int v4)] 31 []) (hret : ∀ (pc : Nat) (lv : List (Nat × Value)), decode cX6_takeOut pc = .ok (.ireturn, 1) → k_G D l E (pic_X6 D a pad now fi se li so lo re ru ot res.2) lv pc [.int res.1]) (hf : fX6_takeOut_b31 N k31 v2 v3 v4 le = some res) : k_G D l E (pic_X6 D a pad now fi se li so lo re ru ot le) [(0, .ref (a 0)), (2, .int v2), (3, .int v3), (4, .int v4)] 31 [] := by
  unfold fX6_takeOut_b31 at hf
  refine g_iload X dX6_takeOut_31 3 rfl (n := 33) rfl ?_
  refine g_iconst X dX6_takeOut_33 (v := 1) (by decide) (n := 34) rfl ?_
  refine g_iadd X dX6_takeOut_34 (n := 35) rfl ?_
  refine g_iload_n X dX6_takeOut_35 1 rfl rfl (n := 36) rfl ?_
  refine g_icmp_ge X dX6_takeOut_36 (t := 61) (by decide) (n := 39) rfl (fun c_1 => ?_) (fun c_1 => ?_)
  · replace hf := k_pos c_1 hf
    refine g_iload_n X dX6_takeOut_61 2 rfl rfl (n := 62) rfl ?_
    obtain rfl := Option.some.inj hf
    exact hret _ _ dX6_takeOut_62
  · replace hf := k_neg c_1 hf
    refine g_aload_n X dX6_takeOut_39 0 rfl rfl (n := 40) rfl ?_
    refine g_get X dX6_takeOut_40 flX6_65 0 rfl (v := .ref (a 33)) rfl (n := 43) rfl ?_
    refine g_iload X dX6_takeOut_43 3 rfl (n := 45) rfl ?_
    refine g_aload_n X dX6_takeOut_45 0 rfl rfl (n := 46) rfl ?_
    refine g_get X dX6_takeOut_46 flX6_65 0 rfl (v := .ref (a 33)) rfl (n := 49) rfl ?_
    refine g_iload X dX6_takeOut_49 3 rfl (n := 51) rfl ?_
    refine g_iconst X dX6_takeOut_51 (v := 1) (by decide) (n := 52) rfl ?_
    refine g_iadd X dX6_takeOut_52 (n := 53) rfl ?_
    obtain ⟨h_2, hf⟩ := k_guard hf
    refine g_iaload X dX6_takeOut_53 33 (f := le) rfl rfl h_2 (n := 54) rfl ?_
    obtain ⟨h_3, hf⟩ := k_guard hf
    refine g_iastore X dX6_takeOut_54 33 (f := le) rfl rfl h_3 (ws2 := pic_X6 D a pad now fi se li so lo re ru ot (upd le (v4).toNatClampNeg (le (v4 + 1).toNatClampNeg))) rfl (n := 55) rfl ?_
    refine g_iinc X dX6_takeOut_55 3 rfl (v := v4 + 1) rfl (by decide) (lv2 := [(4, .int (v4 + 1)), (0, .ref (a 0)), (2, .int v2), (3, .int v3)]) rfl (n := 58) rfl ?_
    refine g_goto X dX6_takeOut_58 (n := 31) (by decide) ?_
    refine g_sub [1, 2, 3, 0] (lv' := [(0, .ref (a 0)), (2, .int v2), (3, .int v3), (4, .int (v4 + 1))]) rfl ?_
    exact hk31 _ _ _ _ hf
set_option maxRecDepth 100000 in
set_option maxHeartbeats 4000000 in
theorem wX6_takeOut_l31 {D : va_G} {l : Launch} {E : k_E} {N : Nat} {a : Nat → Nat} {pad : VX5} {now : VX3} {fi : VX3} {se : VX3} {li : VX4} {so : VX4} {lo : VX1} {re : VX2} {ru : VX0} {ot : VX0} {res : Int32 × (Nat → Int32)} (X : k_X D E cX6_takeOut RX6 5 0 0) (hret : ∀ (pc : Nat) (lv : List (Nat × Value)), decode cX6_takeOut pc = .ok (.ireturn, 1) → k_G D l E (pic_X6 D a pad now fi se li so lo re ru ot res.2) lv pc [.int res.1]) : ∀ (n0 : Nat) (v2 : Int32) (v3 : Int32) (v4 : Int32) (le : Nat → Int32), fX6_takeOut_l31 N n0 v2 v3 v4 le = some res → k_G D l E (pic_X6 D a pad now fi se li so lo re ru ot le) [(0, .ref (a 0)), (2, .int v2), (3, .int v3), (4, .int v4)] 31 [] := by
  intro n0
  induction n0 with
  | zero => intro v2 v3 v4 le hf; cases hf
  | succ n0 ih => intro v2 v3 v4 le hf; exact wX6_takeOut_b31 (N := N) (k31 := fX6_takeOut_l31 N n0) X  ih hret hf
set_option maxRecDepth 100000 in
set_option maxHeartbeats 4000000 in
theorem wX6_takeOut {D : va_G} {l : Launch} {E : k_E} {N : Nat} {a : Nat → Nat} {p1 : Int32} {p2 : Int32} {pad : VX5} {now : VX3} {fi : VX3} {se : VX3} {li : VX4} {so : VX4} {lo : VX1} {re : VX2} {ru : VX0} {ot : VX0} {le : Nat → Int32} {res : Int32 × (Nat → Int32)} (X : k_X D E cX6_takeOut RX6 5 0 0) (hret : ∀ (pc : Nat) (lv : List (Nat × Value)), decode cX6_takeOut pc = .ok (.ireturn, 1) → k_G D l E (pic_X6 D a pad now fi se li so lo re ru ot res.2) lv pc [.int res.1]) (hf : fX6_takeOut N p1 p2 le = some res) : k_G D l E (pic_X6 D a pad now fi se li so lo re ru ot le) [(0, .ref (a 0)), (1, .int p1), (2, .int p2)] 0 [] := by
  unfold fX6_takeOut at hf
  refine g_iload_n X dX6_takeOut_0 1 rfl rfl (n := 1) rfl ?_
  refine g_if_lt X dX6_takeOut_1 (t := 18) (by decide) (n := 4) rfl (fun c_1 => ?_) (fun c_1 => ?_)
  · replace hf := k_pos c_1 hf
    refine g_bipush X dX6_takeOut_18 (v := (-6)) (by decide) (n := 20) rfl ?_
    obtain rfl := Option.some.inj hf
    exact hret _ _ dX6_takeOut_20
  · replace hf := k_neg c_1 hf
    refine g_iload_n X dX6_takeOut_4 1 rfl rfl (n := 5) rfl ?_
    refine g_iload_n X dX6_takeOut_5 2 rfl rfl (n := 6) rfl ?_
    refine g_icmp_ge X dX6_takeOut_6 (t := 18) (by decide) (n := 9) rfl (fun c_2 => ?_) (fun c_2 => ?_)
    · replace hf := k_pos c_2 hf
      refine g_bipush X dX6_takeOut_18 (v := (-6)) (by decide) (n := 20) rfl ?_
      obtain rfl := Option.some.inj hf
      exact hret _ _ dX6_takeOut_20
    · replace hf := k_neg c_2 hf
      refine g_iload_n X dX6_takeOut_9 2 rfl rfl (n := 10) rfl ?_
      refine g_aload_n X dX6_takeOut_10 0 rfl rfl (n := 11) rfl ?_
      refine g_get X dX6_takeOut_11 flX6_65 0 rfl (v := .ref (a 33)) rfl (n := 14) rfl ?_
      refine g_alen X dX6_takeOut_14 33 0 rfl rfl (v := 60) rfl (n := 15) rfl ?_
      refine g_icmp_le X dX6_takeOut_15 (t := 21) (by decide) (n := 18) rfl (fun c_3 => ?_) (fun c_3 => ?_)
      · replace hf := k_pos c_3 hf
        refine g_aload_n X dX6_takeOut_21 0 rfl rfl (n := 22) rfl ?_
        refine g_get X dX6_takeOut_22 flX6_65 0 rfl (v := .ref (a 33)) rfl (n := 25) rfl ?_
        refine g_iload_n X dX6_takeOut_25 1 rfl rfl (n := 26) rfl ?_
        obtain ⟨h_4, hf⟩ := k_guard hf
        refine g_iaload X dX6_takeOut_26 33 (f := le) rfl rfl h_4 (n := 27) rfl ?_
        refine g_istore_n X dX6_takeOut_27 rfl (by decide) (lv2 := [(3, .int (le p1.toNatClampNeg)), (0, .ref (a 0)), (1, .int p1), (2, .int p2)]) rfl (n := 28) rfl ?_
        refine g_iload_n X dX6_takeOut_28 2 rfl rfl (n := 29) rfl ?_
        refine g_istore X dX6_takeOut_29 (by decide) (lv2 := [(4, .int p1), (3, .int (le p1.toNatClampNeg)), (0, .ref (a 0)), (1, .int p1), (2, .int p2)]) rfl (n := 31) rfl ?_
        refine g_sub [2, 4, 1, 0] (lv' := [(0, .ref (a 0)), (2, .int p2), (3, .int (le p1.toNatClampNeg)), (4, .int p1)]) rfl ?_
        exact wX6_takeOut_l31 X  hret _ _ _ _ _ hf
      · replace hf := k_neg c_3 hf
        refine g_bipush X dX6_takeOut_18 (v := (-6)) (by decide) (n := 20) rfl ?_
        obtain rfl := Option.some.inj hf
        exact hret _ _ dX6_takeOut_20
set_option maxRecDepth 100000 in
set_option maxHeartbeats 4000000 in
theorem mX6_takeOut {l : Launch} {D : va_G} {N : Nat} {a : Nat → Nat} {p1 : Int32} {p2 : Int32} {pad : VX5} {now : VX3} {fi : VX3} {se : VX3} {li : VX4} {so : VX4} {lo : VX1} {re : VX2} {ru : VX0} {ot : VX0} {le : Nat → Int32} {res : Int32 × (Nat → Int32)} (hf : fX6_takeOut N p1 p2 le = some res) : k_Met l yX6_takeOut cX6_takeOut 5 (some .int) 0 0 D [.ref (a 0), .int p1, .int p2] (pic_X6 D a pad now fi se li so lo re ru ot le) (some (.int res.1)) (pic_X6 D a pad now fi se li so lo re ru ot res.2) :=
  k_of_i (by decide) (Nat.le_of_ble_eq_true rfl) (fun E X hret => wX6_takeOut X hret hf)
set_option maxRecDepth 100000 in
set_option maxHeartbeats 4000000 in
theorem wX6_drawHeap_b18 {D : va_G} {l : Launch} {E : k_E} {N : Nat} {a : Nat → Nat} {k18 : Int32 → Int32 → Int32 → Int32 → VX4 → (Nat → Int32) → Option (VX4 × (Nat → Int32))} {v2 : Int32} {v3 : Int32} {v4 : Int32} {v5 : Int32} {pad : VX5} {now : VX3} {fi : VX3} {se : VX3} {li : VX4} {so : VX4} {lo : VX1} {re : VX2} {ru : VX0} {ot : VX0} {le : Nat → Int32} {res : VX4 × (Nat → Int32)} (X : k_X D E cX6_drawHeap RX6 6 3 68) (hk18 : ∀ (v2 : Int32) (v3 : Int32) (v4 : Int32) (v5 : Int32) (so : VX4) (le : Nat → Int32), k18 v2 v3 v4 v5 so le = some res → k_G D l E (pic_X6 D a pad now fi se li so lo re ru ot le) [(0, .ref (a 0)), (2, .int v2), (3, .int v3), (4, .int v4), (5, .int v5)] 18 []) (hret : ∀ (pc : Nat) (lv : List (Nat × Value)), decode cX6_drawHeap pc = .ok (.return_, 1) → k_G D l E (pic_X6 D a pad now fi se li res.1 lo re ru ot res.2) lv pc []) (hf : fX6_drawHeap_b18 N now k18 v2 v3 v4 v5 so le = some res) : k_G D l E (pic_X6 D a pad now fi se li so lo re ru ot le) [(0, .ref (a 0)), (2, .int v2), (3, .int v3), (4, .int v4), (5, .int v5)] 18 [] := by
  unfold fX6_drawHeap_b18 at hf
  refine g_iload X dX6_drawHeap_18 4 rfl (n := 20) rfl ?_
  refine g_iload_n X dX6_drawHeap_20 1 rfl rfl (n := 21) rfl ?_
  refine g_icmp_ge X dX6_drawHeap_21 (t := 67) (by decide) (n := 24) rfl (fun c_1 => ?_) (fun c_1 => ?_)
  · replace hf := k_pos c_1 hf
    obtain rfl := Option.some.inj hf
    exact hret _ _ dX6_drawHeap_67
  · replace hf := k_neg c_1 hf
    refine g_iload_n X dX6_drawHeap_24 2 rfl rfl (n := 25) rfl ?_
    refine g_if_le X dX6_drawHeap_25 (t := 67) (by decide) (n := 28) rfl (fun c_2 => ?_) (fun c_2 => ?_)
    · replace hf := k_pos c_2 hf
      obtain rfl := Option.some.inj hf
      exact hret _ _ dX6_drawHeap_67
    · replace hf := k_neg c_2 hf
      refine g_iload X dX6_drawHeap_28 3 rfl (n := 30) rfl ?_
      refine g_bipush X dX6_drawHeap_30 (v := 75) (by decide) (n := 32) rfl ?_
      refine g_imul X dX6_drawHeap_32 (n := 33) rfl ?_
      refine g_bipush X dX6_drawHeap_33 (v := 74) (by decide) (n := 35) rfl ?_
      refine g_iadd X dX6_drawHeap_35 (n := 36) rfl ?_
      refine g_ldcw X dX6_drawHeap_36 kcX6_335 (n := 39) rfl ?_
      obtain ⟨h_3, hf⟩ := k_guardN hf
      refine g_irem X dX6_drawHeap_39 h_3 (n := 40) rfl ?_
      obtain ⟨x_4, e_5, hf⟩ := k_b1s hf
      replace e_5 := Option.some.inj e_5
      refine g_eq (st' := [.int x_4]) rfl rfl (by rw [← e_5]) ?_
      refine g_istore X dX6_drawHeap_40 (by decide) (lv2 := [(4, .int x_4), (0, .ref (a 0)), (2, .int v2), (3, .int v3), (5, .int v5)]) rfl (n := 42) rfl ?_
      refine g_aload_n X dX6_drawHeap_42 1 rfl rfl (n := 43) rfl ?_
      refine g_get X dX6_drawHeap_43 flX6_38 0 rfl (v := .ref (a 23)) rfl (n := 46) rfl ?_
      refine g_aload_n X dX6_drawHeap_46 1 rfl rfl (n := 47) rfl ?_
      refine g_iload X dX6_drawHeap_47 0 rfl (n := 49) rfl ?_
      refine g_iload_n X dX6_drawHeap_49 3 rfl rfl (n := 50) rfl ?_
      obtain ⟨h_6, hf⟩ := k_guardN hf
      refine g_irem X dX6_drawHeap_50 h_6 (n := 51) rfl ?_
      refine g_iload_n X dX6_drawHeap_51 3 rfl rfl (n := 52) rfl ?_
      obtain ⟨x_7, le_8, g_9, hf⟩ := k_b2s hf
      refine g_callV0 X (mX6_takeOut (D := D) (l := l) (a := a) (pad := pad) (now := now) (fi := fi) (se := se) (li := li) (so := so) (lo := lo) (re := re) (ru := ru) (ot := ot) g_9) lk_X6_takeOut mlX6_336 dX6_drawHeap_52 (n := 55) rfl (st := [.ref (a 23)]) rfl (st2 := [.int x_7, .ref (a 23)]) rfl rfl rfl rfl (ws2 := pic_X6 D a pad now fi se li so lo re ru ot le_8) (ad_X6 _ _ _ _ _ _ _ _ _ _ _ _ _ _ _ _ _ _ _ _ _ _ _ _) rfl ⟨Nat.le_of_ble_eq_true rfl, Nat.le_of_ble_eq_true rfl⟩ (Nat.le_of_ble_eq_true rfl) ?_
      obtain ⟨so_10, g_11, hf⟩ := k_b1s hf
      refine g_callV X (mX4_add (D := D) (l := l) (a0 := (a 23)) (a1 := (a 24)) g_11) lk_X4_add mlX6_339 dX6_drawHeap_55 (n := 58) rfl (st := []) rfl (st2 := []) rfl [23, 24] rfl rfl rfl rfl rfl rfl (ws2 := pic_X6 D a pad now fi se li so_10 lo re ru ot le_8) rfl rfl rfl ⟨Nat.le_of_ble_eq_true rfl, Nat.le_of_ble_eq_true rfl⟩ (Nat.le_of_ble_eq_true rfl) ?_
      refine g_iinc X dX6_drawHeap_58 3 rfl (v := v3 + (-1)) rfl (by decide) (lv2 := [(3, .int (v3 + (-1))), (4, .int x_4), (0, .ref (a 0)), (2, .int v2), (5, .int v5)]) rfl (n := 61) rfl ?_
      refine g_iinc X dX6_drawHeap_61 4 rfl (v := v5 + 1) rfl (by decide) (lv2 := [(5, .int (v5 + 1)), (3, .int (v3 + (-1))), (4, .int x_4), (0, .ref (a 0)), (2, .int v2)]) rfl (n := 64) rfl ?_
      refine g_goto X dX6_drawHeap_64 (n := 18) (by decide) ?_
      refine g_sub [3, 4, 1, 2, 0] (lv' := [(0, .ref (a 0)), (2, .int v2), (3, .int (v3 + (-1))), (4, .int x_4), (5, .int (v5 + 1))]) rfl ?_
      exact hk18 _ _ _ _ _ _ hf
set_option maxRecDepth 100000 in
set_option maxHeartbeats 4000000 in
theorem wX6_drawHeap_l18 {D : va_G} {l : Launch} {E : k_E} {N : Nat} {a : Nat → Nat} {pad : VX5} {now : VX3} {fi : VX3} {se : VX3} {li : VX4} {lo : VX1} {re : VX2} {ru : VX0} {ot : VX0} {res : VX4 × (Nat → Int32)} (X : k_X D E cX6_drawHeap RX6 6 3 68) (hret : ∀ (pc : Nat) (lv : List (Nat × Value)), decode cX6_drawHeap pc = .ok (.return_, 1) → k_G D l E (pic_X6 D a pad now fi se li res.1 lo re ru ot res.2) lv pc []) : ∀ (n0 : Nat) (v2 : Int32) (v3 : Int32) (v4 : Int32) (v5 : Int32) (so : VX4) (le : Nat → Int32), fX6_drawHeap_l18 N now n0 v2 v3 v4 v5 so le = some res → k_G D l E (pic_X6 D a pad now fi se li so lo re ru ot le) [(0, .ref (a 0)), (2, .int v2), (3, .int v3), (4, .int v4), (5, .int v5)] 18 [] := by
  intro n0
  induction n0 with
  | zero => intro v2 v3 v4 v5 so le hf; cases hf
  | succ n0 ih => intro v2 v3 v4 v5 so le hf; exact wX6_drawHeap_b18 (N := N) (k18 := fX6_drawHeap_l18 N now n0) X  ih hret hf
set_option maxRecDepth 100000 in
set_option maxHeartbeats 4000000 in
theorem wX6_drawHeap {D : va_G} {l : Launch} {E : k_E} {N : Nat} {a : Nat → Nat} {p1 : Int32} {p2 : Int32} {pad : VX5} {now : VX3} {fi : VX3} {se : VX3} {li : VX4} {so : VX4} {lo : VX1} {re : VX2} {ru : VX0} {ot : VX0} {le : Nat → Int32} {res : VX4 × (Nat → Int32)} (X : k_X D E cX6_drawHeap RX6 6 3 68) (hret : ∀ (pc : Nat) (lv : List (Nat × Value)), decode cX6_drawHeap pc = .ok (.return_, 1) → k_G D l E (pic_X6 D a pad now fi se li res.1 lo re ru ot res.2) lv pc []) (hf : fX6_drawHeap N now p1 p2 so le = some res) : k_G D l E (pic_X6 D a pad now fi se li so lo re ru ot le) [(0, .ref (a 0)), (1, .int p1), (2, .int p2)] 0 [] := by
  unfold fX6_drawHeap at hf
  refine g_aload_n X dX6_drawHeap_0 0 rfl rfl (n := 1) rfl ?_
  obtain ⟨x_1, le_2, g_3, hf⟩ := k_b2s hf
  refine g_callV0 X (mX6_numberList (D := D) (l := l) (a := a) (pad := pad) (fi := fi) (se := se) (li := li) (so := so) (lo := lo) (re := re) (ru := ru) (ot := ot) g_3) lk_X6_numberList mlX6_331 dX6_drawHeap_1 (n := 4) rfl (st := []) rfl (st2 := [.int x_1]) rfl rfl rfl rfl (ws2 := pic_X6 D a pad now fi se li so lo re ru ot le_2) (ad_X6 _ _ _ _ _ _ _ _ _ _ _ _ _ _ _ _ _ _ _ _ _ _ _ _) rfl ⟨Nat.le_of_ble_eq_true rfl, Nat.le_of_ble_eq_true rfl⟩ (Nat.le_of_ble_eq_true rfl) ?_
  refine g_istore_n X dX6_drawHeap_4 rfl (by decide) (lv2 := [(3, .int x_1), (0, .ref (a 0)), (1, .int p1), (2, .int p2)]) rfl (n := 5) rfl ?_
  refine g_iload_n X dX6_drawHeap_5 2 rfl rfl (n := 6) rfl ?_
  refine g_istore X dX6_drawHeap_6 (by decide) (lv2 := [(4, .int p1), (3, .int x_1), (0, .ref (a 0)), (1, .int p1), (2, .int p2)]) rfl (n := 8) rfl ?_
  refine g_aload_n X dX6_drawHeap_8 2 rfl rfl (n := 9) rfl ?_
  refine g_get X dX6_drawHeap_9 flX6_38 0 rfl (v := .ref (a 23)) rfl (n := 12) rfl ?_
  obtain ⟨so_4, g_5, hf⟩ := k_b1s hf
  refine g_callV X (mX4_clear (D := D) (l := l) (a0 := (a 23)) (a1 := (a 24)) g_5) lk_X4_clear mlX6_334 dX6_drawHeap_12 (n := 15) rfl (st := []) rfl (st2 := []) rfl [23, 24] rfl rfl rfl rfl rfl rfl (ws2 := pic_X6 D a pad now fi se li so_4 lo re ru ot le_2) rfl rfl rfl ⟨Nat.le_of_ble_eq_true rfl, Nat.le_of_ble_eq_true rfl⟩ (Nat.le_of_ble_eq_true rfl) ?_
  refine g_iconst X dX6_drawHeap_15 (v := 0) (by decide) (n := 16) rfl ?_
  refine g_istore X dX6_drawHeap_16 (by decide) (lv2 := [(5, .int 0), (4, .int p1), (3, .int x_1), (0, .ref (a 0)), (1, .int p1), (2, .int p2)]) rfl (n := 18) rfl ?_
  refine g_sub [3, 5, 2, 1, 0] (lv' := [(0, .ref (a 0)), (2, .int p2), (3, .int x_1), (4, .int p1), (5, .int 0)]) rfl ?_
  exact wX6_drawHeap_l18 X  hret _ _ _ _ _ _ _ hf
set_option maxRecDepth 100000 in
set_option maxHeartbeats 4000000 in
theorem mX6_drawHeap {l : Launch} {D : va_G} {N : Nat} {a : Nat → Nat} {p1 : Int32} {p2 : Int32} {pad : VX5} {now : VX3} {fi : VX3} {se : VX3} {li : VX4} {so : VX4} {lo : VX1} {re : VX2} {ru : VX0} {ot : VX0} {le : Nat → Int32} {res : VX4 × (Nat → Int32)} (hf : fX6_drawHeap N now p1 p2 so le = some res) : k_Met l yX6_drawHeap cX6_drawHeap 6 none 3 68 D [.ref (a 0), .int p1, .int p2] (pic_X6 D a pad now fi se li so lo re ru ot le) none (pic_X6 D a pad now fi se li res.1 lo re ru ot res.2) :=
  k_of_v (by decide) (Nat.le_of_ble_eq_true rfl) (fun E X hret => wX6_drawHeap X hret hf)
set_option maxRecDepth 100000 in
set_option maxHeartbeats 4000000 in
theorem wX6_heap {D : va_G} {l : Launch} {E : k_E} {N : Nat} {a : Nat → Nat} {p1 : Int32} {p2 : Int32} {p3 : Int32} {pad : VX5} {now : VX3} {fi : VX3} {se : VX3} {li : VX4} {so : VX4} {lo : VX1} {re : VX2} {ru : VX0} {ot : VX0} {le : Nat → Int32} {res : Int32 × VX4 × VX4 × VX2 × (Nat → Int32)} (X : k_X D E cX6_heap RX6 4 5 129) (hret : ∀ (pc : Nat) (lv : List (Nat × Value)), decode cX6_heap pc = .ok (.ireturn, 1) → k_G D l E (pic_X6 D a pad now fi se res.2.1 res.2.2.1 lo res.2.2.2.1 ru ot res.2.2.2.2) lv pc [.int res.1]) (hf : fX6_heap N now p1 p2 p3 li so re le = some res) : k_G D l E (pic_X6 D a pad now fi se li so lo re ru ot le) [(0, .ref (a 0)), (1, .int p1), (2, .int p2), (3, .int p3)] 0 [] := by
  unfold fX6_heap at hf
  refine g_aload_n X dX6_heap_0 0 rfl rfl (n := 1) rfl ?_
  obtain ⟨li_1, g_2, hf⟩ := k_b1s hf
  refine g_callV0 X (mX6_readList (D := D) (l := l) (a := a) (pad := pad) (fi := fi) (se := se) (so := so) (lo := lo) (re := re) (ru := ru) (ot := ot) (le := le) g_2) lk_X6_readList mlX6_115 dX6_heap_1 (n := 4) rfl (st := []) rfl (st2 := []) rfl rfl rfl rfl (ws2 := pic_X6 D a pad now fi se li_1 so lo re ru ot le) (ad_X6 _ _ _ _ _ _ _ _ _ _ _ _ _ _ _ _ _ _ _ _ _ _ _ _) rfl ⟨Nat.le_of_ble_eq_true rfl, Nat.le_of_ble_eq_true rfl⟩ (Nat.le_of_ble_eq_true rfl) ?_
  refine g_iload_n X dX6_heap_4 1 rfl rfl (n := 5) rfl ?_
  refine g_iconst X dX6_heap_5 (v := 0) (by decide) (n := 6) rfl ?_
  refine g_sipush X dX6_heap_6 (v := 9999) (by decide) (n := 9) rfl ?_
  obtain ⟨x_3, g_4, hf⟩ := k_b1s hf
  refine g_callS0 X (mX6_isWithin (D := D) (l := l)  g_4) lk_X6_isWithin mlX6_69 dX6_heap_9 (n := 12) rfl (st := []) rfl (st2 := [.int (bI x_3)]) rfl rfl ⟨Nat.le_of_ble_eq_true rfl, Nat.le_of_ble_eq_true rfl⟩ (Nat.le_of_ble_eq_true rfl) ?_
  refine g_if_eqB X dX6_heap_12 (t := 39) (by decide) (n := 15) rfl (fun c_5 => ?_) (fun c_5 => ?_)
  · replace hf := k_neg c_5 hf
    refine g_bipush X dX6_heap_39 (v := (-2)) (by decide) (n := 41) rfl ?_
    obtain rfl := Option.some.inj hf
    exact hret _ _ dX6_heap_41
  · replace hf := k_pos c_5 hf
    refine g_iload_n X dX6_heap_15 2 rfl rfl (n := 16) rfl ?_
    refine g_iconst X dX6_heap_16 (v := 1) (by decide) (n := 17) rfl ?_
    refine g_aload_n X dX6_heap_17 0 rfl rfl (n := 18) rfl ?_
    refine g_get X dX6_heap_18 flX6_34 0 rfl (v := .ref (a 21)) rfl (n := 21) rfl ?_
    refine g_getN X dX6_heap_21 flX6_118 21 rfl (v := .int li_1.2.1) rfl (n := 24) rfl ?_
    obtain ⟨x_6, g_7, hf⟩ := k_b1s hf
    refine g_callS0 X (mX6_isWithin (D := D) (l := l)  g_7) lk_X6_isWithin mlX6_69 dX6_heap_24 (n := 27) rfl (st := []) rfl (st2 := [.int (bI x_6)]) rfl rfl ⟨Nat.le_of_ble_eq_true rfl, Nat.le_of_ble_eq_true rfl⟩ (Nat.le_of_ble_eq_true rfl) ?_
    refine g_if_eqB X dX6_heap_27 (t := 39) (by decide) (n := 30) rfl (fun c_8 => ?_) (fun c_8 => ?_)
    · replace hf := k_neg c_8 hf
      refine g_bipush X dX6_heap_39 (v := (-2)) (by decide) (n := 41) rfl ?_
      obtain rfl := Option.some.inj hf
      exact hret _ _ dX6_heap_41
    · replace hf := k_pos c_8 hf
      refine g_iload_n X dX6_heap_30 3 rfl rfl (n := 31) rfl ?_
      refine g_iconst X dX6_heap_31 (v := 0) (by decide) (n := 32) rfl ?_
      refine g_iconst X dX6_heap_32 (v := 2) (by decide) (n := 33) rfl ?_
      obtain ⟨x_9, g_10, hf⟩ := k_b1s hf
      refine g_callS0 X (mX6_isWithin (D := D) (l := l)  g_10) lk_X6_isWithin mlX6_69 dX6_heap_33 (n := 36) rfl (st := []) rfl (st2 := [.int (bI x_9)]) rfl rfl ⟨Nat.le_of_ble_eq_true rfl, Nat.le_of_ble_eq_true rfl⟩ (Nat.le_of_ble_eq_true rfl) ?_
      refine g_if_neB X dX6_heap_36 (t := 42) (by decide) (n := 39) rfl (fun c_11 => ?_) (fun c_11 => ?_)
      · replace hf := k_pos c_11 hf
        refine g_aload_n X dX6_heap_42 0 rfl rfl (n := 43) rfl ?_
        refine g_get X dX6_heap_43 flX6_34 0 rfl (v := .ref (a 21)) rfl (n := 46) rfl ?_
        refine g_getN X dX6_heap_46 flX6_124 21 rfl (v := .int (bI li_1.2.2.2.2.2.2)) rfl (n := 49) rfl ?_
        refine g_if_eqB X dX6_heap_49 (t := 55) (by decide) (n := 52) rfl (fun c_12 => ?_) (fun c_12 => ?_)
        · replace hf := k_neg c_12 hf
          refine g_aload_n X dX6_heap_55 0 rfl rfl (n := 56) rfl ?_
          refine g_iload_n X dX6_heap_56 1 rfl rfl (n := 57) rfl ?_
          refine g_iload_n X dX6_heap_57 2 rfl rfl (n := 58) rfl ?_
          obtain ⟨so_13, le_14, g_15, hf⟩ := k_b2s hf
          refine g_callV0 X (mX6_drawHeap (D := D) (l := l) (a := a) (pad := pad) (fi := fi) (se := se) (li := li_1) (lo := lo) (re := re) (ru := ru) (ot := ot) g_15) lk_X6_drawHeap mlX6_276 dX6_heap_58 (n := 61) rfl (st := []) rfl (st2 := []) rfl rfl rfl rfl (ws2 := pic_X6 D a pad now fi se li_1 so_13 lo re ru ot le_14) (ad_X6 _ _ _ _ _ _ _ _ _ _ _ _ _ _ _ _ _ _ _ _ _ _ _ _) rfl ⟨Nat.le_of_ble_eq_true rfl, Nat.le_of_ble_eq_true rfl⟩ (Nat.le_of_ble_eq_true rfl) ?_
          refine g_iload_n X dX6_heap_61 3 rfl rfl (n := 62) rfl ?_
          refine g_if_ne X dX6_heap_62 (t := 73) (by decide) (n := 65) rfl (fun c_16 => ?_) (fun c_16 => ?_)
          · replace hf := k_neg c_16 hf
            refine g_iload_n X dX6_heap_73 3 rfl rfl (n := 74) rfl ?_
            refine g_iconst X dX6_heap_74 (v := 1) (by decide) (n := 75) rfl ?_
            refine g_icmp_ne X dX6_heap_75 (t := 86) (by decide) (n := 78) rfl (fun c_17 => ?_) (fun c_17 => ?_)
            · replace hf := k_neg c_17 hf
              refine g_aload_n X dX6_heap_86 0 rfl rfl (n := 87) rfl ?_
              obtain ⟨x_18, re_19, g_20, hf⟩ := k_b2s hf
              refine g_callV0 X (mX6_someSaysYes (D := D) (l := l) (a := a) (pad := pad) (fi := fi) (se := se) (lo := lo) (ru := ru) (ot := ot) (le := le_14) g_20) lk_X6_someSaysYes mlX6_280 dX6_heap_87 (n := 90) rfl (st := []) rfl (st2 := [.int (bI x_18)]) rfl rfl rfl rfl (ws2 := pic_X6 D a pad now fi se li_1 so_13 lo re_19 ru ot le_14) (ad_X6 _ _ _ _ _ _ _ _ _ _ _ _ _ _ _ _ _ _ _ _ _ _ _ _) rfl ⟨Nat.le_of_ble_eq_true rfl, Nat.le_of_ble_eq_true rfl⟩ (Nat.le_of_ble_eq_true rfl) ?_
              refine g_if_eqB X dX6_heap_90 (t := 97) (by decide) (n := 93) rfl (fun c_21 => ?_) (fun c_21 => ?_)
              · replace hf := k_neg c_21 hf
                refine g_iconst X dX6_heap_97 (v := 0) (by decide) (n := 98) rfl ?_
                obtain rfl := Option.some.inj hf
                exact hret _ _ dX6_heap_98
              · replace hf := k_pos c_21 hf
                refine g_iconst X dX6_heap_93 (v := 1) (by decide) (n := 94) rfl ?_
                refine g_goto X dX6_heap_94 (n := 98) (by decide) ?_
                obtain rfl := Option.some.inj hf
                exact hret _ _ dX6_heap_98
            · replace hf := k_pos c_17 hf
              refine g_aload_n X dX6_heap_78 0 rfl rfl (n := 79) rfl ?_
              refine g_get X dX6_heap_79 flX6_38 0 rfl (v := .ref (a 23)) rfl (n := 82) rfl ?_
              refine g_getN X dX6_heap_82 flX6_128 23 rfl (v := .int so_13.2.2.2.2.2.1) rfl (n := 85) rfl ?_
              obtain rfl := Option.some.inj hf
              exact hret _ _ dX6_heap_85
          · replace hf := k_pos c_16 hf
            refine g_aload_n X dX6_heap_65 0 rfl rfl (n := 66) rfl ?_
            refine g_get X dX6_heap_66 flX6_38 0 rfl (v := .ref (a 23)) rfl (n := 69) rfl ?_
            obtain ⟨x_22, g_23, hf⟩ := k_b1s hf
            refine g_callV X (mX4_valid (D := D) (l := l) (a0 := (a 23)) (a1 := (a 24)) g_23) lk_X4_valid mlX6_251 dX6_heap_69 (n := 72) rfl (st := []) rfl (st2 := [.int x_22]) rfl [23, 24] rfl rfl rfl rfl rfl rfl (ws2 := pic_X6 D a pad now fi se li_1 so_13 lo re ru ot le_14) rfl rfl rfl ⟨Nat.le_of_ble_eq_true rfl, Nat.le_of_ble_eq_true rfl⟩ (Nat.le_of_ble_eq_true rfl) ?_
            obtain rfl := Option.some.inj hf
            exact hret _ _ dX6_heap_72
        · replace hf := k_pos c_12 hf
          refine g_bipush X dX6_heap_52 (v := (-3)) (by decide) (n := 54) rfl ?_
          obtain rfl := Option.some.inj hf
          exact hret _ _ dX6_heap_54
      · replace hf := k_neg c_11 hf
        refine g_bipush X dX6_heap_39 (v := (-2)) (by decide) (n := 41) rfl ?_
        obtain rfl := Option.some.inj hf
        exact hret _ _ dX6_heap_41
set_option maxRecDepth 100000 in
set_option maxHeartbeats 4000000 in
theorem mX6_heap {l : Launch} {D : va_G} {N : Nat} {a : Nat → Nat} {p1 : Int32} {p2 : Int32} {p3 : Int32} {pad : VX5} {now : VX3} {fi : VX3} {se : VX3} {li : VX4} {so : VX4} {lo : VX1} {re : VX2} {ru : VX0} {ot : VX0} {le : Nat → Int32} {res : Int32 × VX4 × VX4 × VX2 × (Nat → Int32)} (hf : fX6_heap N now p1 p2 p3 li so re le = some res) : k_Met l yX6_heap cX6_heap 4 (some .int) 5 129 D [.ref (a 0), .int p1, .int p2, .int p3] (pic_X6 D a pad now fi se li so lo re ru ot le) (some (.int res.1)) (pic_X6 D a pad now fi se res.2.1 res.2.2.1 lo res.2.2.2.1 ru ot res.2.2.2.2) :=
  k_of_i (by decide) (Nat.le_of_ble_eq_true rfl) (fun E X hret => wX6_heap X hret hf)
set_option maxRecDepth 100000 in
set_option maxHeartbeats 4000000 in
theorem wX6_imageOf {D : va_G} {l : Launch} {E : k_E} {a : Nat → Nat} {p1 : Int32} {pad : VX5} {now : VX3} {fi : VX3} {se : VX3} {li : VX4} {so : VX4} {lo : VX1} {re : VX2} {ru : VX0} {ot : VX0} {le : Nat → Int32} {res : Nat} (X : k_X D E cX6_imageOf RX6 2 0 0) (hret : ∀ (pc : Nat) (lv : List (Nat × Value)), decode cX6_imageOf pc = .ok (.areturn, 1) → k_G D l E (pic_X6 D a pad now fi se li so lo re ru ot le) lv pc [.ref res]) (hf : fX6_imageOf a p1 = some res) : k_G D l E (pic_X6 D a pad now fi se li so lo re ru ot le) [(0, .ref (a 0)), (1, .int p1)] 0 [] := by
  unfold fX6_imageOf at hf
  refine g_iload_n X dX6_imageOf_0 1 rfl rfl (n := 1) rfl ?_
  refine g_if_ne X dX6_imageOf_1 (t := 11) (by decide) (n := 4) rfl (fun c_1 => ?_) (fun c_1 => ?_)
  · replace hf := k_neg c_1 hf
    refine g_aload_n X dX6_imageOf_11 0 rfl rfl (n := 12) rfl ?_
    refine g_get X dX6_imageOf_12 flX6_28 0 rfl (v := .ref (a 15)) rfl (n := 15) rfl ?_
    obtain rfl := Option.some.inj hf
    exact hret _ _ dX6_imageOf_15
  · replace hf := k_pos c_1 hf
    refine g_aload_n X dX6_imageOf_4 0 rfl rfl (n := 5) rfl ?_
    refine g_get X dX6_imageOf_5 flX6_25 0 rfl (v := .ref (a 9)) rfl (n := 8) rfl ?_
    refine g_goto X dX6_imageOf_8 (n := 15) (by decide) ?_
    obtain rfl := Option.some.inj hf
    exact hret _ _ dX6_imageOf_15
set_option maxRecDepth 100000 in
set_option maxHeartbeats 4000000 in
theorem mX6_imageOf {l : Launch} {D : va_G} {a : Nat → Nat} {p1 : Int32} {pad : VX5} {now : VX3} {fi : VX3} {se : VX3} {li : VX4} {so : VX4} {lo : VX1} {re : VX2} {ru : VX0} {ot : VX0} {le : Nat → Int32} {res : Nat} (hf : fX6_imageOf a p1 = some res) : k_Met l yX6_imageOf cX6_imageOf 2 (some (.object "NamesByLot$Register")) 0 0 D [.ref (a 0), .int p1] (pic_X6 D a pad now fi se li so lo re ru ot le) (some (.ref res)) (pic_X6 D a pad now fi se li so lo re ru ot le) :=
  k_of_r (by decide) (Nat.le_of_ble_eq_true rfl) (fun E X hret => wX6_imageOf X hret hf)
