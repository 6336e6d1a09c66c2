/-! walks: X7_bySheets X7_wrongNow X7_wrong X7_enough X7_worth X7_isGatherer -/
set_option maxRecDepth 100000 in
set_option maxHeartbeats 4000000 in
theorem wX7_bySheets_b176 {D : va_G} {l : Launch} {E : k_E} {N : Nat} {a : Nat → Nat} {k103 : Int32 → Int32 → Int32 → Int32 → Int64 → Int64 → Int32 → VMl → VMq → Option (Int64 × VMl × VMq)} {v1 : Int32} {v2 : Int32} {v3 : Int32} {v4 : Int32} {v5 : Int64} {v7 : Int64} {v9 : Int32} {mp : VMp} {mg : VMg} {mc : Nat → Int64} {ml : VMl} {mq : VMq} {mh : VMh} {ms : VMs} {mr : Nat → Int32} {mi : VMi} {res : Int64 × VMl × VMq} (X : k_X D E cX7_bySheets RX7 10 3 94) (hk103 : ∀ (v1 : Int32) (v2 : Int32) (v3 : Int32) (v4 : Int32) (v5 : Int64) (v7 : Int64) (v9 : Int32) (ml : VMl) (mq : VMq), k103 v1 v2 v3 v4 v5 v7 v9 ml mq = some res → k_G D l E (pic_X7 D a mp mg mc ml mq mh ms mr mi) [(0, .ref (a 0)), (1, .int v1), (2, .int v2), (3, .int v3), (4, .int v4), (5, .long v5), (7, .long v7), (9, .int v9)] 103 []) (hret : ∀ (pc : Nat) (lv : List (Nat × Value)), decode cX7_bySheets pc = .ok (.lreturn, 1) → k_G D l E (pic_X7 D a mp mg mc res.2.1 res.2.2 mh ms mr mi) lv pc [.long res.1]) (hf : fX7_bySheets_b176 N mg k103 v1 v2 v3 v4 v5 v7 v9 ml mq = some res) : k_G D l E (pic_X7 D a mp mg mc ml mq mh ms mr mi) [(0, .ref (a 0)), (1, .int v1), (2, .int v2), (3, .int v3), (4, .int v4), (5, .long v5), (7, .long v7), (9, .int v9)] 176 [] := by
  unfold fX7_bySheets_b176 at hf
  refine g_iinc X dX7_bySheets_176 7 rfl (v := v9 + 1) rfl (by decide) (lv2 := [(9, .int (v9 + 1)), (0, .ref (a 0)), (1, .int v1), (2, .int v2), (3, .int v3), (4, .int v4), (5, .long v5), (7, .long v7)]) rfl (n := 179) rfl ?_
  refine g_goto X dX7_bySheets_179 (n := 103) (by decide) ?_
  refine g_sub [1, 2, 3, 4, 5, 6, 7, 0] (lv' := [(0, .ref (a 0)), (1, .int v1), (2, .int v2), (3, .int v3), (4, .int v4), (5, .long v5), (7, .long v7), (9, .int (v9 + 1))]) rfl ?_
  exact hk103 _ _ _ _ _ _ _ _ _ hf
set_option maxRecDepth 100000 in
set_option maxHeartbeats 4000000 in
theorem wX7_bySheets_b173 {D : va_G} {l : Launch} {E : k_E} {N : Nat} {a : Nat → Nat} {k103 : Int32 → Int32 → Int32 → Int32 → Int64 → Int64 → Int32 → VMl → VMq → Option (Int64 × VMl × VMq)} {v1 : Int32} {v2 : Int32} {v3 : Int32} {v4 : Int32} {v7 : Int64} {v9 : Int32} {s0 : Int64} {s1 : Int64} {mp : VMp} {mg : VMg} {mc : Nat → Int64} {ml : VMl} {mq : VMq} {mh : VMh} {ms : VMs} {mr : Nat → Int32} {mi : VMi} {res : Int64 × VMl × VMq} (X : k_X D E cX7_bySheets RX7 10 3 94) (hk103 : ∀ (v1 : Int32) (v2 : Int32) (v3 : Int32) (v4 : Int32) (v5 : Int64) (v7 : Int64) (v9 : Int32) (ml : VMl) (mq : VMq), k103 v1 v2 v3 v4 v5 v7 v9 ml mq = some res → k_G D l E (pic_X7 D a mp mg mc ml mq mh ms mr mi) [(0, .ref (a 0)), (1, .int v1), (2, .int v2), (3, .int v3), (4, .int v4), (5, .long v5), (7, .long v7), (9, .int v9)] 103 []) (hret : ∀ (pc : Nat) (lv : List (Nat × Value)), decode cX7_bySheets pc = .ok (.lreturn, 1) → k_G D l E (pic_X7 D a mp mg mc res.2.1 res.2.2 mh ms mr mi) lv pc [.long res.1]) (hf : fX7_bySheets_b173 N mg k103 v1 v2 v3 v4 v7 v9 s0 s1 ml mq = some res) : k_G D l E (pic_X7 D a mp mg mc ml mq mh ms mr mi) [(0, .ref (a 0)), (1, .int v1), (2, .int v2), (3, .int v3), (4, .int v4), (7, .long v7), (9, .int v9)] 173 [.long s1, .long s0] := by
  unfold fX7_bySheets_b173 at hf
  refine g_ladd X dX7_bySheets_173 (n := 174) rfl ?_
  refine g_lstore X dX7_bySheets_174 (by decide) (lv2 := [(5, .long (s0 + s1)), (0, .ref (a 0)), (1, .int v1), (2, .int v2), (3, .int v3), (4, .int v4), (7, .long v7), (9, .int v9)]) rfl (n := 176) rfl ?_
  refine g_sub [1, 2, 3, 4, 5, 0, 6, 7] (lv' := [(0, .ref (a 0)), (1, .int v1), (2, .int v2), (3, .int v3), (4, .int v4), (5, .long (s0 + s1)), (7, .long v7), (9, .int v9)]) rfl ?_
  exact wX7_bySheets_b176 X hk103 hret hf
set_option maxRecDepth 100000 in
set_option maxHeartbeats 4000000 in
theorem wX7_bySheets_b103 {D : va_G} {l : Launch} {E : k_E} {N : Nat} {a : Nat → Nat} {k103 : Int32 → Int32 → Int32 → Int32 → Int64 → Int64 → Int32 → VMl → VMq → Option (Int64 × VMl × VMq)} {v1 : Int32} {v2 : Int32} {v3 : Int32} {v4 : Int32} {v5 : Int64} {v7 : Int64} {v9 : Int32} {mp : VMp} {mg : VMg} {mc : Nat → Int64} {ml : VMl} {mq : VMq} {mh : VMh} {ms : VMs} {mr : Nat → Int32} {mi : VMi} {res : Int64 × VMl × VMq} (X : k_X D E cX7_bySheets RX7 10 3 94) (hk103 : ∀ (v1 : Int32) (v2 : Int32) (v3 : Int32) (v4 : Int32) (v5 : Int64) (v7 : Int64) (v9 : Int32) (ml : VMl) (mq : VMq), k103 v1 v2 v3 v4 v5 v7 v9 ml mq = some res → k_G D l E (pic_X7 D a mp mg mc ml mq mh ms mr mi) [(0, .ref (a 0)), (1, .int v1), (2, .int v2), (3, .int v3), (4, .int v4), (5, .long v5), (7, .long v7), (9, .int v9)] 103 []) (hret : ∀ (pc : Nat) (lv : List (Nat × Value)), decode cX7_bySheets pc = .ok (.lreturn, 1) → k_G D l E (pic_X7 D a mp mg mc res.2.1 res.2.2 mh ms mr mi) lv pc [.long res.1]) (hf : fX7_bySheets_b103 N mg k103 v1 v2 v3 v4 v5 v7 v9 ml mq = some res) : k_G D l E (pic_X7 D a mp mg mc ml mq mh ms mr mi) [(0, .ref (a 0)), (1, .int v1), (2, .int v2), (3, .int v3), (4, .int v4), (5, .long v5), (7, .long v7), (9, .int v9)] 103 [] := by
  unfold fX7_bySheets_b103 at hf
  refine g_iload X dX7_bySheets_103 7 rfl (n := 105) rfl ?_
  refine g_bipush X dX7_bySheets_105 (v := 64) (by decide) (n := 107) rfl ?_
  refine g_icmp_ge X dX7_bySheets_107 (t := 182) (by decide) (n := 110) rfl (fun c_1 => ?_) (fun c_1 => ?_)
  · replace hf := k_pos c_1 hf
    refine g_lload X dX7_bySheets_182 5 rfl (n := 184) rfl ?_
    refine g_lload X dX7_bySheets_184 6 rfl (n := 186) rfl ?_
    refine g_iload_n X dX7_bySheets_186 2 rfl rfl (n := 187) rfl ?_
    obtain ⟨x_2, g_3, hf⟩ := k_b1s hf
    refine g_callS0 X (mX7_term (D := D) (l := l)  g_3) lk_X7_term mlX7_160 dX7_bySheets_187 (n := 190) rfl (st := []) rfl (st2 := [.long x_2]) rfl rfl ⟨Nat.le_of_ble_eq_true rfl, Nat.le_of_ble_eq_true rfl⟩ (Nat.le_of_ble_eq_true rfl) ?_
    obtain rfl := Option.some.inj hf
    exact hret _ _ dX7_bySheets_190
  · replace hf := k_neg c_1 hf
    refine g_iload X dX7_bySheets_110 7 rfl (n := 112) rfl ?_
    refine g_iload_n X dX7_bySheets_112 3 rfl rfl (n := 113) rfl ?_
    refine g_iconst X dX7_bySheets_113 (v := (-1)) (by decide) (n := 114) rfl ?_
    refine g_ixor X dX7_bySheets_114 (n := 115) rfl ?_
    refine g_iand X dX7_bySheets_115 (n := 116) rfl ?_
    refine g_if_ne X dX7_bySheets_116 (t := 176) (by decide) (n := 119) rfl (fun c_4 => ?_) (fun c_4 => ?_)
    · replace hf := k_neg c_4 hf
      refine g_sub [0, 1, 2, 3, 4, 5, 6, 7] (lv' := [(0, .ref (a 0)), (1, .int v1), (2, .int v2), (3, .int v3), (4, .int v4), (5, .long v5), (7, .long v7), (9, .int v9)]) rfl ?_
      exact wX7_bySheets_b176 X hk103 hret hf
    · replace hf := k_pos c_4 hf
      refine g_iload X dX7_bySheets_119 7 rfl (n := 121) rfl ?_
      obtain ⟨x_5, g_6, hf⟩ := k_b1s hf
      refine g_callS0 X (mX7_bits (D := D) (l := l)  g_6) lk_X7_bits mlX7_164 dX7_bySheets_121 (n := 124) rfl (st := []) rfl (st2 := [.int x_5]) rfl rfl ⟨Nat.le_of_ble_eq_true rfl, Nat.le_of_ble_eq_true rfl⟩ (Nat.le_of_ble_eq_true rfl) ?_
      refine g_iload_n X dX7_bySheets_124 1 rfl rfl (n := 125) rfl ?_
      refine g_icmp_ne X dX7_bySheets_125 (t := 176) (by decide) (n := 128) rfl (fun c_7 => ?_) (fun c_7 => ?_)
      · replace hf := k_neg c_7 hf
        refine g_sub [0, 1, 2, 3, 4, 5, 6, 7] (lv' := [(0, .ref (a 0)), (1, .int v1), (2, .int v2), (3, .int v3), (4, .int v4), (5, .long v5), (7, .long v7), (9, .int v9)]) rfl ?_
        exact wX7_bySheets_b176 X hk103 hret hf
      · replace hf := k_pos c_7 hf
        refine g_aload_n X dX7_bySheets_128 0 rfl rfl (n := 129) rfl ?_
        refine g_iload X dX7_bySheets_129 7 rfl (n := 131) rfl ?_
        obtain ⟨ml_8, g_9, hf⟩ := k_b1s hf
        refine g_callV0 X (mX7_layList (D := D) (l := l) (a := a) (mp := mp) (mc := mc) (mq := mq) (mh := mh) (ms := ms) (mr := mr) (mi := mi) g_9) lk_X7_layList mlX7_111 dX7_bySheets_131 (n := 134) rfl (st := []) rfl (st2 := []) rfl rfl rfl rfl (ws2 := pic_X7 D a mp mg mc ml_8 mq mh ms mr mi) (ad_X7 _ _ _ _ _ _ _ _ _ _ _ _ _ _ _ _ _ _ _ _) rfl ⟨Nat.le_of_ble_eq_true rfl, Nat.le_of_ble_eq_true rfl⟩ (Nat.le_of_ble_eq_true rfl) ?_
        refine g_lload X dX7_bySheets_134 6 rfl (n := 136) rfl ?_
        refine g_lconst X dX7_bySheets_136 (v := 1) rfl (n := 137) rfl ?_
        refine g_ladd X dX7_bySheets_137 (n := 138) rfl ?_
        refine g_lstore X dX7_bySheets_138 (by decide) (lv2 := [(7, .long (v7 + (1 : Int64))), (0, .ref (a 0)), (1, .int v1), (2, .int v2), (3, .int v3), (4, .int v4), (5, .long v5), (9, .int v9)]) rfl (n := 140) rfl ?_
        refine g_lload X dX7_bySheets_140 6 rfl (n := 142) rfl ?_
        refine g_aload_n X dX7_bySheets_142 1 rfl rfl (n := 143) rfl ?_
        refine g_iload X dX7_bySheets_143 5 rfl (n := 145) rfl ?_
        refine g_aload_n X dX7_bySheets_145 1 rfl rfl (n := 146) rfl ?_
        refine g_get X dX7_bySheets_146 flX7_89 0 rfl (v := .int ml_8.2.1) rfl (n := 149) rfl ?_
        refine g_aload_n X dX7_bySheets_149 1 rfl rfl (n := 150) rfl ?_
        refine g_get X dX7_bySheets_150 flX7_89 0 rfl (v := .int ml_8.2.1) rfl (n := 153) rfl ?_
        refine g_aload_n X dX7_bySheets_153 1 rfl rfl (n := 154) rfl ?_
        refine g_get X dX7_bySheets_154 flX7_92 0 rfl (v := .int ml_8.2.2.1) rfl (n := 157) rfl ?_
        refine g_isub X dX7_bySheets_157 (n := 158) rfl ?_
        refine g_aload_n X dX7_bySheets_158 1 rfl rfl (n := 159) rfl ?_
        refine g_get X dX7_bySheets_159 flX7_101 0 rfl (v := .int ml_8.2.2.2.2.2.1) rfl (n := 162) rfl ?_
        obtain ⟨x_10, mq_11, g_12, hf⟩ := k_b2s hf
        refine g_callV0 X (mX7_saysYes (D := D) (l := l) (a := a) (mp := mp) (mc := mc) (ml := ml_8) (mh := mh) (ms := ms) (mr := mr) (mi := mi) g_12) lk_X7_saysYes mlX7_144 dX7_bySheets_162 (n := 165) rfl (st := [.long v5]) rfl (st2 := [.int (bI x_10), .long v5]) rfl rfl rfl rfl (ws2 := pic_X7 D a mp mg mc ml_8 mq_11 mh ms mr mi) (ad_X7 _ _ _ _ _ _ _ _ _ _ _ _ _ _ _ _ _ _ _ _) rfl ⟨Nat.le_of_ble_eq_true rfl, Nat.le_of_ble_eq_true rfl⟩ (Nat.le_of_ble_eq_true rfl) ?_
        refine g_if_eqB X dX7_bySheets_165 (t := 172) (by decide) (n := 168) rfl (fun c_13 => ?_) (fun c_13 => ?_)
        · replace hf := k_neg c_13 hf
          refine g_lconst X dX7_bySheets_172 (v := 0) rfl (n := 173) rfl ?_
          refine g_sub [1, 2, 3, 4, 5, 0, 7] (lv' := [(0, .ref (a 0)), (1, .int v1), (2, .int v2), (3, .int v3), (4, .int v4), (7, .long (v7 + (1 : Int64))), (9, .int v9)]) rfl ?_
          exact wX7_bySheets_b173 X hk103 hret hf
        · replace hf := k_pos c_13 hf
          refine g_lconst X dX7_bySheets_168 (v := 1) rfl (n := 169) rfl ?_
          refine g_goto X dX7_bySheets_169 (n := 173) (by decide) ?_
          refine g_sub [1, 2, 3, 4, 5, 0, 7] (lv' := [(0, .ref (a 0)), (1, .int v1), (2, .int v2), (3, .int v3), (4, .int v4), (7, .long (v7 + (1 : Int64))), (9, .int v9)]) rfl ?_
          exact wX7_bySheets_b173 X hk103 hret hf
set_option maxRecDepth 100000 in
set_option maxHeartbeats 4000000 in
theorem wX7_bySheets_l103 {D : va_G} {l : Launch} {E : k_E} {N : Nat} {a : Nat → Nat} {mp : VMp} {mg : VMg} {mc : Nat → Int64} {mh : VMh} {ms : VMs} {mr : Nat → Int32} {mi : VMi} {res : Int64 × VMl × VMq} (X : k_X D E cX7_bySheets RX7 10 3 94) (hret : ∀ (pc : Nat) (lv : List (Nat × Value)), decode cX7_bySheets pc = .ok (.lreturn, 1) → k_G D l E (pic_X7 D a mp mg mc res.2.1 res.2.2 mh ms mr mi) lv pc [.long res.1]) : ∀ (n0 : Nat) (v1 : Int32) (v2 : Int32) (v3 : Int32) (v4 : Int32) (v5 : Int64) (v7 : Int64) (v9 : Int32) (ml : VMl) (mq : VMq), fX7_bySheets_l103 N mg n0 v1 v2 v3 v4 v5 v7 v9 ml mq = some res → k_G D l E (pic_X7 D a mp mg mc ml mq mh ms mr mi) [(0, .ref (a 0)), (1, .int v1), (2, .int v2), (3, .int v3), (4, .int v4), (5, .long v5), (7, .long v7), (9, .int v9)] 103 [] := by
  intro n0
  induction n0 with
  | zero => intro v1 v2 v3 v4 v5 v7 v9 ml mq hf; cases hf
  | succ n0 ih => intro v1 v2 v3 v4 v5 v7 v9 ml mq hf; exact wX7_bySheets_b103 (N := N) (k103 := fX7_bySheets_l103 N mg n0) X  ih hret hf
set_option maxRecDepth 100000 in
set_option maxHeartbeats 4000000 in
theorem wX7_bySheets_b41 {D : va_G} {l : Launch} {E : k_E} {N : Nat} {a : Nat → Nat} {k5 : Int32 → Int32 → Int32 → Int32 → VMl → VMq → Option (Int64 × VMl × VMq)} {v1 : Int32} {v2 : Int32} {v4 : Int32} {s0 : Int32} {s1 : Int32} {mp : VMp} {mg : VMg} {mc : Nat → Int64} {ml : VMl} {mq : VMq} {mh : VMh} {ms : VMs} {mr : Nat → Int32} {mi : VMi} {res : Int64 × VMl × VMq} (X : k_X D E cX7_bySheets RX7 10 3 94) (hk5 : ∀ (v1 : Int32) (v2 : Int32) (v3 : Int32) (v4 : Int32) (ml : VMl) (mq : VMq), k5 v1 v2 v3 v4 ml mq = some res → k_G D l E (pic_X7 D a mp mg mc ml mq mh ms mr mi) [(0, .ref (a 0)), (1, .int v1), (2, .int v2), (3, .int v3), (4, .int v4)] 5 []) (hret : ∀ (pc : Nat) (lv : List (Nat × Value)), decode cX7_bySheets pc = .ok (.lreturn, 1) → k_G D l E (pic_X7 D a mp mg mc res.2.1 res.2.2 mh ms mr mi) lv pc [.long res.1]) (hf : fX7_bySheets_b41 N mg k5 v1 v2 v4 s0 s1 ml mq = some res) : k_G D l E (pic_X7 D a mp mg mc ml mq mh ms mr mi) [(0, .ref (a 0)), (1, .int v1), (2, .int v2), (4, .int v4)] 41 [.int s1, .int s0] := by
  unfold fX7_bySheets_b41 at hf
  refine g_ior X dX7_bySheets_41 (n := 42) rfl ?_
  refine g_istore_n X dX7_bySheets_42 rfl (by decide) (lv2 := [(3, .int (s0 ||| s1)), (0, .ref (a 0)), (1, .int v1), (2, .int v2), (4, .int v4)]) rfl (n := 43) rfl ?_
  refine g_iinc X dX7_bySheets_43 4 rfl (v := v4 + 1) rfl (by decide) (lv2 := [(4, .int (v4 + 1)), (3, .int (s0 ||| s1)), (0, .ref (a 0)), (1, .int v1), (2, .int v2)]) rfl (n := 46) rfl ?_
  refine g_goto X dX7_bySheets_46 (n := 5) (by decide) ?_
  refine g_sub [2, 3, 4, 1, 0] (lv' := [(0, .ref (a 0)), (1, .int v1), (2, .int v2), (3, .int (s0 ||| s1)), (4, .int (v4 + 1))]) rfl ?_
  exact hk5 _ _ _ _ _ _ hf
set_option maxRecDepth 100000 in
set_option maxHeartbeats 4000000 in
theorem wX7_bySheets_b40 {D : va_G} {l : Launch} {E : k_E} {N : Nat} {a : Nat → Nat} {k5 : Int32 → Int32 → Int32 → Int32 → VMl → VMq → Option (Int64 × VMl × VMq)} {v1 : Int32} {v2 : Int32} {v4 : Int32} {s0 : Int32} {mp : VMp} {mg : VMg} {mc : Nat → Int64} {ml : VMl} {mq : VMq} {mh : VMh} {ms : VMs} {mr : Nat → Int32} {mi : VMi} {res : Int64 × VMl × VMq} (X : k_X D E cX7_bySheets RX7 10 3 94) (hk5 : ∀ (v1 : Int32) (v2 : Int32) (v3 : Int32) (v4 : Int32) (ml : VMl) (mq : VMq), k5 v1 v2 v3 v4 ml mq = some res → k_G D l E (pic_X7 D a mp mg mc ml mq mh ms mr mi) [(0, .ref (a 0)), (1, .int v1), (2, .int v2), (3, .int v3), (4, .int v4)] 5 []) (hret : ∀ (pc : Nat) (lv : List (Nat × Value)), decode cX7_bySheets pc = .ok (.lreturn, 1) → k_G D l E (pic_X7 D a mp mg mc res.2.1 res.2.2 mh ms mr mi) lv pc [.long res.1]) (hf : fX7_bySheets_b40 N mg k5 v1 v2 v4 s0 ml mq = some res) : k_G D l E (pic_X7 D a mp mg mc ml mq mh ms mr mi) [(0, .ref (a 0)), (1, .int v1), (2, .int v2), (4, .int v4)] 40 [.int s0] := by
  unfold fX7_bySheets_b40 at hf
  refine g_iconst X dX7_bySheets_40 (v := 0) (by decide) (n := 41) rfl ?_
  refine g_sub [0, 1, 2, 3] (lv' := [(0, .ref (a 0)), (1, .int v1), (2, .int v2), (4, .int v4)]) rfl ?_
  exact wX7_bySheets_b41 X hk5 hret hf
set_option maxRecDepth 100000 in
set_option maxHeartbeats 4000000 in
theorem wX7_bySheets_b5 {D : va_G} {l : Launch} {E : k_E} {N : Nat} {a : Nat → Nat} {k5 : Int32 → Int32 → Int32 → Int32 → VMl → VMq → Option (Int64 × VMl × VMq)} {v1 : Int32} {v2 : Int32} {v3 : Int32} {v4 : Int32} {mp : VMp} {mg : VMg} {mc : Nat → Int64} {ml : VMl} {mq : VMq} {mh : VMh} {ms : VMs} {mr : Nat → Int32} {mi : VMi} {res : Int64 × VMl × VMq} (X : k_X D E cX7_bySheets RX7 10 3 94) (hk5 : ∀ (v1 : Int32) (v2 : Int32) (v3 : Int32) (v4 : Int32) (ml : VMl) (mq : VMq), k5 v1 v2 v3 v4 ml mq = some res → k_G D l E (pic_X7 D a mp mg mc ml mq mh ms mr mi) [(0, .ref (a 0)), (1, .int v1), (2, .int v2), (3, .int v3), (4, .int v4)] 5 []) (hret : ∀ (pc : Nat) (lv : List (Nat × Value)), decode cX7_bySheets pc = .ok (.lreturn, 1) → k_G D l E (pic_X7 D a mp mg mc res.2.1 res.2.2 mh ms mr mi) lv pc [.long res.1]) (hf : fX7_bySheets_b5 N mg k5 v1 v2 v3 v4 ml mq = some res) : k_G D l E (pic_X7 D a mp mg mc ml mq mh ms mr mi) [(0, .ref (a 0)), (1, .int v1), (2, .int v2), (3, .int v3), (4, .int v4)] 5 [] := by
  unfold fX7_bySheets_b5 at hf
  refine g_iload X dX7_bySheets_5 4 rfl (n := 7) rfl ?_
  refine g_bipush X dX7_bySheets_7 (v := 6) (by decide) (n := 9) rfl ?_
  refine g_icmp_ge X dX7_bySheets_9 (t := 49) (by decide) (n := 12) rfl (fun c_1 => ?_) (fun c_1 => ?_)
  · replace hf := k_pos c_1 hf
    refine g_iload_n X dX7_bySheets_49 1 rfl rfl (n := 50) rfl ?_
    refine g_iconst X dX7_bySheets_50 (v := 1) (by decide) (n := 51) rfl ?_
    refine g_iload_n X dX7_bySheets_51 3 rfl rfl (n := 52) rfl ?_
    obtain ⟨x_2, g_3, hf⟩ := k_b1s hf
    refine g_callS0 X (mX7_bits (D := D) (l := l)  g_3) lk_X7_bits mlX7_164 dX7_bySheets_52 (n := 55) rfl (st := [.int 1, .int v1]) rfl (st2 := [.int x_2, .int 1, .int v1]) rfl rfl ⟨Nat.le_of_ble_eq_true rfl, Nat.le_of_ble_eq_true rfl⟩ (Nat.le_of_ble_eq_true rfl) ?_
    obtain ⟨x_4, g_5, hf⟩ := k_b1s hf
    refine g_callS0 X (mX7_in (D := D) (l := l)  g_5) lk_X7_in mlX7_58 dX7_bySheets_55 (n := 58) rfl (st := []) rfl (st2 := [.int (bI x_4)]) rfl rfl ⟨Nat.le_of_ble_eq_true rfl, Nat.le_of_ble_eq_true rfl⟩ (Nat.le_of_ble_eq_true rfl) ?_
    refine g_if_eqB X dX7_bySheets_58 (t := 68) (by decide) (n := 61) rfl (fun c_6 => ?_) (fun c_6 => ?_)
    · replace hf := k_neg c_6 hf
      refine g_ldc2 X dX7_bySheets_68 kcX7_132 (n := 71) rfl ?_
      obtain rfl := Option.some.inj hf
      exact hret _ _ dX7_bySheets_71
    · replace hf := k_pos c_6 hf
      refine g_iload_n X dX7_bySheets_61 2 rfl rfl (n := 62) rfl ?_
      obtain ⟨x_7, g_8, hf⟩ := k_b1s hf
      refine g_callS0 X (mX7_isPart (D := D) (l := l)  g_8) lk_X7_isPart mlX7_129 dX7_bySheets_62 (n := 65) rfl (st := []) rfl (st2 := [.int (bI x_7)]) rfl rfl ⟨Nat.le_of_ble_eq_true rfl, Nat.le_of_ble_eq_true rfl⟩ (Nat.le_of_ble_eq_true rfl) ?_
      refine g_if_neB X dX7_bySheets_65 (t := 72) (by decide) (n := 68) rfl (fun c_9 => ?_) (fun c_9 => ?_)
      · replace hf := k_pos c_9 hf
        refine g_aload_n X dX7_bySheets_72 0 rfl rfl (n := 73) rfl ?_
        refine g_iload_n X dX7_bySheets_73 3 rfl rfl (n := 74) rfl ?_
        obtain ⟨ml_10, g_11, hf⟩ := k_b1s hf
        refine g_callV0 X (mX7_layList (D := D) (l := l) (a := a) (mp := mp) (mc := mc) (mq := mq) (mh := mh) (ms := ms) (mr := mr) (mi := mi) g_11) lk_X7_layList mlX7_111 dX7_bySheets_74 (n := 77) rfl (st := []) rfl (st2 := []) rfl rfl rfl rfl (ws2 := pic_X7 D a mp mg mc ml_10 mq mh ms mr mi) (ad_X7 _ _ _ _ _ _ _ _ _ _ _ _ _ _ _ _ _ _ _ _) rfl ⟨Nat.le_of_ble_eq_true rfl, Nat.le_of_ble_eq_true rfl⟩ (Nat.le_of_ble_eq_true rfl) ?_
        refine g_aload_n X dX7_bySheets_77 0 rfl rfl (n := 78) rfl ?_
        refine g_get X dX7_bySheets_78 flX7_104 0 rfl (v := .int (bI ml_10.2.2.2.2.2.2)) rfl (n := 81) rfl ?_
        refine g_if_eqB X dX7_bySheets_81 (t := 88) (by decide) (n := 84) rfl (fun c_12 => ?_) (fun c_12 => ?_)
        · replace hf := k_neg c_12 hf
          refine g_aload_n X dX7_bySheets_88 0 rfl rfl (n := 89) rfl ?_
          refine g_get X dX7_bySheets_89 flX7_89 0 rfl (v := .int ml_10.2.1) rfl (n := 92) rfl ?_
          refine g_istore X dX7_bySheets_92 (by decide) (lv2 := [(4, .int ml_10.2.1), (0, .ref (a 0)), (1, .int v1), (2, .int v2), (3, .int v3)]) rfl (n := 94) rfl ?_
          refine g_lconst X dX7_bySheets_94 (v := 0) rfl (n := 95) rfl ?_
          refine g_lstore X dX7_bySheets_95 (by decide) (lv2 := [(5, .long (0 : Int64)), (4, .int ml_10.2.1), (0, .ref (a 0)), (1, .int v1), (2, .int v2), (3, .int v3)]) rfl (n := 97) rfl ?_
          refine g_lconst X dX7_bySheets_97 (v := 0) rfl (n := 98) rfl ?_
          refine g_lstore X dX7_bySheets_98 (by decide) (lv2 := [(7, .long (0 : Int64)), (5, .long (0 : Int64)), (4, .int ml_10.2.1), (0, .ref (a 0)), (1, .int v1), (2, .int v2), (3, .int v3)]) rfl (n := 100) rfl ?_
          refine g_iconst X dX7_bySheets_100 (v := 1) (by decide) (n := 101) rfl ?_
          refine g_istore X dX7_bySheets_101 (by decide) (lv2 := [(9, .int 1), (7, .long (0 : Int64)), (5, .long (0 : Int64)), (4, .int ml_10.2.1), (0, .ref (a 0)), (1, .int v1), (2, .int v2), (3, .int v3)]) rfl (n := 103) rfl ?_
          refine g_sub [4, 5, 6, 7, 3, 2, 1, 0] (lv' := [(0, .ref (a 0)), (1, .int v1), (2, .int v2), (3, .int v3), (4, .int ml_10.2.1), (5, .long (0 : Int64)), (7, .long (0 : Int64)), (9, .int 1)]) rfl ?_
          exact wX7_bySheets_l103 X  hret _ _ _ _ _ _ _ _ _ _ hf
        · replace hf := k_pos c_12 hf
          refine g_ldc2 X dX7_bySheets_84 kcX7_168 (n := 87) rfl ?_
          obtain rfl := Option.some.inj hf
          exact hret _ _ dX7_bySheets_87
      · replace hf := k_neg c_9 hf
        refine g_ldc2 X dX7_bySheets_68 kcX7_132 (n := 71) rfl ?_
        obtain rfl := Option.some.inj hf
        exact hret _ _ dX7_bySheets_71
  · replace hf := k_neg c_1 hf
    refine g_iload_n X dX7_bySheets_12 3 rfl rfl (n := 13) rfl ?_
    refine g_aload_n X dX7_bySheets_13 0 rfl rfl (n := 14) rfl ?_
    refine g_get X dX7_bySheets_14 flX7_16 0 rfl (v := .ref (a 3)) rfl (n := 17) rfl ?_
    refine g_iload X dX7_bySheets_17 4 rfl (n := 19) rfl ?_
    obtain ⟨h_13, hf⟩ := k_guard hf
    refine g_iaload X dX7_bySheets_19 3 (f := mg.2.1) rfl rfl h_13 (n := 20) rfl ?_
    refine g_if_ne X dX7_bySheets_20 (t := 40) (by decide) (n := 23) rfl (fun c_14 => ?_) (fun c_14 => ?_)
    · replace hf := k_neg c_14 hf
      refine g_sub [0, 1, 2, 4] (lv' := [(0, .ref (a 0)), (1, .int v1), (2, .int v2), (4, .int v4)]) rfl ?_
      exact wX7_bySheets_b40 X hk5 hret hf
    · replace hf := k_pos c_14 hf
      refine g_aload_n X dX7_bySheets_23 0 rfl rfl (n := 24) rfl ?_
      refine g_get X dX7_bySheets_24 flX7_19 0 rfl (v := .ref (a 4)) rfl (n := 27) rfl ?_
      refine g_iload X dX7_bySheets_27 4 rfl (n := 29) rfl ?_
      obtain ⟨h_15, hf⟩ := k_guard hf
      refine g_iaload X dX7_bySheets_29 4 (f := mg.2.2.1) rfl rfl h_15 (n := 30) rfl ?_
      refine g_if_le X dX7_bySheets_30 (t := 40) (by decide) (n := 33) rfl (fun c_16 => ?_) (fun c_16 => ?_)
      · replace hf := k_pos c_16 hf
        refine g_sub [0, 1, 2, 4] (lv' := [(0, .ref (a 0)), (1, .int v1), (2, .int v2), (4, .int v4)]) rfl ?_
        exact wX7_bySheets_b40 X hk5 hret hf
      · replace hf := k_neg c_16 hf
        refine g_iconst X dX7_bySheets_33 (v := 1) (by decide) (n := 34) rfl ?_
        refine g_iload X dX7_bySheets_34 4 rfl (n := 36) rfl ?_
        refine g_ishl X dX7_bySheets_36 (n := 37) rfl ?_
        refine g_goto X dX7_bySheets_37 (n := 41) (by decide) ?_
        refine g_sub [0, 1, 2, 4] (lv' := [(0, .ref (a 0)), (1, .int v1), (2, .int v2), (4, .int v4)]) rfl ?_
        exact wX7_bySheets_b41 X hk5 hret hf
set_option maxRecDepth 100000 in
set_option maxHeartbeats 4000000 in
theorem wX7_bySheets_l5 {D : va_G} {l : Launch} {E : k_E} {N : Nat} {a : Nat → Nat} {mp : VMp} {mg : VMg} {mc : Nat → Int64} {mh : VMh} {ms : VMs} {mr : Nat → Int32} {mi : VMi} {res : Int64 × VMl × VMq} (X : k_X D E cX7_bySheets RX7 10 3 94) (hret : ∀ (pc : Nat) (lv : List (Nat × Value)), decode cX7_bySheets pc = .ok (.lreturn, 1) → k_G D l E (pic_X7 D a mp mg mc res.2.1 res.2.2 mh ms mr mi) lv pc [.long res.1]) : ∀ (n0 : Nat) (v1 : Int32) (v2 : Int32) (v3 : Int32) (v4 : Int32) (ml : VMl) (mq : VMq), fX7_bySheets_l5 N mg n0 v1 v2 v3 v4 ml mq = some res → k_G D l E (pic_X7 D a mp mg mc ml mq mh ms mr mi) [(0, .ref (a 0)), (1, .int v1), (2, .int v2), (3, .int v3), (4, .int v4)] 5 [] := by
  intro n0
  induction n0 with
  | zero => intro v1 v2 v3 v4 ml mq hf; cases hf
  | succ n0 ih => intro v1 v2 v3 v4 ml mq hf; exact wX7_bySheets_b5 (N := N) (k5 := fX7_bySheets_l5 N mg n0) X  ih hret hf
set_option maxRecDepth 100000 in
set_option maxHeartbeats 4000000 in
theorem wX7_bySheets {D : va_G} {l : Launch} {E : k_E} {N : Nat} {a : Nat → Nat} {p1 : Int32} {p2 : Int32} {mp : VMp} {mg : VMg} {mc : Nat → Int64} {ml : VMl} {mq : VMq} {mh : VMh} {ms : VMs} {mr : Nat → Int32} {mi : VMi} {res : Int64 × VMl × VMq} (X : k_X D E cX7_bySheets RX7 10 3 94) (hret : ∀ (pc : Nat) (lv : List (Nat × Value)), decode cX7_bySheets pc = .ok (.lreturn, 1) → k_G D l E (pic_X7 D a mp mg mc res.2.1 res.2.2 mh ms mr mi) lv pc [.long res.1]) (hf : fX7_bySheets N mg p1 p2 ml mq = some res) : k_G D l E (pic_X7 D a mp mg mc ml mq mh ms mr mi) [(0, .ref (a 0)), (1, .int p1), (2, .int p2)] 0 [] := by
  unfold fX7_bySheets at hf
  refine g_iconst X dX7_bySheets_0 (v := 0) (by decide) (n := 1) rfl ?_
  refine g_istore_n X dX7_bySheets_1 rfl (by decide) (lv2 := [(3, .int 0), (0, .ref (a 0)), (1, .int p1), (2, .int p2)]) rfl (n := 2) rfl ?_
  refine g_iconst X dX7_bySheets_2 (v := 0) (by decide) (n := 3) rfl ?_
  refine g_istore X dX7_bySheets_3 (by decide) (lv2 := [(4, .int 0), (3, .int 0), (0, .ref (a 0)), (1, .int p1), (2, .int p2)]) rfl (n := 5) rfl ?_
  refine g_sub [2, 3, 4, 1, 0] (lv' := [(0, .ref (a 0)), (1, .int p1), (2, .int p2), (3, .int 0), (4, .int 0)]) rfl ?_
  exact wX7_bySheets_l5 X  hret _ _ _ _ _ _ _ hf
set_option maxRecDepth 100000 in
set_option maxHeartbeats 4000000 in
theorem mX7_bySheets {l : Launch} {D : va_G} {N : Nat} {a : Nat → Nat} {p1 : Int32} {p2 : Int32} {mp : VMp} {mg : VMg} {mc : Nat → Int64} {ml : VMl} {mq : VMq} {mh : VMh} {ms : VMs} {mr : Nat → Int32} {mi : VMi} {res : Int64 × VMl × VMq} (hf : fX7_bySheets N mg p1 p2 ml mq = some res) : k_Met l yX7_bySheets cX7_bySheets 10 (some .long) 3 94 D [.ref (a 0), .int p1, .int p2] (pic_X7 D a mp mg mc ml mq mh ms mr mi) (some (.long res.1)) (pic_X7 D a mp mg mc res.2.1 res.2.2 mh ms mr mi) :=
  k_of_l (by decide) (Nat.le_of_ble_eq_true rfl) (fun E X hret => wX7_bySheets X hret hf)
set_option maxRecDepth 100000 in
set_option maxHeartbeats 4000000 in
theorem wX7_wrongNow {D : va_G} {l : Launch} {E : k_E} {N : Nat} {a : Nat → Nat} {p1 : Int32} {mp : VMp} {mg : VMg} {mc : Nat → Int64} {ml : VMl} {mq : VMq} {mh : VMh} {ms : VMs} {mr : Nat → Int32} {mi : VMi} {res : Int64 × VMq} (X : k_X D E cX7_wrongNow RX7 4 5 146) (hret : ∀ (pc : Nat) (lv : List (Nat × Value)), decode cX7_wrongNow pc = .ok (.lreturn, 1) → k_G D l E (pic_X7 D a mp mg mc ml res.2 mh ms mr mi) lv pc [.long res.1]) (hf : fX7_wrongNow N mg mc ml p1 mq = some res) : k_G D l E (pic_X7 D a mp mg mc ml mq mh ms mr mi) [(0, .ref (a 0)), (1, .int p1)] 0 [] := by
  unfold fX7_wrongNow at hf
  refine g_aload_n X dX7_wrongNow_0 0 rfl rfl (n := 1) rfl ?_
  refine g_iload_n X dX7_wrongNow_1 1 rfl rfl (n := 2) rfl ?_
  obtain ⟨x_1, mq_2, g_3, hf⟩ := k_b2s hf
  refine g_callV0 X (mX7_yesNow (D := D) (l := l) (a := a) (mp := mp) (mh := mh) (ms := ms) (mr := mr) (mi := mi) g_3) lk_X7_yesNow mlX7_156 dX7_wrongNow_2 (n := 5) rfl (st := []) rfl (st2 := [.long x_1]) rfl rfl rfl rfl (ws2 := pic_X7 D a mp mg mc ml mq_2 mh ms mr mi) (ad_X7 _ _ _ _ _ _ _ _ _ _ _ _ _ _ _ _ _ _ _ _) rfl ⟨Nat.le_of_ble_eq_true rfl, Nat.le_of_ble_eq_true rfl⟩ (Nat.le_of_ble_eq_true rfl) ?_
  refine g_lstore_n X dX7_wrongNow_5 rfl (by decide) (lv2 := [(2, .long x_1), (0, .ref (a 0)), (1, .int p1)]) rfl (n := 6) rfl ?_
  refine g_aload_n X dX7_wrongNow_6 1 rfl rfl (n := 7) rfl ?_
  obtain ⟨x_4, g_5, hf⟩ := k_b1s hf
  refine g_callV0 X (mX7_good (D := D) (l := l) (a := a) (mp := mp) (mg := mg) (mc := mc) (mq := mq_2) (mh := mh) (ms := ms) (mr := mr) (mi := mi) g_5) lk_X7_good mlX7_115 dX7_wrongNow_7 (n := 10) rfl (st := []) rfl (st2 := [.int x_4]) rfl rfl rfl rfl (ws2 := pic_X7 D a mp mg mc ml mq_2 mh ms mr mi) (ad_X7 _ _ _ _ _ _ _ _ _ _ _ _ _ _ _ _ _ _ _ _) rfl ⟨Nat.le_of_ble_eq_true rfl, Nat.le_of_ble_eq_true rfl⟩ (Nat.le_of_ble_eq_true rfl) ?_
  refine g_aload_n X dX7_wrongNow_10 1 rfl rfl (n := 11) rfl ?_
  refine g_get X dX7_wrongNow_11 flX7_25 0 rfl (v := .int mg.2.2.2.2.1) rfl (n := 14) rfl ?_
  refine g_icmp_lt X dX7_wrongNow_14 (t := 31) (by decide) (n := 17) rfl (fun c_6 => ?_) (fun c_6 => ?_)
  · replace hf := k_pos c_6 hf
    refine g_lload_n X dX7_wrongNow_31 0 rfl rfl (n := 32) rfl ?_
    obtain rfl := Option.some.inj hf
    exact hret _ _ dX7_wrongNow_32
  · replace hf := k_neg c_6 hf
    refine g_aload_n X dX7_wrongNow_17 1 rfl rfl (n := 18) rfl ?_
    refine g_aload_n X dX7_wrongNow_18 1 rfl rfl (n := 19) rfl ?_
    refine g_get X dX7_wrongNow_19 flX7_89 0 rfl (v := .int ml.2.1) rfl (n := 22) rfl ?_
    refine g_iload_n X dX7_wrongNow_22 2 rfl rfl (n := 23) rfl ?_
    obtain ⟨x_7, g_8, hf⟩ := k_b1s hf
    refine g_callV0 X (mX7_ways (D := D) (l := l) (a := a) (mp := mp) (mg := mg) (ml := ml) (mq := mq_2) (mh := mh) (ms := ms) (mr := mr) (mi := mi) g_8) lk_X7_ways mlX7_136 dX7_wrongNow_23 (n := 26) rfl (st := []) rfl (st2 := [.long x_7]) rfl rfl rfl rfl (ws2 := pic_X7 D a mp mg mc ml mq_2 mh ms mr mi) (ad_X7 _ _ _ _ _ _ _ _ _ _ _ _ _ _ _ _ _ _ _ _) rfl ⟨Nat.le_of_ble_eq_true rfl, Nat.le_of_ble_eq_true rfl⟩ (Nat.le_of_ble_eq_true rfl) ?_
    refine g_lload_n X dX7_wrongNow_26 0 rfl rfl (n := 27) rfl ?_
    refine g_lsub X dX7_wrongNow_27 (n := 28) rfl ?_
    refine g_goto X dX7_wrongNow_28 (n := 32) (by decide) ?_
    obtain rfl := Option.some.inj hf
    exact hret _ _ dX7_wrongNow_32
set_option maxRecDepth 100000 in
set_option maxHeartbeats 4000000 in
theorem mX7_wrongNow {l : Launch} {D : va_G} {N : Nat} {a : Nat → Nat} {p1 : Int32} {mp : VMp} {mg : VMg} {mc : Nat → Int64} {ml : VMl} {mq : VMq} {mh : VMh} {ms : VMs} {mr : Nat → Int32} {mi : VMi} {res : Int64 × VMq} (hf : fX7_wrongNow N mg mc ml p1 mq = some res) : k_Met l yX7_wrongNow cX7_wrongNow 4 (some .long) 5 146 D [.ref (a 0), .int p1] (pic_X7 D a mp mg mc ml mq mh ms mr mi) (some (.long res.1)) (pic_X7 D a mp mg mc ml res.2 mh ms mr mi) :=
  k_of_l (by decide) (Nat.le_of_ble_eq_true rfl) (fun E X hret => wX7_wrongNow X hret hf)
set_option maxRecDepth 100000 in
set_option maxHeartbeats 4000000 in
theorem wX7_wrong {D : va_G} {l : Launch} {E : k_E} {N : Nat} {a : Nat → Nat} {p1 : Int32} {p2 : Int32} {mp : VMp} {mg : VMg} {mc : Nat → Int64} {ml : VMl} {mq : VMq} {mh : VMh} {ms : VMs} {mr : Nat → Int32} {mi : VMi} {res : Int64 × VMl × VMq} (X : k_X D E cX7_wrong RX7 4 6 169) (hret : ∀ (pc : Nat) (lv : List (Nat × Value)), decode cX7_wrong pc = .ok (.lreturn, 1) → k_G D l E (pic_X7 D a mp mg mc res.2.1 res.2.2 mh ms mr mi) lv pc [.long res.1]) (hf : fX7_wrong N mg mc p1 p2 ml mq = some res) : k_G D l E (pic_X7 D a mp mg mc ml mq mh ms mr mi) [(0, .ref (a 0)), (1, .int p1), (2, .int p2)] 0 [] := by
  unfold fX7_wrong at hf
  refine g_aload_n X dX7_wrong_0 0 rfl rfl (n := 1) rfl ?_
  refine g_iload_n X dX7_wrong_1 1 rfl rfl (n := 2) rfl ?_
  refine g_iload_n X dX7_wrong_2 2 rfl rfl (n := 3) rfl ?_
  obtain ⟨x_1, g_2, hf⟩ := k_b1s hf
  refine g_callS0 X (mX7_isPart (D := D) (l := l)  g_2) lk_X7_isPart mlX7_129 dX7_wrong_3 (n := 6) rfl (st := [.int p1, .ref (a 0)]) rfl (st2 := [.int (bI x_1), .int p1, .ref (a 0)]) rfl rfl ⟨Nat.le_of_ble_eq_true rfl, Nat.le_of_ble_eq_true rfl⟩ (Nat.le_of_ble_eq_true rfl) ?_
  obtain ⟨x_3, ml_4, g_5, hf⟩ := k_b2s hf
  refine g_callV0 X (mX7_barOfLot (D := D) (l := l) (a := a) (mp := mp) (mc := mc) (mq := mq) (mh := mh) (ms := ms) (mr := mr) (mi := mi) g_5) lk_X7_barOfLot mlX7_150 dX7_wrong_6 (n := 9) rfl (st := []) rfl (st2 := [.int x_3]) rfl rfl rfl rfl (ws2 := pic_X7 D a mp mg mc ml_4 mq mh ms mr mi) (ad_X7 _ _ _ _ _ _ _ _ _ _ _ _ _ _ _ _ _ _ _ _) rfl ⟨Nat.le_of_ble_eq_true rfl, Nat.le_of_ble_eq_true rfl⟩ (Nat.le_of_ble_eq_true rfl) ?_
  refine g_istore_n X dX7_wrong_9 rfl (by decide) (lv2 := [(3, .int x_3), (0, .ref (a 0)), (1, .int p1), (2, .int p2)]) rfl (n := 10) rfl ?_
  refine g_iload_n X dX7_wrong_10 0 rfl rfl (n := 11) rfl ?_
  refine g_if_ge X dX7_wrong_11 (t := 23) (by decide) (n := 14) rfl (fun c_6 => ?_) (fun c_6 => ?_)
  · replace hf := k_pos c_6 hf
    refine g_aload_n X dX7_wrong_23 1 rfl rfl (n := 24) rfl ?_
    refine g_iload_n X dX7_wrong_24 2 rfl rfl (n := 25) rfl ?_
    obtain ⟨x_7, mq_8, g_9, hf⟩ := k_b2s hf
    refine g_callV0 X (mX7_wrongNow (D := D) (l := l) (a := a) (mp := mp) (mh := mh) (ms := ms) (mr := mr) (mi := mi) g_9) lk_X7_wrongNow mlX7_170 dX7_wrong_25 (n := 28) rfl (st := []) rfl (st2 := [.long x_7]) rfl rfl rfl rfl (ws2 := pic_X7 D a mp mg mc ml_4 mq_8 mh ms mr mi) (ad_X7 _ _ _ _ _ _ _ _ _ _ _ _ _ _ _ _ _ _ _ _) rfl ⟨Nat.le_of_ble_eq_true rfl, Nat.le_of_ble_eq_true rfl⟩ (Nat.le_of_ble_eq_true rfl) ?_
    refine g_aload_n X dX7_wrong_28 1 rfl rfl (n := 29) rfl ?_
    refine g_aload_n X dX7_wrong_29 1 rfl rfl (n := 30) rfl ?_
    refine g_get X dX7_wrong_30 flX7_89 0 rfl (v := .int ml_4.2.1) rfl (n := 33) rfl ?_
    refine g_iload_n X dX7_wrong_33 2 rfl rfl (n := 34) rfl ?_
    obtain ⟨x_10, g_11, hf⟩ := k_b1s hf
    refine g_callV0 X (mX7_ways (D := D) (l := l) (a := a) (mp := mp) (mg := mg) (ml := ml_4) (mq := mq_8) (mh := mh) (ms := ms) (mr := mr) (mi := mi) g_11) lk_X7_ways mlX7_136 dX7_wrong_34 (n := 37) rfl (st := [.long x_7]) rfl (st2 := [.long x_10, .long x_7]) rfl rfl rfl rfl (ws2 := pic_X7 D a mp mg mc ml_4 mq_8 mh ms mr mi) (ad_X7 _ _ _ _ _ _ _ _ _ _ _ _ _ _ _ _ _ _ _ _) rfl ⟨Nat.le_of_ble_eq_true rfl, Nat.le_of_ble_eq_true rfl⟩ (Nat.le_of_ble_eq_true rfl) ?_
    refine g_iload_n X dX7_wrong_37 3 rfl rfl (n := 38) rfl ?_
    obtain ⟨x_12, g_13, hf⟩ := k_b1s hf
    refine g_callS0 X (mX7_term (D := D) (l := l)  g_13) lk_X7_term mlX7_160 dX7_wrong_38 (n := 41) rfl (st := []) rfl (st2 := [.long x_12]) rfl rfl ⟨Nat.le_of_ble_eq_true rfl, Nat.le_of_ble_eq_true rfl⟩ (Nat.le_of_ble_eq_true rfl) ?_
    obtain rfl := Option.some.inj hf
    exact hret _ _ dX7_wrong_41
  · replace hf := k_neg c_6 hf
    refine g_ldc2 X dX7_wrong_14 kcX7_154 (n := 17) rfl ?_
    refine g_iload_n X dX7_wrong_17 0 rfl rfl (n := 18) rfl ?_
    refine g_i2l X dX7_wrong_18 (n := 19) rfl ?_
    refine g_ladd X dX7_wrong_19 (n := 20) rfl ?_
    refine g_goto X dX7_wrong_20 (n := 41) (by decide) ?_
    obtain rfl := Option.some.inj hf
    exact hret _ _ dX7_wrong_41
set_option maxRecDepth 100000 in
set_option maxHeartbeats 4000000 in
theorem mX7_wrong {l : Launch} {D : va_G} {N : Nat} {a : Nat → Nat} {p1 : Int32} {p2 : Int32} {mp : VMp} {mg : VMg} {mc : Nat → Int64} {ml : VMl} {mq : VMq} {mh : VMh} {ms : VMs} {mr : Nat → Int32} {mi : VMi} {res : Int64 × VMl × VMq} (hf : fX7_wrong N mg mc p1 p2 ml mq = some res) : k_Met l yX7_wrong cX7_wrong 4 (some .long) 6 169 D [.ref (a 0), .int p1, .int p2] (pic_X7 D a mp mg mc ml mq mh ms mr mi) (some (.long res.1)) (pic_X7 D a mp mg mc res.2.1 res.2.2 mh ms mr mi) :=
  k_of_l (by decide) (Nat.le_of_ble_eq_true rfl) (fun E X hret => wX7_wrong X hret hf)
set_option maxRecDepth 100000 in
set_option maxHeartbeats 4000000 in
theorem wX7_enough_b41 {D : va_G} {l : Launch} {E : k_E} {N : Nat} {a : Nat → Nat} {k41 : Int32 → Int32 → VMl → VMq → Option (Int32 × VMl × VMq)} {v1 : Int32} {v2 : Int32} {mp : VMp} {mg : VMg} {mc : Nat → Int64} {ml : VMl} {mq : VMq} {mh : VMh} {ms : VMs} {mr : Nat → Int32} {mi : VMi} {res : Int32 × VMl × VMq} (X : k_X D E cX7_enough RX7 5 6 169) (hk41 : ∀ (v1 : Int32) (v2 : Int32) (ml : VMl) (mq : VMq), k41 v1 v2 ml mq = some res → k_G D l E (pic_X7 D a mp mg mc ml mq mh ms mr mi) [(0, .ref (a 0)), (1, .int v1), (2, .int v2)] 41 []) (hret : ∀ (pc : Nat) (lv : List (Nat × Value)), decode cX7_enough pc = .ok (.ireturn, 1) → k_G D l E (pic_X7 D a mp mg mc res.2.1 res.2.2 mh ms mr mi) lv pc [.int res.1]) (hf : fX7_enough_b41 N mg mc k41 v1 v2 ml mq = some res) : k_G D l E (pic_X7 D a mp mg mc ml mq mh ms mr mi) [(0, .ref (a 0)), (1, .int v1), (2, .int v2)] 41 [] := by
  unfold fX7_enough_b41 at hf
  refine g_iload_n X dX7_enough_41 2 rfl rfl (n := 42) rfl ?_
  refine g_aload_n X dX7_enough_42 0 rfl rfl (n := 43) rfl ?_
  refine g_get X dX7_enough_43 flX7_89 0 rfl (v := .int ml.2.1) rfl (n := 46) rfl ?_
  refine g_icmp_gt X dX7_enough_46 (t := 97) (by decide) (n := 49) rfl (fun c_1 => ?_) (fun c_1 => ?_)
  · replace hf := k_pos c_1 hf
    refine g_bipush X dX7_enough_97 (v := (-6)) (by decide) (n := 99) rfl ?_
    obtain rfl := Option.some.inj hf
    exact hret _ _ dX7_enough_99
  · replace hf := k_neg c_1 hf
    refine g_aload_n X dX7_enough_49 0 rfl rfl (n := 50) rfl ?_
    refine g_aload_n X dX7_enough_50 0 rfl rfl (n := 51) rfl ?_
    refine g_get X dX7_enough_51 flX7_89 0 rfl (v := .int ml.2.1) rfl (n := 54) rfl ?_
    refine g_iload_n X dX7_enough_54 2 rfl rfl (n := 55) rfl ?_
    obtain ⟨x_2, g_3, hf⟩ := k_b1s hf
    refine g_callV0 X (mX7_ways (D := D) (l := l) (a := a) (mp := mp) (mg := mg) (ml := ml) (mq := mq) (mh := mh) (ms := ms) (mr := mr) (mi := mi) g_3) lk_X7_ways mlX7_136 dX7_enough_55 (n := 58) rfl (st := []) rfl (st2 := [.long x_2]) rfl rfl rfl rfl (ws2 := pic_X7 D a mp mg mc ml mq mh ms mr mi) (ad_X7 _ _ _ _ _ _ _ _ _ _ _ _ _ _ _ _ _ _ _ _) rfl ⟨Nat.le_of_ble_eq_true rfl, Nat.le_of_ble_eq_true rfl⟩ (Nat.le_of_ble_eq_true rfl) ?_
    refine g_lstore_n X dX7_enough_58 rfl (by decide) (lv2 := [(3, .long x_2), (0, .ref (a 0)), (1, .int v1), (2, .int v2)]) rfl (n := 59) rfl ?_
    refine g_aload_n X dX7_enough_59 1 rfl rfl (n := 60) rfl ?_
    refine g_iload_n X dX7_enough_60 3 rfl rfl (n := 61) rfl ?_
    obtain ⟨x_4, mq_5, g_6, hf⟩ := k_b2s hf
    refine g_callV0 X (mX7_wrongNow (D := D) (l := l) (a := a) (mp := mp) (mh := mh) (ms := ms) (mr := mr) (mi := mi) g_6) lk_X7_wrongNow mlX7_170 dX7_enough_61 (n := 64) rfl (st := []) rfl (st2 := [.long x_4]) rfl rfl rfl rfl (ws2 := pic_X7 D a mp mg mc ml mq_5 mh ms mr mi) (ad_X7 _ _ _ _ _ _ _ _ _ _ _ _ _ _ _ _ _ _ _ _) rfl ⟨Nat.le_of_ble_eq_true rfl, Nat.le_of_ble_eq_true rfl⟩ (Nat.le_of_ble_eq_true rfl) ?_
    refine g_lload_n X dX7_enough_64 0 rfl rfl (n := 65) rfl ?_
    refine g_ldc2 X dX7_enough_65 kcX7_173 (n := 68) rfl ?_
    refine g_ldiv X dX7_enough_68 (by decide) (n := 69) rfl ?_
    refine g_iload_n X dX7_enough_69 2 rfl rfl (n := 70) rfl ?_
    refine g_i2l X dX7_enough_70 (n := 71) rfl ?_
    refine g_lmul X dX7_enough_71 (n := 72) rfl ?_
    refine g_lload_n X dX7_enough_72 0 rfl rfl (n := 73) rfl ?_
    refine g_ldc2 X dX7_enough_73 kcX7_173 (n := 76) rfl ?_
    refine g_lrem X dX7_enough_76 (by decide) (n := 77) rfl ?_
    refine g_iload_n X dX7_enough_77 2 rfl rfl (n := 78) rfl ?_
    refine g_i2l X dX7_enough_78 (n := 79) rfl ?_
    refine g_lmul X dX7_enough_79 (n := 80) rfl ?_
    refine g_ldc2 X dX7_enough_80 kcX7_173 (n := 83) rfl ?_
    refine g_ldiv X dX7_enough_83 (by decide) (n := 84) rfl ?_
    refine g_ladd X dX7_enough_84 (n := 85) rfl ?_
    refine g_lcmp_gt X dX7_enough_85 dX7_enough_86 (t := 91) (by decide) (n := 89) rfl (fun c_7 => ?_) (fun c_7 => ?_)
    · replace hf := k_pos c_7 hf
      refine g_iinc X dX7_enough_91 3 rfl (v := v2 + 1) rfl (by decide) (lv2 := [(2, .int (v2 + 1)), (3, .long x_2), (0, .ref (a 0)), (1, .int v1)]) rfl (n := 94) rfl ?_
      refine g_goto X dX7_enough_94 (n := 41) (by decide) ?_
      refine g_sub [2, 3, 0] (lv' := [(0, .ref (a 0)), (1, .int v1), (2, .int (v2 + 1))]) rfl ?_
      exact hk41 _ _ _ _ hf
    · replace hf := k_neg c_7 hf
      refine g_iload_n X dX7_enough_89 3 rfl rfl (n := 90) rfl ?_
      obtain rfl := Option.some.inj hf
      exact hret _ _ dX7_enough_90
set_option maxRecDepth 100000 in
set_option maxHeartbeats 4000000 in
theorem wX7_enough_l41 {D : va_G} {l : Launch} {E : k_E} {N : Nat} {a : Nat → Nat} {mp : VMp} {mg : VMg} {mc : Nat → Int64} {mh : VMh} {ms : VMs} {mr : Nat → Int32} {mi : VMi} {res : Int32 × VMl × VMq} (X : k_X D E cX7_enough RX7 5 6 169) (hret : ∀ (pc : Nat) (lv : List (Nat × Value)), decode cX7_enough pc = .ok (.ireturn, 1) → k_G D l E (pic_X7 D a mp mg mc res.2.1 res.2.2 mh ms mr mi) lv pc [.int res.1]) : ∀ (n0 : Nat) (v1 : Int32) (v2 : Int32) (ml : VMl) (mq : VMq), fX7_enough_l41 N mg mc n0 v1 v2 ml mq = some res → k_G D l E (pic_X7 D a mp mg mc ml mq mh ms mr mi) [(0, .ref (a 0)), (1, .int v1), (2, .int v2)] 41 [] := by
  intro n0
  induction n0 with
  | zero => intro v1 v2 ml mq hf; cases hf
  | succ n0 ih => intro v1 v2 ml mq hf; exact wX7_enough_b41 (N := N) (k41 := fX7_enough_l41 N mg mc n0) X  ih hret hf
set_option maxRecDepth 100000 in
set_option maxHeartbeats 4000000 in
theorem wX7_enough {D : va_G} {l : Launch} {E : k_E} {N : Nat} {a : Nat → Nat} {p1 : Int32} {mp : VMp} {mg : VMg} {mc : Nat → Int64} {ml : VMl} {mq : VMq} {mh : VMh} {ms : VMs} {mr : Nat → Int32} {mi : VMi} {res : Int32 × VMl × VMq} (X : k_X D E cX7_enough RX7 5 6 169) (hret : ∀ (pc : Nat) (lv : List (Nat × Value)), decode cX7_enough pc = .ok (.ireturn, 1) → k_G D l E (pic_X7 D a mp mg mc res.2.1 res.2.2 mh ms mr mi) lv pc [.int res.1]) (hf : fX7_enough N mg mc p1 ml mq = some res) : k_G D l E (pic_X7 D a mp mg mc ml mq mh ms mr mi) [(0, .ref (a 0)), (1, .int p1)] 0 [] := by
  unfold fX7_enough at hf
  refine g_iload_n X dX7_enough_0 1 rfl rfl (n := 1) rfl ?_
  refine g_iconst X dX7_enough_1 (v := 0) (by decide) (n := 2) rfl ?_
  refine g_sipush X dX7_enough_2 (v := 1000) (by decide) (n := 5) rfl ?_
  obtain ⟨x_1, g_2, hf⟩ := k_b1s hf
  refine g_callS0 X (mX7_in (D := D) (l := l)  g_2) lk_X7_in mlX7_58 dX7_enough_5 (n := 8) rfl (st := []) rfl (st2 := [.int (bI x_1)]) rfl rfl ⟨Nat.le_of_ble_eq_true rfl, Nat.le_of_ble_eq_true rfl⟩ (Nat.le_of_ble_eq_true rfl) ?_
  refine g_if_neB X dX7_enough_8 (t := 14) (by decide) (n := 11) rfl (fun c_3 => ?_) (fun c_3 => ?_)
  · replace hf := k_pos c_3 hf
    refine g_aload_n X dX7_enough_14 0 rfl rfl (n := 15) rfl ?_
    refine g_aload_n X dX7_enough_15 0 rfl rfl (n := 16) rfl ?_
    obtain ⟨x_4, g_5, hf⟩ := k_b1s hf
    refine g_callV0 X (mX7_valid (D := D) (l := l) (a := a) (mp := mp) (mc := mc) (ml := ml) (mq := mq) (mh := mh) (ms := ms) (mr := mr) (mi := mi) g_5) lk_X7_valid mlX7_108 dX7_enough_16 (n := 19) rfl (st := [.ref (a 0)]) rfl (st2 := [.int x_4, .ref (a 0)]) rfl rfl rfl rfl (ws2 := pic_X7 D a mp mg mc ml mq mh ms mr mi) (ad_X7 _ _ _ _ _ _ _ _ _ _ _ _ _ _ _ _ _ _ _ _) rfl ⟨Nat.le_of_ble_eq_true rfl, Nat.le_of_ble_eq_true rfl⟩ (Nat.le_of_ble_eq_true rfl) ?_
    obtain ⟨ml_6, g_7, hf⟩ := k_b1s hf
    refine g_callV0 X (mX7_layList (D := D) (l := l) (a := a) (mp := mp) (mc := mc) (mq := mq) (mh := mh) (ms := ms) (mr := mr) (mi := mi) g_7) lk_X7_layList mlX7_111 dX7_enough_19 (n := 22) rfl (st := []) rfl (st2 := []) rfl rfl rfl rfl (ws2 := pic_X7 D a mp mg mc ml_6 mq mh ms mr mi) (ad_X7 _ _ _ _ _ _ _ _ _ _ _ _ _ _ _ _ _ _ _ _) rfl ⟨Nat.le_of_ble_eq_true rfl, Nat.le_of_ble_eq_true rfl⟩ (Nat.le_of_ble_eq_true rfl) ?_
    refine g_aload_n X dX7_enough_22 0 rfl rfl (n := 23) rfl ?_
    refine g_get X dX7_enough_23 flX7_104 0 rfl (v := .int (bI ml_6.2.2.2.2.2.2)) rfl (n := 26) rfl ?_
    refine g_if_neB X dX7_enough_26 (t := 36) (by decide) (n := 29) rfl (fun c_8 => ?_) (fun c_8 => ?_)
    · replace hf := k_pos c_8 hf
      refine g_bipush X dX7_enough_36 (v := (-3)) (by decide) (n := 38) rfl ?_
      obtain rfl := Option.some.inj hf
      exact hret _ _ dX7_enough_38
    · replace hf := k_neg c_8 hf
      refine g_aload_n X dX7_enough_29 0 rfl rfl (n := 30) rfl ?_
      refine g_get X dX7_enough_30 flX7_89 0 rfl (v := .int ml_6.2.1) rfl (n := 33) rfl ?_
      refine g_if_ne X dX7_enough_33 (t := 39) (by decide) (n := 36) rfl (fun c_9 => ?_) (fun c_9 => ?_)
      · replace hf := k_neg c_9 hf
        refine g_iconst X dX7_enough_39 (v := 1) (by decide) (n := 40) rfl ?_
        refine g_istore_n X dX7_enough_40 rfl (by decide) (lv2 := [(2, .int 1), (0, .ref (a 0)), (1, .int p1)]) rfl (n := 41) rfl ?_
        refine g_sub [1, 2, 0] (lv' := [(0, .ref (a 0)), (1, .int p1), (2, .int 1)]) rfl ?_
        exact wX7_enough_l41 X  hret _ _ _ _ _ hf
      · replace hf := k_pos c_9 hf
        refine g_bipush X dX7_enough_36 (v := (-3)) (by decide) (n := 38) rfl ?_
        obtain rfl := Option.some.inj hf
        exact hret _ _ dX7_enough_38
  · replace hf := k_neg c_3 hf
    refine g_bipush X dX7_enough_11 (v := (-2)) (by decide) (n := 13) rfl ?_
    obtain rfl := Option.some.inj hf
    exact hret _ _ dX7_enough_13
set_option maxRecDepth 100000 in
set_option maxHeartbeats 4000000 in
theorem mX7_enough {l : Launch} {D : va_G} {N : Nat} {a : Nat → Nat} {p1 : Int32} {mp : VMp} {mg : VMg} {mc : Nat → Int64} {ml : VMl} {mq : VMq} {mh : VMh} {ms : VMs} {mr : Nat → Int32} {mi : VMi} {res : Int32 × VMl × VMq} (hf : fX7_enough N mg mc p1 ml mq = some res) : k_Met l yX7_enough cX7_enough 5 (some .int) 6 169 D [.ref (a 0), .int p1] (pic_X7 D a mp mg mc ml mq mh ms mr mi) (some (.int res.1)) (pic_X7 D a mp mg mc res.2.1 res.2.2 mh ms mr mi) :=
  k_of_i (by decide) (Nat.le_of_ble_eq_true rfl) (fun E X hret => wX7_enough X hret hf)
set_option maxRecDepth 100000 in
set_option maxHeartbeats 4000000 in
theorem wX7_worth {D : va_G} {l : Launch} {E : k_E} {N : Nat} {a : Nat → Nat} {p1 : Int32} {p2 : Int32} {p3 : Int32} {p4 : Int32} {mp : VMp} {mg : VMg} {mc : Nat → Int64} {ml : VMl} {mq : VMq} {mh : VMh} {ms : VMs} {mr : Nat → Int32} {mi : VMi} {res : Int64 × VMl × VMq} (X : k_X D E cX7_worth RX7 10 3 70) (hret : ∀ (pc : Nat) (lv : List (Nat × Value)), decode cX7_worth pc = .ok (.lreturn, 1) → k_G D l E (pic_X7 D a mp mg mc res.2.1 res.2.2 mh ms mr mi) lv pc [.long res.1]) (hf : fX7_worth N mg p1 p2 p3 p4 ml mq = some res) : k_G D l E (pic_X7 D a mp mg mc ml mq mh ms mr mi) [(0, .ref (a 0)), (1, .int p1), (2, .int p2), (3, .int p3), (4, .int p4)] 0 [] := by
  unfold fX7_worth at hf
  refine g_aload_n X dX7_worth_0 0 rfl rfl (n := 1) rfl ?_
  refine g_aload_n X dX7_worth_1 0 rfl rfl (n := 2) rfl ?_
  obtain ⟨x_1, g_2, hf⟩ := k_b1s hf
  refine g_callV0 X (mX7_valid (D := D) (l := l) (a := a) (mp := mp) (mc := mc) (ml := ml) (mq := mq) (mh := mh) (ms := ms) (mr := mr) (mi := mi) g_2) lk_X7_valid mlX7_108 dX7_worth_2 (n := 5) rfl (st := [.ref (a 0)]) rfl (st2 := [.int x_1, .ref (a 0)]) rfl rfl rfl rfl (ws2 := pic_X7 D a mp mg mc ml mq mh ms mr mi) (ad_X7 _ _ _ _ _ _ _ _ _ _ _ _ _ _ _ _ _ _ _ _) rfl ⟨Nat.le_of_ble_eq_true rfl, Nat.le_of_ble_eq_true rfl⟩ (Nat.le_of_ble_eq_true rfl) ?_
  obtain ⟨ml_3, g_4, hf⟩ := k_b1s hf
  refine g_callV0 X (mX7_layList (D := D) (l := l) (a := a) (mp := mp) (mc := mc) (mq := mq) (mh := mh) (ms := ms) (mr := mr) (mi := mi) g_4) lk_X7_layList mlX7_111 dX7_worth_5 (n := 8) rfl (st := []) rfl (st2 := []) rfl rfl rfl rfl (ws2 := pic_X7 D a mp mg mc ml_3 mq mh ms mr mi) (ad_X7 _ _ _ _ _ _ _ _ _ _ _ _ _ _ _ _ _ _ _ _) rfl ⟨Nat.le_of_ble_eq_true rfl, Nat.le_of_ble_eq_true rfl⟩ (Nat.le_of_ble_eq_true rfl) ?_
  refine g_iload_n X dX7_worth_8 1 rfl rfl (n := 9) rfl ?_
  refine g_iconst X dX7_worth_9 (v := 1) (by decide) (n := 10) rfl ?_
  refine g_aload_n X dX7_worth_10 0 rfl rfl (n := 11) rfl ?_
  refine g_get X dX7_worth_11 flX7_89 0 rfl (v := .int ml_3.2.1) rfl (n := 14) rfl ?_
  obtain ⟨x_5, g_6, hf⟩ := k_b1s hf
  refine g_callS0 X (mX7_in (D := D) (l := l)  g_6) lk_X7_in mlX7_58 dX7_worth_14 (n := 17) rfl (st := []) rfl (st2 := [.int (bI x_5)]) rfl rfl ⟨Nat.le_of_ble_eq_true rfl, Nat.le_of_ble_eq_true rfl⟩ (Nat.le_of_ble_eq_true rfl) ?_
  refine g_if_eqB X dX7_worth_17 (t := 48) (by decide) (n := 20) rfl (fun c_7 => ?_) (fun c_7 => ?_)
  · replace hf := k_neg c_7 hf
    refine g_ldc2 X dX7_worth_48 kcX7_132 (n := 51) rfl ?_
    obtain rfl := Option.some.inj hf
    exact hret _ _ dX7_worth_51
  · replace hf := k_pos c_7 hf
    refine g_iload_n X dX7_worth_20 2 rfl rfl (n := 21) rfl ?_
    refine g_iconst X dX7_worth_21 (v := 0) (by decide) (n := 22) rfl ?_
    refine g_bipush X dX7_worth_22 (v := 60) (by decide) (n := 24) rfl ?_
    obtain ⟨x_8, g_9, hf⟩ := k_b1s hf
    refine g_callS0 X (mX7_in (D := D) (l := l)  g_9) lk_X7_in mlX7_58 dX7_worth_24 (n := 27) rfl (st := []) rfl (st2 := [.int (bI x_8)]) rfl rfl ⟨Nat.le_of_ble_eq_true rfl, Nat.le_of_ble_eq_true rfl⟩ (Nat.le_of_ble_eq_true rfl) ?_
    refine g_if_eqB X dX7_worth_27 (t := 48) (by decide) (n := 30) rfl (fun c_10 => ?_) (fun c_10 => ?_)
    · replace hf := k_neg c_10 hf
      refine g_ldc2 X dX7_worth_48 kcX7_132 (n := 51) rfl ?_
      obtain rfl := Option.some.inj hf
      exact hret _ _ dX7_worth_51
    · replace hf := k_pos c_10 hf
      refine g_iload_n X dX7_worth_30 3 rfl rfl (n := 31) rfl ?_
      refine g_iconst X dX7_worth_31 (v := 0) (by decide) (n := 32) rfl ?_
      refine g_bipush X dX7_worth_32 (v := 60) (by decide) (n := 34) rfl ?_
      obtain ⟨x_11, g_12, hf⟩ := k_b1s hf
      refine g_callS0 X (mX7_in (D := D) (l := l)  g_12) lk_X7_in mlX7_58 dX7_worth_34 (n := 37) rfl (st := []) rfl (st2 := [.int (bI x_11)]) rfl rfl ⟨Nat.le_of_ble_eq_true rfl, Nat.le_of_ble_eq_true rfl⟩ (Nat.le_of_ble_eq_true rfl) ?_
      refine g_if_eqB X dX7_worth_37 (t := 48) (by decide) (n := 40) rfl (fun c_13 => ?_) (fun c_13 => ?_)
      · replace hf := k_neg c_13 hf
        refine g_ldc2 X dX7_worth_48 kcX7_132 (n := 51) rfl ?_
        obtain rfl := Option.some.inj hf
        exact hret _ _ dX7_worth_51
      · replace hf := k_pos c_13 hf
        refine g_iload X dX7_worth_40 4 rfl (n := 42) rfl ?_
        obtain ⟨x_14, g_15, hf⟩ := k_b1s hf
        refine g_callS0 X (mX7_isPart (D := D) (l := l)  g_15) lk_X7_isPart mlX7_129 dX7_worth_42 (n := 45) rfl (st := []) rfl (st2 := [.int (bI x_14)]) rfl rfl ⟨Nat.le_of_ble_eq_true rfl, Nat.le_of_ble_eq_true rfl⟩ (Nat.le_of_ble_eq_true rfl) ?_
        refine g_if_neB X dX7_worth_45 (t := 52) (by decide) (n := 48) rfl (fun c_16 => ?_) (fun c_16 => ?_)
        · replace hf := k_pos c_16 hf
          refine g_aload_n X dX7_worth_52 0 rfl rfl (n := 53) rfl ?_
          refine g_aload_n X dX7_worth_53 0 rfl rfl (n := 54) rfl ?_
          refine g_get X dX7_worth_54 flX7_89 0 rfl (v := .int ml_3.2.1) rfl (n := 57) rfl ?_
          refine g_iload_n X dX7_worth_57 1 rfl rfl (n := 58) rfl ?_
          refine g_iload_n X dX7_worth_58 2 rfl rfl (n := 59) rfl ?_
          refine g_iload_n X dX7_worth_59 3 rfl rfl (n := 60) rfl ?_
          obtain ⟨x_17, mq_18, g_19, hf⟩ := k_b2s hf
          refine g_callV0 X (mX7_comesTo (D := D) (l := l) (a := a) (mp := mp) (mc := mc) (ml := ml_3) (mh := mh) (ms := ms) (mr := mr) (mi := mi) g_19) lk_X7_comesTo mlX7_125 dX7_worth_60 (n := 63) rfl (st := []) rfl (st2 := [.int (bI x_17)]) rfl rfl rfl rfl (ws2 := pic_X7 D a mp mg mc ml_3 mq_18 mh ms mr mi) (ad_X7 _ _ _ _ _ _ _ _ _ _ _ _ _ _ _ _ _ _ _ _) rfl ⟨Nat.le_of_ble_eq_true rfl, Nat.le_of_ble_eq_true rfl⟩ (Nat.le_of_ble_eq_true rfl) ?_
          refine g_istore X dX7_worth_63 (by decide) (lv2 := [(5, .int (bI x_17)), (0, .ref (a 0)), (1, .int p1), (2, .int p2), (3, .int p3), (4, .int p4)]) rfl (n := 65) rfl ?_
          refine g_aload_n X dX7_worth_65 1 rfl rfl (n := 66) rfl ?_
          refine g_get X dX7_worth_66 flX7_118 0 rfl (v := .long mq_18.2.2.1) rfl (n := 69) rfl ?_
          refine g_lstore X dX7_worth_69 (by decide) (lv2 := [(6, .long mq_18.2.2.1), (5, .int (bI x_17)), (0, .ref (a 0)), (1, .int p1), (2, .int p2), (3, .int p3), (4, .int p4)]) rfl (n := 71) rfl ?_
          refine g_aload_n X dX7_worth_71 2 rfl rfl (n := 72) rfl ?_
          refine g_get X dX7_worth_72 flX7_122 0 rfl (v := .long mq_18.2.2.2) rfl (n := 75) rfl ?_
          refine g_lstore X dX7_worth_75 (by decide) (lv2 := [(8, .long mq_18.2.2.2), (6, .long mq_18.2.2.1), (5, .int (bI x_17)), (0, .ref (a 0)), (1, .int p1), (2, .int p2), (3, .int p3), (4, .int p4)]) rfl (n := 77) rfl ?_
          refine g_iload X dX7_worth_77 2 rfl (n := 79) rfl ?_
          refine g_if_eqB X dX7_worth_79 (t := 98) (by decide) (n := 82) rfl (fun c_20 => ?_) (fun c_20 => ?_)
          · replace hf := k_neg c_20 hf
            refine g_ldc2 X dX7_worth_98 kcX7_134 (n := 101) rfl ?_
            obtain rfl := Option.some.inj hf
            exact hret _ _ dX7_worth_101
          · replace hf := k_pos c_20 hf
            refine g_aload_n X dX7_worth_82 3 rfl rfl (n := 83) rfl ?_
            refine g_aload_n X dX7_worth_83 3 rfl rfl (n := 84) rfl ?_
            refine g_get X dX7_worth_84 flX7_89 0 rfl (v := .int ml_3.2.1) rfl (n := 87) rfl ?_
            refine g_iload_n X dX7_worth_87 4 rfl rfl (n := 88) rfl ?_
            refine g_iload_n X dX7_worth_88 5 rfl rfl (n := 89) rfl ?_
            refine g_iload_n X dX7_worth_89 6 rfl rfl (n := 90) rfl ?_
            refine g_iconst X dX7_worth_90 (v := 1) (by decide) (n := 91) rfl ?_
            refine g_iadd X dX7_worth_91 (n := 92) rfl ?_
            obtain ⟨x_21, mq_22, g_23, hf⟩ := k_b2s hf
            refine g_callV0 X (mX7_comesTo (D := D) (l := l) (a := a) (mp := mp) (mc := mc) (ml := ml_3) (mh := mh) (ms := ms) (mr := mr) (mi := mi) g_23) lk_X7_comesTo mlX7_125 dX7_worth_92 (n := 95) rfl (st := []) rfl (st2 := [.int (bI x_21)]) rfl rfl rfl rfl (ws2 := pic_X7 D a mp mg mc ml_3 mq_22 mh ms mr mi) (ad_X7 _ _ _ _ _ _ _ _ _ _ _ _ _ _ _ _ _ _ _ _) rfl ⟨Nat.le_of_ble_eq_true rfl, Nat.le_of_ble_eq_true rfl⟩ (Nat.le_of_ble_eq_true rfl) ?_
            refine g_if_neB X dX7_worth_95 (t := 102) (by decide) (n := 98) rfl (fun c_24 => ?_) (fun c_24 => ?_)
            · replace hf := k_pos c_24 hf
              refine g_lload X dX7_worth_102 1 rfl (n := 104) rfl ?_
              refine g_aload_n X dX7_worth_104 3 rfl rfl (n := 105) rfl ?_
              refine g_get X dX7_worth_105 flX7_122 0 rfl (v := .long mq_22.2.2.2) rfl (n := 108) rfl ?_
              refine g_lmul X dX7_worth_108 (n := 109) rfl ?_
              refine g_aload_n X dX7_worth_109 3 rfl rfl (n := 110) rfl ?_
              refine g_get X dX7_worth_110 flX7_118 0 rfl (v := .long mq_22.2.2.1) rfl (n := 113) rfl ?_
              refine g_lload X dX7_worth_113 0 rfl (n := 115) rfl ?_
              refine g_lmul X dX7_worth_115 (n := 116) rfl ?_
              refine g_lsub X dX7_worth_116 (n := 117) rfl ?_
              refine g_lload X dX7_worth_117 0 rfl (n := 119) rfl ?_
              refine g_aload_n X dX7_worth_119 3 rfl rfl (n := 120) rfl ?_
              refine g_get X dX7_worth_120 flX7_122 0 rfl (v := .long mq_22.2.2.2) rfl (n := 123) rfl ?_
              refine g_lmul X dX7_worth_123 (n := 124) rfl ?_
              refine g_iload X dX7_worth_124 7 rfl (n := 126) rfl ?_
              obtain ⟨x_25, g_26, hf⟩ := k_b1s hf
              refine g_callS0 X (mX7_term (D := D) (l := l)  g_26) lk_X7_term mlX7_160 dX7_worth_126 (n := 129) rfl (st := []) rfl (st2 := [.long x_25]) rfl rfl ⟨Nat.le_of_ble_eq_true rfl, Nat.le_of_ble_eq_true rfl⟩ (Nat.le_of_ble_eq_true rfl) ?_
              obtain rfl := Option.some.inj hf
              exact hret _ _ dX7_worth_129
            · replace hf := k_neg c_24 hf
              refine g_ldc2 X dX7_worth_98 kcX7_134 (n := 101) rfl ?_
              obtain rfl := Option.some.inj hf
              exact hret _ _ dX7_worth_101
        · replace hf := k_neg c_16 hf
          refine g_ldc2 X dX7_worth_48 kcX7_132 (n := 51) rfl ?_
          obtain rfl := Option.some.inj hf
          exact hret _ _ dX7_worth_51
set_option maxRecDepth 100000 in
set_option maxHeartbeats 4000000 in
theorem mX7_worth {l : Launch} {D : va_G} {N : Nat} {a : Nat → Nat} {p1 : Int32} {p2 : Int32} {p3 : Int32} {p4 : Int32} {mp : VMp} {mg : VMg} {mc : Nat → Int64} {ml : VMl} {mq : VMq} {mh : VMh} {ms : VMs} {mr : Nat → Int32} {mi : VMi} {res : Int64 × VMl × VMq} (hf : fX7_worth N mg p1 p2 p3 p4 ml mq = some res) : k_Met l yX7_worth cX7_worth 10 (some .long) 3 70 D [.ref (a 0), .int p1, .int p2, .int p3, .int p4] (pic_X7 D a mp mg mc ml mq mh ms mr mi) (some (.long res.1)) (pic_X7 D a mp mg mc res.2.1 res.2.2 mh ms mr mi) :=
  k_of_l (by decide) (Nat.le_of_ble_eq_true rfl) (fun E X hret => wX7_worth X hret hf)
set_option maxRecDepth 100000 in
set_option maxHeartbeats 4000000 in
theorem wX7_isGatherer {D : va_G} {l : Launch} {E : k_E} {p0 : Int32} {res : Bool} (X : k_X D E cX7_isGatherer RX7 1 1 22) (hret : ∀ (pc : Nat) (lv : List (Nat × Value)), decode cX7_isGatherer pc = .ok (.ireturn, 1) → k_G D l E ([]) lv pc [.int (bI res)]) (hf : fX7_isGatherer p0 = some res) : k_G D l E ([]) [(0, .int p0)] 0 [] := by
  unfold fX7_isGatherer at hf
  refine g_iload_n X dX7_isGatherer_0 0 rfl rfl (n := 1) rfl ?_
  refine g_iconst X dX7_isGatherer_1 (v := 0) (by decide) (n := 2) rfl ?_
  refine g_iconst X dX7_isGatherer_2 (v := 4) (by decide) (n := 3) rfl ?_
  obtain ⟨x_1, g_2, hf⟩ := k_b1s hf
  refine g_callS0 X (mX7_in (D := D) (l := l)  g_2) lk_X7_in mlX7_58 dX7_isGatherer_3 (n := 6) rfl (st := []) rfl (st2 := [.int (bI x_1)]) rfl rfl ⟨Nat.le_of_ble_eq_true rfl, Nat.le_of_ble_eq_true rfl⟩ (Nat.le_of_ble_eq_true rfl) ?_
  obtain rfl := Option.some.inj hf
  exact hret _ _ dX7_isGatherer_6
set_option maxRecDepth 100000 in
set_option maxHeartbeats 4000000 in
theorem mX7_isGatherer {l : Launch} {D : va_G} {p0 : Int32} {res : Bool} (hf : fX7_isGatherer p0 = some res) : k_Met l yX7_isGatherer cX7_isGatherer 1 (some .boolean) 1 22 D [.int p0] ([]) (some (.int (bI res))) ([]) :=
  k_of_z (by decide) (Nat.le_of_ble_eq_true rfl) (fun E X hret => wX7_isGatherer X hret hf)
