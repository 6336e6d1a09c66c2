/-! walks: X7_in X7_isSheet X7_isPart X7_ways X7_common X7_term X7_say X7_wipe X7_isPerson X7_isBad X7_namesFault X7_isAct X7_ruleFault X7_fault X7_names -/
set_option maxRecDepth 100000 in
set_option maxHeartbeats 4000000 in
theorem wX7_in {D : va_G} {l : Launch} {E : k_E} {p0 : Int32} {p1 : Int32} {p2 : Int32} {res : Bool} (X : k_X D E cX7_in RX7 3 0 0) (hret : ∀ (pc : Nat) (lv : List (Nat × Value)), decode cX7_in pc = .ok (.ireturn, 1) → k_G D l E ([]) lv pc [.int (bI res)]) (hf : fX7_in p0 p1 p2 = some res) : k_G D l E ([]) [(0, .int p0), (1, .int p1), (2, .int p2)] 0 [] := by
  unfold fX7_in at hf
  refine g_iload_n X dX7_in_0 0 rfl rfl (n := 1) rfl ?_
  refine g_iload_n X dX7_in_1 1 rfl rfl (n := 2) rfl ?_
  refine g_icmp_lt X dX7_in_2 (t := 14) (by decide) (n := 5) rfl (fun c_1 => ?_) (fun c_1 => ?_)
  · replace hf := k_pos c_1 hf
    refine g_iconst X dX7_in_14 (v := 0) (by decide) (n := 15) rfl ?_
    obtain rfl := Option.some.inj hf
    exact hret _ _ dX7_in_15
  · replace hf := k_neg c_1 hf
    refine g_iload_n X dX7_in_5 0 rfl rfl (n := 6) rfl ?_
    refine g_iload_n X dX7_in_6 2 rfl rfl (n := 7) rfl ?_
    refine g_icmp_gt X dX7_in_7 (t := 14) (by decide) (n := 10) rfl (fun c_2 => ?_) (fun c_2 => ?_)
    · replace hf := k_pos c_2 hf
      refine g_iconst X dX7_in_14 (v := 0) (by decide) (n := 15) rfl ?_
      obtain rfl := Option.some.inj hf
      exact hret _ _ dX7_in_15
    · replace hf := k_neg c_2 hf
      refine g_iconst X dX7_in_10 (v := 1) (by decide) (n := 11) rfl ?_
      refine g_goto X dX7_in_11 (n := 15) (by decide) ?_
      obtain rfl := Option.some.inj hf
      exact hret _ _ dX7_in_15
set_option maxRecDepth 100000 in
set_option maxHeartbeats 4000000 in
theorem mX7_in {l : Launch} {D : va_G} {p0 : Int32} {p1 : Int32} {p2 : Int32} {res : Bool} (hf : fX7_in p0 p1 p2 = some res) : k_Met l yX7_in cX7_in 3 (some .boolean) 0 0 D [.int p0, .int p1, .int p2] ([]) (some (.int (bI res))) ([]) :=
  k_of_z (by decide) (Nat.le_of_ble_eq_true rfl) (fun E X hret => wX7_in X hret hf)
set_option maxRecDepth 100000 in
set_option maxHeartbeats 4000000 in
theorem wX7_isSheet {D : va_G} {l : Launch} {E : k_E} {p0 : Int32} {res : Bool} (X : k_X D E cX7_isSheet RX7 1 1 22) (hret : ∀ (pc : Nat) (lv : List (Nat × Value)), decode cX7_isSheet pc = .ok (.ireturn, 1) → k_G D l E ([]) lv pc [.int (bI res)]) (hf : fX7_isSheet p0 = some res) : k_G D l E ([]) [(0, .int p0)] 0 [] := by
  unfold fX7_isSheet at hf
  refine g_iload_n X dX7_isSheet_0 0 rfl rfl (n := 1) rfl ?_
  refine g_iconst X dX7_isSheet_1 (v := 0) (by decide) (n := 2) rfl ?_
  refine g_iconst X dX7_isSheet_2 (v := 5) (by decide) (n := 3) rfl ?_
  obtain ⟨x_1, g_2, hf⟩ := k_b1s hf
  refine g_callS0 X (mX7_in (D := D) (l := l)  g_2) lk_X7_in mlX7_58 dX7_isSheet_3 (n := 6) rfl (st := []) rfl (st2 := [.int (bI x_1)]) rfl rfl ⟨Nat.le_of_ble_eq_true rfl, Nat.le_of_ble_eq_true rfl⟩ (Nat.le_of_ble_eq_true rfl) ?_
  obtain rfl := Option.some.inj hf
  exact hret _ _ dX7_isSheet_6
set_option maxRecDepth 100000 in
set_option maxHeartbeats 4000000 in
theorem mX7_isSheet {l : Launch} {D : va_G} {p0 : Int32} {res : Bool} (hf : fX7_isSheet p0 = some res) : k_Met l yX7_isSheet cX7_isSheet 1 (some .boolean) 1 22 D [.int p0] ([]) (some (.int (bI res))) ([]) :=
  k_of_z (by decide) (Nat.le_of_ble_eq_true rfl) (fun E X hret => wX7_isSheet X hret hf)
set_option maxRecDepth 100000 in
set_option maxHeartbeats 4000000 in
theorem wX7_isPart {D : va_G} {l : Launch} {E : k_E} {p0 : Int32} {res : Bool} (X : k_X D E cX7_isPart RX7 1 1 22) (hret : ∀ (pc : Nat) (lv : List (Nat × Value)), decode cX7_isPart pc = .ok (.ireturn, 1) → k_G D l E ([]) lv pc [.int (bI res)]) (hf : fX7_isPart p0 = some res) : k_G D l E ([]) [(0, .int p0)] 0 [] := by
  unfold fX7_isPart at hf
  refine g_iload_n X dX7_isPart_0 0 rfl rfl (n := 1) rfl ?_
  refine g_iconst X dX7_isPart_1 (v := 0) (by decide) (n := 2) rfl ?_
  refine g_iconst X dX7_isPart_2 (v := 1) (by decide) (n := 3) rfl ?_
  obtain ⟨x_1, g_2, hf⟩ := k_b1s hf
  refine g_callS0 X (mX7_in (D := D) (l := l)  g_2) lk_X7_in mlX7_58 dX7_isPart_3 (n := 6) rfl (st := []) rfl (st2 := [.int (bI x_1)]) rfl rfl ⟨Nat.le_of_ble_eq_true rfl, Nat.le_of_ble_eq_true rfl⟩ (Nat.le_of_ble_eq_true rfl) ?_
  obtain rfl := Option.some.inj hf
  exact hret _ _ dX7_isPart_6
set_option maxRecDepth 100000 in
set_option maxHeartbeats 4000000 in
theorem mX7_isPart {l : Launch} {D : va_G} {p0 : Int32} {res : Bool} (hf : fX7_isPart p0 = some res) : k_Met l yX7_isPart cX7_isPart 1 (some .boolean) 1 22 D [.int p0] ([]) (some (.int (bI res))) ([]) :=
  k_of_z (by decide) (Nat.le_of_ble_eq_true rfl) (fun E X hret => wX7_isPart X hret hf)
set_option maxRecDepth 100000 in
set_option maxHeartbeats 4000000 in
theorem wX7_ways {D : va_G} {l : Launch} {E : k_E} {a : Nat → Nat} {p1 : Int32} {p2 : Int32} {mp : VMp} {mg : VMg} {mc : Nat → Int64} {ml : VMl} {mq : VMq} {mh : VMh} {ms : VMs} {mr : Nat → Int32} {mi : VMi} {res : Int64} (X : k_X D E cX7_ways RX7 3 0 0) (hret : ∀ (pc : Nat) (lv : List (Nat × Value)), decode cX7_ways pc = .ok (.lreturn, 1) → k_G D l E (pic_X7 D a mp mg mc ml mq mh ms mr mi) lv pc [.long res]) (hf : fX7_ways mc p1 p2 = some res) : k_G D l E (pic_X7 D a mp mg mc ml mq mh ms mr mi) [(0, .ref (a 0)), (1, .int p1), (2, .int p2)] 0 [] := by
  unfold fX7_ways at hf
  refine g_iload_n X dX7_ways_0 1 rfl rfl (n := 1) rfl ?_
  refine g_if_lt X dX7_ways_1 (t := 13) (by decide) (n := 4) rfl (fun c_1 => ?_) (fun c_1 => ?_)
  · replace hf := k_pos c_1 hf
    refine g_lconst X dX7_ways_13 (v := 0) rfl (n := 14) rfl ?_
    refine g_goto X dX7_ways_14 (n := 28) (by decide) ?_
    obtain rfl := Option.some.inj hf
    exact hret _ _ dX7_ways_28
  · replace hf := k_neg c_1 hf
    refine g_iload_n X dX7_ways_4 2 rfl rfl (n := 5) rfl ?_
    refine g_if_lt X dX7_ways_5 (t := 13) (by decide) (n := 8) rfl (fun c_2 => ?_) (fun c_2 => ?_)
    · replace hf := k_pos c_2 hf
      refine g_lconst X dX7_ways_13 (v := 0) rfl (n := 14) rfl ?_
      refine g_goto X dX7_ways_14 (n := 28) (by decide) ?_
      obtain rfl := Option.some.inj hf
      exact hret _ _ dX7_ways_28
    · replace hf := k_neg c_2 hf
      refine g_iload_n X dX7_ways_8 2 rfl rfl (n := 9) rfl ?_
      refine g_iload_n X dX7_ways_9 1 rfl rfl (n := 10) rfl ?_
      refine g_icmp_le X dX7_ways_10 (t := 17) (by decide) (n := 13) rfl (fun c_3 => ?_) (fun c_3 => ?_)
      · replace hf := k_pos c_3 hf
        refine g_aload_n X dX7_ways_17 0 rfl rfl (n := 18) rfl ?_
        refine g_get X dX7_ways_18 flX7_35 0 rfl (v := .ref (a 7)) rfl (n := 21) rfl ?_
        refine g_bipush X dX7_ways_21 (v := 61) (by decide) (n := 23) rfl ?_
        refine g_iload_n X dX7_ways_23 1 rfl rfl (n := 24) rfl ?_
        refine g_imul X dX7_ways_24 (n := 25) rfl ?_
        refine g_iload_n X dX7_ways_25 2 rfl rfl (n := 26) rfl ?_
        refine g_iadd X dX7_ways_26 (n := 27) rfl ?_
        obtain ⟨h_4, hf⟩ := k_guard hf
        refine g_laload X dX7_ways_27 7 (f := mc) rfl rfl h_4 (n := 28) rfl ?_
        obtain rfl := Option.some.inj hf
        exact hret _ _ dX7_ways_28
      · replace hf := k_neg c_3 hf
        refine g_lconst X dX7_ways_13 (v := 0) rfl (n := 14) rfl ?_
        refine g_goto X dX7_ways_14 (n := 28) (by decide) ?_
        obtain rfl := Option.some.inj hf
        exact hret _ _ dX7_ways_28
set_option maxRecDepth 100000 in
set_option maxHeartbeats 4000000 in
theorem mX7_ways {l : Launch} {D : va_G} {a : Nat → Nat} {p1 : Int32} {p2 : Int32} {mp : VMp} {mg : VMg} {mc : Nat → Int64} {ml : VMl} {mq : VMq} {mh : VMh} {ms : VMs} {mr : Nat → Int32} {mi : VMi} {res : Int64} (hf : fX7_ways mc p1 p2 = some res) : k_Met l yX7_ways cX7_ways 3 (some .long) 0 0 D [.ref (a 0), .int p1, .int p2] (pic_X7 D a mp mg mc ml mq mh ms mr mi) (some (.long res)) (pic_X7 D a mp mg mc ml mq mh ms mr mi) :=
  k_of_l (by decide) (Nat.le_of_ble_eq_true rfl) (fun E X hret => wX7_ways X hret hf)
set_option maxRecDepth 100000 in
set_option maxHeartbeats 4000000 in
theorem wX7_common_b17 {D : va_G} {l : Launch} {E : k_E} {N : Nat} {k17 : Int64 → Int64 → Option (Int64)} {v4 : Int64} {v6 : Int64} {res : Int64} (X : k_X D E cX7_common RX7 10 0 0) (hk17 : ∀ (v4 : Int64) (v6 : Int64) , k17 v4 v6 = some res → k_G D l E ([]) [(4, .long v4), (6, .long v6)] 17 []) (hret : ∀ (pc : Nat) (lv : List (Nat × Value)), decode cX7_common pc = .ok (.lreturn, 1) → k_G D l E ([]) lv pc [.long res]) (hf : fX7_common_b17 N k17 v4 v6 = some res) : k_G D l E ([]) [(4, .long v4), (6, .long v6)] 17 [] := by
  unfold fX7_common_b17 at hf
  refine g_lload X dX7_common_17 1 rfl (n := 19) rfl ?_
  refine g_lconst X dX7_common_19 (v := 0) rfl (n := 20) rfl ?_
  refine g_lcmp_eq X dX7_common_20 dX7_common_21 (t := 42) (by decide) (n := 24) rfl (fun c_1 => ?_) (fun c_1 => ?_)
  · replace hf := k_pos c_1 hf
    refine g_lload X dX7_common_42 0 rfl (n := 44) rfl ?_
    obtain rfl := Option.some.inj hf
    exact hret _ _ dX7_common_44
  · replace hf := k_neg c_1 hf
    refine g_lload X dX7_common_24 0 rfl (n := 26) rfl ?_
    refine g_lload X dX7_common_26 1 rfl (n := 28) rfl ?_
    obtain ⟨h_2, hf⟩ := k_guardN hf
    refine g_lrem X dX7_common_28 h_2 (n := 29) rfl ?_
    refine g_lstore X dX7_common_29 (by decide) (lv2 := [(8, .long (v4 - v4 / v6 * v6)), (4, .long v4), (6, .long v6)]) rfl (n := 31) rfl ?_
    refine g_lload X dX7_common_31 2 rfl (n := 33) rfl ?_
    refine g_lstore X dX7_common_33 (by decide) (lv2 := [(4, .long v6), (8, .long (v4 - v4 / v6 * v6)), (6, .long v6)]) rfl (n := 35) rfl ?_
    refine g_lload X dX7_common_35 1 rfl (n := 37) rfl ?_
    refine g_lstore X dX7_common_37 (by decide) (lv2 := [(6, .long (v4 - v4 / v6 * v6)), (4, .long v6), (8, .long (v4 - v4 / v6 * v6))]) rfl (n := 39) rfl ?_
    refine g_goto X dX7_common_39 (n := 17) (by decide) ?_
    refine g_sub [1, 0] (lv' := [(4, .long v6), (6, .long (v4 - v4 / v6 * v6))]) rfl ?_
    exact hk17 _ _ hf
set_option maxRecDepth 100000 in
set_option maxHeartbeats 4000000 in
theorem wX7_common_l17 {D : va_G} {l : Launch} {E : k_E} {N : Nat} {res : Int64} (X : k_X D E cX7_common RX7 10 0 0) (hret : ∀ (pc : Nat) (lv : List (Nat × Value)), decode cX7_common pc = .ok (.lreturn, 1) → k_G D l E ([]) lv pc [.long res]) : ∀ (n0 : Nat) (v4 : Int64) (v6 : Int64) , fX7_common_l17 N n0 v4 v6 = some res → k_G D l E ([]) [(4, .long v4), (6, .long v6)] 17 [] := by
  intro n0
  induction n0 with
  | zero => intro v4 v6 hf; cases hf
  | succ n0 ih => intro v4 v6 hf; exact wX7_common_b17 (N := N) (k17 := fX7_common_l17 N n0) X  ih hret hf
set_option maxRecDepth 100000 in
set_option maxHeartbeats 4000000 in
theorem wX7_common_b12 {D : va_G} {l : Launch} {E : k_E} {N : Nat} {v2 : Int64} {s0 : Int64} {res : Int64} (X : k_X D E cX7_common RX7 10 0 0) (hret : ∀ (pc : Nat) (lv : List (Nat × Value)), decode cX7_common pc = .ok (.lreturn, 1) → k_G D l E ([]) lv pc [.long res]) (hf : fX7_common_b12 N v2 s0 = some res) : k_G D l E ([]) [(2, .long v2)] 12 [.long s0] := by
  unfold fX7_common_b12 at hf
  refine g_lstore X dX7_common_12 (by decide) (lv2 := [(4, .long s0), (2, .long v2)]) rfl (n := 14) rfl ?_
  refine g_lload_n X dX7_common_14 1 rfl rfl (n := 15) rfl ?_
  refine g_lstore X dX7_common_15 (by decide) (lv2 := [(6, .long v2), (4, .long s0), (2, .long v2)]) rfl (n := 17) rfl ?_
  refine g_sub [1, 0] (lv' := [(4, .long s0), (6, .long v2)]) rfl ?_
  exact wX7_common_l17 X  hret _ _ _ hf
set_option maxRecDepth 100000 in
set_option maxHeartbeats 4000000 in
theorem wX7_common {D : va_G} {l : Launch} {E : k_E} {N : Nat} {p0 : Int64} {p2 : Int64} {res : Int64} (X : k_X D E cX7_common RX7 10 0 0) (hret : ∀ (pc : Nat) (lv : List (Nat × Value)), decode cX7_common pc = .ok (.lreturn, 1) → k_G D l E ([]) lv pc [.long res]) (hf : fX7_common N p0 p2 = some res) : k_G D l E ([]) [(0, .long p0), (2, .long p2)] 0 [] := by
  unfold fX7_common at hf
  refine g_lload_n X dX7_common_0 0 rfl rfl (n := 1) rfl ?_
  refine g_lconst X dX7_common_1 (v := 0) rfl (n := 2) rfl ?_
  refine g_lcmp_ge X dX7_common_2 dX7_common_3 (t := 11) (by decide) (n := 6) rfl (fun c_1 => ?_) (fun c_1 => ?_)
  · replace hf := k_pos c_1 hf
    refine g_lload_n X dX7_common_11 0 rfl rfl (n := 12) rfl ?_
    refine g_sub [1] (lv' := [(2, .long p2)]) rfl ?_
    exact wX7_common_b12 X  hret hf
  · replace hf := k_neg c_1 hf
    refine g_lload_n X dX7_common_6 0 rfl rfl (n := 7) rfl ?_
    refine g_lneg X dX7_common_7 (n := 8) rfl ?_
    refine g_goto X dX7_common_8 (n := 12) (by decide) ?_
    refine g_sub [1] (lv' := [(2, .long p2)]) rfl ?_
    exact wX7_common_b12 X  hret hf
set_option maxRecDepth 100000 in
set_option maxHeartbeats 4000000 in
theorem mX7_common {l : Launch} {D : va_G} {N : Nat} {p0 : Int64} {p2 : Int64} {res : Int64} (hf : fX7_common N p0 p2 = some res) : k_Met l yX7_common cX7_common 10 (some .long) 0 0 D [.long p0, .long p2] ([]) (some (.long res)) ([]) :=
  k_of_l (by decide) (Nat.le_of_ble_eq_true rfl) (fun E X hret => wX7_common X hret hf)
set_option maxRecDepth 100000 in
set_option maxHeartbeats 4000000 in
theorem wX7_term {D : va_G} {l : Launch} {E : k_E} {N : Nat} {p0 : Int64} {p2 : Int64} {p4 : Int32} {res : Int64} (X : k_X D E cX7_term RX7 7 1 29) (hret : ∀ (pc : Nat) (lv : List (Nat × Value)), decode cX7_term pc = .ok (.lreturn, 1) → k_G D l E ([]) lv pc [.long res]) (hf : fX7_term N p0 p2 p4 = some res) : k_G D l E ([]) [(0, .long p0), (2, .long p2), (4, .int p4)] 0 [] := by
  unfold fX7_term at hf
  refine g_lload_n X dX7_term_0 0 rfl rfl (n := 1) rfl ?_
  refine g_lload_n X dX7_term_1 1 rfl rfl (n := 2) rfl ?_
  obtain ⟨x_1, g_2, hf⟩ := k_b1s hf
  refine g_callS0 X (mX7_common (D := D) (l := l)  g_2) lk_X7_common mlX7_62 dX7_term_2 (n := 5) rfl (st := []) rfl (st2 := [.long x_1]) rfl rfl ⟨Nat.le_of_ble_eq_true rfl, Nat.le_of_ble_eq_true rfl⟩ (Nat.le_of_ble_eq_true rfl) ?_
  refine g_lstore X dX7_term_5 (by decide) (lv2 := [(5, .long x_1), (0, .long p0), (2, .long p2), (4, .int p4)]) rfl (n := 7) rfl ?_
  refine g_iload X dX7_term_7 3 rfl (n := 9) rfl ?_
  refine g_if_ne X dX7_term_9 (t := 19) (by decide) (n := 12) rfl (fun c_3 => ?_) (fun c_3 => ?_)
  · replace hf := k_neg c_3 hf
    refine g_lload_n X dX7_term_19 2 rfl rfl (n := 20) rfl ?_
    refine g_lload X dX7_term_20 0 rfl (n := 22) rfl ?_
    obtain ⟨h_4, hf⟩ := k_guardN hf
    refine g_ldiv X dX7_term_22 h_4 (n := 23) rfl ?_
    obtain rfl := Option.some.inj hf
    exact hret _ _ dX7_term_23
  · replace hf := k_pos c_3 hf
    refine g_lload_n X dX7_term_12 1 rfl rfl (n := 13) rfl ?_
    refine g_lload X dX7_term_13 0 rfl (n := 15) rfl ?_
    obtain ⟨h_5, hf⟩ := k_guardN hf
    refine g_ldiv X dX7_term_15 h_5 (n := 16) rfl ?_
    refine g_goto X dX7_term_16 (n := 23) (by decide) ?_
    obtain rfl := Option.some.inj hf
    exact hret _ _ dX7_term_23
set_option maxRecDepth 100000 in
set_option maxHeartbeats 4000000 in
theorem mX7_term {l : Launch} {D : va_G} {N : Nat} {p0 : Int64} {p2 : Int64} {p4 : Int32} {res : Int64} (hf : fX7_term N p0 p2 p4 = some res) : k_Met l yX7_term cX7_term 7 (some .long) 1 29 D [.long p0, .long p2, .int p4] ([]) (some (.long res)) ([]) :=
  k_of_l (by decide) (Nat.le_of_ble_eq_true rfl) (fun E X hret => wX7_term X hret hf)
set_option maxRecDepth 100000 in
set_option maxHeartbeats 4000000 in
theorem wX7_say {D : va_G} {l : Launch} {E : k_E} {a : Nat → Nat} {p1 : Int32} {mp : VMp} {mg : VMg} {mc : Nat → Int64} {ml : VMl} {mq : VMq} {mh : VMh} {ms : VMs} {mr : Nat → Int32} {mi : VMi} {res : Int32 × VMp} (X : k_X D E cX7_say RX7 2 1 22) (hret : ∀ (pc : Nat) (lv : List (Nat × Value)), decode cX7_say pc = .ok (.ireturn, 1) → k_G D l E (pic_X7 D a res.2 mg mc ml mq mh ms mr mi) lv pc [.int res.1]) (hf : fX7_say p1 mp = some res) : k_G D l E (pic_X7 D a mp mg mc ml mq mh ms mr mi) [(0, .ref (a 0)), (1, .int p1)] 0 [] := by
  unfold fX7_say at hf
  refine g_iload_n X dX7_say_0 1 rfl rfl (n := 1) rfl ?_
  refine g_bipush X dX7_say_1 (v := 33) (by decide) (n := 3) rfl ?_
  refine g_bipush X dX7_say_3 (v := 126) (by decide) (n := 5) rfl ?_
  obtain ⟨x_1, g_2, hf⟩ := k_b1s hf
  refine g_callS0 X (mX7_in (D := D) (l := l)  g_2) lk_X7_in mlX7_58 dX7_say_5 (n := 8) rfl (st := []) rfl (st2 := [.int (bI x_1)]) rfl rfl ⟨Nat.le_of_ble_eq_true rfl, Nat.le_of_ble_eq_true rfl⟩ (Nat.le_of_ble_eq_true rfl) ?_
  refine g_if_neB X dX7_say_8 (t := 14) (by decide) (n := 11) rfl (fun c_3 => ?_) (fun c_3 => ?_)
  · replace hf := k_pos c_3 hf
    refine g_aload_n X dX7_say_14 0 rfl rfl (n := 15) rfl ?_
    refine g_get X dX7_say_15 flX7_66 0 rfl (v := .int mp.2) rfl (n := 18) rfl ?_
    refine g_bipush X dX7_say_18 (v := 16) (by decide) (n := 20) rfl ?_
    refine g_icmp_ne X dX7_say_20 (t := 26) (by decide) (n := 23) rfl (fun c_4 => ?_) (fun c_4 => ?_)
    · replace hf := k_neg c_4 hf
      refine g_aload_n X dX7_say_26 0 rfl rfl (n := 27) rfl ?_
      refine g_get X dX7_say_27 flX7_7 0 rfl (v := .ref (a 1)) rfl (n := 30) rfl ?_
      refine g_aload_n X dX7_say_30 0 rfl rfl (n := 31) rfl ?_
      refine g_get X dX7_say_31 flX7_66 0 rfl (v := .int mp.2) rfl (n := 34) rfl ?_
      refine g_iload_n X dX7_say_34 1 rfl rfl (n := 35) rfl ?_
      obtain ⟨h_5, hf⟩ := k_guard hf
      refine g_iastore X dX7_say_35 1 (f := mp.1) rfl rfl h_5 (ws2 := pic_X7 D a (upd mp.1 (mp.2).toNatClampNeg p1, mp.2) mg mc ml mq mh ms mr mi) rfl (n := 36) rfl ?_
      refine g_aload_n X dX7_say_36 0 rfl rfl (n := 37) rfl ?_
      refine g_dup X dX7_say_37 rfl (n := 38) rfl ?_
      refine g_get X dX7_say_38 flX7_66 0 rfl (v := .int mp.2) rfl (n := 41) rfl ?_
      refine g_iconst X dX7_say_41 (v := 1) (by decide) (n := 42) rfl ?_
      refine g_iadd X dX7_say_42 (n := 43) rfl ?_
      refine g_put X dX7_say_43 flX7_66 0 rfl rfl rfl (Nat.le_of_ble_eq_true rfl) (ws2 := pic_X7 D a (upd mp.1 (mp.2).toNatClampNeg p1, (mp.2 + 1)) mg mc ml mq mh ms mr mi) rfl (n := 46) rfl ?_
      refine g_aload_n X dX7_say_46 0 rfl rfl (n := 47) rfl ?_
      refine g_get X dX7_say_47 flX7_66 0 rfl (v := .int (mp.2 + 1)) rfl (n := 50) rfl ?_
      obtain rfl := Option.some.inj hf
      exact hret _ _ dX7_say_50
    · replace hf := k_pos c_4 hf
      refine g_bipush X dX7_say_23 (v := (-4)) (by decide) (n := 25) rfl ?_
      obtain rfl := Option.some.inj hf
      exact hret _ _ dX7_say_25
  · replace hf := k_neg c_3 hf
    refine g_bipush X dX7_say_11 (v := (-2)) (by decide) (n := 13) rfl ?_
    obtain rfl := Option.some.inj hf
    exact hret _ _ dX7_say_13
set_option maxRecDepth 100000 in
set_option maxHeartbeats 4000000 in
theorem mX7_say {l : Launch} {D : va_G} {a : Nat → Nat} {p1 : Int32} {mp : VMp} {mg : VMg} {mc : Nat → Int64} {ml : VMl} {mq : VMq} {mh : VMh} {ms : VMs} {mr : Nat → Int32} {mi : VMi} {res : Int32 × VMp} (hf : fX7_say p1 mp = some res) : k_Met l yX7_say cX7_say 2 (some .int) 1 22 D [.ref (a 0), .int p1] (pic_X7 D a mp mg mc ml mq mh ms mr mi) (some (.int res.1)) (pic_X7 D a res.2 mg mc ml mq mh ms mr mi) :=
  k_of_i (by decide) (Nat.le_of_ble_eq_true rfl) (fun E X hret => wX7_say X hret hf)
set_option maxRecDepth 100000 in
set_option maxHeartbeats 4000000 in
theorem wX7_wipe {D : va_G} {l : Launch} {E : k_E} {a : Nat → Nat} {mp : VMp} {mg : VMg} {mc : Nat → Int64} {ml : VMl} {mq : VMq} {mh : VMh} {ms : VMs} {mr : Nat → Int32} {mi : VMi} {res : Int32 × VMp} (X : k_X D E cX7_wipe RX7 2 0 0) (hret : ∀ (pc : Nat) (lv : List (Nat × Value)), decode cX7_wipe pc = .ok (.ireturn, 1) → k_G D l E (pic_X7 D a res.2 mg mc ml mq mh ms mr mi) lv pc [.int res.1]) (hf : fX7_wipe mp = some res) : k_G D l E (pic_X7 D a mp mg mc ml mq mh ms mr mi) [(0, .ref (a 0))] 0 [] := by
  unfold fX7_wipe at hf
  refine g_aload_n X dX7_wipe_0 0 rfl rfl (n := 1) rfl ?_
  refine g_get X dX7_wipe_1 flX7_66 0 rfl (v := .int mp.2) rfl (n := 4) rfl ?_
  refine g_istore_n X dX7_wipe_4 rfl (by decide) (lv2 := [(1, .int mp.2), (0, .ref (a 0))]) rfl (n := 5) rfl ?_
  refine g_aload_n X dX7_wipe_5 1 rfl rfl (n := 6) rfl ?_
  refine g_iconst X dX7_wipe_6 (v := 0) (by decide) (n := 7) rfl ?_
  refine g_put X dX7_wipe_7 flX7_66 0 rfl rfl rfl (Nat.le_of_ble_eq_true rfl) (ws2 := pic_X7 D a (mp.1, (0 : Int32)) mg mc ml mq mh ms mr mi) rfl (n := 10) rfl ?_
  refine g_iload_n X dX7_wipe_10 0 rfl rfl (n := 11) rfl ?_
  obtain rfl := Option.some.inj hf
  exact hret _ _ dX7_wipe_11
set_option maxRecDepth 100000 in
set_option maxHeartbeats 4000000 in
theorem mX7_wipe {l : Launch} {D : va_G} {a : Nat → Nat} {mp : VMp} {mg : VMg} {mc : Nat → Int64} {ml : VMl} {mq : VMq} {mh : VMh} {ms : VMs} {mr : Nat → Int32} {mi : VMi} {res : Int32 × VMp} (hf : fX7_wipe mp = some res) : k_Met l yX7_wipe cX7_wipe 2 (some .int) 0 0 D [.ref (a 0)] (pic_X7 D a mp mg mc ml mq mh ms mr mi) (some (.int res.1)) (pic_X7 D a res.2 mg mc ml mq mh ms mr mi) :=
  k_of_i (by decide) (Nat.le_of_ble_eq_true rfl) (fun E X hret => wX7_wipe X hret hf)
set_option maxRecDepth 100000 in
set_option maxHeartbeats 4000000 in
theorem wX7_isPerson {D : va_G} {l : Launch} {E : k_E} {p0 : Int32} {res : Bool} (X : k_X D E cX7_isPerson RX7 1 1 22) (hret : ∀ (pc : Nat) (lv : List (Nat × Value)), decode cX7_isPerson pc = .ok (.ireturn, 1) → k_G D l E ([]) lv pc [.int (bI res)]) (hf : fX7_isPerson p0 = some res) : k_G D l E ([]) [(0, .int p0)] 0 [] := by
  unfold fX7_isPerson at hf
  refine g_iload_n X dX7_isPerson_0 0 rfl rfl (n := 1) rfl ?_
  refine g_bipush X dX7_isPerson_1 (v := 65) (by decide) (n := 3) rfl ?_
  refine g_bipush X dX7_isPerson_3 (v := 90) (by decide) (n := 5) rfl ?_
  obtain ⟨x_1, g_2, hf⟩ := k_b1s hf
  refine g_callS0 X (mX7_in (D := D) (l := l)  g_2) lk_X7_in mlX7_58 dX7_isPerson_5 (n := 8) rfl (st := []) rfl (st2 := [.int (bI x_1)]) rfl rfl ⟨Nat.le_of_ble_eq_true rfl, Nat.le_of_ble_eq_true rfl⟩ (Nat.le_of_ble_eq_true rfl) ?_
  obtain rfl := Option.some.inj hf
  exact hret _ _ dX7_isPerson_8
set_option maxRecDepth 100000 in
set_option maxHeartbeats 4000000 in
theorem mX7_isPerson {l : Launch} {D : va_G} {p0 : Int32} {res : Bool} (hf : fX7_isPerson p0 = some res) : k_Met l yX7_isPerson cX7_isPerson 1 (some .boolean) 1 22 D [.int p0] ([]) (some (.int (bI res))) ([]) :=
  k_of_z (by decide) (Nat.le_of_ble_eq_true rfl) (fun E X hret => wX7_isPerson X hret hf)
set_option maxRecDepth 100000 in
set_option maxHeartbeats 4000000 in
theorem wX7_isBad {D : va_G} {l : Launch} {E : k_E} {p0 : Int32} {res : Bool} (X : k_X D E cX7_isBad RX7 1 0 0) (hret : ∀ (pc : Nat) (lv : List (Nat × Value)), decode cX7_isBad pc = .ok (.ireturn, 1) → k_G D l E ([]) lv pc [.int (bI res)]) (hf : fX7_isBad p0 = some res) : k_G D l E ([]) [(0, .int p0)] 0 [] := by
  unfold fX7_isBad at hf
  refine g_iload_n X dX7_isBad_0 0 rfl rfl (n := 1) rfl ?_
  refine g_bipush X dX7_isBad_1 (v := 115) (by decide) (n := 3) rfl ?_
  refine g_icmp_eq X dX7_isBad_3 (t := 18) (by decide) (n := 6) rfl (fun c_1 => ?_) (fun c_1 => ?_)
  · replace hf := k_pos c_1 hf
    refine g_iconst X dX7_isBad_18 (v := 1) (by decide) (n := 19) rfl ?_
    refine g_goto X dX7_isBad_19 (n := 23) (by decide) ?_
    obtain rfl := Option.some.inj hf
    exact hret _ _ dX7_isBad_23
  · replace hf := k_neg c_1 hf
    refine g_iload_n X dX7_isBad_6 0 rfl rfl (n := 7) rfl ?_
    refine g_bipush X dX7_isBad_7 (v := 109) (by decide) (n := 9) rfl ?_
    refine g_icmp_eq X dX7_isBad_9 (t := 18) (by decide) (n := 12) rfl (fun c_2 => ?_) (fun c_2 => ?_)
    · replace hf := k_pos c_2 hf
      refine g_iconst X dX7_isBad_18 (v := 1) (by decide) (n := 19) rfl ?_
      refine g_goto X dX7_isBad_19 (n := 23) (by decide) ?_
      obtain rfl := Option.some.inj hf
      exact hret _ _ dX7_isBad_23
    · replace hf := k_neg c_2 hf
      refine g_iload_n X dX7_isBad_12 0 rfl rfl (n := 13) rfl ?_
      refine g_bipush X dX7_isBad_13 (v := 117) (by decide) (n := 15) rfl ?_
      refine g_icmp_ne X dX7_isBad_15 (t := 22) (by decide) (n := 18) rfl (fun c_3 => ?_) (fun c_3 => ?_)
      · replace hf := k_neg c_3 hf
        refine g_iconst X dX7_isBad_22 (v := 0) (by decide) (n := 23) rfl ?_
        obtain rfl := Option.some.inj hf
        exact hret _ _ dX7_isBad_23
      · replace hf := k_pos c_3 hf
        refine g_iconst X dX7_isBad_18 (v := 1) (by decide) (n := 19) rfl ?_
        refine g_goto X dX7_isBad_19 (n := 23) (by decide) ?_
        obtain rfl := Option.some.inj hf
        exact hret _ _ dX7_isBad_23
set_option maxRecDepth 100000 in
set_option maxHeartbeats 4000000 in
theorem mX7_isBad {l : Launch} {D : va_G} {p0 : Int32} {res : Bool} (hf : fX7_isBad p0 = some res) : k_Met l yX7_isBad cX7_isBad 1 (some .boolean) 0 0 D [.int p0] ([]) (some (.int (bI res))) ([]) :=
  k_of_z (by decide) (Nat.le_of_ble_eq_true rfl) (fun E X hret => wX7_isBad X hret hf)
set_option maxRecDepth 100000 in
set_option maxHeartbeats 4000000 in
theorem wX7_namesFault_b45 {D : va_G} {l : Launch} {E : k_E} {N : Nat} {a : Nat → Nat} {k2 : Int32 → Option (Int32)} {v1 : Int32} {mp : VMp} {mg : VMg} {mc : Nat → Int64} {ml : VMl} {mq : VMq} {mh : VMh} {ms : VMs} {mr : Nat → Int32} {mi : VMi} {res : Int32} (X : k_X D E cX7_namesFault RX7 3 2 42) (hk2 : ∀ (v1 : Int32) , k2 v1 = some res → k_G D l E (pic_X7 D a mp mg mc ml mq mh ms mr mi) [(0, .ref (a 0)), (1, .int v1)] 2 []) (hret : ∀ (pc : Nat) (lv : List (Nat × Value)), decode cX7_namesFault pc = .ok (.ireturn, 1) → k_G D l E (pic_X7 D a mp mg mc ml mq mh ms mr mi) lv pc [.int res]) (hf : fX7_namesFault_b45 N mp k2 v1 = some res) : k_G D l E (pic_X7 D a mp mg mc ml mq mh ms mr mi) [(0, .ref (a 0)), (1, .int v1)] 45 [] := by
  unfold fX7_namesFault_b45 at hf
  refine g_iinc X dX7_namesFault_45 1 rfl (v := v1 + 1) rfl (by decide) (lv2 := [(1, .int (v1 + 1)), (0, .ref (a 0))]) rfl (n := 48) rfl ?_
  refine g_goto X dX7_namesFault_48 (n := 2) (by decide) ?_
  refine g_sub [1, 0] (lv' := [(0, .ref (a 0)), (1, .int (v1 + 1))]) rfl ?_
  exact hk2 _ hf
set_option maxRecDepth 100000 in
set_option maxHeartbeats 4000000 in
theorem wX7_namesFault_b2 {D : va_G} {l : Launch} {E : k_E} {N : Nat} {a : Nat → Nat} {k2 : Int32 → Option (Int32)} {v1 : Int32} {mp : VMp} {mg : VMg} {mc : Nat → Int64} {ml : VMl} {mq : VMq} {mh : VMh} {ms : VMs} {mr : Nat → Int32} {mi : VMi} {res : Int32} (X : k_X D E cX7_namesFault RX7 3 2 42) (hk2 : ∀ (v1 : Int32) , k2 v1 = some res → k_G D l E (pic_X7 D a mp mg mc ml mq mh ms mr mi) [(0, .ref (a 0)), (1, .int v1)] 2 []) (hret : ∀ (pc : Nat) (lv : List (Nat × Value)), decode cX7_namesFault pc = .ok (.ireturn, 1) → k_G D l E (pic_X7 D a mp mg mc ml mq mh ms mr mi) lv pc [.int res]) (hf : fX7_namesFault_b2 N mp k2 v1 = some res) : k_G D l E (pic_X7 D a mp mg mc ml mq mh ms mr mi) [(0, .ref (a 0)), (1, .int v1)] 2 [] := by
  unfold fX7_namesFault_b2 at hf
  refine g_iload_n X dX7_namesFault_2 1 rfl rfl (n := 3) rfl ?_
  refine g_aload_n X dX7_namesFault_3 0 rfl rfl (n := 4) rfl ?_
  refine g_get X dX7_namesFault_4 flX7_66 0 rfl (v := .int mp.2) rfl (n := 7) rfl ?_
  refine g_icmp_ge X dX7_namesFault_7 (t := 51) (by decide) (n := 10) rfl (fun c_1 => ?_) (fun c_1 => ?_)
  · replace hf := k_pos c_1 hf
    refine g_bipush X dX7_namesFault_51 (v := (-6)) (by decide) (n := 53) rfl ?_
    obtain rfl := Option.some.inj hf
    exact hret _ _ dX7_namesFault_53
  · replace hf := k_neg c_1 hf
    refine g_aload_n X dX7_namesFault_10 0 rfl rfl (n := 11) rfl ?_
    refine g_get X dX7_namesFault_11 flX7_7 0 rfl (v := .ref (a 1)) rfl (n := 14) rfl ?_
    refine g_iload_n X dX7_namesFault_14 1 rfl rfl (n := 15) rfl ?_
    obtain ⟨h_2, hf⟩ := k_guard hf
    refine g_iaload X dX7_namesFault_15 1 (f := mp.1) rfl rfl h_2 (n := 16) rfl ?_
    refine g_istore_n X dX7_namesFault_16 rfl (by decide) (lv2 := [(2, .int (mp.1 v1.toNatClampNeg)), (0, .ref (a 0)), (1, .int v1)]) rfl (n := 17) rfl ?_
    refine g_iload_n X dX7_namesFault_17 2 rfl rfl (n := 18) rfl ?_
    refine g_bipush X dX7_namesFault_18 (v := 10) (by decide) (n := 20) rfl ?_
    refine g_icmp_eq X dX7_namesFault_20 (t := 43) (by decide) (n := 23) rfl (fun c_3 => ?_) (fun c_3 => ?_)
    · replace hf := k_pos c_3 hf
      refine g_iload_n X dX7_namesFault_43 2 rfl rfl (n := 44) rfl ?_
      obtain rfl := Option.some.inj hf
      exact hret _ _ dX7_namesFault_44
    · replace hf := k_neg c_3 hf
      refine g_iload_n X dX7_namesFault_23 0 rfl rfl (n := 24) rfl ?_
      refine g_bipush X dX7_namesFault_24 (v := 46) (by decide) (n := 26) rfl ?_
      refine g_icmp_eq X dX7_namesFault_26 (t := 45) (by decide) (n := 29) rfl (fun c_4 => ?_) (fun c_4 => ?_)
      · replace hf := k_pos c_4 hf
        refine g_sub [1, 2] (lv' := [(0, .ref (a 0)), (1, .int v1)]) rfl ?_
        exact wX7_namesFault_b45 X hk2 hret hf
      · replace hf := k_neg c_4 hf
        refine g_iload_n X dX7_namesFault_29 0 rfl rfl (n := 30) rfl ?_
        obtain ⟨x_5, g_6, hf⟩ := k_b1s hf
        refine g_callS0 X (mX7_isBad (D := D) (l := l)  g_6) lk_X7_isBad mlX7_69 dX7_namesFault_30 (n := 33) rfl (st := []) rfl (st2 := [.int (bI x_5)]) rfl rfl ⟨Nat.le_of_ble_eq_true rfl, Nat.le_of_ble_eq_true rfl⟩ (Nat.le_of_ble_eq_true rfl) ?_
        refine g_if_neB X dX7_namesFault_33 (t := 45) (by decide) (n := 36) rfl (fun c_7 => ?_) (fun c_7 => ?_)
        · replace hf := k_pos c_7 hf
          refine g_sub [1, 2] (lv' := [(0, .ref (a 0)), (1, .int v1)]) rfl ?_
          exact wX7_namesFault_b45 X hk2 hret hf
        · replace hf := k_neg c_7 hf
          refine g_iload_n X dX7_namesFault_36 0 rfl rfl (n := 37) rfl ?_
          obtain ⟨x_8, g_9, hf⟩ := k_b1s hf
          refine g_callS0 X (mX7_isPerson (D := D) (l := l)  g_9) lk_X7_isPerson mlX7_73 dX7_namesFault_37 (n := 40) rfl (st := []) rfl (st2 := [.int (bI x_8)]) rfl rfl ⟨Nat.le_of_ble_eq_true rfl, Nat.le_of_ble_eq_true rfl⟩ (Nat.le_of_ble_eq_true rfl) ?_
          refine g_if_neB X dX7_namesFault_40 (t := 45) (by decide) (n := 43) rfl (fun c_10 => ?_) (fun c_10 => ?_)
          · replace hf := k_pos c_10 hf
            refine g_sub [1, 2] (lv' := [(0, .ref (a 0)), (1, .int v1)]) rfl ?_
            exact wX7_namesFault_b45 X hk2 hret hf
          · replace hf := k_neg c_10 hf
            refine g_iload_n X dX7_namesFault_43 2 rfl rfl (n := 44) rfl ?_
            obtain rfl := Option.some.inj hf
            exact hret _ _ dX7_namesFault_44
set_option maxRecDepth 100000 in
set_option maxHeartbeats 4000000 in
theorem wX7_namesFault_l2 {D : va_G} {l : Launch} {E : k_E} {N : Nat} {a : Nat → Nat} {mp : VMp} {mg : VMg} {mc : Nat → Int64} {ml : VMl} {mq : VMq} {mh : VMh} {ms : VMs} {mr : Nat → Int32} {mi : VMi} {res : Int32} (X : k_X D E cX7_namesFault RX7 3 2 42) (hret : ∀ (pc : Nat) (lv : List (Nat × Value)), decode cX7_namesFault pc = .ok (.ireturn, 1) → k_G D l E (pic_X7 D a mp mg mc ml mq mh ms mr mi) lv pc [.int res]) : ∀ (n0 : Nat) (v1 : Int32) , fX7_namesFault_l2 N mp n0 v1 = some res → k_G D l E (pic_X7 D a mp mg mc ml mq mh ms mr mi) [(0, .ref (a 0)), (1, .int v1)] 2 [] := by
  intro n0
  induction n0 with
  | zero => intro v1 hf; cases hf
  | succ n0 ih => intro v1 hf; exact wX7_namesFault_b2 (N := N) (k2 := fX7_namesFault_l2 N mp n0) X  ih hret hf
set_option maxRecDepth 100000 in
set_option maxHeartbeats 4000000 in
theorem wX7_namesFault {D : va_G} {l : Launch} {E : k_E} {N : Nat} {a : Nat → Nat} {mp : VMp} {mg : VMg} {mc : Nat → Int64} {ml : VMl} {mq : VMq} {mh : VMh} {ms : VMs} {mr : Nat → Int32} {mi : VMi} {res : Int32} (X : k_X D E cX7_namesFault RX7 3 2 42) (hret : ∀ (pc : Nat) (lv : List (Nat × Value)), decode cX7_namesFault pc = .ok (.ireturn, 1) → k_G D l E (pic_X7 D a mp mg mc ml mq mh ms mr mi) lv pc [.int res]) (hf : fX7_namesFault N mp = some res) : k_G D l E (pic_X7 D a mp mg mc ml mq mh ms mr mi) [(0, .ref (a 0))] 0 [] := by
  unfold fX7_namesFault at hf
  refine g_iconst X dX7_namesFault_0 (v := 0) (by decide) (n := 1) rfl ?_
  refine g_istore_n X dX7_namesFault_1 rfl (by decide) (lv2 := [(1, .int 0), (0, .ref (a 0))]) rfl (n := 2) rfl ?_
  refine g_sub [1, 0] (lv' := [(0, .ref (a 0)), (1, .int 0)]) rfl ?_
  exact wX7_namesFault_l2 X  hret _ _ hf
set_option maxRecDepth 100000 in
set_option maxHeartbeats 4000000 in
theorem mX7_namesFault {l : Launch} {D : va_G} {N : Nat} {a : Nat → Nat} {mp : VMp} {mg : VMg} {mc : Nat → Int64} {ml : VMl} {mq : VMq} {mh : VMh} {ms : VMs} {mr : Nat → Int32} {mi : VMi} {res : Int32} (hf : fX7_namesFault N mp = some res) : k_Met l yX7_namesFault cX7_namesFault 3 (some .int) 2 42 D [.ref (a 0)] (pic_X7 D a mp mg mc ml mq mh ms mr mi) (some (.int res)) (pic_X7 D a mp mg mc ml mq mh ms mr mi) :=
  k_of_i (by decide) (Nat.le_of_ble_eq_true rfl) (fun E X hret => wX7_namesFault X hret hf)
set_option maxRecDepth 100000 in
set_option maxHeartbeats 4000000 in
theorem wX7_isAct {D : va_G} {l : Launch} {E : k_E} {p0 : Int32} {res : Bool} (X : k_X D E cX7_isAct RX7 1 0 0) (hret : ∀ (pc : Nat) (lv : List (Nat × Value)), decode cX7_isAct pc = .ok (.ireturn, 1) → k_G D l E ([]) lv pc [.int (bI res)]) (hf : fX7_isAct p0 = some res) : k_G D l E ([]) [(0, .int p0)] 0 [] := by
  unfold fX7_isAct at hf
  refine g_iload_n X dX7_isAct_0 0 rfl rfl (n := 1) rfl ?_
  refine g_bipush X dX7_isAct_1 (v := 43) (by decide) (n := 3) rfl ?_
  refine g_icmp_eq X dX7_isAct_3 (t := 24) (by decide) (n := 6) rfl (fun c_1 => ?_) (fun c_1 => ?_)
  · replace hf := k_pos c_1 hf
    refine g_iconst X dX7_isAct_24 (v := 1) (by decide) (n := 25) rfl ?_
    refine g_goto X dX7_isAct_25 (n := 29) (by decide) ?_
    obtain rfl := Option.some.inj hf
    exact hret _ _ dX7_isAct_29
  · replace hf := k_neg c_1 hf
    refine g_iload_n X dX7_isAct_6 0 rfl rfl (n := 7) rfl ?_
    refine g_bipush X dX7_isAct_7 (v := 45) (by decide) (n := 9) rfl ?_
    refine g_icmp_eq X dX7_isAct_9 (t := 24) (by decide) (n := 12) rfl (fun c_2 => ?_) (fun c_2 => ?_)
    · replace hf := k_pos c_2 hf
      refine g_iconst X dX7_isAct_24 (v := 1) (by decide) (n := 25) rfl ?_
      refine g_goto X dX7_isAct_25 (n := 29) (by decide) ?_
      obtain rfl := Option.some.inj hf
      exact hret _ _ dX7_isAct_29
    · replace hf := k_neg c_2 hf
      refine g_iload_n X dX7_isAct_12 0 rfl rfl (n := 13) rfl ?_
      refine g_bipush X dX7_isAct_13 (v := 42) (by decide) (n := 15) rfl ?_
      refine g_icmp_eq X dX7_isAct_15 (t := 24) (by decide) (n := 18) rfl (fun c_3 => ?_) (fun c_3 => ?_)
      · replace hf := k_pos c_3 hf
        refine g_iconst X dX7_isAct_24 (v := 1) (by decide) (n := 25) rfl ?_
        refine g_goto X dX7_isAct_25 (n := 29) (by decide) ?_
        obtain rfl := Option.some.inj hf
        exact hret _ _ dX7_isAct_29
      · replace hf := k_neg c_3 hf
        refine g_iload_n X dX7_isAct_18 0 rfl rfl (n := 19) rfl ?_
        refine g_bipush X dX7_isAct_19 (v := 47) (by decide) (n := 21) rfl ?_
        refine g_icmp_ne X dX7_isAct_21 (t := 28) (by decide) (n := 24) rfl (fun c_4 => ?_) (fun c_4 => ?_)
        · replace hf := k_neg c_4 hf
          refine g_iconst X dX7_isAct_28 (v := 0) (by decide) (n := 29) rfl ?_
          obtain rfl := Option.some.inj hf
          exact hret _ _ dX7_isAct_29
        · replace hf := k_pos c_4 hf
          refine g_iconst X dX7_isAct_24 (v := 1) (by decide) (n := 25) rfl ?_
          refine g_goto X dX7_isAct_25 (n := 29) (by decide) ?_
          obtain rfl := Option.some.inj hf
          exact hret _ _ dX7_isAct_29
set_option maxRecDepth 100000 in
set_option maxHeartbeats 4000000 in
theorem mX7_isAct {l : Launch} {D : va_G} {p0 : Int32} {res : Bool} (hf : fX7_isAct p0 = some res) : k_Met l yX7_isAct cX7_isAct 1 (some .boolean) 0 0 D [.int p0] ([]) (some (.int (bI res))) ([]) :=
  k_of_z (by decide) (Nat.le_of_ble_eq_true rfl) (fun E X hret => wX7_isAct X hret hf)
set_option maxRecDepth 100000 in
set_option maxHeartbeats 4000000 in
theorem wX7_ruleFault_b96 {D : va_G} {l : Launch} {E : k_E} {N : Nat} {a : Nat → Nat} {k4 : Int32 → Int32 → Option (Int32)} {v2 : Int32} {s0 : Int32} {s1 : Int32} {mp : VMp} {mg : VMg} {mc : Nat → Int64} {ml : VMl} {mq : VMq} {mh : VMh} {ms : VMs} {mr : Nat → Int32} {mi : VMi} {res : Int32} (X : k_X D E cX7_ruleFault RX7 5 1 22) (hk4 : ∀ (v1 : Int32) (v2 : Int32) , k4 v1 v2 = some res → k_G D l E (pic_X7 D a mp mg mc ml mq mh ms mr mi) [(0, .ref (a 0)), (1, .int v1), (2, .int v2)] 4 []) (hret : ∀ (pc : Nat) (lv : List (Nat × Value)), decode cX7_ruleFault pc = .ok (.ireturn, 1) → k_G D l E (pic_X7 D a mp mg mc ml mq mh ms mr mi) lv pc [.int res]) (hf : fX7_ruleFault_b96 N mp k4 v2 s0 s1 = some res) : k_G D l E (pic_X7 D a mp mg mc ml mq mh ms mr mi) [(0, .ref (a 0)), (2, .int v2)] 96 [.int s1, .int s0] := by
  unfold fX7_ruleFault_b96 at hf
  refine g_iadd X dX7_ruleFault_96 (n := 97) rfl ?_
  refine g_istore_n X dX7_ruleFault_97 rfl (by decide) (lv2 := [(1, .int (s0 + s1)), (0, .ref (a 0)), (2, .int v2)]) rfl (n := 98) rfl ?_
  refine g_iinc X dX7_ruleFault_98 2 rfl (v := v2 + 1) rfl (by decide) (lv2 := [(2, .int (v2 + 1)), (1, .int (s0 + s1)), (0, .ref (a 0))]) rfl (n := 101) rfl ?_
  refine g_goto X dX7_ruleFault_101 (n := 4) (by decide) ?_
  refine g_sub [2, 1, 0] (lv' := [(0, .ref (a 0)), (1, .int (s0 + s1)), (2, .int (v2 + 1))]) rfl ?_
  exact hk4 _ _ hf
set_option maxRecDepth 100000 in
set_option maxHeartbeats 4000000 in
theorem wX7_ruleFault_b85 {D : va_G} {l : Launch} {E : k_E} {N : Nat} {a : Nat → Nat} {k4 : Int32 → Int32 → Option (Int32)} {v1 : Int32} {v2 : Int32} {v4 : Bool} {mp : VMp} {mg : VMg} {mc : Nat → Int64} {ml : VMl} {mq : VMq} {mh : VMh} {ms : VMs} {mr : Nat → Int32} {mi : VMi} {res : Int32} (X : k_X D E cX7_ruleFault RX7 5 1 22) (hk4 : ∀ (v1 : Int32) (v2 : Int32) , k4 v1 v2 = some res → k_G D l E (pic_X7 D a mp mg mc ml mq mh ms mr mi) [(0, .ref (a 0)), (1, .int v1), (2, .int v2)] 4 []) (hret : ∀ (pc : Nat) (lv : List (Nat × Value)), decode cX7_ruleFault pc = .ok (.ireturn, 1) → k_G D l E (pic_X7 D a mp mg mc ml mq mh ms mr mi) lv pc [.int res]) (hf : fX7_ruleFault_b85 N mp k4 v1 v2 v4 = some res) : k_G D l E (pic_X7 D a mp mg mc ml mq mh ms mr mi) [(0, .ref (a 0)), (1, .int v1), (2, .int v2), (4, .int (bI v4))] 85 [] := by
  unfold fX7_ruleFault_b85 at hf
  refine g_iload_n X dX7_ruleFault_85 1 rfl rfl (n := 86) rfl ?_
  refine g_iload X dX7_ruleFault_86 3 rfl (n := 88) rfl ?_
  refine g_if_eqB X dX7_ruleFault_88 (t := 95) (by decide) (n := 91) rfl (fun c_1 => ?_) (fun c_1 => ?_)
  · replace hf := k_neg c_1 hf
    refine g_iconst X dX7_ruleFault_95 (v := 1) (by decide) (n := 96) rfl ?_
    refine g_sub [0, 2] (lv' := [(0, .ref (a 0)), (2, .int v2)]) rfl ?_
    exact wX7_ruleFault_b96 X hk4 hret hf
  · replace hf := k_pos c_1 hf
    refine g_iconst X dX7_ruleFault_91 (v := (-1)) (by decide) (n := 92) rfl ?_
    refine g_goto X dX7_ruleFault_92 (n := 96) (by decide) ?_
    refine g_sub [0, 2] (lv' := [(0, .ref (a 0)), (2, .int v2)]) rfl ?_
    exact wX7_ruleFault_b96 X hk4 hret hf
set_option maxRecDepth 100000 in
set_option maxHeartbeats 4000000 in
theorem wX7_ruleFault_b59 {D : va_G} {l : Launch} {E : k_E} {N : Nat} {a : Nat → Nat} {k4 : Int32 → Int32 → Option (Int32)} {v1 : Int32} {v2 : Int32} {v3 : Int32} {s0 : Bool} {mp : VMp} {mg : VMg} {mc : Nat → Int64} {ml : VMl} {mq : VMq} {mh : VMh} {ms : VMs} {mr : Nat → Int32} {mi : VMi} {res : Int32} (X : k_X D E cX7_ruleFault RX7 5 1 22) (hk4 : ∀ (v1 : Int32) (v2 : Int32) , k4 v1 v2 = some res → k_G D l E (pic_X7 D a mp mg mc ml mq mh ms mr mi) [(0, .ref (a 0)), (1, .int v1), (2, .int v2)] 4 []) (hret : ∀ (pc : Nat) (lv : List (Nat × Value)), decode cX7_ruleFault pc = .ok (.ireturn, 1) → k_G D l E (pic_X7 D a mp mg mc ml mq mh ms mr mi) lv pc [.int res]) (hf : fX7_ruleFault_b59 N mp k4 v1 v2 v3 s0 = some res) : k_G D l E (pic_X7 D a mp mg mc ml mq mh ms mr mi) [(0, .ref (a 0)), (1, .int v1), (2, .int v2), (3, .int v3)] 59 [.int (bI s0)] := by
  unfold fX7_ruleFault_b59 at hf
  refine g_istore X dX7_ruleFault_59 (by decide) (lv2 := [(4, .int (bI s0)), (0, .ref (a 0)), (1, .int v1), (2, .int v2), (3, .int v3)]) rfl (n := 61) rfl ?_
  refine g_iload_n X dX7_ruleFault_61 2 rfl rfl (n := 62) rfl ?_
  refine g_if_eq X dX7_ruleFault_62 (t := 83) (by decide) (n := 65) rfl (fun c_1 => ?_) (fun c_1 => ?_)
  · replace hf := k_pos c_1 hf
    refine g_iload_n X dX7_ruleFault_83 3 rfl rfl (n := 84) rfl ?_
    obtain rfl := Option.some.inj hf
    exact hret _ _ dX7_ruleFault_84
  · replace hf := k_neg c_1 hf
    refine g_iload_n X dX7_ruleFault_65 3 rfl rfl (n := 66) rfl ?_
    refine g_bipush X dX7_ruleFault_66 (v := 11) (by decide) (n := 68) rfl ?_
    refine g_icmp_eq X dX7_ruleFault_68 (t := 83) (by decide) (n := 71) rfl (fun c_2 => ?_) (fun c_2 => ?_)
    · replace hf := k_pos c_2 hf
      refine g_iload_n X dX7_ruleFault_83 3 rfl rfl (n := 84) rfl ?_
      obtain rfl := Option.some.inj hf
      exact hret _ _ dX7_ruleFault_84
    · replace hf := k_neg c_2 hf
      refine g_iload X dX7_ruleFault_71 0 rfl (n := 73) rfl ?_
      refine g_if_neB X dX7_ruleFault_73 (t := 85) (by decide) (n := 76) rfl (fun c_3 => ?_) (fun c_3 => ?_)
      · replace hf := k_pos c_3 hf
        refine g_sub [1, 2, 3, 0] (lv' := [(0, .ref (a 0)), (1, .int v1), (2, .int v2), (4, .int (bI s0))]) rfl ?_
        exact wX7_ruleFault_b85 X hk4 hret hf
      · replace hf := k_neg c_3 hf
        refine g_iload_n X dX7_ruleFault_76 4 rfl rfl (n := 77) rfl ?_
        obtain ⟨x_4, g_5, hf⟩ := k_b1s hf
        refine g_callS0 X (mX7_isAct (D := D) (l := l)  g_5) lk_X7_isAct mlX7_76 dX7_ruleFault_77 (n := 80) rfl (st := []) rfl (st2 := [.int (bI x_4)]) rfl rfl ⟨Nat.le_of_ble_eq_true rfl, Nat.le_of_ble_eq_true rfl⟩ (Nat.le_of_ble_eq_true rfl) ?_
        refine g_if_neB X dX7_ruleFault_80 (t := 85) (by decide) (n := 83) rfl (fun c_6 => ?_) (fun c_6 => ?_)
        · replace hf := k_pos c_6 hf
          refine g_sub [1, 2, 3, 0] (lv' := [(0, .ref (a 0)), (1, .int v1), (2, .int v2), (4, .int (bI s0))]) rfl ?_
          exact wX7_ruleFault_b85 X hk4 hret hf
        · replace hf := k_neg c_6 hf
          refine g_iload_n X dX7_ruleFault_83 3 rfl rfl (n := 84) rfl ?_
          obtain rfl := Option.some.inj hf
          exact hret _ _ dX7_ruleFault_84
set_option maxRecDepth 100000 in
set_option maxHeartbeats 4000000 in
theorem wX7_ruleFault_b54 {D : va_G} {l : Launch} {E : k_E} {N : Nat} {a : Nat → Nat} {k4 : Int32 → Int32 → Option (Int32)} {v1 : Int32} {v2 : Int32} {v3 : Int32} {mp : VMp} {mg : VMg} {mc : Nat → Int64} {ml : VMl} {mq : VMq} {mh : VMh} {ms : VMs} {mr : Nat → Int32} {mi : VMi} {res : Int32} (X : k_X D E cX7_ruleFault RX7 5 1 22) (hk4 : ∀ (v1 : Int32) (v2 : Int32) , k4 v1 v2 = some res → k_G D l E (pic_X7 D a mp mg mc ml mq mh ms mr mi) [(0, .ref (a 0)), (1, .int v1), (2, .int v2)] 4 []) (hret : ∀ (pc : Nat) (lv : List (Nat × Value)), decode cX7_ruleFault pc = .ok (.ireturn, 1) → k_G D l E (pic_X7 D a mp mg mc ml mq mh ms mr mi) lv pc [.int res]) (hf : fX7_ruleFault_b54 N mp k4 v1 v2 v3 = some res) : k_G D l E (pic_X7 D a mp mg mc ml mq mh ms mr mi) [(0, .ref (a 0)), (1, .int v1), (2, .int v2), (3, .int v3)] 54 [] := by
  unfold fX7_ruleFault_b54 at hf
  refine g_iconst X dX7_ruleFault_54 (v := 1) (by decide) (n := 55) rfl ?_
  refine g_goto X dX7_ruleFault_55 (n := 59) (by decide) ?_
  refine g_sub [0, 1, 2, 3] (lv' := [(0, .ref (a 0)), (1, .int v1), (2, .int v2), (3, .int v3)]) rfl ?_
  exact wX7_ruleFault_b59 X hk4 hret hf
set_option maxRecDepth 100000 in
set_option maxHeartbeats 4000000 in
theorem wX7_ruleFault_b4 {D : va_G} {l : Launch} {E : k_E} {N : Nat} {a : Nat → Nat} {k4 : Int32 → Int32 → Option (Int32)} {v1 : Int32} {v2 : Int32} {mp : VMp} {mg : VMg} {mc : Nat → Int64} {ml : VMl} {mq : VMq} {mh : VMh} {ms : VMs} {mr : Nat → Int32} {mi : VMi} {res : Int32} (X : k_X D E cX7_ruleFault RX7 5 1 22) (hk4 : ∀ (v1 : Int32) (v2 : Int32) , k4 v1 v2 = some res → k_G D l E (pic_X7 D a mp mg mc ml mq mh ms mr mi) [(0, .ref (a 0)), (1, .int v1), (2, .int v2)] 4 []) (hret : ∀ (pc : Nat) (lv : List (Nat × Value)), decode cX7_ruleFault pc = .ok (.ireturn, 1) → k_G D l E (pic_X7 D a mp mg mc ml mq mh ms mr mi) lv pc [.int res]) (hf : fX7_ruleFault_b4 N mp k4 v1 v2 = some res) : k_G D l E (pic_X7 D a mp mg mc ml mq mh ms mr mi) [(0, .ref (a 0)), (1, .int v1), (2, .int v2)] 4 [] := by
  unfold fX7_ruleFault_b4 at hf
  refine g_iload_n X dX7_ruleFault_4 2 rfl rfl (n := 5) rfl ?_
  refine g_aload_n X dX7_ruleFault_5 0 rfl rfl (n := 6) rfl ?_
  refine g_get X dX7_ruleFault_6 flX7_66 0 rfl (v := .int mp.2) rfl (n := 9) rfl ?_
  refine g_icmp_ge X dX7_ruleFault_9 (t := 104) (by decide) (n := 12) rfl (fun c_1 => ?_) (fun c_1 => ?_)
  · replace hf := k_pos c_1 hf
    refine g_iload_n X dX7_ruleFault_104 1 rfl rfl (n := 105) rfl ?_
    refine g_if_ne X dX7_ruleFault_105 (t := 113) (by decide) (n := 108) rfl (fun c_2 => ?_) (fun c_2 => ?_)
    · replace hf := k_neg c_2 hf
      refine g_aload_n X dX7_ruleFault_113 0 rfl rfl (n := 114) rfl ?_
      refine g_get X dX7_ruleFault_114 flX7_66 0 rfl (v := .int mp.2) rfl (n := 117) rfl ?_
      obtain rfl := Option.some.inj hf
      exact hret _ _ dX7_ruleFault_117
    · replace hf := k_pos c_2 hf
      refine g_bipush X dX7_ruleFault_108 (v := (-6)) (by decide) (n := 110) rfl ?_
      refine g_goto X dX7_ruleFault_110 (n := 117) (by decide) ?_
      obtain rfl := Option.some.inj hf
      exact hret _ _ dX7_ruleFault_117
  · replace hf := k_neg c_1 hf
    refine g_aload_n X dX7_ruleFault_12 0 rfl rfl (n := 13) rfl ?_
    refine g_get X dX7_ruleFault_13 flX7_7 0 rfl (v := .ref (a 1)) rfl (n := 16) rfl ?_
    refine g_iload_n X dX7_ruleFault_16 2 rfl rfl (n := 17) rfl ?_
    obtain ⟨h_3, hf⟩ := k_guard hf
    refine g_iaload X dX7_ruleFault_17 1 (f := mp.1) rfl rfl h_3 (n := 18) rfl ?_
    refine g_istore_n X dX7_ruleFault_18 rfl (by decide) (lv2 := [(3, .int (mp.1 v2.toNatClampNeg)), (0, .ref (a 0)), (1, .int v1), (2, .int v2)]) rfl (n := 19) rfl ?_
    refine g_iload_n X dX7_ruleFault_19 0 rfl rfl (n := 20) rfl ?_
    refine g_bipush X dX7_ruleFault_20 (v := 78) (by decide) (n := 22) rfl ?_
    refine g_icmp_eq X dX7_ruleFault_22 (t := 54) (by decide) (n := 25) rfl (fun c_4 => ?_) (fun c_4 => ?_)
    · replace hf := k_pos c_4 hf
      refine g_sub [1, 2, 3, 0] (lv' := [(0, .ref (a 0)), (1, .int v1), (2, .int v2), (3, .int (mp.1 v2.toNatClampNeg))]) rfl ?_
      exact wX7_ruleFault_b54 X hk4 hret hf
    · replace hf := k_neg c_4 hf
      refine g_iload_n X dX7_ruleFault_25 0 rfl rfl (n := 26) rfl ?_
      refine g_bipush X dX7_ruleFault_26 (v := 107) (by decide) (n := 28) rfl ?_
      refine g_icmp_eq X dX7_ruleFault_28 (t := 54) (by decide) (n := 31) rfl (fun c_5 => ?_) (fun c_5 => ?_)
      · replace hf := k_pos c_5 hf
        refine g_sub [1, 2, 3, 0] (lv' := [(0, .ref (a 0)), (1, .int v1), (2, .int v2), (3, .int (mp.1 v2.toNatClampNeg))]) rfl ?_
        exact wX7_ruleFault_b54 X hk4 hret hf
      · replace hf := k_neg c_5 hf
        refine g_iload_n X dX7_ruleFault_31 0 rfl rfl (n := 32) rfl ?_
        refine g_bipush X dX7_ruleFault_32 (v := 118) (by decide) (n := 34) rfl ?_
        refine g_icmp_eq X dX7_ruleFault_34 (t := 54) (by decide) (n := 37) rfl (fun c_6 => ?_) (fun c_6 => ?_)
        · replace hf := k_pos c_6 hf
          refine g_sub [1, 2, 3, 0] (lv' := [(0, .ref (a 0)), (1, .int v1), (2, .int v2), (3, .int (mp.1 v2.toNatClampNeg))]) rfl ?_
          exact wX7_ruleFault_b54 X hk4 hret hf
        · replace hf := k_neg c_6 hf
          refine g_iload_n X dX7_ruleFault_37 0 rfl rfl (n := 38) rfl ?_
          refine g_bipush X dX7_ruleFault_38 (v := 100) (by decide) (n := 40) rfl ?_
          refine g_icmp_eq X dX7_ruleFault_40 (t := 54) (by decide) (n := 43) rfl (fun c_7 => ?_) (fun c_7 => ?_)
          · replace hf := k_pos c_7 hf
            refine g_sub [1, 2, 3, 0] (lv' := [(0, .ref (a 0)), (1, .int v1), (2, .int v2), (3, .int (mp.1 v2.toNatClampNeg))]) rfl ?_
            exact wX7_ruleFault_b54 X hk4 hret hf
          · replace hf := k_neg c_7 hf
            refine g_iload_n X dX7_ruleFault_43 0 rfl rfl (n := 44) rfl ?_
            refine g_bipush X dX7_ruleFault_44 (v := 48) (by decide) (n := 46) rfl ?_
            refine g_bipush X dX7_ruleFault_46 (v := 57) (by decide) (n := 48) rfl ?_
            obtain ⟨x_8, g_9, hf⟩ := k_b1s hf
            refine g_callS0 X (mX7_in (D := D) (l := l)  g_9) lk_X7_in mlX7_58 dX7_ruleFault_48 (n := 51) rfl (st := []) rfl (st2 := [.int (bI x_8)]) rfl rfl ⟨Nat.le_of_ble_eq_true rfl, Nat.le_of_ble_eq_true rfl⟩ (Nat.le_of_ble_eq_true rfl) ?_
            refine g_if_eqB X dX7_ruleFault_51 (t := 58) (by decide) (n := 54) rfl (fun c_10 => ?_) (fun c_10 => ?_)
            · replace hf := k_neg c_10 hf
              refine g_iconst X dX7_ruleFault_58 (v := 0) (by decide) (n := 59) rfl ?_
              refine g_sub [1, 2, 3, 0] (lv' := [(0, .ref (a 0)), (1, .int v1), (2, .int v2), (3, .int (mp.1 v2.toNatClampNeg))]) rfl ?_
              exact wX7_ruleFault_b59 X hk4 hret hf
            · replace hf := k_pos c_10 hf
              refine g_sub [1, 2, 3, 0] (lv' := [(0, .ref (a 0)), (1, .int v1), (2, .int v2), (3, .int (mp.1 v2.toNatClampNeg))]) rfl ?_
              exact wX7_ruleFault_b54 X hk4 hret hf
set_option maxRecDepth 100000 in
set_option maxHeartbeats 4000000 in
theorem wX7_ruleFault_l4 {D : va_G} {l : Launch} {E : k_E} {N : Nat} {a : Nat → Nat} {mp : VMp} {mg : VMg} {mc : Nat → Int64} {ml : VMl} {mq : VMq} {mh : VMh} {ms : VMs} {mr : Nat → Int32} {mi : VMi} {res : Int32} (X : k_X D E cX7_ruleFault RX7 5 1 22) (hret : ∀ (pc : Nat) (lv : List (Nat × Value)), decode cX7_ruleFault pc = .ok (.ireturn, 1) → k_G D l E (pic_X7 D a mp mg mc ml mq mh ms mr mi) lv pc [.int res]) : ∀ (n0 : Nat) (v1 : Int32) (v2 : Int32) , fX7_ruleFault_l4 N mp n0 v1 v2 = some res → k_G D l E (pic_X7 D a mp mg mc ml mq mh ms mr mi) [(0, .ref (a 0)), (1, .int v1), (2, .int v2)] 4 [] := by
  intro n0
  induction n0 with
  | zero => intro v1 v2 hf; cases hf
  | succ n0 ih => intro v1 v2 hf; exact wX7_ruleFault_b4 (N := N) (k4 := fX7_ruleFault_l4 N mp n0) X  ih hret hf
set_option maxRecDepth 100000 in
set_option maxHeartbeats 4000000 in
theorem wX7_ruleFault {D : va_G} {l : Launch} {E : k_E} {N : Nat} {a : Nat → Nat} {mp : VMp} {mg : VMg} {mc : Nat → Int64} {ml : VMl} {mq : VMq} {mh : VMh} {ms : VMs} {mr : Nat → Int32} {mi : VMi} {res : Int32} (X : k_X D E cX7_ruleFault RX7 5 1 22) (hret : ∀ (pc : Nat) (lv : List (Nat × Value)), decode cX7_ruleFault pc = .ok (.ireturn, 1) → k_G D l E (pic_X7 D a mp mg mc ml mq mh ms mr mi) lv pc [.int res]) (hf : fX7_ruleFault N mp = some res) : k_G D l E (pic_X7 D a mp mg mc ml mq mh ms mr mi) [(0, .ref (a 0))] 0 [] := by
  unfold fX7_ruleFault at hf
  refine g_iconst X dX7_ruleFault_0 (v := 1) (by decide) (n := 1) rfl ?_
  refine g_istore_n X dX7_ruleFault_1 rfl (by decide) (lv2 := [(1, .int 1), (0, .ref (a 0))]) rfl (n := 2) rfl ?_
  refine g_iconst X dX7_ruleFault_2 (v := 0) (by decide) (n := 3) rfl ?_
  refine g_istore_n X dX7_ruleFault_3 rfl (by decide) (lv2 := [(2, .int 0), (1, .int 1), (0, .ref (a 0))]) rfl (n := 4) rfl ?_
  refine g_sub [2, 1, 0] (lv' := [(0, .ref (a 0)), (1, .int 1), (2, .int 0)]) rfl ?_
  exact wX7_ruleFault_l4 X  hret _ _ _ hf
set_option maxRecDepth 100000 in
set_option maxHeartbeats 4000000 in
theorem mX7_ruleFault {l : Launch} {D : va_G} {N : Nat} {a : Nat → Nat} {mp : VMp} {mg : VMg} {mc : Nat → Int64} {ml : VMl} {mq : VMq} {mh : VMh} {ms : VMs} {mr : Nat → Int32} {mi : VMi} {res : Int32} (hf : fX7_ruleFault N mp = some res) : k_Met l yX7_ruleFault cX7_ruleFault 5 (some .int) 1 22 D [.ref (a 0)] (pic_X7 D a mp mg mc ml mq mh ms mr mi) (some (.int res)) (pic_X7 D a mp mg mc ml mq mh ms mr mi) :=
  k_of_i (by decide) (Nat.le_of_ble_eq_true rfl) (fun E X hret => wX7_ruleFault X hret hf)
set_option maxRecDepth 100000 in
set_option maxHeartbeats 4000000 in
theorem wX7_fault {D : va_G} {l : Launch} {E : k_E} {N : Nat} {a : Nat → Nat} {p1 : Int32} {mp : VMp} {mg : VMg} {mc : Nat → Int64} {ml : VMl} {mq : VMq} {mh : VMh} {ms : VMs} {mr : Nat → Int32} {mi : VMi} {res : Int32} (X : k_X D E cX7_fault RX7 2 3 64) (hret : ∀ (pc : Nat) (lv : List (Nat × Value)), decode cX7_fault pc = .ok (.ireturn, 1) → k_G D l E (pic_X7 D a mp mg mc ml mq mh ms mr mi) lv pc [.int res]) (hf : fX7_fault N mp p1 = some res) : k_G D l E (pic_X7 D a mp mg mc ml mq mh ms mr mi) [(0, .ref (a 0)), (1, .int p1)] 0 [] := by
  unfold fX7_fault at hf
  refine g_iload_n X dX7_fault_0 1 rfl rfl (n := 1) rfl ?_
  refine g_if_ne X dX7_fault_1 (t := 11) (by decide) (n := 4) rfl (fun c_1 => ?_) (fun c_1 => ?_)
  · replace hf := k_neg c_1 hf
    refine g_iload_n X dX7_fault_11 1 rfl rfl (n := 12) rfl ?_
    refine g_iconst X dX7_fault_12 (v := 1) (by decide) (n := 13) rfl ?_
    refine g_icmp_ne X dX7_fault_13 (t := 23) (by decide) (n := 16) rfl (fun c_2 => ?_) (fun c_2 => ?_)
    · replace hf := k_neg c_2 hf
      refine g_bipush X dX7_fault_23 (v := (-2)) (by decide) (n := 25) rfl ?_
      obtain rfl := Option.some.inj hf
      exact hret _ _ dX7_fault_25
    · replace hf := k_pos c_2 hf
      refine g_aload_n X dX7_fault_16 0 rfl rfl (n := 17) rfl ?_
      obtain ⟨x_3, g_4, hf⟩ := k_b1s hf
      refine g_callV0 X (mX7_ruleFault (D := D) (l := l) (a := a) (mg := mg) (mc := mc) (ml := ml) (mq := mq) (mh := mh) (ms := ms) (mr := mr) (mi := mi) g_4) lk_X7_ruleFault mlX7_83 dX7_fault_17 (n := 20) rfl (st := []) rfl (st2 := [.int x_3]) rfl rfl rfl rfl (ws2 := pic_X7 D a mp mg mc ml mq mh ms mr mi) (ad_X7 _ _ _ _ _ _ _ _ _ _ _ _ _ _ _ _ _ _ _ _) rfl ⟨Nat.le_of_ble_eq_true rfl, Nat.le_of_ble_eq_true rfl⟩ (Nat.le_of_ble_eq_true rfl) ?_
      refine g_goto X dX7_fault_20 (n := 25) (by decide) ?_
      obtain rfl := Option.some.inj hf
      exact hret _ _ dX7_fault_25
  · replace hf := k_pos c_1 hf
    refine g_aload_n X dX7_fault_4 0 rfl rfl (n := 5) rfl ?_
    obtain ⟨x_5, g_6, hf⟩ := k_b1s hf
    refine g_callV0 X (mX7_namesFault (D := D) (l := l) (a := a) (mg := mg) (mc := mc) (ml := ml) (mq := mq) (mh := mh) (ms := ms) (mr := mr) (mi := mi) g_6) lk_X7_namesFault mlX7_79 dX7_fault_5 (n := 8) rfl (st := []) rfl (st2 := [.int x_5]) rfl rfl rfl rfl (ws2 := pic_X7 D a mp mg mc ml mq mh ms mr mi) (ad_X7 _ _ _ _ _ _ _ _ _ _ _ _ _ _ _ _ _ _ _ _) rfl ⟨Nat.le_of_ble_eq_true rfl, Nat.le_of_ble_eq_true rfl⟩ (Nat.le_of_ble_eq_true rfl) ?_
    refine g_goto X dX7_fault_8 (n := 25) (by decide) ?_
    obtain rfl := Option.some.inj hf
    exact hret _ _ dX7_fault_25
set_option maxRecDepth 100000 in
set_option maxHeartbeats 4000000 in
theorem mX7_fault {l : Launch} {D : va_G} {N : Nat} {a : Nat → Nat} {p1 : Int32} {mp : VMp} {mg : VMg} {mc : Nat → Int64} {ml : VMl} {mq : VMq} {mh : VMh} {ms : VMs} {mr : Nat → Int32} {mi : VMi} {res : Int32} (hf : fX7_fault N mp p1 = some res) : k_Met l yX7_fault cX7_fault 2 (some .int) 3 64 D [.ref (a 0), .int p1] (pic_X7 D a mp mg mc ml mq mh ms mr mi) (some (.int res)) (pic_X7 D a mp mg mc ml mq mh ms mr mi) :=
  k_of_i (by decide) (Nat.le_of_ble_eq_true rfl) (fun E X hret => wX7_fault X hret hf)
set_option maxRecDepth 100000 in
set_option maxHeartbeats 4000000 in
theorem wX7_names_b31 {D : va_G} {l : Launch} {E : k_E} {N : Nat} {a : Nat → Nat} {k31 : Int32 → Int32 → VMp → VMg → Option (Int32 × VMp × VMg)} {v1 : Int32} {v2 : Int32} {mp : VMp} {mg : VMg} {mc : Nat → Int64} {ml : VMl} {mq : VMq} {mh : VMh} {ms : VMs} {mr : Nat → Int32} {mi : VMi} {res : Int32 × VMp × VMg} (X : k_X D E cX7_names RX7 3 3 64) (hk31 : ∀ (v1 : Int32) (v2 : Int32) (mp : VMp) (mg : VMg), k31 v1 v2 mp mg = some res → k_G D l E (pic_X7 D a mp mg mc ml mq mh ms mr mi) [(0, .ref (a 0)), (1, .int v1), (2, .int v2)] 31 []) (hret : ∀ (pc : Nat) (lv : List (Nat × Value)), decode cX7_names pc = .ok (.ireturn, 1) → k_G D l E (pic_X7 D a res.2.1 res.2.2 mc ml mq mh ms mr mi) lv pc [.int res.1]) (hf : fX7_names_b31 N k31 v1 v2 mp mg = some res) : k_G D l E (pic_X7 D a mp mg mc ml mq mh ms mr mi) [(0, .ref (a 0)), (1, .int v1), (2, .int v2)] 31 [] := by
  unfold fX7_names_b31 at hf
  refine g_iload_n X dX7_names_31 2 rfl rfl (n := 32) rfl ?_
  refine g_aload_n X dX7_names_32 0 rfl rfl (n := 33) rfl ?_
  refine g_get X dX7_names_33 flX7_66 0 rfl (v := .int mp.2) rfl (n := 36) rfl ?_
  refine g_icmp_ge X dX7_names_36 (t := 62) (by decide) (n := 39) rfl (fun c_1 => ?_) (fun c_1 => ?_)
  · replace hf := k_pos c_1 hf
    refine g_aload_n X dX7_names_62 0 rfl rfl (n := 63) rfl ?_
    refine g_iconst X dX7_names_63 (v := 0) (by decide) (n := 64) rfl ?_
    refine g_put X dX7_names_64 flX7_66 0 rfl rfl rfl (Nat.le_of_ble_eq_true rfl) (ws2 := pic_X7 D a (mp.1, (0 : Int32)) mg mc ml mq mh ms mr mi) rfl (n := 67) rfl ?_
    refine g_aload_n X dX7_names_67 0 rfl rfl (n := 68) rfl ?_
    refine g_get X dX7_names_68 flX7_19 0 rfl (v := .ref (a 4)) rfl (n := 71) rfl ?_
    refine g_iload_n X dX7_names_71 1 rfl rfl (n := 72) rfl ?_
    obtain ⟨h_2, hf⟩ := k_guard hf
    refine g_iaload X dX7_names_72 4 (f := mg.2.2.1) rfl rfl h_2 (n := 73) rfl ?_
    obtain rfl := Option.some.inj hf
    exact hret _ _ dX7_names_73
  · replace hf := k_neg c_1 hf
    refine g_aload_n X dX7_names_39 0 rfl rfl (n := 40) rfl ?_
    refine g_get X dX7_names_40 flX7_22 0 rfl (v := .ref (a 5)) rfl (n := 43) rfl ?_
    refine g_bipush X dX7_names_43 (v := 10) (by decide) (n := 45) rfl ?_
    refine g_iload_n X dX7_names_45 1 rfl rfl (n := 46) rfl ?_
    refine g_imul X dX7_names_46 (n := 47) rfl ?_
    refine g_iload_n X dX7_names_47 2 rfl rfl (n := 48) rfl ?_
    refine g_iadd X dX7_names_48 (n := 49) rfl ?_
    refine g_aload_n X dX7_names_49 0 rfl rfl (n := 50) rfl ?_
    refine g_get X dX7_names_50 flX7_7 0 rfl (v := .ref (a 1)) rfl (n := 53) rfl ?_
    refine g_iload_n X dX7_names_53 2 rfl rfl (n := 54) rfl ?_
    obtain ⟨h_3, hf⟩ := k_guard hf
    refine g_iaload X dX7_names_54 1 (f := mp.1) rfl rfl h_3 (n := 55) rfl ?_
    obtain ⟨h_4, hf⟩ := k_guard hf
    refine g_iastore X dX7_names_55 5 (f := mg.2.2.2.1) rfl rfl h_4 (ws2 := pic_X7 D a mp (mg.1, mg.2.1, mg.2.2.1, upd mg.2.2.2.1 ((((10 : Int32) * v1) + v2)).toNatClampNeg (mp.1 v2.toNatClampNeg), mg.2.2.2.2.1, mg.2.2.2.2.2.1, mg.2.2.2.2.2.2) mc ml mq mh ms mr mi) rfl (n := 56) rfl ?_
    refine g_iinc X dX7_names_56 2 rfl (v := v2 + 1) rfl (by decide) (lv2 := [(2, .int (v2 + 1)), (0, .ref (a 0)), (1, .int v1)]) rfl (n := 59) rfl ?_
    refine g_goto X dX7_names_59 (n := 31) (by decide) ?_
    refine g_sub [1, 2, 0] (lv' := [(0, .ref (a 0)), (1, .int v1), (2, .int (v2 + 1))]) rfl ?_
    exact hk31 _ _ _ _ hf
set_option maxRecDepth 100000 in
set_option maxHeartbeats 4000000 in
theorem wX7_names_l31 {D : va_G} {l : Launch} {E : k_E} {N : Nat} {a : Nat → Nat} {mc : Nat → Int64} {ml : VMl} {mq : VMq} {mh : VMh} {ms : VMs} {mr : Nat → Int32} {mi : VMi} {res : Int32 × VMp × VMg} (X : k_X D E cX7_names RX7 3 3 64) (hret : ∀ (pc : Nat) (lv : List (Nat × Value)), decode cX7_names pc = .ok (.ireturn, 1) → k_G D l E (pic_X7 D a res.2.1 res.2.2 mc ml mq mh ms mr mi) lv pc [.int res.1]) : ∀ (n0 : Nat) (v1 : Int32) (v2 : Int32) (mp : VMp) (mg : VMg), fX7_names_l31 N n0 v1 v2 mp mg = some res → k_G D l E (pic_X7 D a mp mg mc ml mq mh ms mr mi) [(0, .ref (a 0)), (1, .int v1), (2, .int v2)] 31 [] := by
  intro n0
  induction n0 with
  | zero => intro v1 v2 mp mg hf; cases hf
  | succ n0 ih => intro v1 v2 mp mg hf; exact wX7_names_b31 (N := N) (k31 := fX7_names_l31 N n0) X  ih hret hf
set_option maxRecDepth 100000 in
set_option maxHeartbeats 4000000 in
theorem wX7_names {D : va_G} {l : Launch} {E : k_E} {N : Nat} {a : Nat → Nat} {p1 : Int32} {mp : VMp} {mg : VMg} {mc : Nat → Int64} {ml : VMl} {mq : VMq} {mh : VMh} {ms : VMs} {mr : Nat → Int32} {mi : VMi} {res : Int32 × VMp × VMg} (X : k_X D E cX7_names RX7 3 3 64) (hret : ∀ (pc : Nat) (lv : List (Nat × Value)), decode cX7_names pc = .ok (.ireturn, 1) → k_G D l E (pic_X7 D a res.2.1 res.2.2 mc ml mq mh ms mr mi) lv pc [.int res.1]) (hf : fX7_names N p1 mp mg = some res) : k_G D l E (pic_X7 D a mp mg mc ml mq mh ms mr mi) [(0, .ref (a 0)), (1, .int p1)] 0 [] := by
  unfold fX7_names at hf
  refine g_iload_n X dX7_names_0 1 rfl rfl (n := 1) rfl ?_
  obtain ⟨x_1, g_2, hf⟩ := k_b1s hf
  refine g_callS0 X (mX7_isSheet (D := D) (l := l)  g_2) lk_X7_isSheet mlX7_86 dX7_names_1 (n := 4) rfl (st := []) rfl (st2 := [.int (bI x_1)]) rfl rfl ⟨Nat.le_of_ble_eq_true rfl, Nat.le_of_ble_eq_true rfl⟩ (Nat.le_of_ble_eq_true rfl) ?_
  refine g_if_neB X dX7_names_4 (t := 9) (by decide) (n := 7) rfl (fun c_3 => ?_) (fun c_3 => ?_)
  · replace hf := k_pos c_3 hf
    refine g_aload_n X dX7_names_9 0 rfl rfl (n := 10) rfl ?_
    obtain ⟨x_4, g_5, hf⟩ := k_b1s hf
    refine g_callV0 X (mX7_namesFault (D := D) (l := l) (a := a) (mg := mg) (mc := mc) (ml := ml) (mq := mq) (mh := mh) (ms := ms) (mr := mr) (mi := mi) g_5) lk_X7_namesFault mlX7_79 dX7_names_10 (n := 13) rfl (st := []) rfl (st2 := [.int x_4]) rfl rfl rfl rfl (ws2 := pic_X7 D a mp mg mc ml mq mh ms mr mi) (ad_X7 _ _ _ _ _ _ _ _ _ _ _ _ _ _ _ _ _ _ _ _) rfl ⟨Nat.le_of_ble_eq_true rfl, Nat.le_of_ble_eq_true rfl⟩ (Nat.le_of_ble_eq_true rfl) ?_
    refine g_if_lt X dX7_names_13 (t := 19) (by decide) (n := 16) rfl (fun c_6 => ?_) (fun c_6 => ?_)
    · replace hf := k_pos c_6 hf
      refine g_aload_n X dX7_names_19 0 rfl rfl (n := 20) rfl ?_
      refine g_get X dX7_names_20 flX7_19 0 rfl (v := .ref (a 4)) rfl (n := 23) rfl ?_
      refine g_iload_n X dX7_names_23 1 rfl rfl (n := 24) rfl ?_
      refine g_aload_n X dX7_names_24 0 rfl rfl (n := 25) rfl ?_
      refine g_get X dX7_names_25 flX7_66 0 rfl (v := .int mp.2) rfl (n := 28) rfl ?_
      obtain ⟨h_7, hf⟩ := k_guard hf
      refine g_iastore X dX7_names_28 4 (f := mg.2.2.1) rfl rfl h_7 (ws2 := pic_X7 D a mp (mg.1, mg.2.1, upd mg.2.2.1 (p1).toNatClampNeg mp.2, mg.2.2.2.1, mg.2.2.2.2.1, mg.2.2.2.2.2.1, mg.2.2.2.2.2.2) mc ml mq mh ms mr mi) rfl (n := 29) rfl ?_
      refine g_iconst X dX7_names_29 (v := 0) (by decide) (n := 30) rfl ?_
      refine g_istore_n X dX7_names_30 rfl (by decide) (lv2 := [(2, .int 0), (0, .ref (a 0)), (1, .int p1)]) rfl (n := 31) rfl ?_
      refine g_sub [1, 2, 0] (lv' := [(0, .ref (a 0)), (1, .int p1), (2, .int 0)]) rfl ?_
      exact wX7_names_l31 X  hret _ _ _ _ _ hf
    · replace hf := k_neg c_6 hf
      refine g_bipush X dX7_names_16 (v := (-5)) (by decide) (n := 18) rfl ?_
      obtain rfl := Option.some.inj hf
      exact hret _ _ dX7_names_18
  · replace hf := k_neg c_3 hf
    refine g_iconst X dX7_names_7 (v := (-1)) (by decide) (n := 8) rfl ?_
    obtain rfl := Option.some.inj hf
    exact hret _ _ dX7_names_8
set_option maxRecDepth 100000 in
set_option maxHeartbeats 4000000 in
theorem mX7_names {l : Launch} {D : va_G} {N : Nat} {a : Nat → Nat} {p1 : Int32} {mp : VMp} {mg : VMg} {mc : Nat → Int64} {ml : VMl} {mq : VMq} {mh : VMh} {ms : VMs} {mr : Nat → Int32} {mi : VMi} {res : Int32 × VMp × VMg} (hf : fX7_names N p1 mp mg = some res) : k_Met l yX7_names cX7_names 3 (some .int) 3 64 D [.ref (a 0), .int p1] (pic_X7 D a mp mg mc ml mq mh ms mr mi) (some (.int res.1)) (pic_X7 D a res.2.1 res.2.2 mc ml mq mh ms mr mi) :=
  k_of_i (by decide) (Nat.le_of_ble_eq_true rfl) (fun E X hret => wX7_names X hret hf)
