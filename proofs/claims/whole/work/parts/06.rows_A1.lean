/-! walks: X1_leastDoubles X1_ways X5_signAt X6_isOperator X2_put X2_combine X2_valueOf X2_push X2_reckon X2_upper X2_lower X2_reachesNeed X3_copy_60 X3_copy_6 X5_clear -/
set_option maxRecDepth 100000 in
set_option maxHeartbeats 4000000 in
theorem wX1_leastDoubles {D : va_G} {l : Launch} {E : k_E} {a0 a1 a2 : Nat} {p1 : Int32} {z : VX1} {res : Int32} (X : k_X D E cX1_leastDoubles RX1 2 1 21) (hret : ∀ (pc : Nat) (lv : List (Nat × Value)), decode cX1_leastDoubles pc = .ok (.ireturn, 1) → k_G D l E (pic_X1 D a0 a1 a2 z) lv pc [.int res]) (hf : fX1_leastDoubles z p1 = some res) : k_G D l E (pic_X1 D a0 a1 a2 z) [(0, .ref a0), (1, .int p1)] 0 [] := by
  unfold fX1_leastDoubles at hf
  refine g_iconst X dX1_leastDoubles_0 (v := 0) (by decide) (n := 1) rfl ?_
  refine g_iload_n X dX1_leastDoubles_1 1 rfl rfl (n := 2) rfl ?_
  refine g_aload_n X dX1_leastDoubles_2 0 rfl rfl (n := 3) rfl ?_
  refine g_iconst X dX1_leastDoubles_3 (v := 0) (by decide) (n := 4) rfl ?_
  obtain ⟨x_1, g_2, hf⟩ := k_b1s hf
  refine g_callV X (mX1_people (D := D) (l := l) (a0 := a0) (a1 := a1) (a2 := a2) g_2) lk_X1_people mlX1_42 dX1_leastDoubles_4 (n := 7) rfl (st := [.int p1, .int 0]) rfl (st2 := [.int x_1, .int p1, .int 0]) rfl [0, 1, 2] rfl rfl rfl rfl rfl rfl (ws2 := pic_X1 D a0 a1 a2 z) rfl rfl rfl ⟨Nat.le_of_ble_eq_true rfl, Nat.le_of_ble_eq_true rfl⟩ (Nat.le_of_ble_eq_true rfl) ?_
  refine g_isub X dX1_leastDoubles_7 (n := 8) rfl ?_
  refine g_max X lkM_max mlX1_55 dX1_leastDoubles_8 (n := 11) rfl ⟨Nat.le_of_ble_eq_true rfl, Nat.le_of_ble_eq_true rfl⟩ (Nat.le_of_ble_eq_true rfl) ?_
  obtain rfl := Option.some.inj hf
  exact hret _ _ dX1_leastDoubles_11
set_option maxRecDepth 100000 in
set_option maxHeartbeats 4000000 in
theorem mX1_leastDoubles {l : Launch} {D : va_G} {a0 a1 a2 : Nat} {p1 : Int32} {z : VX1} {res : Int32} (hf : fX1_leastDoubles z p1 = some res) : k_Met l yX1_leastDoubles cX1_leastDoubles 2 (some .int) 1 21 D [.ref a0, .int p1] (pic_X1 D a0 a1 a2 z) (some (.int res)) (pic_X1 D a0 a1 a2 z) :=
  k_of_i (by decide) (Nat.le_of_ble_eq_true rfl) (fun E X hret => wX1_leastDoubles X hret hf)
set_option maxRecDepth 100000 in
set_option maxHeartbeats 4000000 in
theorem wX1_ways {D : va_G} {l : Launch} {E : k_E} {a0 a1 a2 : Nat} {p1 : Int32} {p2 : Int32} {p3 : Int32} {z : VX1} {res : Int64} (X : k_X D E cX1_ways RX1 4 2 44) (hret : ∀ (pc : Nat) (lv : List (Nat × Value)), decode cX1_ways pc = .ok (.lreturn, 1) → k_G D l E (pic_X1 D a0 a1 a2 z) lv pc [.long res]) (hf : fX1_ways z p1 p2 p3 = some res) : k_G D l E (pic_X1 D a0 a1 a2 z) [(0, .ref a0), (1, .int p1), (2, .int p2), (3, .int p3)] 0 [] := by
  unfold fX1_ways at hf
  refine g_aload_n X dX1_ways_0 0 rfl rfl (n := 1) rfl ?_
  refine g_aload_n X dX1_ways_1 0 rfl rfl (n := 2) rfl ?_
  refine g_get X dX1_ways_2 flX1_35 0 rfl (v := .int z.2.2.2.2) rfl (n := 5) rfl ?_
  refine g_iload_n X dX1_ways_5 3 rfl rfl (n := 6) rfl ?_
  obtain ⟨x_1, g_2, hf⟩ := k_b1s hf
  refine g_callV X (mX1_choose (D := D) (l := l) (a0 := a0) (a1 := a1) (a2 := a2) g_2) lk_X1_choose mlX1_18 dX1_ways_6 (n := 9) rfl (st := []) rfl (st2 := [.long x_1]) rfl [0, 1, 2] rfl rfl rfl rfl rfl rfl (ws2 := pic_X1 D a0 a1 a2 z) rfl rfl rfl ⟨Nat.le_of_ble_eq_true rfl, Nat.le_of_ble_eq_true rfl⟩ (Nat.le_of_ble_eq_true rfl) ?_
  refine g_aload_n X dX1_ways_9 0 rfl rfl (n := 10) rfl ?_
  refine g_iload_n X dX1_ways_10 3 rfl rfl (n := 11) rfl ?_
  refine g_iload_n X dX1_ways_11 2 rfl rfl (n := 12) rfl ?_
  refine g_iconst X dX1_ways_12 (v := 2) (by decide) (n := 13) rfl ?_
  refine g_iload_n X dX1_ways_13 3 rfl rfl (n := 14) rfl ?_
  refine g_imul X dX1_ways_14 (n := 15) rfl ?_
  refine g_isub X dX1_ways_15 (n := 16) rfl ?_
  obtain ⟨x_3, g_4, hf⟩ := k_b1s hf
  refine g_callV X (mX1_read (D := D) (l := l) (a0 := a0) (a1 := a1) (a2 := a2) g_4) lk_X1_read mlX1_46 dX1_ways_16 (n := 19) rfl (st := [.long x_1]) rfl (st2 := [.long x_3, .long x_1]) rfl [0, 1, 2] rfl rfl rfl rfl rfl rfl (ws2 := pic_X1 D a0 a1 a2 z) rfl rfl rfl ⟨Nat.le_of_ble_eq_true rfl, Nat.le_of_ble_eq_true rfl⟩ (Nat.le_of_ble_eq_true rfl) ?_
  refine g_lmul X dX1_ways_19 (n := 20) rfl ?_
  refine g_aload_n X dX1_ways_20 0 rfl rfl (n := 21) rfl ?_
  refine g_aload_n X dX1_ways_21 0 rfl rfl (n := 22) rfl ?_
  refine g_get X dX1_ways_22 flX1_26 0 rfl (v := .int z.2.2.2.1) rfl (n := 25) rfl ?_
  refine g_iload_n X dX1_ways_25 1 rfl rfl (n := 26) rfl ?_
  refine g_iload_n X dX1_ways_26 2 rfl rfl (n := 27) rfl ?_
  refine g_isub X dX1_ways_27 (n := 28) rfl ?_
  obtain ⟨x_5, g_6, hf⟩ := k_b1s hf
  refine g_callV X (mX1_choose (D := D) (l := l) (a0 := a0) (a1 := a1) (a2 := a2) g_6) lk_X1_choose mlX1_18 dX1_ways_28 (n := 31) rfl (st := [.long (x_1 * x_3)]) rfl (st2 := [.long x_5, .long (x_1 * x_3)]) rfl [0, 1, 2] rfl rfl rfl rfl rfl rfl (ws2 := pic_X1 D a0 a1 a2 z) rfl rfl rfl ⟨Nat.le_of_ble_eq_true rfl, Nat.le_of_ble_eq_true rfl⟩ (Nat.le_of_ble_eq_true rfl) ?_
  refine g_lmul X dX1_ways_31 (n := 32) rfl ?_
  obtain rfl := Option.some.inj hf
  exact hret _ _ dX1_ways_32
set_option maxRecDepth 100000 in
set_option maxHeartbeats 4000000 in
theorem mX1_ways {l : Launch} {D : va_G} {a0 a1 a2 : Nat} {p1 : Int32} {p2 : Int32} {p3 : Int32} {z : VX1} {res : Int64} (hf : fX1_ways z p1 p2 p3 = some res) : k_Met l yX1_ways cX1_ways 4 (some .long) 2 44 D [.ref a0, .int p1, .int p2, .int p3] (pic_X1 D a0 a1 a2 z) (some (.long res)) (pic_X1 D a0 a1 a2 z) :=
  k_of_l (by decide) (Nat.le_of_ble_eq_true rfl) (fun E X hret => wX1_ways X hret hf)
set_option maxRecDepth 100000 in
set_option maxHeartbeats 4000000 in
theorem wX5_signAt {D : va_G} {l : Launch} {E : k_E} {a0 a1 : Nat} {n : Nat} {p1 : Int32} {t : VX5} {res : Int32} (X : k_X D E cX5_signAt RX5 2 0 0) (hret : ∀ (pc : Nat) (lv : List (Nat × Value)), decode cX5_signAt pc = .ok (.ireturn, 1) → k_G D l E (pic_X5 D a0 a1 n t) lv pc [.int res]) (hf : fX5_signAt n t p1 = some res) : k_G D l E (pic_X5 D a0 a1 n t) [(0, .ref a0), (1, .int p1)] 0 [] := by
  unfold fX5_signAt at hf
  refine g_iload_n X dX5_signAt_0 1 rfl rfl (n := 1) rfl ?_
  refine g_if_lt X dX5_signAt_1 (t := 30) (by decide) (n := 4) rfl (fun c_1 => ?_) (fun c_1 => ?_)
  · replace hf := k_pos c_1 hf
    refine g_bipush X dX5_signAt_30 (v := (-6)) (by decide) (n := 32) rfl ?_
    obtain rfl := Option.some.inj hf
    exact hret _ _ dX5_signAt_32
  · replace hf := k_neg c_1 hf
    refine g_iload_n X dX5_signAt_4 1 rfl rfl (n := 5) rfl ?_
    refine g_aload_n X dX5_signAt_5 0 rfl rfl (n := 6) rfl ?_
    refine g_get X dX5_signAt_6 flX5_21 0 rfl (v := .int t.2) rfl (n := 9) rfl ?_
    refine g_icmp_ge X dX5_signAt_9 (t := 30) (by decide) (n := 12) rfl (fun c_2 => ?_) (fun c_2 => ?_)
    · replace hf := k_pos c_2 hf
      refine g_bipush X dX5_signAt_30 (v := (-6)) (by decide) (n := 32) rfl ?_
      obtain rfl := Option.some.inj hf
      exact hret _ _ dX5_signAt_32
    · replace hf := k_neg c_2 hf
      refine g_iload_n X dX5_signAt_12 1 rfl rfl (n := 13) rfl ?_
      refine g_aload_n X dX5_signAt_13 0 rfl rfl (n := 14) rfl ?_
      refine g_get X dX5_signAt_14 flX5_15 0 rfl (v := .ref a1) rfl (n := 17) rfl ?_
      refine g_alen X dX5_signAt_17 1 0 rfl rfl (v := (nI n)) rfl (n := 18) rfl ?_
      refine g_icmp_ge X dX5_signAt_18 (t := 30) (by decide) (n := 21) rfl (fun c_3 => ?_) (fun c_3 => ?_)
      · replace hf := k_pos c_3 hf
        refine g_bipush X dX5_signAt_30 (v := (-6)) (by decide) (n := 32) rfl ?_
        obtain rfl := Option.some.inj hf
        exact hret _ _ dX5_signAt_32
      · replace hf := k_neg c_3 hf
        refine g_aload_n X dX5_signAt_21 0 rfl rfl (n := 22) rfl ?_
        refine g_get X dX5_signAt_22 flX5_15 0 rfl (v := .ref a1) rfl (n := 25) rfl ?_
        refine g_iload_n X dX5_signAt_25 1 rfl rfl (n := 26) rfl ?_
        obtain ⟨h_4, hf⟩ := k_guard hf
        refine g_iaload X dX5_signAt_26 1 (f := t.1) rfl rfl h_4 (n := 27) rfl ?_
        refine g_goto X dX5_signAt_27 (n := 32) (by decide) ?_
        obtain rfl := Option.some.inj hf
        exact hret _ _ dX5_signAt_32
set_option maxRecDepth 100000 in
set_option maxHeartbeats 4000000 in
theorem mX5_signAt {l : Launch} {D : va_G} {a0 a1 : Nat} {n : Nat} {p1 : Int32} {t : VX5} {res : Int32} (hf : fX5_signAt n t p1 = some res) : k_Met l yX5_signAt cX5_signAt 2 (some .int) 0 0 D [.ref a0, .int p1] (pic_X5 D a0 a1 n t) (some (.int res)) (pic_X5 D a0 a1 n t) :=
  k_of_i (by decide) (Nat.le_of_ble_eq_true rfl) (fun E X hret => wX5_signAt X hret hf)
set_option maxRecDepth 100000 in
set_option maxHeartbeats 4000000 in
theorem wX6_isOperator {D : va_G} {l : Launch} {E : k_E} {p0 : Int32} {res : Bool} (X : k_X D E cX6_isOperator RX6 1 0 0) (hret : ∀ (pc : Nat) (lv : List (Nat × Value)), decode cX6_isOperator pc = .ok (.ireturn, 1) → k_G D l E ([]) lv pc [.int (bI res)]) (hf : fX6_isOperator p0 = some res) : k_G D l E ([]) [(0, .int p0)] 0 [] := by
  unfold fX6_isOperator at hf
  refine g_iload_n X dX6_isOperator_0 0 rfl rfl (n := 1) rfl ?_
  refine g_bipush X dX6_isOperator_1 (v := 43) (by decide) (n := 3) rfl ?_
  refine g_icmp_eq X dX6_isOperator_3 (t := 24) (by decide) (n := 6) rfl (fun c_1 => ?_) (fun c_1 => ?_)
  · replace hf := k_pos c_1 hf
    refine g_iconst X dX6_isOperator_24 (v := 1) (by decide) (n := 25) rfl ?_
    refine g_goto X dX6_isOperator_25 (n := 29) (by decide) ?_
    obtain rfl := Option.some.inj hf
    exact hret _ _ dX6_isOperator_29
  · replace hf := k_neg c_1 hf
    refine g_iload_n X dX6_isOperator_6 0 rfl rfl (n := 7) rfl ?_
    refine g_bipush X dX6_isOperator_7 (v := 45) (by decide) (n := 9) rfl ?_
    refine g_icmp_eq X dX6_isOperator_9 (t := 24) (by decide) (n := 12) rfl (fun c_2 => ?_) (fun c_2 => ?_)
    · replace hf := k_pos c_2 hf
      refine g_iconst X dX6_isOperator_24 (v := 1) (by decide) (n := 25) rfl ?_
      refine g_goto X dX6_isOperator_25 (n := 29) (by decide) ?_
      obtain rfl := Option.some.inj hf
      exact hret _ _ dX6_isOperator_29
    · replace hf := k_neg c_2 hf
      refine g_iload_n X dX6_isOperator_12 0 rfl rfl (n := 13) rfl ?_
      refine g_bipush X dX6_isOperator_13 (v := 42) (by decide) (n := 15) rfl ?_
      refine g_icmp_eq X dX6_isOperator_15 (t := 24) (by decide) (n := 18) rfl (fun c_3 => ?_) (fun c_3 => ?_)
      · replace hf := k_pos c_3 hf
        refine g_iconst X dX6_isOperator_24 (v := 1) (by decide) (n := 25) rfl ?_
        refine g_goto X dX6_isOperator_25 (n := 29) (by decide) ?_
        obtain rfl := Option.some.inj hf
        exact hret _ _ dX6_isOperator_29
      · replace hf := k_neg c_3 hf
        refine g_iload_n X dX6_isOperator_18 0 rfl rfl (n := 19) rfl ?_
        refine g_bipush X dX6_isOperator_19 (v := 47) (by decide) (n := 21) rfl ?_
        refine g_icmp_ne X dX6_isOperator_21 (t := 28) (by decide) (n := 24) rfl (fun c_4 => ?_) (fun c_4 => ?_)
        · replace hf := k_neg c_4 hf
          refine g_iconst X dX6_isOperator_28 (v := 0) (by decide) (n := 29) rfl ?_
          obtain rfl := Option.some.inj hf
          exact hret _ _ dX6_isOperator_29
        · replace hf := k_pos c_4 hf
          refine g_iconst X dX6_isOperator_24 (v := 1) (by decide) (n := 25) rfl ?_
          refine g_goto X dX6_isOperator_25 (n := 29) (by decide) ?_
          obtain rfl := Option.some.inj hf
          exact hret _ _ dX6_isOperator_29
set_option maxRecDepth 100000 in
set_option maxHeartbeats 4000000 in
theorem mX6_isOperator {l : Launch} {D : va_G} {p0 : Int32} {res : Bool} (hf : fX6_isOperator p0 = some res) : k_Met l yX6_isOperator cX6_isOperator 1 (some .boolean) 0 0 D [.int p0] ([]) (some (.int (bI res))) ([]) :=
  k_of_z (by decide) (Nat.le_of_ble_eq_true rfl) (fun E X hret => wX6_isOperator X hret hf)
set_option maxRecDepth 100000 in
set_option maxHeartbeats 4000000 in
theorem wX2_put {D : va_G} {l : Launch} {E : k_E} {a0 a1 a2 : Nat} {p1 : Int32} {p2 : Int64} {p4 : Int64} {k : VX2} {res : Bool × VX2} (X : k_X D E cX2_put RX2 6 0 0) (hret : ∀ (pc : Nat) (lv : List (Nat × Value)), decode cX2_put pc = .ok (.ireturn, 1) → k_G D l E (pic_X2 D a0 a1 a2 res.2) lv pc [.int (bI res.1)]) (hf : fX2_put p1 p2 p4 k = some res) : k_G D l E (pic_X2 D a0 a1 a2 k) [(0, .ref a0), (1, .int p1), (2, .long p2), (4, .long p4)] 0 [] := by
  unfold fX2_put at hf
  refine g_iload_n X dX2_put_0 1 rfl rfl (n := 1) rfl ?_
  refine g_if_lt X dX2_put_1 (t := 22) (by decide) (n := 4) rfl (fun c_1 => ?_) (fun c_1 => ?_)
  · replace hf := k_pos c_1 hf
    refine g_iconst X dX2_put_22 (v := 0) (by decide) (n := 23) rfl ?_
    obtain rfl := Option.some.inj hf
    exact hret _ _ dX2_put_23
  · replace hf := k_neg c_1 hf
    refine g_iload_n X dX2_put_4 1 rfl rfl (n := 5) rfl ?_
    refine g_aload_n X dX2_put_5 0 rfl rfl (n := 6) rfl ?_
    refine g_get X dX2_put_6 flX2_9 0 rfl (v := .ref a1) rfl (n := 9) rfl ?_
    refine g_alen X dX2_put_9 1 1 rfl rfl (v := 11) rfl (n := 10) rfl ?_
    refine g_icmp_ge X dX2_put_10 (t := 22) (by decide) (n := 13) rfl (fun c_2 => ?_) (fun c_2 => ?_)
    · replace hf := k_pos c_2 hf
      refine g_iconst X dX2_put_22 (v := 0) (by decide) (n := 23) rfl ?_
      obtain rfl := Option.some.inj hf
      exact hret _ _ dX2_put_23
    · replace hf := k_neg c_2 hf
      refine g_iload_n X dX2_put_13 1 rfl rfl (n := 14) rfl ?_
      refine g_aload_n X dX2_put_14 0 rfl rfl (n := 15) rfl ?_
      refine g_get X dX2_put_15 flX2_15 0 rfl (v := .ref a2) rfl (n := 18) rfl ?_
      refine g_alen X dX2_put_18 2 1 rfl rfl (v := 11) rfl (n := 19) rfl ?_
      refine g_icmp_lt X dX2_put_19 (t := 24) (by decide) (n := 22) rfl (fun c_3 => ?_) (fun c_3 => ?_)
      · replace hf := k_pos c_3 hf
        refine g_aload_n X dX2_put_24 0 rfl rfl (n := 25) rfl ?_
        refine g_get X dX2_put_25 flX2_9 0 rfl (v := .ref a1) rfl (n := 28) rfl ?_
        refine g_iload_n X dX2_put_28 1 rfl rfl (n := 29) rfl ?_
        refine g_lload_n X dX2_put_29 2 rfl rfl (n := 30) rfl ?_
        obtain ⟨h_4, hf⟩ := k_guard hf
        refine g_lastore X dX2_put_30 1 (f := k.1) rfl rfl h_4 (ws2 := pic_X2 D a0 a1 a2 (vp_updL k.1 (p1).toNatClampNeg p2, k.2.1, k.2.2)) rfl (n := 31) rfl ?_
        refine g_aload_n X dX2_put_31 0 rfl rfl (n := 32) rfl ?_
        refine g_get X dX2_put_32 flX2_15 0 rfl (v := .ref a2) rfl (n := 35) rfl ?_
        refine g_iload_n X dX2_put_35 1 rfl rfl (n := 36) rfl ?_
        refine g_lload X dX2_put_36 3 rfl (n := 38) rfl ?_
        obtain ⟨h_5, hf⟩ := k_guard hf
        refine g_lastore X dX2_put_38 2 (f := k.2.1) rfl rfl h_5 (ws2 := pic_X2 D a0 a1 a2 (vp_updL k.1 (p1).toNatClampNeg p2, vp_updL k.2.1 (p1).toNatClampNeg p4, k.2.2)) rfl (n := 39) rfl ?_
        refine g_iconst X dX2_put_39 (v := 1) (by decide) (n := 40) rfl ?_
        obtain rfl := Option.some.inj hf
        exact hret _ _ dX2_put_40
      · replace hf := k_neg c_3 hf
        refine g_iconst X dX2_put_22 (v := 0) (by decide) (n := 23) rfl ?_
        obtain rfl := Option.some.inj hf
        exact hret _ _ dX2_put_23
set_option maxRecDepth 100000 in
set_option maxHeartbeats 4000000 in
theorem mX2_put {l : Launch} {D : va_G} {a0 a1 a2 : Nat} {p1 : Int32} {p2 : Int64} {p4 : Int64} {k : VX2} {res : Bool × VX2} (hf : fX2_put p1 p2 p4 k = some res) : k_Met l yX2_put cX2_put 6 (some .boolean) 0 0 D [.ref a0, .int p1, .long p2, .long p4] (pic_X2 D a0 a1 a2 k) (some (.int (bI res.1))) (pic_X2 D a0 a1 a2 res.2) :=
  k_of_z (by decide) (Nat.le_of_ble_eq_true rfl) (fun E X hret => wX2_put X hret hf)
set_option maxRecDepth 100000 in
set_option maxHeartbeats 4000000 in
theorem wX2_combine_b198 {D : va_G} {l : Launch} {E : k_E} {a0 a1 a2 : Nat} {v6 : Int64} {v8 : Int64} {s1 : Int32} {s2 : Int64} {k : VX2} {res : Bool × VX2} (X : k_X D E cX2_combine RX2 12 1 25) (hret : ∀ (pc : Nat) (lv : List (Nat × Value)), decode cX2_combine pc = .ok (.ireturn, 1) → k_G D l E (pic_X2 D a0 a1 a2 res.2) lv pc [.int (bI res.1)]) (hf : fX2_combine_b198 v6 v8 s1 s2 k = some res) : k_G D l E (pic_X2 D a0 a1 a2 k) [(6, .long v6), (8, .long v8)] 198 [.long s2, .int s1, .ref a0] := by
  unfold fX2_combine_b198 at hf
  refine g_lload X dX2_combine_198 0 rfl (n := 200) rfl ?_
  refine g_lload X dX2_combine_200 1 rfl (n := 202) rfl ?_
  refine g_absL X lkM_absL mlX2_69 dX2_combine_202 (n := 205) rfl ⟨Nat.le_of_ble_eq_true rfl, Nat.le_of_ble_eq_true rfl⟩ (Nat.le_of_ble_eq_true rfl) ?_
  refine g_lmul X dX2_combine_205 (n := 206) rfl ?_
  obtain ⟨x_1, k_2, g_3, hf⟩ := k_b2s hf
  refine g_callV X (mX2_put (D := D) (l := l) (a0 := a0) (a1 := a1) (a2 := a2) g_3) lk_X2_put mlX2_65 dX2_combine_206 (n := 209) rfl (st := []) rfl (st2 := [.int (bI x_1)]) rfl [0, 1, 2] rfl rfl rfl rfl rfl rfl (ws2 := pic_X2 D a0 a1 a2 k_2) rfl rfl rfl ⟨Nat.le_of_ble_eq_true rfl, Nat.le_of_ble_eq_true rfl⟩ (Nat.le_of_ble_eq_true rfl) ?_
  refine g_if_eqB X dX2_combine_209 (t := 216) (by decide) (n := 212) rfl (fun c_4 => ?_) (fun c_4 => ?_)
  · replace hf := k_neg c_4 hf
    refine g_iconst X dX2_combine_216 (v := 0) (by decide) (n := 217) rfl ?_
    obtain rfl := Option.some.inj hf
    exact hret _ _ dX2_combine_217
  · replace hf := k_pos c_4 hf
    refine g_iconst X dX2_combine_212 (v := 1) (by decide) (n := 213) rfl ?_
    refine g_goto X dX2_combine_213 (n := 217) (by decide) ?_
    obtain rfl := Option.some.inj hf
    exact hret _ _ dX2_combine_217
set_option maxRecDepth 100000 in
set_option maxHeartbeats 4000000 in
theorem wX2_combine_b168 {D : va_G} {l : Launch} {E : k_E} {a0 a1 a2 : Nat} {v3 : Int32} {v4 : Int64} {v6 : Int64} {v8 : Int64} {v10 : Int64} {k : VX2} {res : Bool × VX2} (X : k_X D E cX2_combine RX2 12 1 25) (hret : ∀ (pc : Nat) (lv : List (Nat × Value)), decode cX2_combine pc = .ok (.ireturn, 1) → k_G D l E (pic_X2 D a0 a1 a2 res.2) lv pc [.int (bI res.1)]) (hf : fX2_combine_b168 v3 v4 v6 v8 v10 k = some res) : k_G D l E (pic_X2 D a0 a1 a2 k) [(0, .ref a0), (3, .int v3), (4, .long v4), (6, .long v6), (8, .long v8), (10, .long v10)] 168 [] := by
  unfold fX2_combine_b168 at hf
  refine g_lload X dX2_combine_168 4 rfl (n := 170) rfl ?_
  refine g_lconst X dX2_combine_170 (v := 0) rfl (n := 171) rfl ?_
  refine g_lcmp_eq X dX2_combine_171 dX2_combine_172 (t := 216) (by decide) (n := 175) rfl (fun c_1 => ?_) (fun c_1 => ?_)
  · replace hf := k_pos c_1 hf
    refine g_iconst X dX2_combine_216 (v := 0) (by decide) (n := 217) rfl ?_
    obtain rfl := Option.some.inj hf
    exact hret _ _ dX2_combine_217
  · replace hf := k_neg c_1 hf
    refine g_aload_n X dX2_combine_175 0 rfl rfl (n := 176) rfl ?_
    refine g_iload_n X dX2_combine_176 1 rfl rfl (n := 177) rfl ?_
    refine g_lload X dX2_combine_177 4 rfl (n := 179) rfl ?_
    refine g_lconst X dX2_combine_179 (v := 0) rfl (n := 180) rfl ?_
    refine g_lcmp_ge X dX2_combine_180 dX2_combine_181 (t := 193) (by decide) (n := 184) rfl (fun c_2 => ?_) (fun c_2 => ?_)
    · replace hf := k_pos c_2 hf
      refine g_lload X dX2_combine_193 2 rfl (n := 195) rfl ?_
      refine g_lload X dX2_combine_195 5 rfl (n := 197) rfl ?_
      refine g_lmul X dX2_combine_197 (n := 198) rfl ?_
      refine g_sub [3, 4] (lv' := [(6, .long v6), (8, .long v8)]) rfl ?_
      exact wX2_combine_b198 X  hret hf
    · replace hf := k_neg c_2 hf
      refine g_lload X dX2_combine_184 2 rfl (n := 186) rfl ?_
      refine g_lneg X dX2_combine_186 (n := 187) rfl ?_
      refine g_lload X dX2_combine_187 5 rfl (n := 189) rfl ?_
      refine g_lmul X dX2_combine_189 (n := 190) rfl ?_
      refine g_goto X dX2_combine_190 (n := 198) (by decide) ?_
      refine g_sub [3, 4] (lv' := [(6, .long v6), (8, .long v8)]) rfl ?_
      exact wX2_combine_b198 X  hret hf
set_option maxRecDepth 100000 in
set_option maxHeartbeats 4000000 in
theorem wX2_combine {D : va_G} {l : Launch} {E : k_E} {a0 a1 a2 : Nat} {p1 : Int32} {k : VX2} {res : Bool × VX2} (X : k_X D E cX2_combine RX2 12 1 25) (hret : ∀ (pc : Nat) (lv : List (Nat × Value)), decode cX2_combine pc = .ok (.ireturn, 1) → k_G D l E (pic_X2 D a0 a1 a2 res.2) lv pc [.int (bI res.1)]) (hf : fX2_combine p1 k = some res) : k_G D l E (pic_X2 D a0 a1 a2 k) [(0, .ref a0), (1, .int p1)] 0 [] := by
  unfold fX2_combine at hf
  refine g_aload_n X dX2_combine_0 0 rfl rfl (n := 1) rfl ?_
  refine g_get X dX2_combine_1 flX2_18 0 rfl (v := .int k.2.2) rfl (n := 4) rfl ?_
  refine g_iconst X dX2_combine_4 (v := 1) (by decide) (n := 5) rfl ?_
  refine g_isub X dX2_combine_5 (n := 6) rfl ?_
  refine g_istore_n X dX2_combine_6 rfl (by decide) (lv2 := [(2, .int (k.2.2 - 1)), (0, .ref a0), (1, .int p1)]) rfl (n := 7) rfl ?_
  refine g_aload_n X dX2_combine_7 1 rfl rfl (n := 8) rfl ?_
  refine g_get X dX2_combine_8 flX2_18 0 rfl (v := .int k.2.2) rfl (n := 11) rfl ?_
  refine g_iconst X dX2_combine_11 (v := 2) (by decide) (n := 12) rfl ?_
  refine g_isub X dX2_combine_12 (n := 13) rfl ?_
  refine g_istore_n X dX2_combine_13 rfl (by decide) (lv2 := [(3, .int (k.2.2 - 2)), (2, .int (k.2.2 - 1)), (0, .ref a0), (1, .int p1)]) rfl (n := 14) rfl ?_
  refine g_iload_n X dX2_combine_14 0 rfl rfl (n := 15) rfl ?_
  refine g_if_lt X dX2_combine_15 (t := 36) (by decide) (n := 18) rfl (fun c_1 => ?_) (fun c_1 => ?_)
  · replace hf := k_pos c_1 hf
    refine g_iconst X dX2_combine_36 (v := 0) (by decide) (n := 37) rfl ?_
    obtain rfl := Option.some.inj hf
    exact hret _ _ dX2_combine_37
  · replace hf := k_neg c_1 hf
    refine g_iload_n X dX2_combine_18 1 rfl rfl (n := 19) rfl ?_
    refine g_aload_n X dX2_combine_19 2 rfl rfl (n := 20) rfl ?_
    refine g_get X dX2_combine_20 flX2_9 0 rfl (v := .ref a1) rfl (n := 23) rfl ?_
    refine g_alen X dX2_combine_23 1 1 rfl rfl (v := 11) rfl (n := 24) rfl ?_
    refine g_icmp_ge X dX2_combine_24 (t := 36) (by decide) (n := 27) rfl (fun c_2 => ?_) (fun c_2 => ?_)
    · replace hf := k_pos c_2 hf
      refine g_iconst X dX2_combine_36 (v := 0) (by decide) (n := 37) rfl ?_
      obtain rfl := Option.some.inj hf
      exact hret _ _ dX2_combine_37
    · replace hf := k_neg c_2 hf
      refine g_iload_n X dX2_combine_27 1 rfl rfl (n := 28) rfl ?_
      refine g_aload_n X dX2_combine_28 2 rfl rfl (n := 29) rfl ?_
      refine g_get X dX2_combine_29 flX2_15 0 rfl (v := .ref a2) rfl (n := 32) rfl ?_
      refine g_alen X dX2_combine_32 2 1 rfl rfl (v := 11) rfl (n := 33) rfl ?_
      refine g_icmp_lt X dX2_combine_33 (t := 38) (by decide) (n := 36) rfl (fun c_3 => ?_) (fun c_3 => ?_)
      · replace hf := k_pos c_3 hf
        refine g_aload_n X dX2_combine_38 2 rfl rfl (n := 39) rfl ?_
        refine g_get X dX2_combine_39 flX2_9 0 rfl (v := .ref a1) rfl (n := 42) rfl ?_
        refine g_iload_n X dX2_combine_42 1 rfl rfl (n := 43) rfl ?_
        obtain ⟨h_4, hf⟩ := k_guard hf
        refine g_laload X dX2_combine_43 1 (f := k.1) rfl rfl h_4 (n := 44) rfl ?_
        refine g_lstore X dX2_combine_44 (by decide) (lv2 := [(4, .long (k.1 (k.2.2 - 1).toNatClampNeg)), (3, .int (k.2.2 - 2)), (2, .int (k.2.2 - 1)), (0, .ref a0), (1, .int p1)]) rfl (n := 46) rfl ?_
        refine g_aload_n X dX2_combine_46 3 rfl rfl (n := 47) rfl ?_
        refine g_get X dX2_combine_47 flX2_15 0 rfl (v := .ref a2) rfl (n := 50) rfl ?_
        refine g_iload_n X dX2_combine_50 2 rfl rfl (n := 51) rfl ?_
        obtain ⟨h_5, hf⟩ := k_guard hf
        refine g_laload X dX2_combine_51 2 (f := k.2.1) rfl rfl h_5 (n := 52) rfl ?_
        refine g_lstore X dX2_combine_52 (by decide) (lv2 := [(6, .long (k.2.1 (k.2.2 - 1).toNatClampNeg)), (4, .long (k.1 (k.2.2 - 1).toNatClampNeg)), (3, .int (k.2.2 - 2)), (2, .int (k.2.2 - 1)), (0, .ref a0), (1, .int p1)]) rfl (n := 54) rfl ?_
        refine g_aload_n X dX2_combine_54 4 rfl rfl (n := 55) rfl ?_
        refine g_get X dX2_combine_55 flX2_9 0 rfl (v := .ref a1) rfl (n := 58) rfl ?_
        refine g_iload_n X dX2_combine_58 2 rfl rfl (n := 59) rfl ?_
        obtain ⟨h_6, hf⟩ := k_guard hf
        refine g_laload X dX2_combine_59 1 (f := k.1) rfl rfl h_6 (n := 60) rfl ?_
        refine g_lstore X dX2_combine_60 (by decide) (lv2 := [(8, .long (k.1 (k.2.2 - 2).toNatClampNeg)), (6, .long (k.2.1 (k.2.2 - 1).toNatClampNeg)), (4, .long (k.1 (k.2.2 - 1).toNatClampNeg)), (3, .int (k.2.2 - 2)), (2, .int (k.2.2 - 1)), (0, .ref a0), (1, .int p1)]) rfl (n := 62) rfl ?_
        refine g_aload_n X dX2_combine_62 5 rfl rfl (n := 63) rfl ?_
        refine g_get X dX2_combine_63 flX2_15 0 rfl (v := .ref a2) rfl (n := 66) rfl ?_
        refine g_iload_n X dX2_combine_66 3 rfl rfl (n := 67) rfl ?_
        obtain ⟨h_7, hf⟩ := k_guard hf
        refine g_laload X dX2_combine_67 2 (f := k.2.1) rfl rfl h_7 (n := 68) rfl ?_
        refine g_lstore X dX2_combine_68 (by decide) (lv2 := [(10, .long (k.2.1 (k.2.2 - 2).toNatClampNeg)), (8, .long (k.1 (k.2.2 - 2).toNatClampNeg)), (6, .long (k.2.1 (k.2.2 - 1).toNatClampNeg)), (4, .long (k.1 (k.2.2 - 1).toNatClampNeg)), (3, .int (k.2.2 - 2)), (2, .int (k.2.2 - 1)), (0, .ref a0), (1, .int p1)]) rfl (n := 70) rfl ?_
        refine g_aload_n X dX2_combine_70 6 rfl rfl (n := 71) rfl ?_
        refine g_iload_n X dX2_combine_71 5 rfl rfl (n := 72) rfl ?_
        refine g_put X dX2_combine_72 flX2_18 0 rfl rfl rfl (Nat.le_of_ble_eq_true rfl) (ws2 := pic_X2 D a0 a1 a2 (k.1, k.2.1, (k.2.2 - 1))) rfl (n := 75) rfl ?_
        refine g_iload_n X dX2_combine_75 7 rfl rfl (n := 76) rfl ?_
        by_cases c_8 : p1 = 42
        · refine g_tabIn X dX2_combine_76 (n := 152) (off := 76) (by rw [c_8]; decide) (by rw [c_8]; decide) (by rw [c_8]; decide) (by decide) ?_
          replace hf := k_pos c_8 hf
          refine g_aload_n X dX2_combine_152 6 rfl rfl (n := 153) rfl ?_
          refine g_iload_n X dX2_combine_153 4 rfl rfl (n := 154) rfl ?_
          refine g_lload X dX2_combine_154 3 rfl (n := 156) rfl ?_
          refine g_lload X dX2_combine_156 1 rfl (n := 158) rfl ?_
          refine g_lmul X dX2_combine_158 (n := 159) rfl ?_
          refine g_lload X dX2_combine_159 2 rfl (n := 161) rfl ?_
          refine g_lload X dX2_combine_161 0 rfl (n := 163) rfl ?_
          refine g_lmul X dX2_combine_163 (n := 164) rfl ?_
          obtain ⟨x_9, k_10, g_11, hf⟩ := k_b2s hf
          refine g_callV X (mX2_put (D := D) (l := l) (a0 := a0) (a1 := a1) (a2 := a2) g_11) lk_X2_put mlX2_65 dX2_combine_164 (n := 167) rfl (st := []) rfl (st2 := [.int (bI x_9)]) rfl [0, 1, 2] rfl rfl rfl rfl rfl rfl (ws2 := pic_X2 D a0 a1 a2 k_10) rfl rfl rfl ⟨Nat.le_of_ble_eq_true rfl, Nat.le_of_ble_eq_true rfl⟩ (Nat.le_of_ble_eq_true rfl) ?_
          obtain rfl := Option.some.inj hf
          exact hret _ _ dX2_combine_167
        replace hf := k_neg c_8 hf
        by_cases c_12 : p1 = 43
        · refine g_tabIn X dX2_combine_76 (n := 108) (off := 32) (by rw [c_12]; decide) (by rw [c_12]; decide) (by rw [c_12]; decide) (by decide) ?_
          replace hf := k_pos c_12 hf
          refine g_aload_n X dX2_combine_108 6 rfl rfl (n := 109) rfl ?_
          refine g_iload_n X dX2_combine_109 4 rfl rfl (n := 110) rfl ?_
          refine g_lload X dX2_combine_110 3 rfl (n := 112) rfl ?_
          refine g_lload X dX2_combine_112 0 rfl (n := 114) rfl ?_
          refine g_lmul X dX2_combine_114 (n := 115) rfl ?_
          refine g_lload X dX2_combine_115 1 rfl (n := 117) rfl ?_
          refine g_lload X dX2_combine_117 2 rfl (n := 119) rfl ?_
          refine g_lmul X dX2_combine_119 (n := 120) rfl ?_
          refine g_ladd X dX2_combine_120 (n := 121) rfl ?_
          refine g_lload X dX2_combine_121 2 rfl (n := 123) rfl ?_
          refine g_lload X dX2_combine_123 0 rfl (n := 125) rfl ?_
          refine g_lmul X dX2_combine_125 (n := 126) rfl ?_
          obtain ⟨x_13, k_14, g_15, hf⟩ := k_b2s hf
          refine g_callV X (mX2_put (D := D) (l := l) (a0 := a0) (a1 := a1) (a2 := a2) g_15) lk_X2_put mlX2_65 dX2_combine_126 (n := 129) rfl (st := []) rfl (st2 := [.int (bI x_13)]) rfl [0, 1, 2] rfl rfl rfl rfl rfl rfl (ws2 := pic_X2 D a0 a1 a2 k_14) rfl rfl rfl ⟨Nat.le_of_ble_eq_true rfl, Nat.le_of_ble_eq_true rfl⟩ (Nat.le_of_ble_eq_true rfl) ?_
          obtain rfl := Option.some.inj hf
          exact hret _ _ dX2_combine_129
        replace hf := k_neg c_12 hf
        by_cases c_16 : p1 = 44
        · refine g_tabIn X dX2_combine_76 (n := 168) (off := 92) (by rw [c_16]; decide) (by rw [c_16]; decide) (by rw [c_16]; decide) (by decide) ?_
          replace hf := k_pos c_16 hf
          refine g_sub [6, 4, 3, 2, 1, 0] (lv' := [(0, .ref a0), (3, .int (k.2.2 - 2)), (4, .long (k.1 (k.2.2 - 1).toNatClampNeg)), (6, .long (k.2.1 (k.2.2 - 1).toNatClampNeg)), (8, .long (k.1 (k.2.2 - 2).toNatClampNeg)), (10, .long (k.2.1 (k.2.2 - 2).toNatClampNeg))]) rfl ?_
          exact wX2_combine_b168 X  hret hf
        replace hf := k_neg c_16 hf
        by_cases c_17 : p1 = 45
        · refine g_tabIn X dX2_combine_76 (n := 130) (off := 54) (by rw [c_17]; decide) (by rw [c_17]; decide) (by rw [c_17]; decide) (by decide) ?_
          replace hf := k_pos c_17 hf
          refine g_aload_n X dX2_combine_130 6 rfl rfl (n := 131) rfl ?_
          refine g_iload_n X dX2_combine_131 4 rfl rfl (n := 132) rfl ?_
          refine g_lload X dX2_combine_132 3 rfl (n := 134) rfl ?_
          refine g_lload X dX2_combine_134 0 rfl (n := 136) rfl ?_
          refine g_lmul X dX2_combine_136 (n := 137) rfl ?_
          refine g_lload X dX2_combine_137 1 rfl (n := 139) rfl ?_
          refine g_lload X dX2_combine_139 2 rfl (n := 141) rfl ?_
          refine g_lmul X dX2_combine_141 (n := 142) rfl ?_
          refine g_lsub X dX2_combine_142 (n := 143) rfl ?_
          refine g_lload X dX2_combine_143 2 rfl (n := 145) rfl ?_
          refine g_lload X dX2_combine_145 0 rfl (n := 147) rfl ?_
          refine g_lmul X dX2_combine_147 (n := 148) rfl ?_
          obtain ⟨x_18, k_19, g_20, hf⟩ := k_b2s hf
          refine g_callV X (mX2_put (D := D) (l := l) (a0 := a0) (a1 := a1) (a2 := a2) g_20) lk_X2_put mlX2_65 dX2_combine_148 (n := 151) rfl (st := []) rfl (st2 := [.int (bI x_18)]) rfl [0, 1, 2] rfl rfl rfl rfl rfl rfl (ws2 := pic_X2 D a0 a1 a2 k_19) rfl rfl rfl ⟨Nat.le_of_ble_eq_true rfl, Nat.le_of_ble_eq_true rfl⟩ (Nat.le_of_ble_eq_true rfl) ?_
          obtain rfl := Option.some.inj hf
          exact hret _ _ dX2_combine_151
        replace hf := k_neg c_17 hf
        have nc_8 := k_toInt_ne (v := 42) (z := 42) (by decide) c_8
        have nc_12 := k_toInt_ne (v := 43) (z := 43) (by decide) c_12
        have nc_16 := k_toInt_ne (v := 44) (z := 44) (by decide) c_16
        have nc_17 := k_toInt_ne (v := 45) (z := 45) (by decide) c_17
        refine g_tabOut X dX2_combine_76 (n := 168) (by omega) (by decide) ?_
        refine g_sub [6, 4, 3, 2, 1, 0] (lv' := [(0, .ref a0), (3, .int (k.2.2 - 2)), (4, .long (k.1 (k.2.2 - 1).toNatClampNeg)), (6, .long (k.2.1 (k.2.2 - 1).toNatClampNeg)), (8, .long (k.1 (k.2.2 - 2).toNatClampNeg)), (10, .long (k.2.1 (k.2.2 - 2).toNatClampNeg))]) rfl ?_
        exact wX2_combine_b168 X  hret hf
      · replace hf := k_neg c_3 hf
        refine g_iconst X dX2_combine_36 (v := 0) (by decide) (n := 37) rfl ?_
        obtain rfl := Option.some.inj hf
        exact hret _ _ dX2_combine_37
set_option maxRecDepth 100000 in
set_option maxHeartbeats 4000000 in
theorem mX2_combine {l : Launch} {D : va_G} {a0 a1 a2 : Nat} {p1 : Int32} {k : VX2} {res : Bool × VX2} (hf : fX2_combine p1 k = some res) : k_Met l yX2_combine cX2_combine 12 (some .boolean) 1 25 D [.ref a0, .int p1] (pic_X2 D a0 a1 a2 k) (some (.int (bI res.1))) (pic_X2 D a0 a1 a2 res.2) :=
  k_of_z (by decide) (Nat.le_of_ble_eq_true rfl) (fun E X hret => wX2_combine X hret hf)
set_option maxRecDepth 100000 in
set_option maxHeartbeats 4000000 in
theorem wX2_valueOf {D : va_G} {l : Launch} {E : k_E} {p0 : Int32} {p1 : Int32} {p2 : Int32} {p3 : Int32} {p4 : Int32} {res : Int32} (X : k_X D E cX2_valueOf RX2 5 0 0) (hret : ∀ (pc : Nat) (lv : List (Nat × Value)), decode cX2_valueOf pc = .ok (.ireturn, 1) → k_G D l E ([]) lv pc [.int res]) (hf : fX2_valueOf p0 p1 p2 p3 p4 = some res) : k_G D l E ([]) [(0, .int p0), (1, .int p1), (2, .int p2), (3, .int p3), (4, .int p4)] 0 [] := by
  unfold fX2_valueOf at hf
  refine g_iload_n X dX2_valueOf_0 0 rfl rfl (n := 1) rfl ?_
  by_cases c_1 : p0 = 78
  · refine g_look X dX2_valueOf_1 (n := 44) (off := 43) (by decide) (by rw [c_1]; decide) (by decide) ?_
    replace hf := k_pos c_1 hf
    refine g_iload_n X dX2_valueOf_44 1 rfl rfl (n := 45) rfl ?_
    obtain rfl := Option.some.inj hf
    exact hret _ _ dX2_valueOf_45
  replace hf := k_neg c_1 hf
  by_cases c_2 : p0 = 100
  · refine g_look X dX2_valueOf_1 (n := 50) (off := 49) (by decide) (by rw [c_2]; decide) (by decide) ?_
    replace hf := k_pos c_2 hf
    refine g_iload X dX2_valueOf_50 4 rfl (n := 52) rfl ?_
    obtain rfl := Option.some.inj hf
    exact hret _ _ dX2_valueOf_52
  replace hf := k_neg c_2 hf
  by_cases c_3 : p0 = 107
  · refine g_look X dX2_valueOf_1 (n := 46) (off := 45) (by decide) (by rw [c_3]; decide) (by decide) ?_
    replace hf := k_pos c_3 hf
    refine g_iload_n X dX2_valueOf_46 2 rfl rfl (n := 47) rfl ?_
    obtain rfl := Option.some.inj hf
    exact hret _ _ dX2_valueOf_47
  replace hf := k_neg c_3 hf
  by_cases c_4 : p0 = 118
  · refine g_look X dX2_valueOf_1 (n := 48) (off := 47) (by decide) (by rw [c_4]; decide) (by decide) ?_
    replace hf := k_pos c_4 hf
    refine g_iload_n X dX2_valueOf_48 3 rfl rfl (n := 49) rfl ?_
    obtain rfl := Option.some.inj hf
    exact hret _ _ dX2_valueOf_49
  replace hf := k_neg c_4 hf
  have nc_1 := k_toInt_ne (v := 78) (z := 78) (by decide) c_1
  have nc_2 := k_toInt_ne (v := 100) (z := 100) (by decide) c_2
  have nc_3 := k_toInt_ne (v := 107) (z := 107) (by decide) c_3
  have nc_4 := k_toInt_ne (v := 118) (z := 118) (by decide) c_4
  refine g_look X dX2_valueOf_1 (n := 53) (off := 52) (by decide) (by simp [Op.lookupswitch.offset, nc_1, Ne.symm nc_1, nc_2, Ne.symm nc_2, nc_3, Ne.symm nc_3, nc_4, Ne.symm nc_4]) (by decide) ?_
  refine g_iload_n X dX2_valueOf_53 0 rfl rfl (n := 54) rfl ?_
  refine g_bipush X dX2_valueOf_54 (v := 48) (by decide) (n := 56) rfl ?_
  refine g_isub X dX2_valueOf_56 (n := 57) rfl ?_
  obtain rfl := Option.some.inj hf
  exact hret _ _ dX2_valueOf_57
set_option maxRecDepth 100000 in
set_option maxHeartbeats 4000000 in
theorem mX2_valueOf {l : Launch} {D : va_G} {p0 : Int32} {p1 : Int32} {p2 : Int32} {p3 : Int32} {p4 : Int32} {res : Int32} (hf : fX2_valueOf p0 p1 p2 p3 p4 = some res) : k_Met l yX2_valueOf cX2_valueOf 5 (some .int) 0 0 D [.int p0, .int p1, .int p2, .int p3, .int p4] ([]) (some (.int res)) ([]) :=
  k_of_i (by decide) (Nat.le_of_ble_eq_true rfl) (fun E X hret => wX2_valueOf X hret hf)
set_option maxRecDepth 100000 in
set_option maxHeartbeats 4000000 in
theorem wX2_push {D : va_G} {l : Launch} {E : k_E} {a0 a1 a2 : Nat} {p1 : Int32} {k : VX2} {res : Bool × VX2} (X : k_X D E cX2_push RX2 2 1 25) (hret : ∀ (pc : Nat) (lv : List (Nat × Value)), decode cX2_push pc = .ok (.ireturn, 1) → k_G D l E (pic_X2 D a0 a1 a2 res.2) lv pc [.int (bI res.1)]) (hf : fX2_push p1 k = some res) : k_G D l E (pic_X2 D a0 a1 a2 k) [(0, .ref a0), (1, .int p1)] 0 [] := by
  unfold fX2_push at hf
  refine g_aload_n X dX2_push_0 0 rfl rfl (n := 1) rfl ?_
  refine g_dup X dX2_push_1 rfl (n := 2) rfl ?_
  refine g_get X dX2_push_2 flX2_18 0 rfl (v := .int k.2.2) rfl (n := 5) rfl ?_
  refine g_iconst X dX2_push_5 (v := 1) (by decide) (n := 6) rfl ?_
  refine g_iadd X dX2_push_6 (n := 7) rfl ?_
  refine g_put X dX2_push_7 flX2_18 0 rfl rfl rfl (Nat.le_of_ble_eq_true rfl) (ws2 := pic_X2 D a0 a1 a2 (k.1, k.2.1, (k.2.2 + 1))) rfl (n := 10) rfl ?_
  refine g_aload_n X dX2_push_10 0 rfl rfl (n := 11) rfl ?_
  refine g_aload_n X dX2_push_11 0 rfl rfl (n := 12) rfl ?_
  refine g_get X dX2_push_12 flX2_18 0 rfl (v := .int (k.2.2 + 1)) rfl (n := 15) rfl ?_
  refine g_iconst X dX2_push_15 (v := 1) (by decide) (n := 16) rfl ?_
  refine g_isub X dX2_push_16 (n := 17) rfl ?_
  refine g_iload_n X dX2_push_17 1 rfl rfl (n := 18) rfl ?_
  refine g_i2l X dX2_push_18 (n := 19) rfl ?_
  refine g_lconst X dX2_push_19 (v := 1) rfl (n := 20) rfl ?_
  obtain ⟨x_1, k_2, g_3, hf⟩ := k_b2s hf
  refine g_callV X (mX2_put (D := D) (l := l) (a0 := a0) (a1 := a1) (a2 := a2) g_3) lk_X2_put mlX2_65 dX2_push_20 (n := 23) rfl (st := []) rfl (st2 := [.int (bI x_1)]) rfl [0, 1, 2] rfl rfl rfl rfl rfl rfl (ws2 := pic_X2 D a0 a1 a2 k_2) rfl rfl rfl ⟨Nat.le_of_ble_eq_true rfl, Nat.le_of_ble_eq_true rfl⟩ (Nat.le_of_ble_eq_true rfl) ?_
  obtain rfl := Option.some.inj hf
  exact hret _ _ dX2_push_23
set_option maxRecDepth 100000 in
set_option maxHeartbeats 4000000 in
theorem mX2_push {l : Launch} {D : va_G} {a0 a1 a2 : Nat} {p1 : Int32} {k : VX2} {res : Bool × VX2} (hf : fX2_push p1 k = some res) : k_Met l yX2_push cX2_push 2 (some .boolean) 1 25 D [.ref a0, .int p1] (pic_X2 D a0 a1 a2 k) (some (.int (bI res.1))) (pic_X2 D a0 a1 a2 res.2) :=
  k_of_z (by decide) (Nat.le_of_ble_eq_true rfl) (fun E X hret => wX2_push X hret hf)
set_option maxRecDepth 100000 in
set_option maxHeartbeats 4000000 in
theorem wX2_reckon_b58 {D : va_G} {l : Launch} {E : k_E} {N : Nat} {a0 a1 a2 : Nat} {b0 b1 : Nat} {n : Nat} {k13 : Int32 → Int32 → Int32 → Int32 → Int32 → VX2 → Option (Bool × VX2)} {v2 : Int32} {v3 : Int32} {v4 : Int32} {v5 : Int32} {v6 : Int32} {s0 : Bool} {k : VX2} {u : VX5} {res : Bool × VX2} (X : k_X D E cX2_reckon RX2 9 2 56) (hk13 : ∀ (v2 : Int32) (v3 : Int32) (v4 : Int32) (v5 : Int32) (v6 : Int32) (k : VX2), k13 v2 v3 v4 v5 v6 k = some res → k_G D l E (pic_X2 D a0 a1 a2 k ++ pic_X5 D b0 b1 n u) [(0, .ref a0), (1, .ref b0), (2, .int v2), (3, .int v3), (4, .int v4), (5, .int v5), (6, .int v6)] 13 []) (hret : ∀ (pc : Nat) (lv : List (Nat × Value)), decode cX2_reckon pc = .ok (.ireturn, 1) → k_G D l E (pic_X2 D a0 a1 a2 res.2 ++ pic_X5 D b0 b1 n u) lv pc [.int (bI res.1)]) (hf : fX2_reckon_b58 N n u k13 v2 v3 v4 v5 v6 s0 k = some res) : k_G D l E (pic_X2 D a0 a1 a2 k ++ pic_X5 D b0 b1 n u) [(0, .ref a0), (1, .ref b0), (2, .int v2), (3, .int v3), (4, .int v4), (5, .int v5), (6, .int v6)] 58 [.int (bI s0)] := by
  unfold fX2_reckon_b58 at hf
  refine g_istore X dX2_reckon_58 (by decide) (lv2 := [(8, .int (bI s0)), (0, .ref a0), (1, .ref b0), (2, .int v2), (3, .int v3), (4, .int v4), (5, .int v5), (6, .int v6)]) rfl (n := 60) rfl ?_
  refine g_iload X dX2_reckon_60 0 rfl (n := 62) rfl ?_
  refine g_if_neB X dX2_reckon_62 (t := 67) (by decide) (n := 65) rfl (fun c_1 => ?_) (fun c_1 => ?_)
  · replace hf := k_pos c_1 hf
    refine g_iinc X dX2_reckon_67 7 rfl (v := v6 + (-1)) rfl (by decide) (lv2 := [(6, .int (v6 + (-1))), (8, .int (bI s0)), (0, .ref a0), (1, .ref b0), (2, .int v2), (3, .int v3), (4, .int v4), (5, .int v5)]) rfl (n := 70) rfl ?_
    refine g_goto X dX2_reckon_70 (n := 13) (by decide) ?_
    refine g_sub [2, 3, 4, 5, 6, 7, 0] (lv' := [(0, .ref a0), (1, .ref b0), (2, .int v2), (3, .int v3), (4, .int v4), (5, .int v5), (6, .int (v6 + (-1)))]) rfl ?_
    exact hk13 _ _ _ _ _ _ hf
  · replace hf := k_neg c_1 hf
    refine g_iconst X dX2_reckon_65 (v := 0) (by decide) (n := 66) rfl ?_
    obtain rfl := Option.some.inj hf
    exact hret _ _ dX2_reckon_66
set_option maxRecDepth 100000 in
set_option maxHeartbeats 4000000 in
theorem wX2_reckon_b13 {D : va_G} {l : Launch} {E : k_E} {N : Nat} {a0 a1 a2 : Nat} {b0 b1 : Nat} {n : Nat} {k13 : Int32 → Int32 → Int32 → Int32 → Int32 → VX2 → Option (Bool × VX2)} {v2 : Int32} {v3 : Int32} {v4 : Int32} {v5 : Int32} {v6 : Int32} {k : VX2} {u : VX5} {res : Bool × VX2} (X : k_X D E cX2_reckon RX2 9 2 56) (hk13 : ∀ (v2 : Int32) (v3 : Int32) (v4 : Int32) (v5 : Int32) (v6 : Int32) (k : VX2), k13 v2 v3 v4 v5 v6 k = some res → k_G D l E (pic_X2 D a0 a1 a2 k ++ pic_X5 D b0 b1 n u) [(0, .ref a0), (1, .ref b0), (2, .int v2), (3, .int v3), (4, .int v4), (5, .int v5), (6, .int v6)] 13 []) (hret : ∀ (pc : Nat) (lv : List (Nat × Value)), decode cX2_reckon pc = .ok (.ireturn, 1) → k_G D l E (pic_X2 D a0 a1 a2 res.2 ++ pic_X5 D b0 b1 n u) lv pc [.int (bI res.1)]) (hf : fX2_reckon_b13 N n u k13 v2 v3 v4 v5 v6 k = some res) : k_G D l E (pic_X2 D a0 a1 a2 k ++ pic_X5 D b0 b1 n u) [(0, .ref a0), (1, .ref b0), (2, .int v2), (3, .int v3), (4, .int v4), (5, .int v5), (6, .int v6)] 13 [] := by
  unfold fX2_reckon_b13 at hf
  refine g_iload X dX2_reckon_13 6 rfl (n := 15) rfl ?_
  refine g_if_lt X dX2_reckon_15 (t := 73) (by decide) (n := 18) rfl (fun c_1 => ?_) (fun c_1 => ?_)
  · replace hf := k_pos c_1 hf
    refine g_aload_n X dX2_reckon_73 0 rfl rfl (n := 74) rfl ?_
    refine g_get X dX2_reckon_74 flX2_18 0 rfl (v := .int k.2.2) rfl (n := 77) rfl ?_
    refine g_iconst X dX2_reckon_77 (v := 1) (by decide) (n := 78) rfl ?_
    refine g_icmp_ne X dX2_reckon_78 (t := 85) (by decide) (n := 81) rfl (fun c_2 => ?_) (fun c_2 => ?_)
    · replace hf := k_neg c_2 hf
      refine g_iconst X dX2_reckon_85 (v := 0) (by decide) (n := 86) rfl ?_
      obtain rfl := Option.some.inj hf
      exact hret _ _ dX2_reckon_86
    · replace hf := k_pos c_2 hf
      refine g_iconst X dX2_reckon_81 (v := 1) (by decide) (n := 82) rfl ?_
      refine g_goto X dX2_reckon_82 (n := 86) (by decide) ?_
      obtain rfl := Option.some.inj hf
      exact hret _ _ dX2_reckon_86
  · replace hf := k_neg c_1 hf
    refine g_aload_n X dX2_reckon_18 1 rfl rfl (n := 19) rfl ?_
    refine g_iload X dX2_reckon_19 6 rfl (n := 21) rfl ?_
    obtain ⟨x_3, g_4, hf⟩ := k_b1s hf
    refine g_callV X (mX5_signAt (D := D) (l := l) (a0 := b0) (a1 := b1) (n := n) g_4) lk_X5_signAt mlX2_27 dX2_reckon_21 (n := 24) rfl (st := []) rfl (st2 := [.int x_3]) rfl [3, 4] rfl rfl rfl rfl rfl rfl (ws2 := pic_X2 D a0 a1 a2 k ++ pic_X5 D b0 b1 n u) rfl rfl rfl ⟨Nat.le_of_ble_eq_true rfl, Nat.le_of_ble_eq_true rfl⟩ (Nat.le_of_ble_eq_true rfl) ?_
    refine g_istore X dX2_reckon_24 (by decide) (lv2 := [(7, .int x_3), (0, .ref a0), (1, .ref b0), (2, .int v2), (3, .int v3), (4, .int v4), (5, .int v5), (6, .int v6)]) rfl (n := 26) rfl ?_
    refine g_iload X dX2_reckon_26 0 rfl (n := 28) rfl ?_
    obtain ⟨x_5, g_6, hf⟩ := k_b1s hf
    refine g_callSN0 X (mX6_isOperator (D := D) (l := l)  g_6) lk_X6_isOperator mlX2_31 dX2_reckon_28 (n := 31) rfl (st := []) rfl (st2 := [.int (bI x_5)]) rfl rfl ⟨Nat.le_of_ble_eq_true rfl, Nat.le_of_ble_eq_true rfl⟩ (Nat.le_of_ble_eq_true rfl) ?_
    refine g_if_eqB X dX2_reckon_31 (t := 43) (by decide) (n := 34) rfl (fun c_7 => ?_) (fun c_7 => ?_)
    · replace hf := k_neg c_7 hf
      refine g_aload_n X dX2_reckon_43 1 rfl rfl (n := 44) rfl ?_
      refine g_iload X dX2_reckon_44 0 rfl (n := 46) rfl ?_
      refine g_iload_n X dX2_reckon_46 3 rfl rfl (n := 47) rfl ?_
      refine g_iload_n X dX2_reckon_47 4 rfl rfl (n := 48) rfl ?_
      refine g_iload X dX2_reckon_48 5 rfl (n := 50) rfl ?_
      refine g_iload X dX2_reckon_50 6 rfl (n := 52) rfl ?_
      obtain ⟨x_8, g_9, hf⟩ := k_b1s hf
      refine g_callS0 X (mX2_valueOf (D := D) (l := l)  g_9) lk_X2_valueOf mlX2_38 dX2_reckon_52 (n := 55) rfl (st := [.ref a0]) rfl (st2 := [.int x_8, .ref a0]) rfl rfl ⟨Nat.le_of_ble_eq_true rfl, Nat.le_of_ble_eq_true rfl⟩ (Nat.le_of_ble_eq_true rfl) ?_
      obtain ⟨x_10, k_11, g_12, hf⟩ := k_b2s hf
      refine g_callV X (mX2_push (D := D) (l := l) (a0 := a0) (a1 := a1) (a2 := a2) g_12) lk_X2_push mlX2_42 dX2_reckon_55 (n := 58) rfl (st := []) rfl (st2 := [.int (bI x_10)]) rfl [0, 1, 2] rfl rfl rfl rfl rfl rfl (ws2 := pic_X2 D a0 a1 a2 k_11 ++ pic_X5 D b0 b1 n u) rfl rfl rfl ⟨Nat.le_of_ble_eq_true rfl, Nat.le_of_ble_eq_true rfl⟩ (Nat.le_of_ble_eq_true rfl) ?_
      refine g_sub [1, 2, 3, 4, 5, 6, 7] (lv' := [(0, .ref a0), (1, .ref b0), (2, .int v2), (3, .int v3), (4, .int v4), (5, .int v5), (6, .int v6)]) rfl ?_
      exact wX2_reckon_b58 X hk13 hret hf
    · replace hf := k_pos c_7 hf
      refine g_aload_n X dX2_reckon_34 1 rfl rfl (n := 35) rfl ?_
      refine g_iload X dX2_reckon_35 0 rfl (n := 37) rfl ?_
      obtain ⟨x_13, k_14, g_15, hf⟩ := k_b2s hf
      refine g_callV X (mX2_combine (D := D) (l := l) (a0 := a0) (a1 := a1) (a2 := a2) g_15) lk_X2_combine mlX2_35 dX2_reckon_37 (n := 40) rfl (st := []) rfl (st2 := [.int (bI x_13)]) rfl [0, 1, 2] rfl rfl rfl rfl rfl rfl (ws2 := pic_X2 D a0 a1 a2 k_14 ++ pic_X5 D b0 b1 n u) rfl rfl rfl ⟨Nat.le_of_ble_eq_true rfl, Nat.le_of_ble_eq_true rfl⟩ (Nat.le_of_ble_eq_true rfl) ?_
      refine g_goto X dX2_reckon_40 (n := 58) (by decide) ?_
      refine g_sub [1, 2, 3, 4, 5, 6, 7] (lv' := [(0, .ref a0), (1, .ref b0), (2, .int v2), (3, .int v3), (4, .int v4), (5, .int v5), (6, .int v6)]) rfl ?_
      exact wX2_reckon_b58 X hk13 hret hf
set_option maxRecDepth 100000 in
set_option maxHeartbeats 4000000 in
theorem wX2_reckon_l13 {D : va_G} {l : Launch} {E : k_E} {N : Nat} {a0 a1 a2 : Nat} {b0 b1 : Nat} {n : Nat} {u : VX5} {res : Bool × VX2} (X : k_X D E cX2_reckon RX2 9 2 56) (hret : ∀ (pc : Nat) (lv : List (Nat × Value)), decode cX2_reckon pc = .ok (.ireturn, 1) → k_G D l E (pic_X2 D a0 a1 a2 res.2 ++ pic_X5 D b0 b1 n u) lv pc [.int (bI res.1)]) : ∀ (n0 : Nat) (v2 : Int32) (v3 : Int32) (v4 : Int32) (v5 : Int32) (v6 : Int32) (k : VX2), fX2_reckon_l13 N n u n0 v2 v3 v4 v5 v6 k = some res → k_G D l E (pic_X2 D a0 a1 a2 k ++ pic_X5 D b0 b1 n u) [(0, .ref a0), (1, .ref b0), (2, .int v2), (3, .int v3), (4, .int v4), (5, .int v5), (6, .int v6)] 13 [] := by
  intro n0
  induction n0 with
  | zero => intro v2 v3 v4 v5 v6 k hf; cases hf
  | succ n0 ih => intro v2 v3 v4 v5 v6 k hf; exact wX2_reckon_b13 (N := N) (k13 := fX2_reckon_l13 N n u n0) X  ih hret hf
set_option maxRecDepth 100000 in
set_option maxHeartbeats 4000000 in
theorem wX2_reckon {D : va_G} {l : Launch} {E : k_E} {N : Nat} {a0 a1 a2 : Nat} {b0 b1 : Nat} {n : Nat} {p2 : Int32} {p3 : Int32} {p4 : Int32} {p5 : Int32} {k : VX2} {u : VX5} {res : Bool × VX2} (X : k_X D E cX2_reckon RX2 9 2 56) (hret : ∀ (pc : Nat) (lv : List (Nat × Value)), decode cX2_reckon pc = .ok (.ireturn, 1) → k_G D l E (pic_X2 D a0 a1 a2 res.2 ++ pic_X5 D b0 b1 n u) lv pc [.int (bI res.1)]) (hf : fX2_reckon N n u p2 p3 p4 p5 k = some res) : k_G D l E (pic_X2 D a0 a1 a2 k ++ pic_X5 D b0 b1 n u) [(0, .ref a0), (1, .ref b0), (2, .int p2), (3, .int p3), (4, .int p4), (5, .int p5)] 0 [] := by
  unfold fX2_reckon at hf
  refine g_aload_n X dX2_reckon_0 0 rfl rfl (n := 1) rfl ?_
  refine g_iconst X dX2_reckon_1 (v := 0) (by decide) (n := 2) rfl ?_
  refine g_put X dX2_reckon_2 flX2_18 0 rfl rfl rfl (Nat.le_of_ble_eq_true rfl) (ws2 := pic_X2 D a0 a1 a2 (k.1, k.2.1, (0 : Int32)) ++ pic_X5 D b0 b1 n u) rfl (n := 5) rfl ?_
  refine g_aload_n X dX2_reckon_5 1 rfl rfl (n := 6) rfl ?_
  refine g_getN X dX2_reckon_6 flX2_22 3 rfl (v := .int u.2) rfl (n := 9) rfl ?_
  refine g_iconst X dX2_reckon_9 (v := 1) (by decide) (n := 10) rfl ?_
  refine g_isub X dX2_reckon_10 (n := 11) rfl ?_
  refine g_istore X dX2_reckon_11 (by decide) (lv2 := [(6, .int (u.2 - 1)), (0, .ref a0), (1, .ref b0), (2, .int p2), (3, .int p3), (4, .int p4), (5, .int p5)]) rfl (n := 13) rfl ?_
  refine g_sub [1, 2, 3, 4, 5, 6, 0] (lv' := [(0, .ref a0), (1, .ref b0), (2, .int p2), (3, .int p3), (4, .int p4), (5, .int p5), (6, .int (u.2 - 1))]) rfl ?_
  exact wX2_reckon_l13 X  hret _ _ _ _ _ _ _ hf
set_option maxRecDepth 100000 in
set_option maxHeartbeats 4000000 in
theorem mX2_reckon {l : Launch} {D : va_G} {N : Nat} {a0 a1 a2 : Nat} {b0 b1 : Nat} {n : Nat} {p2 : Int32} {p3 : Int32} {p4 : Int32} {p5 : Int32} {k : VX2} {u : VX5} {res : Bool × VX2} (hf : fX2_reckon N n u p2 p3 p4 p5 k = some res) : k_Met l yX2_reckon cX2_reckon 9 (some .boolean) 2 56 D [.ref a0, .ref b0, .int p2, .int p3, .int p4, .int p5] (pic_X2 D a0 a1 a2 k ++ pic_X5 D b0 b1 n u) (some (.int (bI res.1))) (pic_X2 D a0 a1 a2 res.2 ++ pic_X5 D b0 b1 n u) :=
  k_of_z (by decide) (Nat.le_of_ble_eq_true rfl) (fun E X hret => wX2_reckon X hret hf)
set_option maxRecDepth 100000 in
set_option maxHeartbeats 4000000 in
theorem wX2_upper {D : va_G} {l : Launch} {E : k_E} {a0 a1 a2 : Nat} {k : VX2} {res : Int64} (X : k_X D E cX2_upper RX2 1 0 0) (hret : ∀ (pc : Nat) (lv : List (Nat × Value)), decode cX2_upper pc = .ok (.lreturn, 1) → k_G D l E (pic_X2 D a0 a1 a2 k) lv pc [.long res]) (hf : fX2_upper k = some res) : k_G D l E (pic_X2 D a0 a1 a2 k) [(0, .ref a0)] 0 [] := by
  unfold fX2_upper at hf
  refine g_aload_n X dX2_upper_0 0 rfl rfl (n := 1) rfl ?_
  refine g_get X dX2_upper_1 flX2_9 0 rfl (v := .ref a1) rfl (n := 4) rfl ?_
  refine g_alen X dX2_upper_4 1 1 rfl rfl (v := 11) rfl (n := 5) rfl ?_
  refine g_if_le X dX2_upper_5 (t := 17) (by decide) (n := 8) rfl (fun c_1 => ?_) (fun c_1 => ?_)
  · replace hf := k_pos c_1 hf
    refine g_lconst X dX2_upper_17 (v := 0) rfl (n := 18) rfl ?_
    obtain rfl := Option.some.inj hf
    exact hret _ _ dX2_upper_18
  · replace hf := k_neg c_1 hf
    refine g_aload_n X dX2_upper_8 0 rfl rfl (n := 9) rfl ?_
    refine g_get X dX2_upper_9 flX2_9 0 rfl (v := .ref a1) rfl (n := 12) rfl ?_
    refine g_iconst X dX2_upper_12 (v := 0) (by decide) (n := 13) rfl ?_
    obtain ⟨h_2, hf⟩ := k_guard hf
    refine g_laload X dX2_upper_13 1 (f := k.1) rfl rfl h_2 (n := 14) rfl ?_
    refine g_goto X dX2_upper_14 (n := 18) (by decide) ?_
    obtain rfl := Option.some.inj hf
    exact hret _ _ dX2_upper_18
set_option maxRecDepth 100000 in
set_option maxHeartbeats 4000000 in
theorem mX2_upper {l : Launch} {D : va_G} {a0 a1 a2 : Nat} {k : VX2} {res : Int64} (hf : fX2_upper k = some res) : k_Met l yX2_upper cX2_upper 1 (some .long) 0 0 D [.ref a0] (pic_X2 D a0 a1 a2 k) (some (.long res)) (pic_X2 D a0 a1 a2 k) :=
  k_of_l (by decide) (Nat.le_of_ble_eq_true rfl) (fun E X hret => wX2_upper X hret hf)
set_option maxRecDepth 100000 in
set_option maxHeartbeats 4000000 in
theorem wX2_lower {D : va_G} {l : Launch} {E : k_E} {a0 a1 a2 : Nat} {k : VX2} {res : Int64} (X : k_X D E cX2_lower RX2 1 0 0) (hret : ∀ (pc : Nat) (lv : List (Nat × Value)), decode cX2_lower pc = .ok (.lreturn, 1) → k_G D l E (pic_X2 D a0 a1 a2 k) lv pc [.long res]) (hf : fX2_lower k = some res) : k_G D l E (pic_X2 D a0 a1 a2 k) [(0, .ref a0)] 0 [] := by
  unfold fX2_lower at hf
  refine g_aload_n X dX2_lower_0 0 rfl rfl (n := 1) rfl ?_
  refine g_get X dX2_lower_1 flX2_15 0 rfl (v := .ref a2) rfl (n := 4) rfl ?_
  refine g_alen X dX2_lower_4 2 1 rfl rfl (v := 11) rfl (n := 5) rfl ?_
  refine g_if_le X dX2_lower_5 (t := 17) (by decide) (n := 8) rfl (fun c_1 => ?_) (fun c_1 => ?_)
  · replace hf := k_pos c_1 hf
    refine g_lconst X dX2_lower_17 (v := 1) rfl (n := 18) rfl ?_
    obtain rfl := Option.some.inj hf
    exact hret _ _ dX2_lower_18
  · replace hf := k_neg c_1 hf
    refine g_aload_n X dX2_lower_8 0 rfl rfl (n := 9) rfl ?_
    refine g_get X dX2_lower_9 flX2_15 0 rfl (v := .ref a2) rfl (n := 12) rfl ?_
    refine g_iconst X dX2_lower_12 (v := 0) (by decide) (n := 13) rfl ?_
    obtain ⟨h_2, hf⟩ := k_guard hf
    refine g_laload X dX2_lower_13 2 (f := k.2.1) rfl rfl h_2 (n := 14) rfl ?_
    refine g_goto X dX2_lower_14 (n := 18) (by decide) ?_
    obtain rfl := Option.some.inj hf
    exact hret _ _ dX2_lower_18
set_option maxRecDepth 100000 in
set_option maxHeartbeats 4000000 in
theorem mX2_lower {l : Launch} {D : va_G} {a0 a1 a2 : Nat} {k : VX2} {res : Int64} (hf : fX2_lower k = some res) : k_Met l yX2_lower cX2_lower 1 (some .long) 0 0 D [.ref a0] (pic_X2 D a0 a1 a2 k) (some (.long res)) (pic_X2 D a0 a1 a2 k) :=
  k_of_l (by decide) (Nat.le_of_ble_eq_true rfl) (fun E X hret => wX2_lower X hret hf)
set_option maxRecDepth 100000 in
set_option maxHeartbeats 4000000 in
theorem wX2_reachesNeed {D : va_G} {l : Launch} {E : k_E} {N : Nat} {a0 a1 a2 : Nat} {b0 b1 b2 b3 b4 b5 : Nat} {p2 : Int32} {p3 : Int32} {p4 : Int32} {p5 : Int32} {k : VX2} {g : VX3} {res : Bool × VX2} (X : k_X D E cX2_reachesNeed RX2 6 3 84) (hret : ∀ (pc : Nat) (lv : List (Nat × Value)), decode cX2_reachesNeed pc = .ok (.ireturn, 1) → k_G D l E (pic_X2 D a0 a1 a2 res.2 ++ pic_X3 D b0 b1 b2 b3 b4 b5 g) lv pc [.int (bI res.1)]) (hf : fX2_reachesNeed N g p2 p3 p4 p5 k = some res) : k_G D l E (pic_X2 D a0 a1 a2 k ++ pic_X3 D b0 b1 b2 b3 b4 b5 g) [(0, .ref a0), (1, .ref b0), (2, .int p2), (3, .int p3), (4, .int p4), (5, .int p5)] 0 [] := by
  unfold fX2_reachesNeed at hf
  refine g_aload_n X dX2_reachesNeed_0 0 rfl rfl (n := 1) rfl ?_
  refine g_aload_n X dX2_reachesNeed_1 1 rfl rfl (n := 2) rfl ?_
  refine g_getN X dX2_reachesNeed_2 flX2_45 3 rfl (v := .ref b4) rfl (n := 5) rfl ?_
  refine g_iload_n X dX2_reachesNeed_5 2 rfl rfl (n := 6) rfl ?_
  refine g_iload_n X dX2_reachesNeed_6 3 rfl rfl (n := 7) rfl ?_
  refine g_iload X dX2_reachesNeed_7 4 rfl (n := 9) rfl ?_
  refine g_iload X dX2_reachesNeed_9 5 rfl (n := 11) rfl ?_
  obtain ⟨x_1, k_2, g_3, hf⟩ := k_b2s hf
  refine g_callV X (mX2_reckon (D := D) (l := l) (a0 := a0) (a1 := a1) (a2 := a2) (b0 := b4) (b1 := b5) (n := 11) g_3) lk_X2_reckon mlX2_51 dX2_reachesNeed_11 (n := 14) rfl (st := []) rfl (st2 := [.int (bI x_1)]) rfl [0, 1, 2, 7, 8] rfl rfl rfl rfl rfl rfl (ws2 := pic_X2 D a0 a1 a2 k_2 ++ pic_X3 D b0 b1 b2 b3 b4 b5 g) rfl rfl rfl ⟨Nat.le_of_ble_eq_true rfl, Nat.le_of_ble_eq_true rfl⟩ (Nat.le_of_ble_eq_true rfl) ?_
  refine g_if_eqB X dX2_reachesNeed_14 (t := 39) (by decide) (n := 17) rfl (fun c_4 => ?_) (fun c_4 => ?_)
  · replace hf := k_neg c_4 hf
    refine g_iconst X dX2_reachesNeed_39 (v := 0) (by decide) (n := 40) rfl ?_
    obtain rfl := Option.some.inj hf
    exact hret _ _ dX2_reachesNeed_40
  · replace hf := k_pos c_4 hf
    refine g_aload_n X dX2_reachesNeed_17 0 rfl rfl (n := 18) rfl ?_
    obtain ⟨x_5, g_6, hf⟩ := k_b1s hf
    refine g_callV X (mX2_upper (D := D) (l := l) (a0 := a0) (a1 := a1) (a2 := a2) g_6) lk_X2_upper mlX2_55 dX2_reachesNeed_18 (n := 21) rfl (st := []) rfl (st2 := [.long x_5]) rfl [0, 1, 2] rfl rfl rfl rfl rfl rfl (ws2 := pic_X2 D a0 a1 a2 k_2 ++ pic_X3 D b0 b1 b2 b3 b4 b5 g) rfl rfl rfl ⟨Nat.le_of_ble_eq_true rfl, Nat.le_of_ble_eq_true rfl⟩ (Nat.le_of_ble_eq_true rfl) ?_
    refine g_aload_n X dX2_reachesNeed_21 1 rfl rfl (n := 22) rfl ?_
    refine g_getN X dX2_reachesNeed_22 flX2_59 3 rfl (v := .int g.2.2.2.2.2.1) rfl (n := 25) rfl ?_
    refine g_i2l X dX2_reachesNeed_25 (n := 26) rfl ?_
    refine g_aload_n X dX2_reachesNeed_26 0 rfl rfl (n := 27) rfl ?_
    obtain ⟨x_7, g_8, hf⟩ := k_b1s hf
    refine g_callV X (mX2_lower (D := D) (l := l) (a0 := a0) (a1 := a1) (a2 := a2) g_8) lk_X2_lower mlX2_62 dX2_reachesNeed_27 (n := 30) rfl (st := [.long (g.2.2.2.2.2.1).toInt64, .long x_5]) rfl (st2 := [.long x_7, .long (g.2.2.2.2.2.1).toInt64, .long x_5]) rfl [0, 1, 2] rfl rfl rfl rfl rfl rfl (ws2 := pic_X2 D a0 a1 a2 k_2 ++ pic_X3 D b0 b1 b2 b3 b4 b5 g) rfl rfl rfl ⟨Nat.le_of_ble_eq_true rfl, Nat.le_of_ble_eq_true rfl⟩ (Nat.le_of_ble_eq_true rfl) ?_
    refine g_lmul X dX2_reachesNeed_30 (n := 31) rfl ?_
    refine g_lcmp_lt X dX2_reachesNeed_31 dX2_reachesNeed_32 (t := 39) (by decide) (n := 35) rfl (fun c_9 => ?_) (fun c_9 => ?_)
    · replace hf := k_pos c_9 hf
      refine g_iconst X dX2_reachesNeed_39 (v := 0) (by decide) (n := 40) rfl ?_
      obtain rfl := Option.some.inj hf
      exact hret _ _ dX2_reachesNeed_40
    · replace hf := k_neg c_9 hf
      refine g_iconst X dX2_reachesNeed_35 (v := 1) (by decide) (n := 36) rfl ?_
      refine g_goto X dX2_reachesNeed_36 (n := 40) (by decide) ?_
      obtain rfl := Option.some.inj hf
      exact hret _ _ dX2_reachesNeed_40
set_option maxRecDepth 100000 in
set_option maxHeartbeats 4000000 in
theorem mX2_reachesNeed {l : Launch} {D : va_G} {N : Nat} {a0 a1 a2 : Nat} {b0 b1 b2 b3 b4 b5 : Nat} {p2 : Int32} {p3 : Int32} {p4 : Int32} {p5 : Int32} {k : VX2} {g : VX3} {res : Bool × VX2} (hf : fX2_reachesNeed N g p2 p3 p4 p5 k = some res) : k_Met l yX2_reachesNeed cX2_reachesNeed 6 (some .boolean) 3 84 D [.ref a0, .ref b0, .int p2, .int p3, .int p4, .int p5] (pic_X2 D a0 a1 a2 k ++ pic_X3 D b0 b1 b2 b3 b4 b5 g) (some (.int (bI res.1))) (pic_X2 D a0 a1 a2 res.2 ++ pic_X3 D b0 b1 b2 b3 b4 b5 g) :=
  k_of_z (by decide) (Nat.le_of_ble_eq_true rfl) (fun E X hret => wX2_reachesNeed X hret hf)
set_option maxRecDepth 100000 in
set_option maxHeartbeats 4000000 in
theorem wX3_copy_60 {D : va_G} {l : Launch} {E : k_E} {b0 : Nat} {c0 : Nat} {fa : Nat → Int32} {fb : Nat → Int32} {res : (Nat → Int32)} (X : k_X D E cX3_copy RX3 2 1 40) (hret : ∀ (pc : Nat) (lv : List (Nat × Value)), decode cX3_copy pc = .ok (.return_, 1) → k_G D l E (pic_AI D b0 60 fa ++ pic_AI D c0 60 res) lv pc []) (hf : fX3_copy_60 fa fb = some res) : k_G D l E (pic_AI D b0 60 fa ++ pic_AI D c0 60 fb) [(0, .ref b0), (1, .ref c0)] 0 [] := by
  unfold fX3_copy_60 at hf
  refine g_aload_n X dX3_copy_0 0 rfl rfl (n := 1) rfl ?_
  refine g_iconst X dX3_copy_1 (v := 0) (by decide) (n := 2) rfl ?_
  refine g_aload_n X dX3_copy_2 1 rfl rfl (n := 3) rfl ?_
  refine g_iconst X dX3_copy_3 (v := 0) (by decide) (n := 4) rfl ?_
  refine g_aload_n X dX3_copy_4 0 rfl rfl (n := 5) rfl ?_
  refine g_alen X dX3_copy_5 0 0 rfl rfl (v := 60) rfl (n := 6) rfl ?_
  refine g_aload_n X dX3_copy_6 1 rfl rfl (n := 7) rfl ?_
  refine g_alen X dX3_copy_7 1 0 rfl rfl (v := 60) rfl (n := 8) rfl ?_
  refine g_min X lkM_min mlX3_61 dX3_copy_8 (n := 11) rfl ⟨Nat.le_of_ble_eq_true rfl, Nat.le_of_ble_eq_true rfl⟩ (Nat.le_of_ble_eq_true rfl) ?_
  refine g_eq (st' := [.int 60, .int 0, .ref c0, .int 0, .ref b0]) rfl rfl (by rw [if_neg (by decide)]) ?_
  refine g_copyi X lkA mlX3_67 dX3_copy_11 (n := 14) rfl 0 1 (f := fa) (g := fb) rfl rfl rfl rfl (sp := 0) (dp := 0) (k := 60) (by decide) (by decide) (by decide) (by decide) (by decide) (ws2 := pic_AI D b0 60 fa ++ pic_AI D c0 60 (va_cpy fa fb 0 0 60)) rfl ⟨Nat.le_of_ble_eq_true rfl, Nat.le_of_ble_eq_true rfl⟩ (Nat.le_of_ble_eq_true rfl) ?_
  obtain rfl := Option.some.inj hf
  exact hret _ _ dX3_copy_14
set_option maxRecDepth 100000 in
set_option maxHeartbeats 4000000 in
theorem mX3_copy_60 {l : Launch} {D : va_G} {b0 : Nat} {c0 : Nat} {fa : Nat → Int32} {fb : Nat → Int32} {res : (Nat → Int32)} (hf : fX3_copy_60 fa fb = some res) : k_Met l yX3_copy cX3_copy 2 none 1 40 D [.ref b0, .ref c0] (pic_AI D b0 60 fa ++ pic_AI D c0 60 fb) none (pic_AI D b0 60 fa ++ pic_AI D c0 60 res) :=
  k_of_v (by decide) (Nat.le_of_ble_eq_true rfl) (fun E X hret => wX3_copy_60 X hret hf)
set_option maxRecDepth 100000 in
set_option maxHeartbeats 4000000 in
theorem wX3_copy_6 {D : va_G} {l : Launch} {E : k_E} {b0 : Nat} {c0 : Nat} {fa : Nat → Int32} {fb : Nat → Int32} {res : (Nat → Int32)} (X : k_X D E cX3_copy RX3 2 1 40) (hret : ∀ (pc : Nat) (lv : List (Nat × Value)), decode cX3_copy pc = .ok (.return_, 1) → k_G D l E (pic_AI D b0 6 fa ++ pic_AI D c0 6 res) lv pc []) (hf : fX3_copy_6 fa fb = some res) : k_G D l E (pic_AI D b0 6 fa ++ pic_AI D c0 6 fb) [(0, .ref b0), (1, .ref c0)] 0 [] := by
  unfold fX3_copy_6 at hf
  refine g_aload_n X dX3_copy_0 0 rfl rfl (n := 1) rfl ?_
  refine g_iconst X dX3_copy_1 (v := 0) (by decide) (n := 2) rfl ?_
  refine g_aload_n X dX3_copy_2 1 rfl rfl (n := 3) rfl ?_
  refine g_iconst X dX3_copy_3 (v := 0) (by decide) (n := 4) rfl ?_
  refine g_aload_n X dX3_copy_4 0 rfl rfl (n := 5) rfl ?_
  refine g_alen X dX3_copy_5 0 0 rfl rfl (v := 6) rfl (n := 6) rfl ?_
  refine g_aload_n X dX3_copy_6 1 rfl rfl (n := 7) rfl ?_
  refine g_alen X dX3_copy_7 1 0 rfl rfl (v := 6) rfl (n := 8) rfl ?_
  refine g_min X lkM_min mlX3_61 dX3_copy_8 (n := 11) rfl ⟨Nat.le_of_ble_eq_true rfl, Nat.le_of_ble_eq_true rfl⟩ (Nat.le_of_ble_eq_true rfl) ?_
  refine g_eq (st' := [.int 6, .int 0, .ref c0, .int 0, .ref b0]) rfl rfl (by rw [if_neg (by decide)]) ?_
  refine g_copyi X lkA mlX3_67 dX3_copy_11 (n := 14) rfl 0 1 (f := fa) (g := fb) rfl rfl rfl rfl (sp := 0) (dp := 0) (k := 6) (by decide) (by decide) (by decide) (by decide) (by decide) (ws2 := pic_AI D b0 6 fa ++ pic_AI D c0 6 (va_cpy fa fb 0 0 6)) rfl ⟨Nat.le_of_ble_eq_true rfl, Nat.le_of_ble_eq_true rfl⟩ (Nat.le_of_ble_eq_true rfl) ?_
  obtain rfl := Option.some.inj hf
  exact hret _ _ dX3_copy_14
set_option maxRecDepth 100000 in
set_option maxHeartbeats 4000000 in
theorem mX3_copy_6 {l : Launch} {D : va_G} {b0 : Nat} {c0 : Nat} {fa : Nat → Int32} {fb : Nat → Int32} {res : (Nat → Int32)} (hf : fX3_copy_6 fa fb = some res) : k_Met l yX3_copy cX3_copy 2 none 1 40 D [.ref b0, .ref c0] (pic_AI D b0 6 fa ++ pic_AI D c0 6 fb) none (pic_AI D b0 6 fa ++ pic_AI D c0 6 res) :=
  k_of_v (by decide) (Nat.le_of_ble_eq_true rfl) (fun E X hret => wX3_copy_6 X hret hf)
set_option maxRecDepth 100000 in
set_option maxHeartbeats 4000000 in
theorem wX5_clear {D : va_G} {l : Launch} {E : k_E} {a0 a1 : Nat} {n : Nat} {t : VX5} {res : VX5} (X : k_X D E cX5_clear RX5 1 0 0) (hret : ∀ (pc : Nat) (lv : List (Nat × Value)), decode cX5_clear pc = .ok (.return_, 1) → k_G D l E (pic_X5 D a0 a1 n res) lv pc []) (hf : fX5_clear n t = some res) : k_G D l E (pic_X5 D a0 a1 n t) [(0, .ref a0)] 0 [] := by
  unfold fX5_clear at hf
  refine g_aload_n X dX5_clear_0 0 rfl rfl (n := 1) rfl ?_
  refine g_iconst X dX5_clear_1 (v := 0) (by decide) (n := 2) rfl ?_
  refine g_put X dX5_clear_2 flX5_21 0 rfl rfl rfl (Nat.le_of_ble_eq_true rfl) (ws2 := pic_X5 D a0 a1 n (t.1, (0 : Int32))) rfl (n := 5) rfl ?_
  obtain rfl := Option.some.inj hf
  exact hret _ _ dX5_clear_5
set_option maxRecDepth 100000 in
set_option maxHeartbeats 4000000 in
theorem mX5_clear {l : Launch} {D : va_G} {a0 a1 : Nat} {n : Nat} {t : VX5} {res : VX5} (hf : fX5_clear n t = some res) : k_Met l yX5_clear cX5_clear 1 none 0 0 D [.ref a0] (pic_X5 D a0 a1 n t) none (pic_X5 D a0 a1 n res) :=
  k_of_v (by decide) (Nat.le_of_ble_eq_true rfl) (fun E X hret => wX5_clear X hret hf)
