/-! walks: X4_readSheets X4_valid X4_singles X4_good -/
set_option maxRecDepth 100000 in
set_option maxHeartbeats 4000000 in
theorem wX4_readSheets_b34 {D : va_G} {l : Launch} {E : k_E} {N : Nat} {a0 a1 : Nat} {b0 b1 b2 b3 b4 b5 : Nat} {k6 : Int32 → Int32 → VX4 → Option (VX4)} {k34 : Int32 → Int32 → Int32 → Int32 → VX4 → Option (VX4)} {v2 : Int32} {v3 : Int32} {v4 : Int32} {v5 : Int32} {y : VX4} {g : VX3} {res : VX4} (X : k_X D E cX4_readSheets RX4 6 2 44) (hk6 : ∀ (v2 : Int32) (v3 : Int32) (y : VX4), k6 v2 v3 y = some res → k_G D l E (pic_X4 D a0 a1 y ++ pic_X3 D b0 b1 b2 b3 b4 b5 g) [(0, .ref a0), (1, .ref b0), (2, .int v2), (3, .int v3)] 6 []) (hk34 : ∀ (v2 : Int32) (v3 : Int32) (v4 : Int32) (v5 : Int32) (y : VX4), k34 v2 v3 v4 v5 y = some res → k_G D l E (pic_X4 D a0 a1 y ++ pic_X3 D b0 b1 b2 b3 b4 b5 g) [(0, .ref a0), (1, .ref b0), (2, .int v2), (3, .int v3), (4, .int v4), (5, .int v5)] 34 []) (hret : ∀ (pc : Nat) (lv : List (Nat × Value)), decode cX4_readSheets pc = .ok (.return_, 1) → k_G D l E (pic_X4 D a0 a1 res ++ pic_X3 D b0 b1 b2 b3 b4 b5 g) lv pc []) (hf : fX4_readSheets_b34 N g k6 k34 v2 v3 v4 v5 y = some res) : k_G D l E (pic_X4 D a0 a1 y ++ pic_X3 D b0 b1 b2 b3 b4 b5 g) [(0, .ref a0), (1, .ref b0), (2, .int v2), (3, .int v3), (4, .int v4), (5, .int v5)] 34 [] := by
  unfold fX4_readSheets_b34 at hf
  refine g_iload X dX4_readSheets_34 5 rfl (n := 36) rfl ?_
  refine g_iload X dX4_readSheets_36 4 rfl (n := 38) rfl ?_
  refine g_icmp_ge X dX4_readSheets_38 (t := 58) (by decide) (n := 41) rfl (fun c_1 => ?_) (fun c_1 => ?_)
  · replace hf := k_pos c_1 hf
    refine g_iinc X dX4_readSheets_58 3 rfl (v := v3 + 1) rfl (by decide) (lv2 := [(3, .int (v3 + 1)), (0, .ref a0), (1, .ref b0), (2, .int v2), (4, .int v4), (5, .int v5)]) rfl (n := 61) rfl ?_
    refine g_goto X dX4_readSheets_61 (n := 6) (by decide) ?_
    refine g_sub [1, 2, 3, 0] (lv' := [(0, .ref a0), (1, .ref b0), (2, .int v2), (3, .int (v3 + 1))]) rfl ?_
    exact hk6 _ _ _ hf
  · replace hf := k_neg c_1 hf
    refine g_aload_n X dX4_readSheets_41 0 rfl rfl (n := 42) rfl ?_
    refine g_aload_n X dX4_readSheets_42 1 rfl rfl (n := 43) rfl ?_
    refine g_iload_n X dX4_readSheets_43 3 rfl rfl (n := 44) rfl ?_
    refine g_iload X dX4_readSheets_44 5 rfl (n := 46) rfl ?_
    obtain ⟨x_2, g_3, hf⟩ := k_b1s hf
    refine g_callV X (mX3_signOf (D := D) (l := l) (a0 := b0) (a1 := b1) (a2 := b2) (a3 := b3) (a4 := b4) (a5 := b5) g_3) lk_X3_signOf mlX4_44 dX4_readSheets_46 (n := 49) rfl (st := [.ref a0]) rfl (st2 := [.int x_2, .ref a0]) rfl [2, 3, 4, 5, 6, 7] rfl rfl rfl rfl rfl rfl (ws2 := pic_X4 D a0 a1 y ++ pic_X3 D b0 b1 b2 b3 b4 b5 g) rfl rfl rfl ⟨Nat.le_of_ble_eq_true rfl, Nat.le_of_ble_eq_true rfl⟩ (Nat.le_of_ble_eq_true rfl) ?_
    obtain ⟨y_4, g_5, hf⟩ := k_b1s hf
    refine g_callV X (mX4_add (D := D) (l := l) (a0 := a0) (a1 := a1) g_5) lk_X4_add mlX4_48 dX4_readSheets_49 (n := 52) rfl (st := []) rfl (st2 := []) rfl [0, 1] rfl rfl rfl rfl rfl rfl (ws2 := pic_X4 D a0 a1 y_4 ++ pic_X3 D b0 b1 b2 b3 b4 b5 g) rfl rfl rfl ⟨Nat.le_of_ble_eq_true rfl, Nat.le_of_ble_eq_true rfl⟩ (Nat.le_of_ble_eq_true rfl) ?_
    refine g_iinc X dX4_readSheets_52 5 rfl (v := v5 + 1) rfl (by decide) (lv2 := [(5, .int (v5 + 1)), (0, .ref a0), (1, .ref b0), (2, .int v2), (3, .int v3), (4, .int v4)]) rfl (n := 55) rfl ?_
    refine g_goto X dX4_readSheets_55 (n := 34) (by decide) ?_
    refine g_sub [1, 2, 3, 4, 5, 0] (lv' := [(0, .ref a0), (1, .ref b0), (2, .int v2), (3, .int v3), (4, .int v4), (5, .int (v5 + 1))]) rfl ?_
    exact hk34 _ _ _ _ _ hf
set_option maxRecDepth 100000 in
set_option maxHeartbeats 4000000 in
theorem wX4_readSheets_l34 {D : va_G} {l : Launch} {E : k_E} {N : Nat} {a0 a1 : Nat} {b0 b1 b2 b3 b4 b5 : Nat} {k6 : Int32 → Int32 → VX4 → Option (VX4)} {g : VX3} {res : VX4} (X : k_X D E cX4_readSheets RX4 6 2 44) (hk6 : ∀ (v2 : Int32) (v3 : Int32) (y : VX4), k6 v2 v3 y = some res → k_G D l E (pic_X4 D a0 a1 y ++ pic_X3 D b0 b1 b2 b3 b4 b5 g) [(0, .ref a0), (1, .ref b0), (2, .int v2), (3, .int v3)] 6 []) (hret : ∀ (pc : Nat) (lv : List (Nat × Value)), decode cX4_readSheets pc = .ok (.return_, 1) → k_G D l E (pic_X4 D a0 a1 res ++ pic_X3 D b0 b1 b2 b3 b4 b5 g) lv pc []) : ∀ (n0 : Nat) (v2 : Int32) (v3 : Int32) (v4 : Int32) (v5 : Int32) (y : VX4), fX4_readSheets_l34 N g k6 n0 v2 v3 v4 v5 y = some res → k_G D l E (pic_X4 D a0 a1 y ++ pic_X3 D b0 b1 b2 b3 b4 b5 g) [(0, .ref a0), (1, .ref b0), (2, .int v2), (3, .int v3), (4, .int v4), (5, .int v5)] 34 [] := by
  intro n0
  induction n0 with
  | zero => intro v2 v3 v4 v5 y hf; cases hf
  | succ n0 ih => intro v2 v3 v4 v5 y hf; exact wX4_readSheets_b34 (N := N) (k34 := fX4_readSheets_l34 N g k6 n0) X hk6 ih hret hf
set_option maxRecDepth 100000 in
set_option maxHeartbeats 4000000 in
theorem wX4_readSheets_b29 {D : va_G} {l : Launch} {E : k_E} {N : Nat} {a0 a1 : Nat} {b0 b1 b2 b3 b4 b5 : Nat} {k6 : Int32 → Int32 → VX4 → Option (VX4)} {v2 : Int32} {v3 : Int32} {s0 : Int32} {y : VX4} {g : VX3} {res : VX4} (X : k_X D E cX4_readSheets RX4 6 2 44) (hk6 : ∀ (v2 : Int32) (v3 : Int32) (y : VX4), k6 v2 v3 y = some res → k_G D l E (pic_X4 D a0 a1 y ++ pic_X3 D b0 b1 b2 b3 b4 b5 g) [(0, .ref a0), (1, .ref b0), (2, .int v2), (3, .int v3)] 6 []) (hret : ∀ (pc : Nat) (lv : List (Nat × Value)), decode cX4_readSheets pc = .ok (.return_, 1) → k_G D l E (pic_X4 D a0 a1 res ++ pic_X3 D b0 b1 b2 b3 b4 b5 g) lv pc []) (hf : fX4_readSheets_b29 N g k6 v2 v3 s0 y = some res) : k_G D l E (pic_X4 D a0 a1 y ++ pic_X3 D b0 b1 b2 b3 b4 b5 g) [(0, .ref a0), (1, .ref b0), (2, .int v2), (3, .int v3)] 29 [.int s0] := by
  unfold fX4_readSheets_b29 at hf
  refine g_istore X dX4_readSheets_29 (by decide) (lv2 := [(4, .int s0), (0, .ref a0), (1, .ref b0), (2, .int v2), (3, .int v3)]) rfl (n := 31) rfl ?_
  refine g_iconst X dX4_readSheets_31 (v := 0) (by decide) (n := 32) rfl ?_
  refine g_istore X dX4_readSheets_32 (by decide) (lv2 := [(5, .int 0), (4, .int s0), (0, .ref a0), (1, .ref b0), (2, .int v2), (3, .int v3)]) rfl (n := 34) rfl ?_
  refine g_sub [2, 3, 4, 5, 1, 0] (lv' := [(0, .ref a0), (1, .ref b0), (2, .int v2), (3, .int v3), (4, .int s0), (5, .int 0)]) rfl ?_
  exact wX4_readSheets_l34 X hk6 hret _ _ _ _ _ _ hf
set_option maxRecDepth 100000 in
set_option maxHeartbeats 4000000 in
theorem wX4_readSheets_b6 {D : va_G} {l : Launch} {E : k_E} {N : Nat} {a0 a1 : Nat} {b0 b1 b2 b3 b4 b5 : Nat} {k6 : Int32 → Int32 → VX4 → Option (VX4)} {v2 : Int32} {v3 : Int32} {y : VX4} {g : VX3} {res : VX4} (X : k_X D E cX4_readSheets RX4 6 2 44) (hk6 : ∀ (v2 : Int32) (v3 : Int32) (y : VX4), k6 v2 v3 y = some res → k_G D l E (pic_X4 D a0 a1 y ++ pic_X3 D b0 b1 b2 b3 b4 b5 g) [(0, .ref a0), (1, .ref b0), (2, .int v2), (3, .int v3)] 6 []) (hret : ∀ (pc : Nat) (lv : List (Nat × Value)), decode cX4_readSheets pc = .ok (.return_, 1) → k_G D l E (pic_X4 D a0 a1 res ++ pic_X3 D b0 b1 b2 b3 b4 b5 g) lv pc []) (hf : fX4_readSheets_b6 N g k6 v2 v3 y = some res) : k_G D l E (pic_X4 D a0 a1 y ++ pic_X3 D b0 b1 b2 b3 b4 b5 g) [(0, .ref a0), (1, .ref b0), (2, .int v2), (3, .int v3)] 6 [] := by
  unfold fX4_readSheets_b6 at hf
  refine g_iload_n X dX4_readSheets_6 3 rfl rfl (n := 7) rfl ?_
  refine g_bipush X dX4_readSheets_7 (v := 6) (by decide) (n := 9) rfl ?_
  refine g_icmp_ge X dX4_readSheets_9 (t := 64) (by decide) (n := 12) rfl (fun c_1 => ?_) (fun c_1 => ?_)
  · replace hf := k_pos c_1 hf
    obtain rfl := Option.some.inj hf
    exact hret _ _ dX4_readSheets_64
  · replace hf := k_neg c_1 hf
    refine g_iload_n X dX4_readSheets_12 2 rfl rfl (n := 13) rfl ?_
    refine g_iload_n X dX4_readSheets_13 3 rfl rfl (n := 14) rfl ?_
    refine g_ishr X dX4_readSheets_14 (n := 15) rfl ?_
    refine g_iconst X dX4_readSheets_15 (v := 1) (by decide) (n := 16) rfl ?_
    refine g_iand X dX4_readSheets_16 (n := 17) rfl ?_
    refine g_if_eq X dX4_readSheets_17 (t := 28) (by decide) (n := 20) rfl (fun c_2 => ?_) (fun c_2 => ?_)
    · replace hf := k_pos c_2 hf
      refine g_iconst X dX4_readSheets_28 (v := 0) (by decide) (n := 29) rfl ?_
      refine g_sub [0, 1, 2, 3] (lv' := [(0, .ref a0), (1, .ref b0), (2, .int v2), (3, .int v3)]) rfl ?_
      exact wX4_readSheets_b29 X hk6 hret hf
    · replace hf := k_neg c_2 hf
      refine g_aload_n X dX4_readSheets_20 1 rfl rfl (n := 21) rfl ?_
      refine g_iload_n X dX4_readSheets_21 3 rfl rfl (n := 22) rfl ?_
      obtain ⟨x_3, g_4, hf⟩ := k_b1s hf
      refine g_callV X (mX3_sizeOf (D := D) (l := l) (a0 := b0) (a1 := b1) (a2 := b2) (a3 := b3) (a4 := b4) (a5 := b5) g_4) lk_X3_sizeOf mlX4_38 dX4_readSheets_22 (n := 25) rfl (st := []) rfl (st2 := [.int x_3]) rfl [2, 3, 4, 5, 6, 7] rfl rfl rfl rfl rfl rfl (ws2 := pic_X4 D a0 a1 y ++ pic_X3 D b0 b1 b2 b3 b4 b5 g) rfl rfl rfl ⟨Nat.le_of_ble_eq_true rfl, Nat.le_of_ble_eq_true rfl⟩ (Nat.le_of_ble_eq_true rfl) ?_
      refine g_goto X dX4_readSheets_25 (n := 29) (by decide) ?_
      refine g_sub [0, 1, 2, 3] (lv' := [(0, .ref a0), (1, .ref b0), (2, .int v2), (3, .int v3)]) rfl ?_
      exact wX4_readSheets_b29 X hk6 hret hf
set_option maxRecDepth 100000 in
set_option maxHeartbeats 4000000 in
theorem wX4_readSheets_l6 {D : va_G} {l : Launch} {E : k_E} {N : Nat} {a0 a1 : Nat} {b0 b1 b2 b3 b4 b5 : Nat} {g : VX3} {res : VX4} (X : k_X D E cX4_readSheets RX4 6 2 44) (hret : ∀ (pc : Nat) (lv : List (Nat × Value)), decode cX4_readSheets pc = .ok (.return_, 1) → k_G D l E (pic_X4 D a0 a1 res ++ pic_X3 D b0 b1 b2 b3 b4 b5 g) lv pc []) : ∀ (n0 : Nat) (v2 : Int32) (v3 : Int32) (y : VX4), fX4_readSheets_l6 N g n0 v2 v3 y = some res → k_G D l E (pic_X4 D a0 a1 y ++ pic_X3 D b0 b1 b2 b3 b4 b5 g) [(0, .ref a0), (1, .ref b0), (2, .int v2), (3, .int v3)] 6 [] := by
  intro n0
  induction n0 with
  | zero => intro v2 v3 y hf; cases hf
  | succ n0 ih => intro v2 v3 y hf; exact wX4_readSheets_b6 (N := N) (k6 := fX4_readSheets_l6 N g n0) X  ih hret hf
set_option maxRecDepth 100000 in
set_option maxHeartbeats 4000000 in
theorem wX4_readSheets {D : va_G} {l : Launch} {E : k_E} {N : Nat} {a0 a1 : Nat} {b0 b1 b2 b3 b4 b5 : Nat} {p2 : Int32} {y : VX4} {g : VX3} {res : VX4} (X : k_X D E cX4_readSheets RX4 6 2 44) (hret : ∀ (pc : Nat) (lv : List (Nat × Value)), decode cX4_readSheets pc = .ok (.return_, 1) → k_G D l E (pic_X4 D a0 a1 res ++ pic_X3 D b0 b1 b2 b3 b4 b5 g) lv pc []) (hf : fX4_readSheets N g p2 y = some res) : k_G D l E (pic_X4 D a0 a1 y ++ pic_X3 D b0 b1 b2 b3 b4 b5 g) [(0, .ref a0), (1, .ref b0), (2, .int p2)] 0 [] := by
  unfold fX4_readSheets at hf
  refine g_aload_n X dX4_readSheets_0 0 rfl rfl (n := 1) rfl ?_
  obtain ⟨y_1, g_2, hf⟩ := k_b1s hf
  refine g_callV X (mX4_clear (D := D) (l := l) (a0 := a0) (a1 := a1) g_2) lk_X4_clear mlX4_35 dX4_readSheets_1 (n := 4) rfl (st := []) rfl (st2 := []) rfl [0, 1] rfl rfl rfl rfl rfl rfl (ws2 := pic_X4 D a0 a1 y_1 ++ pic_X3 D b0 b1 b2 b3 b4 b5 g) rfl rfl rfl ⟨Nat.le_of_ble_eq_true rfl, Nat.le_of_ble_eq_true rfl⟩ (Nat.le_of_ble_eq_true rfl) ?_
  refine g_iconst X dX4_readSheets_4 (v := 0) (by decide) (n := 5) rfl ?_
  refine g_istore_n X dX4_readSheets_5 rfl (by decide) (lv2 := [(3, .int 0), (0, .ref a0), (1, .ref b0), (2, .int p2)]) rfl (n := 6) rfl ?_
  refine g_sub [1, 2, 3, 0] (lv' := [(0, .ref a0), (1, .ref b0), (2, .int p2), (3, .int 0)]) rfl ?_
  exact wX4_readSheets_l6 X  hret _ _ _ _ hf
set_option maxRecDepth 100000 in
set_option maxHeartbeats 4000000 in
theorem mX4_readSheets {l : Launch} {D : va_G} {N : Nat} {a0 a1 : Nat} {b0 b1 b2 b3 b4 b5 : Nat} {p2 : Int32} {y : VX4} {g : VX3} {res : VX4} (hf : fX4_readSheets N g p2 y = some res) : k_Met l yX4_readSheets cX4_readSheets 6 none 2 44 D [.ref a0, .ref b0, .int p2] (pic_X4 D a0 a1 y ++ pic_X3 D b0 b1 b2 b3 b4 b5 g) none (pic_X4 D a0 a1 res ++ pic_X3 D b0 b1 b2 b3 b4 b5 g) :=
  k_of_v (by decide) (Nat.le_of_ble_eq_true rfl) (fun E X hret => wX4_readSheets X hret hf)
set_option maxRecDepth 100000 in
set_option maxHeartbeats 4000000 in
theorem wX4_valid {D : va_G} {l : Launch} {E : k_E} {a0 a1 : Nat} {y : VX4} {res : Int32} (X : k_X D E cX4_valid RX4 1 0 0) (hret : ∀ (pc : Nat) (lv : List (Nat × Value)), decode cX4_valid pc = .ok (.ireturn, 1) → k_G D l E (pic_X4 D a0 a1 y) lv pc [.int res]) (hf : fX4_valid y = some res) : k_G D l E (pic_X4 D a0 a1 y) [(0, .ref a0)] 0 [] := by
  unfold fX4_valid at hf
  refine g_aload_n X dX4_valid_0 0 rfl rfl (n := 1) rfl ?_
  refine g_get X dX4_valid_1 flX4_15 0 rfl (v := .int y.2.1) rfl (n := 4) rfl ?_
  refine g_aload_n X dX4_valid_4 0 rfl rfl (n := 5) rfl ?_
  refine g_get X dX4_valid_5 flX4_19 0 rfl (v := .int y.2.2.1) rfl (n := 8) rfl ?_
  refine g_isub X dX4_valid_8 (n := 9) rfl ?_
  obtain rfl := Option.some.inj hf
  exact hret _ _ dX4_valid_9
set_option maxRecDepth 100000 in
set_option maxHeartbeats 4000000 in
theorem mX4_valid {l : Launch} {D : va_G} {a0 a1 : Nat} {y : VX4} {res : Int32} (hf : fX4_valid y = some res) : k_Met l yX4_valid cX4_valid 1 (some .int) 0 0 D [.ref a0] (pic_X4 D a0 a1 y) (some (.int res)) (pic_X4 D a0 a1 y) :=
  k_of_i (by decide) (Nat.le_of_ble_eq_true rfl) (fun E X hret => wX4_valid X hret hf)
set_option maxRecDepth 100000 in
set_option maxHeartbeats 4000000 in
theorem wX4_singles {D : va_G} {l : Launch} {E : k_E} {a0 a1 : Nat} {y : VX4} {res : Int32} (X : k_X D E cX4_singles RX4 1 0 0) (hret : ∀ (pc : Nat) (lv : List (Nat × Value)), decode cX4_singles pc = .ok (.ireturn, 1) → k_G D l E (pic_X4 D a0 a1 y) lv pc [.int res]) (hf : fX4_singles y = some res) : k_G D l E (pic_X4 D a0 a1 y) [(0, .ref a0)] 0 [] := by
  unfold fX4_singles at hf
  refine g_aload_n X dX4_singles_0 0 rfl rfl (n := 1) rfl ?_
  refine g_get X dX4_singles_1 flX4_22 0 rfl (v := .int y.2.2.2.1) rfl (n := 4) rfl ?_
  refine g_aload_n X dX4_singles_4 0 rfl rfl (n := 5) rfl ?_
  refine g_get X dX4_singles_5 flX4_25 0 rfl (v := .int y.2.2.2.2.1) rfl (n := 8) rfl ?_
  refine g_iadd X dX4_singles_8 (n := 9) rfl ?_
  obtain rfl := Option.some.inj hf
  exact hret _ _ dX4_singles_9
set_option maxRecDepth 100000 in
set_option maxHeartbeats 4000000 in
theorem mX4_singles {l : Launch} {D : va_G} {a0 a1 : Nat} {y : VX4} {res : Int32} (hf : fX4_singles y = some res) : k_Met l yX4_singles cX4_singles 1 (some .int) 0 0 D [.ref a0] (pic_X4 D a0 a1 y) (some (.int res)) (pic_X4 D a0 a1 y) :=
  k_of_i (by decide) (Nat.le_of_ble_eq_true rfl) (fun E X hret => wX4_singles X hret hf)
set_option maxRecDepth 100000 in
set_option maxHeartbeats 4000000 in
theorem wX4_good {D : va_G} {l : Launch} {E : k_E} {a0 a1 : Nat} {y : VX4} {res : Int32} (X : k_X D E cX4_good RX4 1 0 0) (hret : ∀ (pc : Nat) (lv : List (Nat × Value)), decode cX4_good pc = .ok (.ireturn, 1) → k_G D l E (pic_X4 D a0 a1 y) lv pc [.int res]) (hf : fX4_good y = some res) : k_G D l E (pic_X4 D a0 a1 y) [(0, .ref a0)] 0 [] := by
  unfold fX4_good at hf
  refine g_aload_n X dX4_good_0 0 rfl rfl (n := 1) rfl ?_
  refine g_get X dX4_good_1 flX4_22 0 rfl (v := .int y.2.2.2.1) rfl (n := 4) rfl ?_
  refine g_aload_n X dX4_good_4 0 rfl rfl (n := 5) rfl ?_
  refine g_get X dX4_good_5 flX4_25 0 rfl (v := .int y.2.2.2.2.1) rfl (n := 8) rfl ?_
  refine g_iadd X dX4_good_8 (n := 9) rfl ?_
  refine g_aload_n X dX4_good_9 0 rfl rfl (n := 10) rfl ?_
  refine g_get X dX4_good_10 flX4_28 0 rfl (v := .int y.2.2.2.2.2.1) rfl (n := 13) rfl ?_
  refine g_iadd X dX4_good_13 (n := 14) rfl ?_
  obtain rfl := Option.some.inj hf
  exact hret _ _ dX4_good_14
set_option maxRecDepth 100000 in
set_option maxHeartbeats 4000000 in
theorem mX4_good {l : Launch} {D : va_G} {a0 a1 : Nat} {y : VX4} {res : Int32} (hf : fX4_good y = some res) : k_Met l yX4_good cX4_good 1 (some .int) 0 0 D [.ref a0] (pic_X4 D a0 a1 y) (some (.int res)) (pic_X4 D a0 a1 y) :=
  k_of_i (by decide) (Nat.le_of_ble_eq_true rfl) (fun E X hret => wX4_good X hret hf)
