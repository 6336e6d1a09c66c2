/-! walks: X5_append X5_become X3_become X3_sizeOf X3_signOf X3_fillSheet X3_gathererOf X3_giveTo X3_isStruck X3_strikeOut X4_clear X6_isBad X4_addPerson X4_add -/
set_option maxRecDepth 100000 in
set_option maxHeartbeats 4000000 in
theorem wX5_append {D : va_G} {l : Launch} {E : k_E} {a0 a1 : Nat} {n : Nat} {p1 : Int32} {t : VX5} {res : Bool × VX5} (X : k_X D E cX5_append RX5 2 0 0) (hret : ∀ (pc : Nat) (lv : List (Nat × Value)), decode cX5_append pc = .ok (.ireturn, 1) → k_G D l E (pic_X5 D a0 a1 n res.2) lv pc [.int (bI res.1)]) (hf : fX5_append n p1 t = some res) : k_G D l E (pic_X5 D a0 a1 n t) [(0, .ref a0), (1, .int p1)] 0 [] := by
  unfold fX5_append at hf
  refine g_aload_n X dX5_append_0 0 rfl rfl (n := 1) rfl ?_
  refine g_get X dX5_append_1 flX5_21 0 rfl (v := .int t.2) rfl (n := 4) rfl ?_
  refine g_if_lt X dX5_append_4 (t := 19) (by decide) (n := 7) rfl (fun c_1 => ?_) (fun c_1 => ?_)
  · replace hf := k_pos c_1 hf
    refine g_iconst X dX5_append_19 (v := 0) (by decide) (n := 20) rfl ?_
    obtain rfl := Option.some.inj hf
    exact hret _ _ dX5_append_20
  · replace hf := k_neg c_1 hf
    refine g_aload_n X dX5_append_7 0 rfl rfl (n := 8) rfl ?_
    refine g_get X dX5_append_8 flX5_21 0 rfl (v := .int t.2) rfl (n := 11) rfl ?_
    refine g_aload_n X dX5_append_11 0 rfl rfl (n := 12) rfl ?_
    refine g_get X dX5_append_12 flX5_15 0 rfl (v := .ref a1) rfl (n := 15) rfl ?_
    refine g_alen X dX5_append_15 1 0 rfl rfl (v := (nI n)) rfl (n := 16) rfl ?_
    refine g_icmp_lt X dX5_append_16 (t := 21) (by decide) (n := 19) rfl (fun c_2 => ?_) (fun c_2 => ?_)
    · replace hf := k_pos c_2 hf
      refine g_aload_n X dX5_append_21 0 rfl rfl (n := 22) rfl ?_
      refine g_get X dX5_append_22 flX5_15 0 rfl (v := .ref a1) rfl (n := 25) rfl ?_
      refine g_aload_n X dX5_append_25 0 rfl rfl (n := 26) rfl ?_
      refine g_get X dX5_append_26 flX5_21 0 rfl (v := .int t.2) rfl (n := 29) rfl ?_
      refine g_iload_n X dX5_append_29 1 rfl rfl (n := 30) rfl ?_
      obtain ⟨h_3, hf⟩ := k_guard hf
      refine g_iastore X dX5_append_30 1 (f := t.1) rfl rfl h_3 (ws2 := pic_X5 D a0 a1 n (upd t.1 (t.2).toNatClampNeg p1, t.2)) rfl (n := 31) rfl ?_
      refine g_aload_n X dX5_append_31 0 rfl rfl (n := 32) rfl ?_
      refine g_dup X dX5_append_32 rfl (n := 33) rfl ?_
      refine g_get X dX5_append_33 flX5_21 0 rfl (v := .int t.2) rfl (n := 36) rfl ?_
      refine g_iconst X dX5_append_36 (v := 1) (by decide) (n := 37) rfl ?_
      refine g_iadd X dX5_append_37 (n := 38) rfl ?_
      refine g_put X dX5_append_38 flX5_21 0 rfl rfl rfl (Nat.le_of_ble_eq_true rfl) (ws2 := pic_X5 D a0 a1 n (upd t.1 (t.2).toNatClampNeg p1, (t.2 + 1))) rfl (n := 41) rfl ?_
      refine g_iconst X dX5_append_41 (v := 1) (by decide) (n := 42) rfl ?_
      obtain rfl := Option.some.inj hf
      exact hret _ _ dX5_append_42
    · replace hf := k_neg c_2 hf
      refine g_iconst X dX5_append_19 (v := 0) (by decide) (n := 20) rfl ?_
      obtain rfl := Option.some.inj hf
      exact hret _ _ dX5_append_20
set_option maxRecDepth 100000 in
set_option maxHeartbeats 4000000 in
theorem mX5_append {l : Launch} {D : va_G} {a0 a1 : Nat} {n : Nat} {p1 : Int32} {t : VX5} {res : Bool × VX5} (hf : fX5_append n p1 t = some res) : k_Met l yX5_append cX5_append 2 (some .boolean) 0 0 D [.ref a0, .int p1] (pic_X5 D a0 a1 n t) (some (.int (bI res.1))) (pic_X5 D a0 a1 n res.2) :=
  k_of_z (by decide) (Nat.le_of_ble_eq_true rfl) (fun E X hret => wX5_append X hret hf)
set_option maxRecDepth 100000 in
set_option maxHeartbeats 4000000 in
theorem wX5_become_b6 {D : va_G} {l : Launch} {E : k_E} {N : Nat} {a0 a1 : Nat} {n : Nat} {b0 b1 : Nat} {nb : Nat} {k6 : Int32 → VX5 → Option (VX5)} {v2 : Int32} {t : VX5} {u : VX5} {res : VX5} (X : k_X D E cX5_become RX5 3 1 21) (hk6 : ∀ (v2 : Int32) (t : VX5), k6 v2 t = some res → k_G D l E (pic_X5 D a0 a1 n t ++ pic_X5 D b0 b1 nb u) [(0, .ref a0), (1, .ref b0), (2, .int v2)] 6 []) (hret : ∀ (pc : Nat) (lv : List (Nat × Value)), decode cX5_become pc = .ok (.return_, 1) → k_G D l E (pic_X5 D a0 a1 n res ++ pic_X5 D b0 b1 nb u) lv pc []) (hf : fX5_become_b6 N n nb u k6 v2 t = some res) : k_G D l E (pic_X5 D a0 a1 n t ++ pic_X5 D b0 b1 nb u) [(0, .ref a0), (1, .ref b0), (2, .int v2)] 6 [] := by
  unfold fX5_become_b6 at hf
  refine g_iload_n X dX5_become_6 2 rfl rfl (n := 7) rfl ?_
  refine g_aload_n X dX5_become_7 1 rfl rfl (n := 8) rfl ?_
  refine g_get X dX5_become_8 flX5_21 2 rfl (v := .int u.2) rfl (n := 11) rfl ?_
  refine g_icmp_ge X dX5_become_11 (t := 30) (by decide) (n := 14) rfl (fun c_1 => ?_) (fun c_1 => ?_)
  · replace hf := k_pos c_1 hf
    obtain rfl := Option.some.inj hf
    exact hret _ _ dX5_become_30
  · replace hf := k_neg c_1 hf
    refine g_aload_n X dX5_become_14 0 rfl rfl (n := 15) rfl ?_
    refine g_aload_n X dX5_become_15 1 rfl rfl (n := 16) rfl ?_
    refine g_iload_n X dX5_become_16 2 rfl rfl (n := 17) rfl ?_
    obtain ⟨x_2, g_3, hf⟩ := k_b1s hf
    refine g_callV X (mX5_signAt (D := D) (l := l) (a0 := b0) (a1 := b1) (n := nb) g_3) lk_X5_signAt mlX5_28 dX5_become_17 (n := 20) rfl (st := [.ref a0]) rfl (st2 := [.int x_2, .ref a0]) rfl [2, 3] rfl rfl rfl rfl rfl rfl (ws2 := pic_X5 D a0 a1 n t ++ pic_X5 D b0 b1 nb u) rfl rfl rfl ⟨Nat.le_of_ble_eq_true rfl, Nat.le_of_ble_eq_true rfl⟩ (Nat.le_of_ble_eq_true rfl) ?_
    obtain ⟨x_4, t_5, g_6, hf⟩ := k_b2s hf
    refine g_callV X (mX5_append (D := D) (l := l) (a0 := a0) (a1 := a1) (n := n) g_6) lk_X5_append mlX5_32 dX5_become_20 (n := 23) rfl (st := []) rfl (st2 := [.int (bI x_4)]) rfl [0, 1] rfl rfl rfl rfl rfl rfl (ws2 := pic_X5 D a0 a1 n t_5 ++ pic_X5 D b0 b1 nb u) rfl rfl rfl ⟨Nat.le_of_ble_eq_true rfl, Nat.le_of_ble_eq_true rfl⟩ (Nat.le_of_ble_eq_true rfl) ?_
    refine g_pop X dX5_become_23 rfl (n := 24) rfl ?_
    refine g_iinc X dX5_become_24 2 rfl (v := v2 + 1) rfl (by decide) (lv2 := [(2, .int (v2 + 1)), (0, .ref a0), (1, .ref b0)]) rfl (n := 27) rfl ?_
    refine g_goto X dX5_become_27 (n := 6) (by decide) ?_
    refine g_sub [1, 2, 0] (lv' := [(0, .ref a0), (1, .ref b0), (2, .int (v2 + 1))]) rfl ?_
    exact hk6 _ _ hf
set_option maxRecDepth 100000 in
set_option maxHeartbeats 4000000 in
theorem wX5_become_l6 {D : va_G} {l : Launch} {E : k_E} {N : Nat} {a0 a1 : Nat} {n : Nat} {b0 b1 : Nat} {nb : Nat} {u : VX5} {res : VX5} (X : k_X D E cX5_become RX5 3 1 21) (hret : ∀ (pc : Nat) (lv : List (Nat × Value)), decode cX5_become pc = .ok (.return_, 1) → k_G D l E (pic_X5 D a0 a1 n res ++ pic_X5 D b0 b1 nb u) lv pc []) : ∀ (n0 : Nat) (v2 : Int32) (t : VX5), fX5_become_l6 N n nb u n0 v2 t = some res → k_G D l E (pic_X5 D a0 a1 n t ++ pic_X5 D b0 b1 nb u) [(0, .ref a0), (1, .ref b0), (2, .int v2)] 6 [] := by
  intro n0
  induction n0 with
  | zero => intro v2 t hf; cases hf
  | succ n0 ih => intro v2 t hf; exact wX5_become_b6 (N := N) (k6 := fX5_become_l6 N n nb u n0) X  ih hret hf
set_option maxRecDepth 100000 in
set_option maxHeartbeats 4000000 in
theorem wX5_become {D : va_G} {l : Launch} {E : k_E} {N : Nat} {a0 a1 : Nat} {n : Nat} {b0 b1 : Nat} {nb : Nat} {t : VX5} {u : VX5} {res : VX5} (X : k_X D E cX5_become RX5 3 1 21) (hret : ∀ (pc : Nat) (lv : List (Nat × Value)), decode cX5_become pc = .ok (.return_, 1) → k_G D l E (pic_X5 D a0 a1 n res ++ pic_X5 D b0 b1 nb u) lv pc []) (hf : fX5_become N n nb u t = some res) : k_G D l E (pic_X5 D a0 a1 n t ++ pic_X5 D b0 b1 nb u) [(0, .ref a0), (1, .ref b0)] 0 [] := by
  unfold fX5_become at hf
  refine g_aload_n X dX5_become_0 0 rfl rfl (n := 1) rfl ?_
  obtain ⟨t_1, g_2, hf⟩ := k_b1s hf
  refine g_callV X (mX5_clear (D := D) (l := l) (a0 := a0) (a1 := a1) (n := n) g_2) lk_X5_clear mlX5_25 dX5_become_1 (n := 4) rfl (st := []) rfl (st2 := []) rfl [0, 1] rfl rfl rfl rfl rfl rfl (ws2 := pic_X5 D a0 a1 n t_1 ++ pic_X5 D b0 b1 nb u) rfl rfl rfl ⟨Nat.le_of_ble_eq_true rfl, Nat.le_of_ble_eq_true rfl⟩ (Nat.le_of_ble_eq_true rfl) ?_
  refine g_iconst X dX5_become_4 (v := 0) (by decide) (n := 5) rfl ?_
  refine g_istore_n X dX5_become_5 rfl (by decide) (lv2 := [(2, .int 0), (0, .ref a0), (1, .ref b0)]) rfl (n := 6) rfl ?_
  refine g_sub [1, 2, 0] (lv' := [(0, .ref a0), (1, .ref b0), (2, .int 0)]) rfl ?_
  exact wX5_become_l6 X  hret _ _ _ hf
set_option maxRecDepth 100000 in
set_option maxHeartbeats 4000000 in
theorem mX5_become {l : Launch} {D : va_G} {N : Nat} {a0 a1 : Nat} {n : Nat} {b0 b1 : Nat} {nb : Nat} {t : VX5} {u : VX5} {res : VX5} (hf : fX5_become N n nb u t = some res) : k_Met l yX5_become cX5_become 3 none 1 21 D [.ref a0, .ref b0] (pic_X5 D a0 a1 n t ++ pic_X5 D b0 b1 nb u) none (pic_X5 D a0 a1 n res ++ pic_X5 D b0 b1 nb u) :=
  k_of_v (by decide) (Nat.le_of_ble_eq_true rfl) (fun E X hret => wX5_become X hret hf)
set_option maxRecDepth 100000 in
set_option maxHeartbeats 4000000 in
theorem wX3_become {D : va_G} {l : Launch} {E : k_E} {N : Nat} {a0 a1 a2 a3 a4 a5 : Nat} {b0 b1 b2 b3 b4 b5 : Nat} {r : VX3} {g : VX3} {res : VX3} (X : k_X D E cX3_become RX3 2 2 61) (hret : ∀ (pc : Nat) (lv : List (Nat × Value)), decode cX3_become pc = .ok (.return_, 1) → k_G D l E (pic_X3 D a0 a1 a2 a3 a4 a5 res ++ pic_X3 D b0 b1 b2 b3 b4 b5 g) lv pc []) (hf : fX3_become N g r = some res) : k_G D l E (pic_X3 D a0 a1 a2 a3 a4 a5 r ++ pic_X3 D b0 b1 b2 b3 b4 b5 g) [(0, .ref a0), (1, .ref b0)] 0 [] := by
  unfold fX3_become at hf
  refine g_aload_n X dX3_become_0 1 rfl rfl (n := 1) rfl ?_
  refine g_get X dX3_become_1 flX3_9 6 rfl (v := .ref b1) rfl (n := 4) rfl ?_
  refine g_aload_n X dX3_become_4 0 rfl rfl (n := 5) rfl ?_
  refine g_get X dX3_become_5 flX3_9 0 rfl (v := .ref a1) rfl (n := 8) rfl ?_
  obtain ⟨r_1, g_2, hf⟩ := k_b1s hf
  refine g_callS X (mX3_copy_60 (D := D) (l := l) (b0 := b1) (c0 := a1) g_2) lk_X3_copy mlX3_50 dX3_become_8 (n := 11) rfl (st := []) rfl (st2 := []) rfl [7, 1] rfl rfl rfl (ws2 := pic_X3 D a0 a1 a2 a3 a4 a5 (r_1, r.2.1, r.2.2.1, r.2.2.2.1, r.2.2.2.2.1, r.2.2.2.2.2.1, r.2.2.2.2.2.2) ++ pic_X3 D b0 b1 b2 b3 b4 b5 g) rfl rfl rfl ⟨Nat.le_of_ble_eq_true rfl, Nat.le_of_ble_eq_true rfl⟩ (Nat.le_of_ble_eq_true rfl) ?_
  refine g_aload_n X dX3_become_11 1 rfl rfl (n := 12) rfl ?_
  refine g_get X dX3_become_12 flX3_15 6 rfl (v := .ref b2) rfl (n := 15) rfl ?_
  refine g_aload_n X dX3_become_15 0 rfl rfl (n := 16) rfl ?_
  refine g_get X dX3_become_16 flX3_15 0 rfl (v := .ref a2) rfl (n := 19) rfl ?_
  obtain ⟨r_3, g_4, hf⟩ := k_b1s hf
  refine g_callS X (mX3_copy_6 (D := D) (l := l) (b0 := b2) (c0 := a2) g_4) lk_X3_copy mlX3_50 dX3_become_19 (n := 22) rfl (st := []) rfl (st2 := []) rfl [8, 2] rfl rfl rfl (ws2 := pic_X3 D a0 a1 a2 a3 a4 a5 (r_1, r_3, r.2.2.1, r.2.2.2.1, r.2.2.2.2.1, r.2.2.2.2.2.1, r.2.2.2.2.2.2) ++ pic_X3 D b0 b1 b2 b3 b4 b5 g) rfl rfl rfl ⟨Nat.le_of_ble_eq_true rfl, Nat.le_of_ble_eq_true rfl⟩ (Nat.le_of_ble_eq_true rfl) ?_
  refine g_aload_n X dX3_become_22 1 rfl rfl (n := 23) rfl ?_
  refine g_get X dX3_become_23 flX3_18 6 rfl (v := .ref b3) rfl (n := 26) rfl ?_
  refine g_aload_n X dX3_become_26 0 rfl rfl (n := 27) rfl ?_
  refine g_get X dX3_become_27 flX3_18 0 rfl (v := .ref a3) rfl (n := 30) rfl ?_
  obtain ⟨r_5, g_6, hf⟩ := k_b1s hf
  refine g_callS X (mX3_copy_6 (D := D) (l := l) (b0 := b3) (c0 := a3) g_6) lk_X3_copy mlX3_50 dX3_become_30 (n := 33) rfl (st := []) rfl (st2 := []) rfl [9, 3] rfl rfl rfl (ws2 := pic_X3 D a0 a1 a2 a3 a4 a5 (r_1, r_3, r_5, r.2.2.2.1, r.2.2.2.2.1, r.2.2.2.2.2.1, r.2.2.2.2.2.2) ++ pic_X3 D b0 b1 b2 b3 b4 b5 g) rfl rfl rfl ⟨Nat.le_of_ble_eq_true rfl, Nat.le_of_ble_eq_true rfl⟩ (Nat.le_of_ble_eq_true rfl) ?_
  refine g_aload_n X dX3_become_33 0 rfl rfl (n := 34) rfl ?_
  refine g_get X dX3_become_34 flX3_26 0 rfl (v := .ref a4) rfl (n := 37) rfl ?_
  refine g_aload_n X dX3_become_37 1 rfl rfl (n := 38) rfl ?_
  refine g_get X dX3_become_38 flX3_26 6 rfl (v := .ref b4) rfl (n := 41) rfl ?_
  obtain ⟨r_7, g_8, hf⟩ := k_b1s hf
  refine g_callV X (mX5_become (D := D) (l := l) (a0 := a4) (a1 := a5) (n := 11) (b0 := b4) (b1 := b5) (nb := 11) g_8) lk_X5_become mlX3_54 dX3_become_41 (n := 44) rfl (st := []) rfl (st2 := []) rfl [4, 5, 10, 11] rfl rfl rfl rfl rfl rfl (ws2 := pic_X3 D a0 a1 a2 a3 a4 a5 (r_1, r_3, r_5, r_7, r.2.2.2.2.1, r.2.2.2.2.2.1, r.2.2.2.2.2.2) ++ pic_X3 D b0 b1 b2 b3 b4 b5 g) rfl rfl rfl ⟨Nat.le_of_ble_eq_true rfl, Nat.le_of_ble_eq_true rfl⟩ (Nat.le_of_ble_eq_true rfl) ?_
  refine g_aload_n X dX3_become_44 0 rfl rfl (n := 45) rfl ?_
  refine g_aload_n X dX3_become_45 1 rfl rfl (n := 46) rfl ?_
  refine g_get X dX3_become_46 flX3_58 6 rfl (v := .int g.2.2.2.2.1) rfl (n := 49) rfl ?_
  refine g_put X dX3_become_49 flX3_58 0 rfl rfl rfl (Nat.le_of_ble_eq_true rfl) (ws2 := pic_X3 D a0 a1 a2 a3 a4 a5 (r_1, r_3, r_5, r_7, g.2.2.2.2.1, r.2.2.2.2.2.1, r.2.2.2.2.2.2) ++ pic_X3 D b0 b1 b2 b3 b4 b5 g) rfl (n := 52) rfl ?_
  refine g_aload_n X dX3_become_52 0 rfl rfl (n := 53) rfl ?_
  refine g_aload_n X dX3_become_53 1 rfl rfl (n := 54) rfl ?_
  refine g_get X dX3_become_54 flX3_30 6 rfl (v := .int g.2.2.2.2.2.1) rfl (n := 57) rfl ?_
  refine g_put X dX3_become_57 flX3_30 0 rfl rfl rfl (Nat.le_of_ble_eq_true rfl) (ws2 := pic_X3 D a0 a1 a2 a3 a4 a5 (r_1, r_3, r_5, r_7, g.2.2.2.2.1, g.2.2.2.2.2.1, r.2.2.2.2.2.2) ++ pic_X3 D b0 b1 b2 b3 b4 b5 g) rfl (n := 60) rfl ?_
  obtain rfl := Option.some.inj hf
  exact hret _ _ dX3_become_60
set_option maxRecDepth 100000 in
set_option maxHeartbeats 4000000 in
theorem mX3_become {l : Launch} {D : va_G} {N : Nat} {a0 a1 a2 a3 a4 a5 : Nat} {b0 b1 b2 b3 b4 b5 : Nat} {r : VX3} {g : VX3} {res : VX3} (hf : fX3_become N g r = some res) : k_Met l yX3_become cX3_become 2 none 2 61 D [.ref a0, .ref b0] (pic_X3 D a0 a1 a2 a3 a4 a5 r ++ pic_X3 D b0 b1 b2 b3 b4 b5 g) none (pic_X3 D a0 a1 a2 a3 a4 a5 res ++ pic_X3 D b0 b1 b2 b3 b4 b5 g) :=
  k_of_v (by decide) (Nat.le_of_ble_eq_true rfl) (fun E X hret => wX3_become X hret hf)
set_option maxRecDepth 100000 in
set_option maxHeartbeats 4000000 in
theorem wX3_sizeOf {D : va_G} {l : Launch} {E : k_E} {a0 a1 a2 a3 a4 a5 : Nat} {p1 : Int32} {r : VX3} {res : Int32} (X : k_X D E cX3_sizeOf RX3 2 0 0) (hret : ∀ (pc : Nat) (lv : List (Nat × Value)), decode cX3_sizeOf pc = .ok (.ireturn, 1) → k_G D l E (pic_X3 D a0 a1 a2 a3 a4 a5 r) lv pc [.int res]) (hf : fX3_sizeOf r p1 = some res) : k_G D l E (pic_X3 D a0 a1 a2 a3 a4 a5 r) [(0, .ref a0), (1, .int p1)] 0 [] := by
  unfold fX3_sizeOf at hf
  refine g_iload_n X dX3_sizeOf_0 1 rfl rfl (n := 1) rfl ?_
  refine g_if_lt X dX3_sizeOf_1 (t := 22) (by decide) (n := 4) rfl (fun c_1 => ?_) (fun c_1 => ?_)
  · replace hf := k_pos c_1 hf
    refine g_iconst X dX3_sizeOf_22 (v := 0) (by decide) (n := 23) rfl ?_
    obtain rfl := Option.some.inj hf
    exact hret _ _ dX3_sizeOf_23
  · replace hf := k_neg c_1 hf
    refine g_iload_n X dX3_sizeOf_4 1 rfl rfl (n := 5) rfl ?_
    refine g_aload_n X dX3_sizeOf_5 0 rfl rfl (n := 6) rfl ?_
    refine g_get X dX3_sizeOf_6 flX3_15 0 rfl (v := .ref a2) rfl (n := 9) rfl ?_
    refine g_alen X dX3_sizeOf_9 2 0 rfl rfl (v := 6) rfl (n := 10) rfl ?_
    refine g_icmp_ge X dX3_sizeOf_10 (t := 22) (by decide) (n := 13) rfl (fun c_2 => ?_) (fun c_2 => ?_)
    · replace hf := k_pos c_2 hf
      refine g_iconst X dX3_sizeOf_22 (v := 0) (by decide) (n := 23) rfl ?_
      obtain rfl := Option.some.inj hf
      exact hret _ _ dX3_sizeOf_23
    · replace hf := k_neg c_2 hf
      refine g_aload_n X dX3_sizeOf_13 0 rfl rfl (n := 14) rfl ?_
      refine g_get X dX3_sizeOf_14 flX3_15 0 rfl (v := .ref a2) rfl (n := 17) rfl ?_
      refine g_iload_n X dX3_sizeOf_17 1 rfl rfl (n := 18) rfl ?_
      obtain ⟨h_3, hf⟩ := k_guard hf
      refine g_iaload X dX3_sizeOf_18 2 (f := r.2.1) rfl rfl h_3 (n := 19) rfl ?_
      refine g_goto X dX3_sizeOf_19 (n := 23) (by decide) ?_
      obtain rfl := Option.some.inj hf
      exact hret _ _ dX3_sizeOf_23
set_option maxRecDepth 100000 in
set_option maxHeartbeats 4000000 in
theorem mX3_sizeOf {l : Launch} {D : va_G} {a0 a1 a2 a3 a4 a5 : Nat} {p1 : Int32} {r : VX3} {res : Int32} (hf : fX3_sizeOf r p1 = some res) : k_Met l yX3_sizeOf cX3_sizeOf 2 (some .int) 0 0 D [.ref a0, .int p1] (pic_X3 D a0 a1 a2 a3 a4 a5 r) (some (.int res)) (pic_X3 D a0 a1 a2 a3 a4 a5 r) :=
  k_of_i (by decide) (Nat.le_of_ble_eq_true rfl) (fun E X hret => wX3_sizeOf X hret hf)
set_option maxRecDepth 100000 in
set_option maxHeartbeats 4000000 in
theorem wX3_signOf {D : va_G} {l : Launch} {E : k_E} {a0 a1 a2 a3 a4 a5 : Nat} {p1 : Int32} {p2 : Int32} {r : VX3} {res : Int32} (X : k_X D E cX3_signOf RX3 4 1 21) (hret : ∀ (pc : Nat) (lv : List (Nat × Value)), decode cX3_signOf pc = .ok (.ireturn, 1) → k_G D l E (pic_X3 D a0 a1 a2 a3 a4 a5 r) lv pc [.int res]) (hf : fX3_signOf r p1 p2 = some res) : k_G D l E (pic_X3 D a0 a1 a2 a3 a4 a5 r) [(0, .ref a0), (1, .int p1), (2, .int p2)] 0 [] := by
  unfold fX3_signOf at hf
  refine g_iload_n X dX3_signOf_0 2 rfl rfl (n := 1) rfl ?_
  refine g_if_lt X dX3_signOf_1 (t := 13) (by decide) (n := 4) rfl (fun c_1 => ?_) (fun c_1 => ?_)
  · replace hf := k_pos c_1 hf
    refine g_bipush X dX3_signOf_13 (v := (-6)) (by decide) (n := 15) rfl ?_
    obtain rfl := Option.some.inj hf
    exact hret _ _ dX3_signOf_15
  · replace hf := k_neg c_1 hf
    refine g_iload_n X dX3_signOf_4 2 rfl rfl (n := 5) rfl ?_
    refine g_aload_n X dX3_signOf_5 0 rfl rfl (n := 6) rfl ?_
    refine g_iload_n X dX3_signOf_6 1 rfl rfl (n := 7) rfl ?_
    obtain ⟨x_2, g_3, hf⟩ := k_b1s hf
    refine g_callV X (mX3_sizeOf (D := D) (l := l) (a0 := a0) (a1 := a1) (a2 := a2) (a3 := a3) (a4 := a4) (a5 := a5) g_3) lk_X3_sizeOf mlX3_73 dX3_signOf_7 (n := 10) rfl (st := [.int p2]) rfl (st2 := [.int x_2, .int p2]) rfl [0, 1, 2, 3, 4, 5] rfl rfl rfl rfl rfl rfl (ws2 := pic_X3 D a0 a1 a2 a3 a4 a5 r) rfl rfl rfl ⟨Nat.le_of_ble_eq_true rfl, Nat.le_of_ble_eq_true rfl⟩ (Nat.le_of_ble_eq_true rfl) ?_
    refine g_icmp_lt X dX3_signOf_10 (t := 16) (by decide) (n := 13) rfl (fun c_4 => ?_) (fun c_4 => ?_)
    · replace hf := k_pos c_4 hf
      refine g_iload_n X dX3_signOf_16 1 rfl rfl (n := 17) rfl ?_
      refine g_bipush X dX3_signOf_17 (v := 10) (by decide) (n := 19) rfl ?_
      refine g_imul X dX3_signOf_19 (n := 20) rfl ?_
      refine g_iload_n X dX3_signOf_20 2 rfl rfl (n := 21) rfl ?_
      refine g_iadd X dX3_signOf_21 (n := 22) rfl ?_
      refine g_istore_n X dX3_signOf_22 rfl (by decide) (lv2 := [(3, .int ((p1 * 10) + p2)), (0, .ref a0), (1, .int p1), (2, .int p2)]) rfl (n := 23) rfl ?_
      refine g_iload_n X dX3_signOf_23 0 rfl rfl (n := 24) rfl ?_
      refine g_if_lt X dX3_signOf_24 (t := 45) (by decide) (n := 27) rfl (fun c_5 => ?_) (fun c_5 => ?_)
      · replace hf := k_pos c_5 hf
        refine g_bipush X dX3_signOf_45 (v := (-6)) (by decide) (n := 47) rfl ?_
        obtain rfl := Option.some.inj hf
        exact hret _ _ dX3_signOf_47
      · replace hf := k_neg c_5 hf
        refine g_iload_n X dX3_signOf_27 0 rfl rfl (n := 28) rfl ?_
        refine g_aload_n X dX3_signOf_28 1 rfl rfl (n := 29) rfl ?_
        refine g_get X dX3_signOf_29 flX3_9 0 rfl (v := .ref a1) rfl (n := 32) rfl ?_
        refine g_alen X dX3_signOf_32 1 0 rfl rfl (v := 60) rfl (n := 33) rfl ?_
        refine g_icmp_ge X dX3_signOf_33 (t := 45) (by decide) (n := 36) rfl (fun c_6 => ?_) (fun c_6 => ?_)
        · replace hf := k_pos c_6 hf
          refine g_bipush X dX3_signOf_45 (v := (-6)) (by decide) (n := 47) rfl ?_
          obtain rfl := Option.some.inj hf
          exact hret _ _ dX3_signOf_47
        · replace hf := k_neg c_6 hf
          refine g_aload_n X dX3_signOf_36 1 rfl rfl (n := 37) rfl ?_
          refine g_get X dX3_signOf_37 flX3_9 0 rfl (v := .ref a1) rfl (n := 40) rfl ?_
          refine g_iload_n X dX3_signOf_40 0 rfl rfl (n := 41) rfl ?_
          obtain ⟨h_7, hf⟩ := k_guard hf
          refine g_iaload X dX3_signOf_41 1 (f := r.1) rfl rfl h_7 (n := 42) rfl ?_
          refine g_goto X dX3_signOf_42 (n := 47) (by decide) ?_
          obtain rfl := Option.some.inj hf
          exact hret _ _ dX3_signOf_47
    · replace hf := k_neg c_4 hf
      refine g_bipush X dX3_signOf_13 (v := (-6)) (by decide) (n := 15) rfl ?_
      obtain rfl := Option.some.inj hf
      exact hret _ _ dX3_signOf_15
set_option maxRecDepth 100000 in
set_option maxHeartbeats 4000000 in
theorem mX3_signOf {l : Launch} {D : va_G} {a0 a1 a2 a3 a4 a5 : Nat} {p1 : Int32} {p2 : Int32} {r : VX3} {res : Int32} (hf : fX3_signOf r p1 p2 = some res) : k_Met l yX3_signOf cX3_signOf 4 (some .int) 1 21 D [.ref a0, .int p1, .int p2] (pic_X3 D a0 a1 a2 a3 a4 a5 r) (some (.int res)) (pic_X3 D a0 a1 a2 a3 a4 a5 r) :=
  k_of_i (by decide) (Nat.le_of_ble_eq_true rfl) (fun E X hret => wX3_signOf X hret hf)
set_option maxRecDepth 100000 in
set_option maxHeartbeats 4000000 in
theorem wX3_fillSheet_b63 {D : va_G} {l : Launch} {E : k_E} {N : Nat} {a0 a1 a2 a3 a4 a5 : Nat} {b0 b1 : Nat} {n : Nat} {k25 : Int32 → Int32 → VX3 → Option (VX3)} {v1 : Int32} {v3 : Int32} {r : VX3} {u : VX5} {res : VX3} (X : k_X D E cX3_fillSheet RX3 5 1 21) (hk25 : ∀ (v1 : Int32) (v3 : Int32) (r : VX3), k25 v1 v3 r = some res → k_G D l E (pic_X3 D a0 a1 a2 a3 a4 a5 r ++ pic_X5 D b0 b1 n u) [(0, .ref a0), (1, .int v1), (2, .ref b0), (3, .int v3)] 25 []) (hret : ∀ (pc : Nat) (lv : List (Nat × Value)), decode cX3_fillSheet pc = .ok (.return_, 1) → k_G D l E (pic_X3 D a0 a1 a2 a3 a4 a5 res ++ pic_X5 D b0 b1 n u) lv pc []) (hf : fX3_fillSheet_b63 N n u k25 v1 v3 r = some res) : k_G D l E (pic_X3 D a0 a1 a2 a3 a4 a5 r ++ pic_X5 D b0 b1 n u) [(0, .ref a0), (1, .int v1), (2, .ref b0), (3, .int v3)] 63 [] := by
  unfold fX3_fillSheet_b63 at hf
  refine g_iinc X dX3_fillSheet_63 3 rfl (v := v3 + 1) rfl (by decide) (lv2 := [(3, .int (v3 + 1)), (0, .ref a0), (1, .int v1), (2, .ref b0)]) rfl (n := 66) rfl ?_
  refine g_goto X dX3_fillSheet_66 (n := 25) (by decide) ?_
  refine g_sub [1, 2, 3, 0] (lv' := [(0, .ref a0), (1, .int v1), (2, .ref b0), (3, .int (v3 + 1))]) rfl ?_
  exact hk25 _ _ _ hf
set_option maxRecDepth 100000 in
set_option maxHeartbeats 4000000 in
theorem wX3_fillSheet_b25 {D : va_G} {l : Launch} {E : k_E} {N : Nat} {a0 a1 a2 a3 a4 a5 : Nat} {b0 b1 : Nat} {n : Nat} {k25 : Int32 → Int32 → VX3 → Option (VX3)} {v1 : Int32} {v3 : Int32} {r : VX3} {u : VX5} {res : VX3} (X : k_X D E cX3_fillSheet RX3 5 1 21) (hk25 : ∀ (v1 : Int32) (v3 : Int32) (r : VX3), k25 v1 v3 r = some res → k_G D l E (pic_X3 D a0 a1 a2 a3 a4 a5 r ++ pic_X5 D b0 b1 n u) [(0, .ref a0), (1, .int v1), (2, .ref b0), (3, .int v3)] 25 []) (hret : ∀ (pc : Nat) (lv : List (Nat × Value)), decode cX3_fillSheet pc = .ok (.return_, 1) → k_G D l E (pic_X3 D a0 a1 a2 a3 a4 a5 res ++ pic_X5 D b0 b1 n u) lv pc []) (hf : fX3_fillSheet_b25 N n u k25 v1 v3 r = some res) : k_G D l E (pic_X3 D a0 a1 a2 a3 a4 a5 r ++ pic_X5 D b0 b1 n u) [(0, .ref a0), (1, .int v1), (2, .ref b0), (3, .int v3)] 25 [] := by
  unfold fX3_fillSheet_b25 at hf
  refine g_iload_n X dX3_fillSheet_25 3 rfl rfl (n := 26) rfl ?_
  refine g_aload_n X dX3_fillSheet_26 2 rfl rfl (n := 27) rfl ?_
  refine g_getN X dX3_fillSheet_27 flX3_77 6 rfl (v := .int u.2) rfl (n := 30) rfl ?_
  refine g_icmp_ge X dX3_fillSheet_30 (t := 69) (by decide) (n := 33) rfl (fun c_1 => ?_) (fun c_1 => ?_)
  · replace hf := k_pos c_1 hf
    refine g_aload_n X dX3_fillSheet_69 0 rfl rfl (n := 70) rfl ?_
    refine g_get X dX3_fillSheet_70 flX3_15 0 rfl (v := .ref a2) rfl (n := 73) rfl ?_
    refine g_iload_n X dX3_fillSheet_73 1 rfl rfl (n := 74) rfl ?_
    refine g_aload_n X dX3_fillSheet_74 2 rfl rfl (n := 75) rfl ?_
    refine g_getN X dX3_fillSheet_75 flX3_77 6 rfl (v := .int u.2) rfl (n := 78) rfl ?_
    obtain ⟨h_2, hf⟩ := k_guard hf
    refine g_iastore X dX3_fillSheet_78 2 (f := r.2.1) rfl rfl h_2 (ws2 := pic_X3 D a0 a1 a2 a3 a4 a5 (r.1, upd r.2.1 (v1).toNatClampNeg u.2, r.2.2.1, r.2.2.2.1, r.2.2.2.2.1, r.2.2.2.2.2.1, r.2.2.2.2.2.2) ++ pic_X5 D b0 b1 n u) rfl (n := 79) rfl ?_
    obtain rfl := Option.some.inj hf
    exact hret _ _ dX3_fillSheet_79
  · replace hf := k_neg c_1 hf
    refine g_iload_n X dX3_fillSheet_33 1 rfl rfl (n := 34) rfl ?_
    refine g_bipush X dX3_fillSheet_34 (v := 10) (by decide) (n := 36) rfl ?_
    refine g_imul X dX3_fillSheet_36 (n := 37) rfl ?_
    refine g_iload_n X dX3_fillSheet_37 3 rfl rfl (n := 38) rfl ?_
    refine g_iadd X dX3_fillSheet_38 (n := 39) rfl ?_
    refine g_istore X dX3_fillSheet_39 (by decide) (lv2 := [(4, .int ((v1 * 10) + v3)), (0, .ref a0), (1, .int v1), (2, .ref b0), (3, .int v3)]) rfl (n := 41) rfl ?_
    refine g_iload X dX3_fillSheet_41 0 rfl (n := 43) rfl ?_
    refine g_aload_n X dX3_fillSheet_43 1 rfl rfl (n := 44) rfl ?_
    refine g_get X dX3_fillSheet_44 flX3_9 0 rfl (v := .ref a1) rfl (n := 47) rfl ?_
    refine g_alen X dX3_fillSheet_47 1 0 rfl rfl (v := 60) rfl (n := 48) rfl ?_
    refine g_icmp_ge X dX3_fillSheet_48 (t := 63) (by decide) (n := 51) rfl (fun c_3 => ?_) (fun c_3 => ?_)
    · replace hf := k_pos c_3 hf
      refine g_sub [1, 2, 3, 4] (lv' := [(0, .ref a0), (1, .int v1), (2, .ref b0), (3, .int v3)]) rfl ?_
      exact wX3_fillSheet_b63 X hk25 hret hf
    · replace hf := k_neg c_3 hf
      refine g_aload_n X dX3_fillSheet_51 1 rfl rfl (n := 52) rfl ?_
      refine g_get X dX3_fillSheet_52 flX3_9 0 rfl (v := .ref a1) rfl (n := 55) rfl ?_
      refine g_iload X dX3_fillSheet_55 0 rfl (n := 57) rfl ?_
      refine g_aload_n X dX3_fillSheet_57 3 rfl rfl (n := 58) rfl ?_
      refine g_iload_n X dX3_fillSheet_58 4 rfl rfl (n := 59) rfl ?_
      obtain ⟨x_4, g_5, hf⟩ := k_b1s hf
      refine g_callV X (mX5_signAt (D := D) (l := l) (a0 := b0) (a1 := b1) (n := n) g_5) lk_X5_signAt mlX3_80 dX3_fillSheet_59 (n := 62) rfl (st := [.int ((v1 * 10) + v3), .ref a1]) rfl (st2 := [.int x_4, .int ((v1 * 10) + v3), .ref a1]) rfl [6, 7] rfl rfl rfl rfl rfl rfl (ws2 := pic_X3 D a0 a1 a2 a3 a4 a5 r ++ pic_X5 D b0 b1 n u) rfl rfl rfl ⟨Nat.le_of_ble_eq_true rfl, Nat.le_of_ble_eq_true rfl⟩ (Nat.le_of_ble_eq_true rfl) ?_
      obtain ⟨h_6, hf⟩ := k_guard hf
      refine g_iastore X dX3_fillSheet_62 1 (f := r.1) rfl rfl h_6 (ws2 := pic_X3 D a0 a1 a2 a3 a4 a5 (upd r.1 (((v1 * 10) + v3)).toNatClampNeg x_4, r.2.1, r.2.2.1, r.2.2.2.1, r.2.2.2.2.1, r.2.2.2.2.2.1, r.2.2.2.2.2.2) ++ pic_X5 D b0 b1 n u) rfl (n := 63) rfl ?_
      refine g_sub [1, 2, 3, 4] (lv' := [(0, .ref a0), (1, .int v1), (2, .ref b0), (3, .int v3)]) rfl ?_
      exact wX3_fillSheet_b63 X hk25 hret hf
set_option maxRecDepth 100000 in
set_option maxHeartbeats 4000000 in
theorem wX3_fillSheet_l25 {D : va_G} {l : Launch} {E : k_E} {N : Nat} {a0 a1 a2 a3 a4 a5 : Nat} {b0 b1 : Nat} {n : Nat} {u : VX5} {res : VX3} (X : k_X D E cX3_fillSheet RX3 5 1 21) (hret : ∀ (pc : Nat) (lv : List (Nat × Value)), decode cX3_fillSheet pc = .ok (.return_, 1) → k_G D l E (pic_X3 D a0 a1 a2 a3 a4 a5 res ++ pic_X5 D b0 b1 n u) lv pc []) : ∀ (n0 : Nat) (v1 : Int32) (v3 : Int32) (r : VX3), fX3_fillSheet_l25 N n u n0 v1 v3 r = some res → k_G D l E (pic_X3 D a0 a1 a2 a3 a4 a5 r ++ pic_X5 D b0 b1 n u) [(0, .ref a0), (1, .int v1), (2, .ref b0), (3, .int v3)] 25 [] := by
  intro n0
  induction n0 with
  | zero => intro v1 v3 r hf; cases hf
  | succ n0 ih => intro v1 v3 r hf; exact wX3_fillSheet_b25 (N := N) (k25 := fX3_fillSheet_l25 N n u n0) X  ih hret hf
set_option maxRecDepth 100000 in
set_option maxHeartbeats 4000000 in
theorem wX3_fillSheet {D : va_G} {l : Launch} {E : k_E} {N : Nat} {a0 a1 a2 a3 a4 a5 : Nat} {b0 b1 : Nat} {n : Nat} {p1 : Int32} {r : VX3} {u : VX5} {res : VX3} (X : k_X D E cX3_fillSheet RX3 5 1 21) (hret : ∀ (pc : Nat) (lv : List (Nat × Value)), decode cX3_fillSheet pc = .ok (.return_, 1) → k_G D l E (pic_X3 D a0 a1 a2 a3 a4 a5 res ++ pic_X5 D b0 b1 n u) lv pc []) (hf : fX3_fillSheet N n u p1 r = some res) : k_G D l E (pic_X3 D a0 a1 a2 a3 a4 a5 r ++ pic_X5 D b0 b1 n u) [(0, .ref a0), (1, .int p1), (2, .ref b0)] 0 [] := by
  unfold fX3_fillSheet at hf
  refine g_iload_n X dX3_fillSheet_0 1 rfl rfl (n := 1) rfl ?_
  refine g_if_lt X dX3_fillSheet_1 (t := 22) (by decide) (n := 4) rfl (fun c_1 => ?_) (fun c_1 => ?_)
  · replace hf := k_pos c_1 hf
    obtain rfl := Option.some.inj hf
    exact hret _ _ dX3_fillSheet_22
  · replace hf := k_neg c_1 hf
    refine g_iload_n X dX3_fillSheet_4 1 rfl rfl (n := 5) rfl ?_
    refine g_aload_n X dX3_fillSheet_5 0 rfl rfl (n := 6) rfl ?_
    refine g_get X dX3_fillSheet_6 flX3_15 0 rfl (v := .ref a2) rfl (n := 9) rfl ?_
    refine g_alen X dX3_fillSheet_9 2 0 rfl rfl (v := 6) rfl (n := 10) rfl ?_
    refine g_icmp_ge X dX3_fillSheet_10 (t := 22) (by decide) (n := 13) rfl (fun c_2 => ?_) (fun c_2 => ?_)
    · replace hf := k_pos c_2 hf
      obtain rfl := Option.some.inj hf
      exact hret _ _ dX3_fillSheet_22
    · replace hf := k_neg c_2 hf
      refine g_aload_n X dX3_fillSheet_13 2 rfl rfl (n := 14) rfl ?_
      refine g_getN X dX3_fillSheet_14 flX3_77 6 rfl (v := .int u.2) rfl (n := 17) rfl ?_
      refine g_bipush X dX3_fillSheet_17 (v := 10) (by decide) (n := 19) rfl ?_
      refine g_icmp_le X dX3_fillSheet_19 (t := 23) (by decide) (n := 22) rfl (fun c_3 => ?_) (fun c_3 => ?_)
      · replace hf := k_pos c_3 hf
        refine g_iconst X dX3_fillSheet_23 (v := 0) (by decide) (n := 24) rfl ?_
        refine g_istore_n X dX3_fillSheet_24 rfl (by decide) (lv2 := [(3, .int 0), (0, .ref a0), (1, .int p1), (2, .ref b0)]) rfl (n := 25) rfl ?_
        refine g_sub [1, 2, 3, 0] (lv' := [(0, .ref a0), (1, .int p1), (2, .ref b0), (3, .int 0)]) rfl ?_
        exact wX3_fillSheet_l25 X  hret _ _ _ _ hf
      · replace hf := k_neg c_3 hf
        obtain rfl := Option.some.inj hf
        exact hret _ _ dX3_fillSheet_22
set_option maxRecDepth 100000 in
set_option maxHeartbeats 4000000 in
theorem mX3_fillSheet {l : Launch} {D : va_G} {N : Nat} {a0 a1 a2 a3 a4 a5 : Nat} {b0 b1 : Nat} {n : Nat} {p1 : Int32} {r : VX3} {u : VX5} {res : VX3} (hf : fX3_fillSheet N n u p1 r = some res) : k_Met l yX3_fillSheet cX3_fillSheet 5 none 1 21 D [.ref a0, .int p1, .ref b0] (pic_X3 D a0 a1 a2 a3 a4 a5 r ++ pic_X5 D b0 b1 n u) none (pic_X3 D a0 a1 a2 a3 a4 a5 res ++ pic_X5 D b0 b1 n u) :=
  k_of_v (by decide) (Nat.le_of_ble_eq_true rfl) (fun E X hret => wX3_fillSheet X hret hf)
set_option maxRecDepth 100000 in
set_option maxHeartbeats 4000000 in
theorem wX3_gathererOf {D : va_G} {l : Launch} {E : k_E} {a0 a1 a2 a3 a4 a5 : Nat} {p1 : Int32} {r : VX3} {res : Int32} (X : k_X D E cX3_gathererOf RX3 2 0 0) (hret : ∀ (pc : Nat) (lv : List (Nat × Value)), decode cX3_gathererOf pc = .ok (.ireturn, 1) → k_G D l E (pic_X3 D a0 a1 a2 a3 a4 a5 r) lv pc [.int res]) (hf : fX3_gathererOf r p1 = some res) : k_G D l E (pic_X3 D a0 a1 a2 a3 a4 a5 r) [(0, .ref a0), (1, .int p1)] 0 [] := by
  unfold fX3_gathererOf at hf
  refine g_iload_n X dX3_gathererOf_0 1 rfl rfl (n := 1) rfl ?_
  refine g_if_lt X dX3_gathererOf_1 (t := 22) (by decide) (n := 4) rfl (fun c_1 => ?_) (fun c_1 => ?_)
  · replace hf := k_pos c_1 hf
    refine g_bipush X dX3_gathererOf_22 (v := (-6)) (by decide) (n := 24) rfl ?_
    obtain rfl := Option.some.inj hf
    exact hret _ _ dX3_gathererOf_24
  · replace hf := k_neg c_1 hf
    refine g_iload_n X dX3_gathererOf_4 1 rfl rfl (n := 5) rfl ?_
    refine g_aload_n X dX3_gathererOf_5 0 rfl rfl (n := 6) rfl ?_
    refine g_get X dX3_gathererOf_6 flX3_18 0 rfl (v := .ref a3) rfl (n := 9) rfl ?_
    refine g_alen X dX3_gathererOf_9 3 0 rfl rfl (v := 6) rfl (n := 10) rfl ?_
    refine g_icmp_ge X dX3_gathererOf_10 (t := 22) (by decide) (n := 13) rfl (fun c_2 => ?_) (fun c_2 => ?_)
    · replace hf := k_pos c_2 hf
      refine g_bipush X dX3_gathererOf_22 (v := (-6)) (by decide) (n := 24) rfl ?_
      obtain rfl := Option.some.inj hf
      exact hret _ _ dX3_gathererOf_24
    · replace hf := k_neg c_2 hf
      refine g_aload_n X dX3_gathererOf_13 0 rfl rfl (n := 14) rfl ?_
      refine g_get X dX3_gathererOf_14 flX3_18 0 rfl (v := .ref a3) rfl (n := 17) rfl ?_
      refine g_iload_n X dX3_gathererOf_17 1 rfl rfl (n := 18) rfl ?_
      obtain ⟨h_3, hf⟩ := k_guard hf
      refine g_iaload X dX3_gathererOf_18 3 (f := r.2.2.1) rfl rfl h_3 (n := 19) rfl ?_
      refine g_goto X dX3_gathererOf_19 (n := 24) (by decide) ?_
      obtain rfl := Option.some.inj hf
      exact hret _ _ dX3_gathererOf_24
set_option maxRecDepth 100000 in
set_option maxHeartbeats 4000000 in
theorem mX3_gathererOf {l : Launch} {D : va_G} {a0 a1 a2 a3 a4 a5 : Nat} {p1 : Int32} {r : VX3} {res : Int32} (hf : fX3_gathererOf r p1 = some res) : k_Met l yX3_gathererOf cX3_gathererOf 2 (some .int) 0 0 D [.ref a0, .int p1] (pic_X3 D a0 a1 a2 a3 a4 a5 r) (some (.int res)) (pic_X3 D a0 a1 a2 a3 a4 a5 r) :=
  k_of_i (by decide) (Nat.le_of_ble_eq_true rfl) (fun E X hret => wX3_gathererOf X hret hf)
set_option maxRecDepth 100000 in
set_option maxHeartbeats 4000000 in
theorem wX3_giveTo {D : va_G} {l : Launch} {E : k_E} {a0 a1 a2 a3 a4 a5 : Nat} {p1 : Int32} {p2 : Int32} {r : VX3} {res : Int32 × VX3} (X : k_X D E cX3_giveTo RX3 4 1 21) (hret : ∀ (pc : Nat) (lv : List (Nat × Value)), decode cX3_giveTo pc = .ok (.ireturn, 1) → k_G D l E (pic_X3 D a0 a1 a2 a3 a4 a5 res.2) lv pc [.int res.1]) (hf : fX3_giveTo p1 p2 r = some res) : k_G D l E (pic_X3 D a0 a1 a2 a3 a4 a5 r) [(0, .ref a0), (1, .int p1), (2, .int p2)] 0 [] := by
  unfold fX3_giveTo at hf
  refine g_aload_n X dX3_giveTo_0 0 rfl rfl (n := 1) rfl ?_
  refine g_iload_n X dX3_giveTo_1 1 rfl rfl (n := 2) rfl ?_
  obtain ⟨x_1, g_2, hf⟩ := k_b1s hf
  refine g_callV X (mX3_gathererOf (D := D) (l := l) (a0 := a0) (a1 := a1) (a2 := a2) (a3 := a3) (a4 := a4) (a5 := a5) g_2) lk_X3_gathererOf mlX3_83 dX3_giveTo_2 (n := 5) rfl (st := []) rfl (st2 := [.int x_1]) rfl [0, 1, 2, 3, 4, 5] rfl rfl rfl rfl rfl rfl (ws2 := pic_X3 D a0 a1 a2 a3 a4 a5 r) rfl rfl rfl ⟨Nat.le_of_ble_eq_true rfl, Nat.le_of_ble_eq_true rfl⟩ (Nat.le_of_ble_eq_true rfl) ?_
  refine g_istore_n X dX3_giveTo_5 rfl (by decide) (lv2 := [(3, .int x_1), (0, .ref a0), (1, .int p1), (2, .int p2)]) rfl (n := 6) rfl ?_
  refine g_iload_n X dX3_giveTo_6 2 rfl rfl (n := 7) rfl ?_
  refine g_if_lt X dX3_giveTo_7 (t := 26) (by decide) (n := 10) rfl (fun c_3 => ?_) (fun c_3 => ?_)
  · replace hf := k_pos c_3 hf
    refine g_iload_n X dX3_giveTo_26 0 rfl rfl (n := 27) rfl ?_
    obtain rfl := Option.some.inj hf
    exact hret _ _ dX3_giveTo_27
  · replace hf := k_neg c_3 hf
    refine g_iload_n X dX3_giveTo_10 2 rfl rfl (n := 11) rfl ?_
    refine g_aload_n X dX3_giveTo_11 1 rfl rfl (n := 12) rfl ?_
    refine g_get X dX3_giveTo_12 flX3_18 0 rfl (v := .ref a3) rfl (n := 15) rfl ?_
    refine g_alen X dX3_giveTo_15 3 0 rfl rfl (v := 6) rfl (n := 16) rfl ?_
    refine g_icmp_ge X dX3_giveTo_16 (t := 26) (by decide) (n := 19) rfl (fun c_4 => ?_) (fun c_4 => ?_)
    · replace hf := k_pos c_4 hf
      refine g_iload_n X dX3_giveTo_26 0 rfl rfl (n := 27) rfl ?_
      obtain rfl := Option.some.inj hf
      exact hret _ _ dX3_giveTo_27
    · replace hf := k_neg c_4 hf
      refine g_aload_n X dX3_giveTo_19 1 rfl rfl (n := 20) rfl ?_
      refine g_get X dX3_giveTo_20 flX3_18 0 rfl (v := .ref a3) rfl (n := 23) rfl ?_
      refine g_iload_n X dX3_giveTo_23 2 rfl rfl (n := 24) rfl ?_
      refine g_iload_n X dX3_giveTo_24 3 rfl rfl (n := 25) rfl ?_
      obtain ⟨h_5, hf⟩ := k_guard hf
      refine g_iastore X dX3_giveTo_25 3 (f := r.2.2.1) rfl rfl h_5 (ws2 := pic_X3 D a0 a1 a2 a3 a4 a5 (r.1, r.2.1, upd r.2.2.1 (p1).toNatClampNeg p2, r.2.2.2.1, r.2.2.2.2.1, r.2.2.2.2.2.1, r.2.2.2.2.2.2)) rfl (n := 26) rfl ?_
      refine g_iload_n X dX3_giveTo_26 0 rfl rfl (n := 27) rfl ?_
      obtain rfl := Option.some.inj hf
      exact hret _ _ dX3_giveTo_27
set_option maxRecDepth 100000 in
set_option maxHeartbeats 4000000 in
theorem mX3_giveTo {l : Launch} {D : va_G} {a0 a1 a2 a3 a4 a5 : Nat} {p1 : Int32} {p2 : Int32} {r : VX3} {res : Int32 × VX3} (hf : fX3_giveTo p1 p2 r = some res) : k_Met l yX3_giveTo cX3_giveTo 4 (some .int) 1 21 D [.ref a0, .int p1, .int p2] (pic_X3 D a0 a1 a2 a3 a4 a5 r) (some (.int res.1)) (pic_X3 D a0 a1 a2 a3 a4 a5 res.2) :=
  k_of_i (by decide) (Nat.le_of_ble_eq_true rfl) (fun E X hret => wX3_giveTo X hret hf)
set_option maxRecDepth 100000 in
set_option maxHeartbeats 4000000 in
theorem wX3_isStruck {D : va_G} {l : Launch} {E : k_E} {a0 a1 a2 a3 a4 a5 : Nat} {p1 : Int32} {r : VX3} {res : Bool} (X : k_X D E cX3_isStruck RX3 2 0 0) (hret : ∀ (pc : Nat) (lv : List (Nat × Value)), decode cX3_isStruck pc = .ok (.ireturn, 1) → k_G D l E (pic_X3 D a0 a1 a2 a3 a4 a5 r) lv pc [.int (bI res)]) (hf : fX3_isStruck r p1 = some res) : k_G D l E (pic_X3 D a0 a1 a2 a3 a4 a5 r) [(0, .ref a0), (1, .int p1)] 0 [] := by
  unfold fX3_isStruck at hf
  refine g_aload_n X dX3_isStruck_0 0 rfl rfl (n := 1) rfl ?_
  refine g_get X dX3_isStruck_1 flX3_58 0 rfl (v := .int r.2.2.2.2.1) rfl (n := 4) rfl ?_
  refine g_iload_n X dX3_isStruck_4 1 rfl rfl (n := 5) rfl ?_
  refine g_ishr X dX3_isStruck_5 (n := 6) rfl ?_
  refine g_iconst X dX3_isStruck_6 (v := 1) (by decide) (n := 7) rfl ?_
  refine g_iand X dX3_isStruck_7 (n := 8) rfl ?_
  refine g_if_eq X dX3_isStruck_8 (t := 15) (by decide) (n := 11) rfl (fun c_1 => ?_) (fun c_1 => ?_)
  · replace hf := k_pos c_1 hf
    refine g_iconst X dX3_isStruck_15 (v := 0) (by decide) (n := 16) rfl ?_
    obtain rfl := Option.some.inj hf
    exact hret _ _ dX3_isStruck_16
  · replace hf := k_neg c_1 hf
    refine g_iconst X dX3_isStruck_11 (v := 1) (by decide) (n := 12) rfl ?_
    refine g_goto X dX3_isStruck_12 (n := 16) (by decide) ?_
    obtain rfl := Option.some.inj hf
    exact hret _ _ dX3_isStruck_16
set_option maxRecDepth 100000 in
set_option maxHeartbeats 4000000 in
theorem mX3_isStruck {l : Launch} {D : va_G} {a0 a1 a2 a3 a4 a5 : Nat} {p1 : Int32} {r : VX3} {res : Bool} (hf : fX3_isStruck r p1 = some res) : k_Met l yX3_isStruck cX3_isStruck 2 (some .boolean) 0 0 D [.ref a0, .int p1] (pic_X3 D a0 a1 a2 a3 a4 a5 r) (some (.int (bI res))) (pic_X3 D a0 a1 a2 a3 a4 a5 r) :=
  k_of_z (by decide) (Nat.le_of_ble_eq_true rfl) (fun E X hret => wX3_isStruck X hret hf)
set_option maxRecDepth 100000 in
set_option maxHeartbeats 4000000 in
theorem wX3_strikeOut {D : va_G} {l : Launch} {E : k_E} {a0 a1 a2 a3 a4 a5 : Nat} {p1 : Int32} {p2 : Int32} {r : VX3} {res : Int32 × VX3} (X : k_X D E cX3_strikeOut RX3 4 0 0) (hret : ∀ (pc : Nat) (lv : List (Nat × Value)), decode cX3_strikeOut pc = .ok (.ireturn, 1) → k_G D l E (pic_X3 D a0 a1 a2 a3 a4 a5 res.2) lv pc [.int res.1]) (hf : fX3_strikeOut p1 p2 r = some res) : k_G D l E (pic_X3 D a0 a1 a2 a3 a4 a5 r) [(0, .ref a0), (1, .int p1), (2, .int p2)] 0 [] := by
  unfold fX3_strikeOut at hf
  refine g_aload_n X dX3_strikeOut_0 0 rfl rfl (n := 1) rfl ?_
  refine g_get X dX3_strikeOut_1 flX3_58 0 rfl (v := .int r.2.2.2.2.1) rfl (n := 4) rfl ?_
  refine g_iload_n X dX3_strikeOut_4 1 rfl rfl (n := 5) rfl ?_
  refine g_ishr X dX3_strikeOut_5 (n := 6) rfl ?_
  refine g_iconst X dX3_strikeOut_6 (v := 1) (by decide) (n := 7) rfl ?_
  refine g_iand X dX3_strikeOut_7 (n := 8) rfl ?_
  refine g_istore_n X dX3_strikeOut_8 rfl (by decide) (lv2 := [(3, .int ((r.2.2.2.2.1 >>> (p1 &&& 31)) &&& 1)), (0, .ref a0), (1, .int p1), (2, .int p2)]) rfl (n := 9) rfl ?_
  refine g_aload_n X dX3_strikeOut_9 1 rfl rfl (n := 10) rfl ?_
  refine g_aload_n X dX3_strikeOut_10 1 rfl rfl (n := 11) rfl ?_
  refine g_get X dX3_strikeOut_11 flX3_58 0 rfl (v := .int r.2.2.2.2.1) rfl (n := 14) rfl ?_
  refine g_iconst X dX3_strikeOut_14 (v := 1) (by decide) (n := 15) rfl ?_
  refine g_iload_n X dX3_strikeOut_15 2 rfl rfl (n := 16) rfl ?_
  refine g_ishl X dX3_strikeOut_16 (n := 17) rfl ?_
  refine g_iconst X dX3_strikeOut_17 (v := (-1)) (by decide) (n := 18) rfl ?_
  refine g_ixor X dX3_strikeOut_18 (n := 19) rfl ?_
  refine g_iand X dX3_strikeOut_19 (n := 20) rfl ?_
  refine g_iload_n X dX3_strikeOut_20 3 rfl rfl (n := 21) rfl ?_
  refine g_iload_n X dX3_strikeOut_21 2 rfl rfl (n := 22) rfl ?_
  refine g_ishl X dX3_strikeOut_22 (n := 23) rfl ?_
  refine g_ior X dX3_strikeOut_23 (n := 24) rfl ?_
  refine g_put X dX3_strikeOut_24 flX3_58 0 rfl rfl rfl (Nat.le_of_ble_eq_true rfl) (ws2 := pic_X3 D a0 a1 a2 a3 a4 a5 (r.1, r.2.1, r.2.2.1, r.2.2.2.1, ((r.2.2.2.2.1 &&& (((1 : Int32) <<< (p1 &&& 31)) ^^^ (-1))) ||| (p2 <<< (p1 &&& 31))), r.2.2.2.2.2.1, r.2.2.2.2.2.2)) rfl (n := 27) rfl ?_
  refine g_iload_n X dX3_strikeOut_27 0 rfl rfl (n := 28) rfl ?_
  obtain rfl := Option.some.inj hf
  exact hret _ _ dX3_strikeOut_28
set_option maxRecDepth 100000 in
set_option maxHeartbeats 4000000 in
theorem mX3_strikeOut {l : Launch} {D : va_G} {a0 a1 a2 a3 a4 a5 : Nat} {p1 : Int32} {p2 : Int32} {r : VX3} {res : Int32 × VX3} (hf : fX3_strikeOut p1 p2 r = some res) : k_Met l yX3_strikeOut cX3_strikeOut 4 (some .int) 0 0 D [.ref a0, .int p1, .int p2] (pic_X3 D a0 a1 a2 a3 a4 a5 r) (some (.int res.1)) (pic_X3 D a0 a1 a2 a3 a4 a5 res.2) :=
  k_of_i (by decide) (Nat.le_of_ble_eq_true rfl) (fun E X hret => wX3_strikeOut X hret hf)
set_option maxRecDepth 100000 in
set_option maxHeartbeats 4000000 in
theorem wX4_clear_b2 {D : va_G} {l : Launch} {E : k_E} {N : Nat} {a0 a1 : Nat} {k2 : Int32 → VX4 → Option (VX4)} {v1 : Int32} {y : VX4} {res : VX4} (X : k_X D E cX4_clear RX4 2 0 0) (hk2 : ∀ (v1 : Int32) (y : VX4), k2 v1 y = some res → k_G D l E (pic_X4 D a0 a1 y) [(0, .ref a0), (1, .int v1)] 2 []) (hret : ∀ (pc : Nat) (lv : List (Nat × Value)), decode cX4_clear pc = .ok (.return_, 1) → k_G D l E (pic_X4 D a0 a1 res) lv pc []) (hf : fX4_clear_b2 N k2 v1 y = some res) : k_G D l E (pic_X4 D a0 a1 y) [(0, .ref a0), (1, .int v1)] 2 [] := by
  unfold fX4_clear_b2 at hf
  refine g_iload_n X dX4_clear_2 1 rfl rfl (n := 3) rfl ?_
  refine g_aload_n X dX4_clear_3 0 rfl rfl (n := 4) rfl ?_
  refine g_get X dX4_clear_4 flX4_9 0 rfl (v := .ref a1) rfl (n := 7) rfl ?_
  refine g_alen X dX4_clear_7 1 0 rfl rfl (v := 26) rfl (n := 8) rfl ?_
  refine g_icmp_ge X dX4_clear_8 (t := 24) (by decide) (n := 11) rfl (fun c_1 => ?_) (fun c_1 => ?_)
  · replace hf := k_pos c_1 hf
    refine g_aload_n X dX4_clear_24 0 rfl rfl (n := 25) rfl ?_
    refine g_iconst X dX4_clear_25 (v := 0) (by decide) (n := 26) rfl ?_
    refine g_put X dX4_clear_26 flX4_15 0 rfl rfl rfl (Nat.le_of_ble_eq_true rfl) (ws2 := pic_X4 D a0 a1 (y.1, (0 : Int32), y.2.2.1, y.2.2.2.1, y.2.2.2.2.1, y.2.2.2.2.2.1, y.2.2.2.2.2.2)) rfl (n := 29) rfl ?_
    refine g_aload_n X dX4_clear_29 0 rfl rfl (n := 30) rfl ?_
    refine g_iconst X dX4_clear_30 (v := 0) (by decide) (n := 31) rfl ?_
    refine g_put X dX4_clear_31 flX4_19 0 rfl rfl rfl (Nat.le_of_ble_eq_true rfl) (ws2 := pic_X4 D a0 a1 (y.1, (0 : Int32), (0 : Int32), y.2.2.2.1, y.2.2.2.2.1, y.2.2.2.2.2.1, y.2.2.2.2.2.2)) rfl (n := 34) rfl ?_
    refine g_aload_n X dX4_clear_34 0 rfl rfl (n := 35) rfl ?_
    refine g_iconst X dX4_clear_35 (v := 0) (by decide) (n := 36) rfl ?_
    refine g_put X dX4_clear_36 flX4_22 0 rfl rfl rfl (Nat.le_of_ble_eq_true rfl) (ws2 := pic_X4 D a0 a1 (y.1, (0 : Int32), (0 : Int32), (0 : Int32), y.2.2.2.2.1, y.2.2.2.2.2.1, y.2.2.2.2.2.2)) rfl (n := 39) rfl ?_
    refine g_aload_n X dX4_clear_39 0 rfl rfl (n := 40) rfl ?_
    refine g_iconst X dX4_clear_40 (v := 0) (by decide) (n := 41) rfl ?_
    refine g_put X dX4_clear_41 flX4_25 0 rfl rfl rfl (Nat.le_of_ble_eq_true rfl) (ws2 := pic_X4 D a0 a1 (y.1, (0 : Int32), (0 : Int32), (0 : Int32), (0 : Int32), y.2.2.2.2.2.1, y.2.2.2.2.2.2)) rfl (n := 44) rfl ?_
    refine g_aload_n X dX4_clear_44 0 rfl rfl (n := 45) rfl ?_
    refine g_iconst X dX4_clear_45 (v := 0) (by decide) (n := 46) rfl ?_
    refine g_put X dX4_clear_46 flX4_28 0 rfl rfl rfl (Nat.le_of_ble_eq_true rfl) (ws2 := pic_X4 D a0 a1 (y.1, (0 : Int32), (0 : Int32), (0 : Int32), (0 : Int32), (0 : Int32), y.2.2.2.2.2.2)) rfl (n := 49) rfl ?_
    refine g_aload_n X dX4_clear_49 0 rfl rfl (n := 50) rfl ?_
    refine g_iconst X dX4_clear_50 (v := 0) (by decide) (n := 51) rfl ?_
    refine g_put X dX4_clear_51 flX4_31 0 rfl rfl rfl (Nat.le_of_ble_eq_true rfl) (ws2 := pic_X4 D a0 a1 (y.1, (0 : Int32), (0 : Int32), (0 : Int32), (0 : Int32), (0 : Int32), false)) rfl (n := 54) rfl ?_
    obtain rfl := Option.some.inj hf
    exact hret _ _ dX4_clear_54
  · replace hf := k_neg c_1 hf
    refine g_aload_n X dX4_clear_11 0 rfl rfl (n := 12) rfl ?_
    refine g_get X dX4_clear_12 flX4_9 0 rfl (v := .ref a1) rfl (n := 15) rfl ?_
    refine g_iload_n X dX4_clear_15 1 rfl rfl (n := 16) rfl ?_
    refine g_iconst X dX4_clear_16 (v := 0) (by decide) (n := 17) rfl ?_
    obtain ⟨h_2, hf⟩ := k_guard hf
    refine g_iastore X dX4_clear_17 1 (f := y.1) rfl rfl h_2 (ws2 := pic_X4 D a0 a1 (upd y.1 (v1).toNatClampNeg 0, y.2.1, y.2.2.1, y.2.2.2.1, y.2.2.2.2.1, y.2.2.2.2.2.1, y.2.2.2.2.2.2)) rfl (n := 18) rfl ?_
    refine g_iinc X dX4_clear_18 1 rfl (v := v1 + 1) rfl (by decide) (lv2 := [(1, .int (v1 + 1)), (0, .ref a0)]) rfl (n := 21) rfl ?_
    refine g_goto X dX4_clear_21 (n := 2) (by decide) ?_
    refine g_sub [1, 0] (lv' := [(0, .ref a0), (1, .int (v1 + 1))]) rfl ?_
    exact hk2 _ _ hf
set_option maxRecDepth 100000 in
set_option maxHeartbeats 4000000 in
theorem wX4_clear_l2 {D : va_G} {l : Launch} {E : k_E} {N : Nat} {a0 a1 : Nat} {res : VX4} (X : k_X D E cX4_clear RX4 2 0 0) (hret : ∀ (pc : Nat) (lv : List (Nat × Value)), decode cX4_clear pc = .ok (.return_, 1) → k_G D l E (pic_X4 D a0 a1 res) lv pc []) : ∀ (n0 : Nat) (v1 : Int32) (y : VX4), fX4_clear_l2 N n0 v1 y = some res → k_G D l E (pic_X4 D a0 a1 y) [(0, .ref a0), (1, .int v1)] 2 [] := by
  intro n0
  induction n0 with
  | zero => intro v1 y hf; cases hf
  | succ n0 ih => intro v1 y hf; exact wX4_clear_b2 (N := N) (k2 := fX4_clear_l2 N n0) X  ih hret hf
set_option maxRecDepth 100000 in
set_option maxHeartbeats 4000000 in
theorem wX4_clear {D : va_G} {l : Launch} {E : k_E} {N : Nat} {a0 a1 : Nat} {y : VX4} {res : VX4} (X : k_X D E cX4_clear RX4 2 0 0) (hret : ∀ (pc : Nat) (lv : List (Nat × Value)), decode cX4_clear pc = .ok (.return_, 1) → k_G D l E (pic_X4 D a0 a1 res) lv pc []) (hf : fX4_clear N y = some res) : k_G D l E (pic_X4 D a0 a1 y) [(0, .ref a0)] 0 [] := by
  unfold fX4_clear at hf
  refine g_iconst X dX4_clear_0 (v := 0) (by decide) (n := 1) rfl ?_
  refine g_istore_n X dX4_clear_1 rfl (by decide) (lv2 := [(1, .int 0), (0, .ref a0)]) rfl (n := 2) rfl ?_
  refine g_sub [1, 0] (lv' := [(0, .ref a0), (1, .int 0)]) rfl ?_
  exact wX4_clear_l2 X  hret _ _ _ hf
set_option maxRecDepth 100000 in
set_option maxHeartbeats 4000000 in
theorem mX4_clear {l : Launch} {D : va_G} {N : Nat} {a0 a1 : Nat} {y : VX4} {res : VX4} (hf : fX4_clear N y = some res) : k_Met l yX4_clear cX4_clear 2 none 0 0 D [.ref a0] (pic_X4 D a0 a1 y) none (pic_X4 D a0 a1 res) :=
  k_of_v (by decide) (Nat.le_of_ble_eq_true rfl) (fun E X hret => wX4_clear X hret hf)
set_option maxRecDepth 100000 in
set_option maxHeartbeats 4000000 in
theorem wX6_isBad {D : va_G} {l : Launch} {E : k_E} {p0 : Int32} {res : Bool} (X : k_X D E cX6_isBad RX6 1 0 0) (hret : ∀ (pc : Nat) (lv : List (Nat × Value)), decode cX6_isBad pc = .ok (.ireturn, 1) → k_G D l E ([]) lv pc [.int (bI res)]) (hf : fX6_isBad p0 = some res) : k_G D l E ([]) [(0, .int p0)] 0 [] := by
  unfold fX6_isBad at hf
  refine g_iload_n X dX6_isBad_0 0 rfl rfl (n := 1) rfl ?_
  refine g_bipush X dX6_isBad_1 (v := 115) (by decide) (n := 3) rfl ?_
  refine g_icmp_eq X dX6_isBad_3 (t := 18) (by decide) (n := 6) rfl (fun c_1 => ?_) (fun c_1 => ?_)
  · replace hf := k_pos c_1 hf
    refine g_iconst X dX6_isBad_18 (v := 1) (by decide) (n := 19) rfl ?_
    refine g_goto X dX6_isBad_19 (n := 23) (by decide) ?_
    obtain rfl := Option.some.inj hf
    exact hret _ _ dX6_isBad_23
  · replace hf := k_neg c_1 hf
    refine g_iload_n X dX6_isBad_6 0 rfl rfl (n := 7) rfl ?_
    refine g_bipush X dX6_isBad_7 (v := 109) (by decide) (n := 9) rfl ?_
    refine g_icmp_eq X dX6_isBad_9 (t := 18) (by decide) (n := 12) rfl (fun c_2 => ?_) (fun c_2 => ?_)
    · replace hf := k_pos c_2 hf
      refine g_iconst X dX6_isBad_18 (v := 1) (by decide) (n := 19) rfl ?_
      refine g_goto X dX6_isBad_19 (n := 23) (by decide) ?_
      obtain rfl := Option.some.inj hf
      exact hret _ _ dX6_isBad_23
    · replace hf := k_neg c_2 hf
      refine g_iload_n X dX6_isBad_12 0 rfl rfl (n := 13) rfl ?_
      refine g_bipush X dX6_isBad_13 (v := 117) (by decide) (n := 15) rfl ?_
      refine g_icmp_ne X dX6_isBad_15 (t := 22) (by decide) (n := 18) rfl (fun c_3 => ?_) (fun c_3 => ?_)
      · replace hf := k_neg c_3 hf
        refine g_iconst X dX6_isBad_22 (v := 0) (by decide) (n := 23) rfl ?_
        obtain rfl := Option.some.inj hf
        exact hret _ _ dX6_isBad_23
      · replace hf := k_pos c_3 hf
        refine g_iconst X dX6_isBad_18 (v := 1) (by decide) (n := 19) rfl ?_
        refine g_goto X dX6_isBad_19 (n := 23) (by decide) ?_
        obtain rfl := Option.some.inj hf
        exact hret _ _ dX6_isBad_23
set_option maxRecDepth 100000 in
set_option maxHeartbeats 4000000 in
theorem mX6_isBad {l : Launch} {D : va_G} {p0 : Int32} {res : Bool} (hf : fX6_isBad p0 = some res) : k_Met l yX6_isBad cX6_isBad 1 (some .boolean) 0 0 D [.int p0] ([]) (some (.int (bI res))) ([]) :=
  k_of_z (by decide) (Nat.le_of_ble_eq_true rfl) (fun E X hret => wX6_isBad X hret hf)
set_option maxRecDepth 100000 in
set_option maxHeartbeats 4000000 in
theorem wX4_addPerson {D : va_G} {l : Launch} {E : k_E} {a0 a1 : Nat} {p1 : Int32} {y : VX4} {res : VX4} (X : k_X D E cX4_addPerson RX4 2 0 0) (hret : ∀ (pc : Nat) (lv : List (Nat × Value)), decode cX4_addPerson pc = .ok (.return_, 1) → k_G D l E (pic_X4 D a0 a1 res) lv pc []) (hf : fX4_addPerson p1 y = some res) : k_G D l E (pic_X4 D a0 a1 y) [(0, .ref a0), (1, .int p1)] 0 [] := by
  unfold fX4_addPerson at hf
  refine g_iload_n X dX4_addPerson_0 1 rfl rfl (n := 1) rfl ?_
  refine g_if_lt X dX4_addPerson_1 (t := 13) (by decide) (n := 4) rfl (fun c_1 => ?_) (fun c_1 => ?_)
  · replace hf := k_pos c_1 hf
    obtain rfl := Option.some.inj hf
    exact hret _ _ dX4_addPerson_13
  · replace hf := k_neg c_1 hf
    refine g_iload_n X dX4_addPerson_4 1 rfl rfl (n := 5) rfl ?_
    refine g_aload_n X dX4_addPerson_5 0 rfl rfl (n := 6) rfl ?_
    refine g_get X dX4_addPerson_6 flX4_9 0 rfl (v := .ref a1) rfl (n := 9) rfl ?_
    refine g_alen X dX4_addPerson_9 1 0 rfl rfl (v := 26) rfl (n := 10) rfl ?_
    refine g_icmp_lt X dX4_addPerson_10 (t := 14) (by decide) (n := 13) rfl (fun c_2 => ?_) (fun c_2 => ?_)
    · replace hf := k_pos c_2 hf
      refine g_aload_n X dX4_addPerson_14 0 rfl rfl (n := 15) rfl ?_
      refine g_get X dX4_addPerson_15 flX4_9 0 rfl (v := .ref a1) rfl (n := 18) rfl ?_
      refine g_iload_n X dX4_addPerson_18 1 rfl rfl (n := 19) rfl ?_
      refine g_dup2 X dX4_addPerson_19 rfl rfl (n := 20) rfl ?_
      obtain ⟨h_3, hf⟩ := k_guard hf
      refine g_iaload X dX4_addPerson_20 1 (f := y.1) rfl rfl h_3 (n := 21) rfl ?_
      refine g_iconst X dX4_addPerson_21 (v := 1) (by decide) (n := 22) rfl ?_
      refine g_iadd X dX4_addPerson_22 (n := 23) rfl ?_
      obtain ⟨h_4, hf⟩ := k_guard hf
      refine g_iastore X dX4_addPerson_23 1 (f := y.1) rfl rfl h_4 (ws2 := pic_X4 D a0 a1 (upd y.1 (p1).toNatClampNeg ((y.1 p1.toNatClampNeg) + 1), y.2.1, y.2.2.1, y.2.2.2.1, y.2.2.2.2.1, y.2.2.2.2.2.1, y.2.2.2.2.2.2)) rfl (n := 24) rfl ?_
      refine g_aload_n X dX4_addPerson_24 0 rfl rfl (n := 25) rfl ?_
      refine g_get X dX4_addPerson_25 flX4_9 0 rfl (v := .ref a1) rfl (n := 28) rfl ?_
      refine g_iload_n X dX4_addPerson_28 1 rfl rfl (n := 29) rfl ?_
      obtain ⟨h_5, hf⟩ := k_guard hf
      refine g_iaload X dX4_addPerson_29 1 (f := upd y.1 (p1).toNatClampNeg ((y.1 p1.toNatClampNeg) + 1)) rfl rfl h_5 (n := 30) rfl ?_
      refine g_iconst X dX4_addPerson_30 (v := 1) (by decide) (n := 31) rfl ?_
      refine g_icmp_ne X dX4_addPerson_31 (t := 47) (by decide) (n := 34) rfl (fun c_6 => ?_) (fun c_6 => ?_)
      · replace hf := k_neg c_6 hf
        refine g_aload_n X dX4_addPerson_47 0 rfl rfl (n := 48) rfl ?_
        refine g_get X dX4_addPerson_48 flX4_9 0 rfl (v := .ref a1) rfl (n := 51) rfl ?_
        refine g_iload_n X dX4_addPerson_51 1 rfl rfl (n := 52) rfl ?_
        obtain ⟨h_7, hf⟩ := k_guard hf
        refine g_iaload X dX4_addPerson_52 1 (f := upd y.1 (p1).toNatClampNeg ((y.1 p1.toNatClampNeg) + 1)) rfl rfl h_7 (n := 53) rfl ?_
        refine g_iconst X dX4_addPerson_53 (v := 2) (by decide) (n := 54) rfl ?_
        refine g_icmp_ne X dX4_addPerson_54 (t := 80) (by decide) (n := 57) rfl (fun c_8 => ?_) (fun c_8 => ?_)
        · replace hf := k_neg c_8 hf
          refine g_aload_n X dX4_addPerson_80 0 rfl rfl (n := 81) rfl ?_
          refine g_iconst X dX4_addPerson_81 (v := 1) (by decide) (n := 82) rfl ?_
          refine g_put X dX4_addPerson_82 flX4_31 0 rfl rfl rfl (Nat.le_of_ble_eq_true rfl) (ws2 := pic_X4 D a0 a1 (upd y.1 (p1).toNatClampNeg ((y.1 p1.toNatClampNeg) + 1), y.2.1, y.2.2.1, y.2.2.2.1, y.2.2.2.2.1, y.2.2.2.2.2.1, true)) rfl (n := 85) rfl ?_
          obtain rfl := Option.some.inj hf
          exact hret _ _ dX4_addPerson_85
        · replace hf := k_pos c_8 hf
          refine g_aload_n X dX4_addPerson_57 0 rfl rfl (n := 58) rfl ?_
          refine g_dup X dX4_addPerson_58 rfl (n := 59) rfl ?_
          refine g_get X dX4_addPerson_59 flX4_25 0 rfl (v := .int y.2.2.2.2.1) rfl (n := 62) rfl ?_
          refine g_iconst X dX4_addPerson_62 (v := 1) (by decide) (n := 63) rfl ?_
          refine g_isub X dX4_addPerson_63 (n := 64) rfl ?_
          refine g_put X dX4_addPerson_64 flX4_25 0 rfl rfl rfl (Nat.le_of_ble_eq_true rfl) (ws2 := pic_X4 D a0 a1 (upd y.1 (p1).toNatClampNeg ((y.1 p1.toNatClampNeg) + 1), y.2.1, y.2.2.1, y.2.2.2.1, (y.2.2.2.2.1 - 1), y.2.2.2.2.2.1, y.2.2.2.2.2.2)) rfl (n := 67) rfl ?_
          refine g_aload_n X dX4_addPerson_67 0 rfl rfl (n := 68) rfl ?_
          refine g_dup X dX4_addPerson_68 rfl (n := 69) rfl ?_
          refine g_get X dX4_addPerson_69 flX4_28 0 rfl (v := .int y.2.2.2.2.2.1) rfl (n := 72) rfl ?_
          refine g_iconst X dX4_addPerson_72 (v := 1) (by decide) (n := 73) rfl ?_
          refine g_iadd X dX4_addPerson_73 (n := 74) rfl ?_
          refine g_put X dX4_addPerson_74 flX4_28 0 rfl rfl rfl (Nat.le_of_ble_eq_true rfl) (ws2 := pic_X4 D a0 a1 (upd y.1 (p1).toNatClampNeg ((y.1 p1.toNatClampNeg) + 1), y.2.1, y.2.2.1, y.2.2.2.1, (y.2.2.2.2.1 - 1), (y.2.2.2.2.2.1 + 1), y.2.2.2.2.2.2)) rfl (n := 77) rfl ?_
          refine g_goto X dX4_addPerson_77 (n := 85) (by decide) ?_
          obtain rfl := Option.some.inj hf
          exact hret _ _ dX4_addPerson_85
      · replace hf := k_pos c_6 hf
        refine g_aload_n X dX4_addPerson_34 0 rfl rfl (n := 35) rfl ?_
        refine g_dup X dX4_addPerson_35 rfl (n := 36) rfl ?_
        refine g_get X dX4_addPerson_36 flX4_25 0 rfl (v := .int y.2.2.2.2.1) rfl (n := 39) rfl ?_
        refine g_iconst X dX4_addPerson_39 (v := 1) (by decide) (n := 40) rfl ?_
        refine g_iadd X dX4_addPerson_40 (n := 41) rfl ?_
        refine g_put X dX4_addPerson_41 flX4_25 0 rfl rfl rfl (Nat.le_of_ble_eq_true rfl) (ws2 := pic_X4 D a0 a1 (upd y.1 (p1).toNatClampNeg ((y.1 p1.toNatClampNeg) + 1), y.2.1, y.2.2.1, y.2.2.2.1, (y.2.2.2.2.1 + 1), y.2.2.2.2.2.1, y.2.2.2.2.2.2)) rfl (n := 44) rfl ?_
        refine g_goto X dX4_addPerson_44 (n := 85) (by decide) ?_
        obtain rfl := Option.some.inj hf
        exact hret _ _ dX4_addPerson_85
    · replace hf := k_neg c_2 hf
      obtain rfl := Option.some.inj hf
      exact hret _ _ dX4_addPerson_13
set_option maxRecDepth 100000 in
set_option maxHeartbeats 4000000 in
theorem mX4_addPerson {l : Launch} {D : va_G} {a0 a1 : Nat} {p1 : Int32} {y : VX4} {res : VX4} (hf : fX4_addPerson p1 y = some res) : k_Met l yX4_addPerson cX4_addPerson 2 none 0 0 D [.ref a0, .int p1] (pic_X4 D a0 a1 y) none (pic_X4 D a0 a1 res) :=
  k_of_v (by decide) (Nat.le_of_ble_eq_true rfl) (fun E X hret => wX4_addPerson X hret hf)
set_option maxRecDepth 100000 in
set_option maxHeartbeats 4000000 in
theorem wX4_add {D : va_G} {l : Launch} {E : k_E} {a0 a1 : Nat} {p1 : Int32} {y : VX4} {res : VX4} (X : k_X D E cX4_add RX4 2 1 21) (hret : ∀ (pc : Nat) (lv : List (Nat × Value)), decode cX4_add pc = .ok (.return_, 1) → k_G D l E (pic_X4 D a0 a1 res) lv pc []) (hf : fX4_add p1 y = some res) : k_G D l E (pic_X4 D a0 a1 y) [(0, .ref a0), (1, .int p1)] 0 [] := by
  unfold fX4_add at hf
  refine g_aload_n X dX4_add_0 0 rfl rfl (n := 1) rfl ?_
  refine g_dup X dX4_add_1 rfl (n := 2) rfl ?_
  refine g_get X dX4_add_2 flX4_15 0 rfl (v := .int y.2.1) rfl (n := 5) rfl ?_
  refine g_iconst X dX4_add_5 (v := 1) (by decide) (n := 6) rfl ?_
  refine g_iadd X dX4_add_6 (n := 7) rfl ?_
  refine g_put X dX4_add_7 flX4_15 0 rfl rfl rfl (Nat.le_of_ble_eq_true rfl) (ws2 := pic_X4 D a0 a1 (y.1, (y.2.1 + 1), y.2.2.1, y.2.2.2.1, y.2.2.2.2.1, y.2.2.2.2.2.1, y.2.2.2.2.2.2)) rfl (n := 10) rfl ?_
  refine g_iload_n X dX4_add_10 1 rfl rfl (n := 11) rfl ?_
  refine g_bipush X dX4_add_11 (v := 46) (by decide) (n := 13) rfl ?_
  refine g_icmp_ne X dX4_add_13 (t := 29) (by decide) (n := 16) rfl (fun c_1 => ?_) (fun c_1 => ?_)
  · replace hf := k_neg c_1 hf
    refine g_iload_n X dX4_add_29 1 rfl rfl (n := 30) rfl ?_
    obtain ⟨x_2, g_3, hf⟩ := k_b1s hf
    refine g_callSN0 X (mX6_isBad (D := D) (l := l)  g_3) lk_X6_isBad mlX4_52 dX4_add_30 (n := 33) rfl (st := []) rfl (st2 := [.int (bI x_2)]) rfl rfl ⟨Nat.le_of_ble_eq_true rfl, Nat.le_of_ble_eq_true rfl⟩ (Nat.le_of_ble_eq_true rfl) ?_
    refine g_if_eqB X dX4_add_33 (t := 49) (by decide) (n := 36) rfl (fun c_4 => ?_) (fun c_4 => ?_)
    · replace hf := k_neg c_4 hf
      refine g_aload_n X dX4_add_49 0 rfl rfl (n := 50) rfl ?_
      refine g_iload_n X dX4_add_50 1 rfl rfl (n := 51) rfl ?_
      refine g_bipush X dX4_add_51 (v := 65) (by decide) (n := 53) rfl ?_
      refine g_isub X dX4_add_53 (n := 54) rfl ?_
      obtain ⟨y_5, g_6, hf⟩ := k_b1s hf
      refine g_callV X (mX4_addPerson (D := D) (l := l) (a0 := a0) (a1 := a1) g_6) lk_X4_addPerson mlX4_56 dX4_add_54 (n := 57) rfl (st := []) rfl (st2 := []) rfl [0, 1] rfl rfl rfl rfl rfl rfl (ws2 := pic_X4 D a0 a1 y_5) rfl rfl rfl ⟨Nat.le_of_ble_eq_true rfl, Nat.le_of_ble_eq_true rfl⟩ (Nat.le_of_ble_eq_true rfl) ?_
      obtain rfl := Option.some.inj hf
      exact hret _ _ dX4_add_57
    · replace hf := k_pos c_4 hf
      refine g_aload_n X dX4_add_36 0 rfl rfl (n := 37) rfl ?_
      refine g_dup X dX4_add_37 rfl (n := 38) rfl ?_
      refine g_get X dX4_add_38 flX4_19 0 rfl (v := .int y.2.2.1) rfl (n := 41) rfl ?_
      refine g_iconst X dX4_add_41 (v := 1) (by decide) (n := 42) rfl ?_
      refine g_iadd X dX4_add_42 (n := 43) rfl ?_
      refine g_put X dX4_add_43 flX4_19 0 rfl rfl rfl (Nat.le_of_ble_eq_true rfl) (ws2 := pic_X4 D a0 a1 (y.1, (y.2.1 + 1), (y.2.2.1 + 1), y.2.2.2.1, y.2.2.2.2.1, y.2.2.2.2.2.1, y.2.2.2.2.2.2)) rfl (n := 46) rfl ?_
      refine g_goto X dX4_add_46 (n := 57) (by decide) ?_
      obtain rfl := Option.some.inj hf
      exact hret _ _ dX4_add_57
  · replace hf := k_pos c_1 hf
    refine g_aload_n X dX4_add_16 0 rfl rfl (n := 17) rfl ?_
    refine g_dup X dX4_add_17 rfl (n := 18) rfl ?_
    refine g_get X dX4_add_18 flX4_22 0 rfl (v := .int y.2.2.2.1) rfl (n := 21) rfl ?_
    refine g_iconst X dX4_add_21 (v := 1) (by decide) (n := 22) rfl ?_
    refine g_iadd X dX4_add_22 (n := 23) rfl ?_
    refine g_put X dX4_add_23 flX4_22 0 rfl rfl rfl (Nat.le_of_ble_eq_true rfl) (ws2 := pic_X4 D a0 a1 (y.1, (y.2.1 + 1), y.2.2.1, (y.2.2.2.1 + 1), y.2.2.2.2.1, y.2.2.2.2.2.1, y.2.2.2.2.2.2)) rfl (n := 26) rfl ?_
    refine g_goto X dX4_add_26 (n := 57) (by decide) ?_
    obtain rfl := Option.some.inj hf
    exact hret _ _ dX4_add_57
set_option maxRecDepth 100000 in
set_option maxHeartbeats 4000000 in
theorem mX4_add {l : Launch} {D : va_G} {a0 a1 : Nat} {p1 : Int32} {y : VX4} {res : VX4} (hf : fX4_add p1 y = some res) : k_Met l yX4_add cX4_add 2 none 1 21 D [.ref a0, .int p1] (pic_X4 D a0 a1 y) none (pic_X4 D a0 a1 res) :=
  k_of_v (by decide) (Nat.le_of_ble_eq_true rfl) (fun E X hret => wX4_add X hret hf)
