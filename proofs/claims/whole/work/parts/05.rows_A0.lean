/-! walks: X0_commonDivisor X0_become X0_half X0_lessen X0_isLessThan X1_choose X1_write X1_people X1_read X1_lay X1_valid X1_all -/
set_option maxRecDepth 100000 in
set_option maxHeartbeats 4000000 in
theorem wX0_commonDivisor_b15 {D : va_G} {l : Launch} {E : k_E} {N : Nat} {k15 : Int64 → Int64 → Int32 → Option (Int64)} {v4 : Int64} {v6 : Int64} {v8 : Int32} {res : Int64} (X : k_X D E cX0_commonDivisor RX0 11 1 21) (hk15 : ∀ (v4 : Int64) (v6 : Int64) (v8 : Int32) , k15 v4 v6 v8 = some res → k_G D l E ([]) [(4, .long v4), (6, .long v6), (8, .int v8)] 15 []) (hret : ∀ (pc : Nat) (lv : List (Nat × Value)), decode cX0_commonDivisor pc = .ok (.lreturn, 1) → k_G D l E ([]) lv pc [.long res]) (hf : fX0_commonDivisor_b15 N k15 v4 v6 v8 = some res) : k_G D l E ([]) [(4, .long v4), (6, .long v6), (8, .int v8)] 15 [] := by
  unfold fX0_commonDivisor_b15 at hf
  refine g_iload X dX0_commonDivisor_15 2 rfl (n := 17) rfl ?_
  refine g_sipush X dX0_commonDivisor_17 (v := 200) (by decide) (n := 20) rfl ?_
  refine g_icmp_ge X dX0_commonDivisor_20 (t := 51) (by decide) (n := 23) rfl (fun c_1 => ?_) (fun c_1 => ?_)
  · replace hf := k_pos c_1 hf
    refine g_lload X dX0_commonDivisor_51 0 rfl (n := 53) rfl ?_
    obtain rfl := Option.some.inj hf
    exact hret _ _ dX0_commonDivisor_53
  · replace hf := k_neg c_1 hf
    refine g_lload X dX0_commonDivisor_23 1 rfl (n := 25) rfl ?_
    refine g_lconst X dX0_commonDivisor_25 (v := 0) rfl (n := 26) rfl ?_
    refine g_lcmp_eq X dX0_commonDivisor_26 dX0_commonDivisor_27 (t := 51) (by decide) (n := 30) rfl (fun c_2 => ?_) (fun c_2 => ?_)
    · replace hf := k_pos c_2 hf
      refine g_lload X dX0_commonDivisor_51 0 rfl (n := 53) rfl ?_
      obtain rfl := Option.some.inj hf
      exact hret _ _ dX0_commonDivisor_53
    · replace hf := k_neg c_2 hf
      refine g_lload X dX0_commonDivisor_30 0 rfl (n := 32) rfl ?_
      refine g_lload X dX0_commonDivisor_32 1 rfl (n := 34) rfl ?_
      obtain ⟨h_3, hf⟩ := k_guardN hf
      refine g_lrem X dX0_commonDivisor_34 h_3 (n := 35) rfl ?_
      refine g_lstore X dX0_commonDivisor_35 (by decide) (lv2 := [(9, .long (v4 - v4 / v6 * v6)), (4, .long v4), (6, .long v6), (8, .int v8)]) rfl (n := 37) rfl ?_
      refine g_lload X dX0_commonDivisor_37 2 rfl (n := 39) rfl ?_
      refine g_lstore X dX0_commonDivisor_39 (by decide) (lv2 := [(4, .long v6), (9, .long (v4 - v4 / v6 * v6)), (6, .long v6), (8, .int v8)]) rfl (n := 41) rfl ?_
      refine g_lload X dX0_commonDivisor_41 1 rfl (n := 43) rfl ?_
      refine g_lstore X dX0_commonDivisor_43 (by decide) (lv2 := [(6, .long (v4 - v4 / v6 * v6)), (4, .long v6), (9, .long (v4 - v4 / v6 * v6)), (8, .int v8)]) rfl (n := 45) rfl ?_
      refine g_iinc X dX0_commonDivisor_45 3 rfl (v := v8 + 1) rfl (by decide) (lv2 := [(8, .int (v8 + 1)), (6, .long (v4 - v4 / v6 * v6)), (4, .long v6), (9, .long (v4 - v4 / v6 * v6))]) rfl (n := 48) rfl ?_
      refine g_goto X dX0_commonDivisor_48 (n := 15) (by decide) ?_
      refine g_sub [2, 1, 0] (lv' := [(4, .long v6), (6, .long (v4 - v4 / v6 * v6)), (8, .int (v8 + 1))]) rfl ?_
      exact hk15 _ _ _ hf
set_option maxRecDepth 100000 in
set_option maxHeartbeats 4000000 in
theorem wX0_commonDivisor_l15 {D : va_G} {l : Launch} {E : k_E} {N : Nat} {res : Int64} (X : k_X D E cX0_commonDivisor RX0 11 1 21) (hret : ∀ (pc : Nat) (lv : List (Nat × Value)), decode cX0_commonDivisor pc = .ok (.lreturn, 1) → k_G D l E ([]) lv pc [.long res]) : ∀ (n0 : Nat) (v4 : Int64) (v6 : Int64) (v8 : Int32) , fX0_commonDivisor_l15 N n0 v4 v6 v8 = some res → k_G D l E ([]) [(4, .long v4), (6, .long v6), (8, .int v8)] 15 [] := by
  intro n0
  induction n0 with
  | zero => intro v4 v6 v8 hf; cases hf
  | succ n0 ih => intro v4 v6 v8 hf; exact wX0_commonDivisor_b15 (N := N) (k15 := fX0_commonDivisor_l15 N n0) X  ih hret hf
set_option maxRecDepth 100000 in
set_option maxHeartbeats 4000000 in
theorem wX0_commonDivisor {D : va_G} {l : Launch} {E : k_E} {N : Nat} {p0 : Int64} {p2 : Int64} {res : Int64} (X : k_X D E cX0_commonDivisor RX0 11 1 21) (hret : ∀ (pc : Nat) (lv : List (Nat × Value)), decode cX0_commonDivisor pc = .ok (.lreturn, 1) → k_G D l E ([]) lv pc [.long res]) (hf : fX0_commonDivisor N p0 p2 = some res) : k_G D l E ([]) [(0, .long p0), (2, .long p2)] 0 [] := by
  unfold fX0_commonDivisor at hf
  refine g_lload_n X dX0_commonDivisor_0 0 rfl rfl (n := 1) rfl ?_
  refine g_absL X lkM_absL mlX0_26 dX0_commonDivisor_1 (n := 4) rfl ⟨Nat.le_of_ble_eq_true rfl, Nat.le_of_ble_eq_true rfl⟩ (Nat.le_of_ble_eq_true rfl) ?_
  refine g_lstore X dX0_commonDivisor_4 (by decide) (lv2 := [(4, .long (if 0 < p0 then p0 else -p0)), (0, .long p0), (2, .long p2)]) rfl (n := 6) rfl ?_
  refine g_lload_n X dX0_commonDivisor_6 2 rfl rfl (n := 7) rfl ?_
  refine g_absL X lkM_absL mlX0_26 dX0_commonDivisor_7 (n := 10) rfl ⟨Nat.le_of_ble_eq_true rfl, Nat.le_of_ble_eq_true rfl⟩ (Nat.le_of_ble_eq_true rfl) ?_
  refine g_lstore X dX0_commonDivisor_10 (by decide) (lv2 := [(6, .long (if 0 < p2 then p2 else -p2)), (4, .long (if 0 < p0 then p0 else -p0)), (0, .long p0), (2, .long p2)]) rfl (n := 12) rfl ?_
  refine g_iconst X dX0_commonDivisor_12 (v := 0) (by decide) (n := 13) rfl ?_
  refine g_istore X dX0_commonDivisor_13 (by decide) (lv2 := [(8, .int 0), (6, .long (if 0 < p2 then p2 else -p2)), (4, .long (if 0 < p0 then p0 else -p0)), (0, .long p0), (2, .long p2)]) rfl (n := 15) rfl ?_
  refine g_sub [2, 1, 0] (lv' := [(4, .long (if 0 < p0 then p0 else -p0)), (6, .long (if 0 < p2 then p2 else -p2)), (8, .int 0)]) rfl ?_
  exact wX0_commonDivisor_l15 X  hret _ _ _ _ hf
set_option maxRecDepth 100000 in
set_option maxHeartbeats 4000000 in
theorem mX0_commonDivisor {l : Launch} {D : va_G} {N : Nat} {p0 : Int64} {p2 : Int64} {res : Int64} (hf : fX0_commonDivisor N p0 p2 = some res) : k_Met l yX0_commonDivisor cX0_commonDivisor 11 (some .long) 1 21 D [.long p0, .long p2] ([]) (some (.long res)) ([]) :=
  k_of_l (by decide) (Nat.le_of_ble_eq_true rfl) (fun E X hret => wX0_commonDivisor X hret hf)
set_option maxRecDepth 100000 in
set_option maxHeartbeats 4000000 in
theorem wX0_become_b20 {D : va_G} {l : Launch} {E : k_E} {N : Nat} {a0 : Nat} {q : VX0} {res : VX0} (X : k_X D E cX0_become RX0 7 2 51) (hret : ∀ (pc : Nat) (lv : List (Nat × Value)), decode cX0_become pc = .ok (.return_, 1) → k_G D l E (pic_X0 D a0 res) lv pc []) (hf : fX0_become_b20 N q = some res) : k_G D l E (pic_X0 D a0 q) [(0, .ref a0)] 20 [] := by
  unfold fX0_become_b20 at hf
  refine g_aload_n X dX0_become_20 0 rfl rfl (n := 21) rfl ?_
  refine g_lconst X dX0_become_21 (v := 0) rfl (n := 22) rfl ?_
  refine g_put X dX0_become_22 flX0_19 0 rfl rfl rfl (Nat.le_of_ble_eq_true rfl) (ws2 := pic_X0 D a0 ((0 : Int64), q.2)) rfl (n := 25) rfl ?_
  refine g_aload_n X dX0_become_25 0 rfl rfl (n := 26) rfl ?_
  refine g_lconst X dX0_become_26 (v := 1) rfl (n := 27) rfl ?_
  refine g_put X dX0_become_27 flX0_9 0 rfl rfl rfl (Nat.le_of_ble_eq_true rfl) (ws2 := pic_X0 D a0 ((0 : Int64), (1 : Int64))) rfl (n := 30) rfl ?_
  obtain rfl := Option.some.inj hf
  exact hret _ _ dX0_become_30
set_option maxRecDepth 100000 in
set_option maxHeartbeats 4000000 in
theorem wX0_become {D : va_G} {l : Launch} {E : k_E} {N : Nat} {a0 : Nat} {p1 : Int64} {p3 : Int64} {q : VX0} {res : VX0} (X : k_X D E cX0_become RX0 7 2 51) (hret : ∀ (pc : Nat) (lv : List (Nat × Value)), decode cX0_become pc = .ok (.return_, 1) → k_G D l E (pic_X0 D a0 res) lv pc []) (hf : fX0_become N p1 p3 q = some res) : k_G D l E (pic_X0 D a0 q) [(0, .ref a0), (1, .long p1), (3, .long p3)] 0 [] := by
  unfold fX0_become at hf
  refine g_lload_n X dX0_become_0 1 rfl rfl (n := 1) rfl ?_
  refine g_lload_n X dX0_become_1 2 rfl rfl (n := 2) rfl ?_
  obtain ⟨x_1, g_2, hf⟩ := k_b1s hf
  refine g_callS0 X (mX0_commonDivisor (D := D) (l := l)  g_2) lk_X0_commonDivisor mlX0_15 dX0_become_2 (n := 5) rfl (st := []) rfl (st2 := [.long x_1]) rfl rfl ⟨Nat.le_of_ble_eq_true rfl, Nat.le_of_ble_eq_true rfl⟩ (Nat.le_of_ble_eq_true rfl) ?_
  refine g_lstore X dX0_become_5 (by decide) (lv2 := [(5, .long x_1), (0, .ref a0), (1, .long p1), (3, .long p3)]) rfl (n := 7) rfl ?_
  refine g_lload_n X dX0_become_7 3 rfl rfl (n := 8) rfl ?_
  refine g_lconst X dX0_become_8 (v := 0) rfl (n := 9) rfl ?_
  refine g_lcmp_le X dX0_become_9 dX0_become_10 (t := 20) (by decide) (n := 13) rfl (fun c_3 => ?_) (fun c_3 => ?_)
  · replace hf := k_pos c_3 hf
    refine g_sub [1] (lv' := [(0, .ref a0)]) rfl ?_
    exact wX0_become_b20 X  hret hf
  · replace hf := k_neg c_3 hf
    refine g_lload X dX0_become_13 0 rfl (n := 15) rfl ?_
    refine g_lconst X dX0_become_15 (v := 0) rfl (n := 16) rfl ?_
    refine g_lcmp_gt X dX0_become_16 dX0_become_17 (t := 31) (by decide) (n := 20) rfl (fun c_4 => ?_) (fun c_4 => ?_)
    · replace hf := k_pos c_4 hf
      refine g_aload_n X dX0_become_31 1 rfl rfl (n := 32) rfl ?_
      refine g_lload_n X dX0_become_32 2 rfl rfl (n := 33) rfl ?_
      refine g_lload X dX0_become_33 0 rfl (n := 35) rfl ?_
      obtain ⟨h_5, hf⟩ := k_guardN hf
      refine g_ldiv X dX0_become_35 h_5 (n := 36) rfl ?_
      refine g_put X dX0_become_36 flX0_19 0 rfl rfl rfl (Nat.le_of_ble_eq_true rfl) (ws2 := pic_X0 D a0 ((p1 / x_1), q.2)) rfl (n := 39) rfl ?_
      refine g_aload_n X dX0_become_39 1 rfl rfl (n := 40) rfl ?_
      refine g_lload_n X dX0_become_40 3 rfl rfl (n := 41) rfl ?_
      refine g_lload X dX0_become_41 0 rfl (n := 43) rfl ?_
      obtain ⟨h_6, hf⟩ := k_guardN hf
      refine g_ldiv X dX0_become_43 h_6 (n := 44) rfl ?_
      refine g_put X dX0_become_44 flX0_9 0 rfl rfl rfl (Nat.le_of_ble_eq_true rfl) (ws2 := pic_X0 D a0 ((p1 / x_1), (p3 / x_1))) rfl (n := 47) rfl ?_
      obtain rfl := Option.some.inj hf
      exact hret _ _ dX0_become_47
    · replace hf := k_neg c_4 hf
      refine g_sub [1] (lv' := [(0, .ref a0)]) rfl ?_
      exact wX0_become_b20 X  hret hf
set_option maxRecDepth 100000 in
set_option maxHeartbeats 4000000 in
theorem mX0_become {l : Launch} {D : va_G} {N : Nat} {a0 : Nat} {p1 : Int64} {p3 : Int64} {q : VX0} {res : VX0} (hf : fX0_become N p1 p3 q = some res) : k_Met l yX0_become cX0_become 7 none 2 51 D [.ref a0, .long p1, .long p3] (pic_X0 D a0 q) none (pic_X0 D a0 res) :=
  k_of_v (by decide) (Nat.le_of_ble_eq_true rfl) (fun E X hret => wX0_become X hret hf)
set_option maxRecDepth 100000 in
set_option maxHeartbeats 4000000 in
theorem wX0_half {D : va_G} {l : Launch} {E : k_E} {a0 : Nat} {p1 : Int32} {q : VX0} {res : Int64} (X : k_X D E cX0_half RX0 2 0 0) (hret : ∀ (pc : Nat) (lv : List (Nat × Value)), decode cX0_half pc = .ok (.lreturn, 1) → k_G D l E (pic_X0 D a0 q) lv pc [.long res]) (hf : fX0_half q p1 = some res) : k_G D l E (pic_X0 D a0 q) [(0, .ref a0), (1, .int p1)] 0 [] := by
  unfold fX0_half at hf
  refine g_iload_n X dX0_half_0 1 rfl rfl (n := 1) rfl ?_
  refine g_if_ne X dX0_half_1 (t := 11) (by decide) (n := 4) rfl (fun c_1 => ?_) (fun c_1 => ?_)
  · replace hf := k_neg c_1 hf
    refine g_aload_n X dX0_half_11 0 rfl rfl (n := 12) rfl ?_
    refine g_get X dX0_half_12 flX0_9 0 rfl (v := .long q.2) rfl (n := 15) rfl ?_
    obtain rfl := Option.some.inj hf
    exact hret _ _ dX0_half_15
  · replace hf := k_pos c_1 hf
    refine g_aload_n X dX0_half_4 0 rfl rfl (n := 5) rfl ?_
    refine g_get X dX0_half_5 flX0_19 0 rfl (v := .long q.1) rfl (n := 8) rfl ?_
    refine g_goto X dX0_half_8 (n := 15) (by decide) ?_
    obtain rfl := Option.some.inj hf
    exact hret _ _ dX0_half_15
set_option maxRecDepth 100000 in
set_option maxHeartbeats 4000000 in
theorem mX0_half {l : Launch} {D : va_G} {a0 : Nat} {p1 : Int32} {q : VX0} {res : Int64} (hf : fX0_half q p1 = some res) : k_Met l yX0_half cX0_half 2 (some .long) 0 0 D [.ref a0, .int p1] (pic_X0 D a0 q) (some (.long res)) (pic_X0 D a0 q) :=
  k_of_l (by decide) (Nat.le_of_ble_eq_true rfl) (fun E X hret => wX0_half X hret hf)
set_option maxRecDepth 100000 in
set_option maxHeartbeats 4000000 in
theorem wX0_lessen {D : va_G} {l : Launch} {E : k_E} {N : Nat} {a0 : Nat} {b0 : Nat} {q : VX0} {w : VX0} {res : VX0} (X : k_X D E cX0_lessen RX0 2 3 77) (hret : ∀ (pc : Nat) (lv : List (Nat × Value)), decode cX0_lessen pc = .ok (.return_, 1) → k_G D l E (pic_X0 D a0 res ++ pic_X0 D b0 w) lv pc []) (hf : fX0_lessen N w q = some res) : k_G D l E (pic_X0 D a0 q ++ pic_X0 D b0 w) [(0, .ref a0), (1, .ref b0)] 0 [] := by
  unfold fX0_lessen at hf
  refine g_aload_n X dX0_lessen_0 0 rfl rfl (n := 1) rfl ?_
  refine g_aload_n X dX0_lessen_1 0 rfl rfl (n := 2) rfl ?_
  refine g_get X dX0_lessen_2 flX0_19 0 rfl (v := .long q.1) rfl (n := 5) rfl ?_
  refine g_aload_n X dX0_lessen_5 1 rfl rfl (n := 6) rfl ?_
  refine g_get X dX0_lessen_6 flX0_9 1 rfl (v := .long w.2) rfl (n := 9) rfl ?_
  refine g_lmul X dX0_lessen_9 (n := 10) rfl ?_
  refine g_aload_n X dX0_lessen_10 1 rfl rfl (n := 11) rfl ?_
  refine g_get X dX0_lessen_11 flX0_19 1 rfl (v := .long w.1) rfl (n := 14) rfl ?_
  refine g_aload_n X dX0_lessen_14 0 rfl rfl (n := 15) rfl ?_
  refine g_get X dX0_lessen_15 flX0_9 0 rfl (v := .long q.2) rfl (n := 18) rfl ?_
  refine g_lmul X dX0_lessen_18 (n := 19) rfl ?_
  refine g_lsub X dX0_lessen_19 (n := 20) rfl ?_
  refine g_aload_n X dX0_lessen_20 0 rfl rfl (n := 21) rfl ?_
  refine g_get X dX0_lessen_21 flX0_9 0 rfl (v := .long q.2) rfl (n := 24) rfl ?_
  refine g_aload_n X dX0_lessen_24 1 rfl rfl (n := 25) rfl ?_
  refine g_get X dX0_lessen_25 flX0_9 1 rfl (v := .long w.2) rfl (n := 28) rfl ?_
  refine g_lmul X dX0_lessen_28 (n := 29) rfl ?_
  obtain ⟨q_1, g_2, hf⟩ := k_b1s hf
  refine g_callV X (mX0_become (D := D) (l := l) (a0 := a0) g_2) lk_X0_become mlX0_22 dX0_lessen_29 (n := 32) rfl (st := []) rfl (st2 := []) rfl [0] rfl rfl rfl rfl rfl rfl (ws2 := pic_X0 D a0 q_1 ++ pic_X0 D b0 w) rfl rfl rfl ⟨Nat.le_of_ble_eq_true rfl, Nat.le_of_ble_eq_true rfl⟩ (Nat.le_of_ble_eq_true rfl) ?_
  obtain rfl := Option.some.inj hf
  exact hret _ _ dX0_lessen_32
set_option maxRecDepth 100000 in
set_option maxHeartbeats 4000000 in
theorem mX0_lessen {l : Launch} {D : va_G} {N : Nat} {a0 : Nat} {b0 : Nat} {q : VX0} {w : VX0} {res : VX0} (hf : fX0_lessen N w q = some res) : k_Met l yX0_lessen cX0_lessen 2 none 3 77 D [.ref a0, .ref b0] (pic_X0 D a0 q ++ pic_X0 D b0 w) none (pic_X0 D a0 res ++ pic_X0 D b0 w) :=
  k_of_v (by decide) (Nat.le_of_ble_eq_true rfl) (fun E X hret => wX0_lessen X hret hf)
set_option maxRecDepth 100000 in
set_option maxHeartbeats 4000000 in
theorem wX0_isLessThan_b162 {D : va_G} {l : Launch} {E : k_E} {N : Nat} {a0 : Nat} {b0 : Nat} {v10 : Bool} {s0 : Bool} {q : VX0} {w : VX0} {res : Bool} (X : k_X D E cX0_isLessThan RX0 20 0 0) (hret : ∀ (pc : Nat) (lv : List (Nat × Value)), decode cX0_isLessThan pc = .ok (.ireturn, 1) → k_G D l E (pic_X0 D a0 q ++ pic_X0 D b0 w) lv pc [.int (bI res)]) (hf : fX0_isLessThan_b162 N q w v10 s0 = some res) : k_G D l E (pic_X0 D a0 q ++ pic_X0 D b0 w) [(10, .int (bI v10))] 162 [.int (bI s0)] := by
  unfold fX0_isLessThan_b162 at hf
  refine g_iload X dX0_isLessThan_162 0 rfl (n := 164) rfl ?_
  refine g_icmp_eq X dX0_isLessThan_164 (t := 171) (by decide) (n := 167) rfl (fun c_1 => ?_) (fun c_1 => ?_)
  · replace hf := k_pos c_1 hf
    refine g_iconst X dX0_isLessThan_171 (v := 0) (by decide) (n := 172) rfl ?_
    obtain rfl := Option.some.inj hf
    exact hret _ _ dX0_isLessThan_172
  · replace hf := k_neg c_1 hf
    refine g_iconst X dX0_isLessThan_167 (v := 1) (by decide) (n := 168) rfl ?_
    refine g_goto X dX0_isLessThan_168 (n := 172) (by decide) ?_
    obtain rfl := Option.some.inj hf
    exact hret _ _ dX0_isLessThan_172
set_option maxRecDepth 100000 in
set_option maxHeartbeats 4000000 in
theorem wX0_isLessThan_b142 {D : va_G} {l : Launch} {E : k_E} {N : Nat} {a0 : Nat} {b0 : Nat} {v4 : Int64} {v8 : Int64} {v10 : Bool} {q : VX0} {w : VX0} {res : Bool} (X : k_X D E cX0_isLessThan RX0 20 0 0) (hret : ∀ (pc : Nat) (lv : List (Nat × Value)), decode cX0_isLessThan pc = .ok (.ireturn, 1) → k_G D l E (pic_X0 D a0 q ++ pic_X0 D b0 w) lv pc [.int (bI res)]) (hf : fX0_isLessThan_b142 N q w v4 v8 v10 = some res) : k_G D l E (pic_X0 D a0 q ++ pic_X0 D b0 w) [(4, .long v4), (8, .long v8), (10, .int (bI v10))] 142 [] := by
  unfold fX0_isLessThan_b142 at hf
  refine g_lload X dX0_isLessThan_142 0 rfl (n := 144) rfl ?_
  refine g_lload X dX0_isLessThan_144 1 rfl (n := 146) rfl ?_
  refine g_lcmp_eq X dX0_isLessThan_146 dX0_isLessThan_147 (t := 171) (by decide) (n := 150) rfl (fun c_1 => ?_) (fun c_1 => ?_)
  · replace hf := k_pos c_1 hf
    refine g_iconst X dX0_isLessThan_171 (v := 0) (by decide) (n := 172) rfl ?_
    obtain rfl := Option.some.inj hf
    exact hret _ _ dX0_isLessThan_172
  · replace hf := k_neg c_1 hf
    refine g_lload X dX0_isLessThan_150 1 rfl (n := 152) rfl ?_
    refine g_lconst X dX0_isLessThan_152 (v := 0) rfl (n := 153) rfl ?_
    refine g_lcmp_ne X dX0_isLessThan_153 dX0_isLessThan_154 (t := 161) (by decide) (n := 157) rfl (fun c_2 => ?_) (fun c_2 => ?_)
    · replace hf := k_neg c_2 hf
      refine g_iconst X dX0_isLessThan_161 (v := 0) (by decide) (n := 162) rfl ?_
      refine g_sub [2] (lv' := [(10, .int (bI v10))]) rfl ?_
      exact wX0_isLessThan_b162 X  hret hf
    · replace hf := k_pos c_2 hf
      refine g_iconst X dX0_isLessThan_157 (v := 1) (by decide) (n := 158) rfl ?_
      refine g_goto X dX0_isLessThan_158 (n := 162) (by decide) ?_
      refine g_sub [2] (lv' := [(10, .int (bI v10))]) rfl ?_
      exact wX0_isLessThan_b162 X  hret hf
set_option maxRecDepth 100000 in
set_option maxHeartbeats 4000000 in
theorem wX0_isLessThan_b134 {D : va_G} {l : Launch} {E : k_E} {N : Nat} {a0 : Nat} {b0 : Nat} {k29 : Int64 → Int64 → Int64 → Int64 → Bool → Int32 → Option (Bool)} {v2 : Int64} {v4 : Int64} {v6 : Int64} {v8 : Int64} {v11 : Int32} {s0 : Bool} {q : VX0} {w : VX0} {res : Bool} (X : k_X D E cX0_isLessThan RX0 20 0 0) (hk29 : ∀ (v2 : Int64) (v4 : Int64) (v6 : Int64) (v8 : Int64) (v10 : Bool) (v11 : Int32) , k29 v2 v4 v6 v8 v10 v11 = some res → k_G D l E (pic_X0 D a0 q ++ pic_X0 D b0 w) [(2, .long v2), (4, .long v4), (6, .long v6), (8, .long v8), (10, .int (bI v10)), (11, .int v11)] 29 []) (hret : ∀ (pc : Nat) (lv : List (Nat × Value)), decode cX0_isLessThan pc = .ok (.ireturn, 1) → k_G D l E (pic_X0 D a0 q ++ pic_X0 D b0 w) lv pc [.int (bI res)]) (hf : fX0_isLessThan_b134 N q w k29 v2 v4 v6 v8 v11 s0 = some res) : k_G D l E (pic_X0 D a0 q ++ pic_X0 D b0 w) [(2, .long v2), (4, .long v4), (6, .long v6), (8, .long v8), (11, .int v11)] 134 [.int (bI s0)] := by
  unfold fX0_isLessThan_b134 at hf
  refine g_istore X dX0_isLessThan_134 (by decide) (lv2 := [(10, .int (bI s0)), (2, .long v2), (4, .long v4), (6, .long v6), (8, .long v8), (11, .int v11)]) rfl (n := 136) rfl ?_
  refine g_iinc X dX0_isLessThan_136 5 rfl (v := v11 + 1) rfl (by decide) (lv2 := [(11, .int (v11 + 1)), (10, .int (bI s0)), (2, .long v2), (4, .long v4), (6, .long v6), (8, .long v8)]) rfl (n := 139) rfl ?_
  refine g_goto X dX0_isLessThan_139 (n := 29) (by decide) ?_
  refine g_sub [2, 3, 4, 5, 1, 0] (lv' := [(2, .long v2), (4, .long v4), (6, .long v6), (8, .long v8), (10, .int (bI s0)), (11, .int (v11 + 1))]) rfl ?_
  exact hk29 _ _ _ _ _ _ hf
set_option maxRecDepth 100000 in
set_option maxHeartbeats 4000000 in
theorem wX0_isLessThan_b85 {D : va_G} {l : Launch} {E : k_E} {N : Nat} {a0 : Nat} {b0 : Nat} {v10 : Bool} {s0 : Bool} {q : VX0} {w : VX0} {res : Bool} (X : k_X D E cX0_isLessThan RX0 20 0 0) (hret : ∀ (pc : Nat) (lv : List (Nat × Value)), decode cX0_isLessThan pc = .ok (.ireturn, 1) → k_G D l E (pic_X0 D a0 q ++ pic_X0 D b0 w) lv pc [.int (bI res)]) (hf : fX0_isLessThan_b85 N q w v10 s0 = some res) : k_G D l E (pic_X0 D a0 q ++ pic_X0 D b0 w) [(10, .int (bI v10))] 85 [.int (bI s0)] := by
  unfold fX0_isLessThan_b85 at hf
  refine g_iload X dX0_isLessThan_85 0 rfl (n := 87) rfl ?_
  refine g_icmp_eq X dX0_isLessThan_87 (t := 94) (by decide) (n := 90) rfl (fun c_1 => ?_) (fun c_1 => ?_)
  · replace hf := k_pos c_1 hf
    refine g_iconst X dX0_isLessThan_94 (v := 0) (by decide) (n := 95) rfl ?_
    obtain rfl := Option.some.inj hf
    exact hret _ _ dX0_isLessThan_95
  · replace hf := k_neg c_1 hf
    refine g_iconst X dX0_isLessThan_90 (v := 1) (by decide) (n := 91) rfl ?_
    refine g_goto X dX0_isLessThan_91 (n := 95) (by decide) ?_
    obtain rfl := Option.some.inj hf
    exact hret _ _ dX0_isLessThan_95
set_option maxRecDepth 100000 in
set_option maxHeartbeats 4000000 in
theorem wX0_isLessThan_b29 {D : va_G} {l : Launch} {E : k_E} {N : Nat} {a0 : Nat} {b0 : Nat} {k29 : Int64 → Int64 → Int64 → Int64 → Bool → Int32 → Option (Bool)} {v2 : Int64} {v4 : Int64} {v6 : Int64} {v8 : Int64} {v10 : Bool} {v11 : Int32} {q : VX0} {w : VX0} {res : Bool} (X : k_X D E cX0_isLessThan RX0 20 0 0) (hk29 : ∀ (v2 : Int64) (v4 : Int64) (v6 : Int64) (v8 : Int64) (v10 : Bool) (v11 : Int32) , k29 v2 v4 v6 v8 v10 v11 = some res → k_G D l E (pic_X0 D a0 q ++ pic_X0 D b0 w) [(2, .long v2), (4, .long v4), (6, .long v6), (8, .long v8), (10, .int (bI v10)), (11, .int v11)] 29 []) (hret : ∀ (pc : Nat) (lv : List (Nat × Value)), decode cX0_isLessThan pc = .ok (.ireturn, 1) → k_G D l E (pic_X0 D a0 q ++ pic_X0 D b0 w) lv pc [.int (bI res)]) (hf : fX0_isLessThan_b29 N q w k29 v2 v4 v6 v8 v10 v11 = some res) : k_G D l E (pic_X0 D a0 q ++ pic_X0 D b0 w) [(2, .long v2), (4, .long v4), (6, .long v6), (8, .long v8), (10, .int (bI v10)), (11, .int v11)] 29 [] := by
  unfold fX0_isLessThan_b29 at hf
  refine g_iload X dX0_isLessThan_29 5 rfl (n := 31) rfl ?_
  refine g_sipush X dX0_isLessThan_31 (v := 200) (by decide) (n := 34) rfl ?_
  refine g_icmp_ge X dX0_isLessThan_34 (t := 142) (by decide) (n := 37) rfl (fun c_1 => ?_) (fun c_1 => ?_)
  · replace hf := k_pos c_1 hf
    refine g_sub [1, 3, 4] (lv' := [(4, .long v4), (8, .long v8), (10, .int (bI v10))]) rfl ?_
    exact wX0_isLessThan_b142 X  hret hf
  · replace hf := k_neg c_1 hf
    refine g_lload X dX0_isLessThan_37 1 rfl (n := 39) rfl ?_
    refine g_lconst X dX0_isLessThan_39 (v := 0) rfl (n := 40) rfl ?_
    refine g_lcmp_le X dX0_isLessThan_40 dX0_isLessThan_41 (t := 142) (by decide) (n := 44) rfl (fun c_2 => ?_) (fun c_2 => ?_)
    · replace hf := k_pos c_2 hf
      refine g_sub [1, 3, 4] (lv' := [(4, .long v4), (8, .long v8), (10, .int (bI v10))]) rfl ?_
      exact wX0_isLessThan_b142 X  hret hf
    · replace hf := k_neg c_2 hf
      refine g_lload X dX0_isLessThan_44 3 rfl (n := 46) rfl ?_
      refine g_lconst X dX0_isLessThan_46 (v := 0) rfl (n := 47) rfl ?_
      refine g_lcmp_le X dX0_isLessThan_47 dX0_isLessThan_48 (t := 142) (by decide) (n := 51) rfl (fun c_3 => ?_) (fun c_3 => ?_)
      · replace hf := k_pos c_3 hf
        refine g_sub [1, 3, 4] (lv' := [(4, .long v4), (8, .long v8), (10, .int (bI v10))]) rfl ?_
        exact wX0_isLessThan_b142 X  hret hf
      · replace hf := k_neg c_3 hf
        refine g_lload_n X dX0_isLessThan_51 0 rfl rfl (n := 52) rfl ?_
        refine g_lload X dX0_isLessThan_52 1 rfl (n := 54) rfl ?_
        obtain ⟨h_4, hf⟩ := k_guardN hf
        refine g_ldiv X dX0_isLessThan_54 h_4 (n := 55) rfl ?_
        refine g_lstore X dX0_isLessThan_55 (by decide) (lv2 := [(12, .long (v2 / v4)), (2, .long v2), (4, .long v4), (6, .long v6), (8, .long v8), (10, .int (bI v10)), (11, .int v11)]) rfl (n := 57) rfl ?_
        refine g_lload X dX0_isLessThan_57 3 rfl (n := 59) rfl ?_
        refine g_lload X dX0_isLessThan_59 4 rfl (n := 61) rfl ?_
        obtain ⟨h_5, hf⟩ := k_guardN hf
        refine g_ldiv X dX0_isLessThan_61 h_5 (n := 62) rfl ?_
        refine g_lstore X dX0_isLessThan_62 (by decide) (lv2 := [(14, .long (v6 / v8)), (12, .long (v2 / v4)), (2, .long v2), (4, .long v4), (6, .long v6), (8, .long v8), (10, .int (bI v10)), (11, .int v11)]) rfl (n := 64) rfl ?_
        refine g_lload X dX0_isLessThan_64 1 rfl (n := 66) rfl ?_
        refine g_lload X dX0_isLessThan_66 0 rfl (n := 68) rfl ?_
        refine g_lcmp_eq X dX0_isLessThan_68 dX0_isLessThan_69 (t := 96) (by decide) (n := 72) rfl (fun c_6 => ?_) (fun c_6 => ?_)
        · replace hf := k_pos c_6 hf
          refine g_lload_n X dX0_isLessThan_96 2 rfl rfl (n := 97) rfl ?_
          refine g_lload X dX0_isLessThan_97 3 rfl (n := 99) rfl ?_
          obtain ⟨h_7, hf⟩ := k_guardN hf
          refine g_lrem X dX0_isLessThan_99 h_7 (n := 100) rfl ?_
          refine g_lstore X dX0_isLessThan_100 (by decide) (lv2 := [(16, .long (v2 - v2 / v4 * v4)), (14, .long (v6 / v8)), (12, .long (v2 / v4)), (2, .long v2), (4, .long v4), (6, .long v6), (8, .long v8), (10, .int (bI v10)), (11, .int v11)]) rfl (n := 102) rfl ?_
          refine g_lload X dX0_isLessThan_102 5 rfl (n := 104) rfl ?_
          refine g_lload X dX0_isLessThan_104 6 rfl (n := 106) rfl ?_
          obtain ⟨h_8, hf⟩ := k_guardN hf
          refine g_lrem X dX0_isLessThan_106 h_8 (n := 107) rfl ?_
          refine g_lstore X dX0_isLessThan_107 (by decide) (lv2 := [(18, .long (v6 - v6 / v8 * v8)), (16, .long (v2 - v2 / v4 * v4)), (14, .long (v6 / v8)), (12, .long (v2 / v4)), (2, .long v2), (4, .long v4), (6, .long v6), (8, .long v8), (10, .int (bI v10)), (11, .int v11)]) rfl (n := 109) rfl ?_
          refine g_lload X dX0_isLessThan_109 5 rfl (n := 111) rfl ?_
          refine g_lstore_n X dX0_isLessThan_111 rfl (by decide) (lv2 := [(2, .long v4), (18, .long (v6 - v6 / v8 * v8)), (16, .long (v2 - v2 / v4 * v4)), (14, .long (v6 / v8)), (12, .long (v2 / v4)), (4, .long v4), (6, .long v6), (8, .long v8), (10, .int (bI v10)), (11, .int v11)]) rfl (n := 112) rfl ?_
          refine g_lload X dX0_isLessThan_112 2 rfl (n := 114) rfl ?_
          refine g_lstore X dX0_isLessThan_114 (by decide) (lv2 := [(4, .long (v2 - v2 / v4 * v4)), (2, .long v4), (18, .long (v6 - v6 / v8 * v8)), (16, .long (v2 - v2 / v4 * v4)), (14, .long (v6 / v8)), (12, .long (v2 / v4)), (6, .long v6), (8, .long v8), (10, .int (bI v10)), (11, .int v11)]) rfl (n := 116) rfl ?_
          refine g_lload X dX0_isLessThan_116 7 rfl (n := 118) rfl ?_
          refine g_lstore X dX0_isLessThan_118 (by decide) (lv2 := [(6, .long v8), (4, .long (v2 - v2 / v4 * v4)), (2, .long v4), (18, .long (v6 - v6 / v8 * v8)), (16, .long (v2 - v2 / v4 * v4)), (14, .long (v6 / v8)), (12, .long (v2 / v4)), (8, .long v8), (10, .int (bI v10)), (11, .int v11)]) rfl (n := 120) rfl ?_
          refine g_lload X dX0_isLessThan_120 3 rfl (n := 122) rfl ?_
          refine g_lstore X dX0_isLessThan_122 (by decide) (lv2 := [(8, .long (v6 - v6 / v8 * v8)), (6, .long v8), (4, .long (v2 - v2 / v4 * v4)), (2, .long v4), (18, .long (v6 - v6 / v8 * v8)), (16, .long (v2 - v2 / v4 * v4)), (14, .long (v6 / v8)), (12, .long (v2 / v4)), (10, .int (bI v10)), (11, .int v11)]) rfl (n := 124) rfl ?_
          refine g_iload X dX0_isLessThan_124 8 rfl (n := 126) rfl ?_
          refine g_if_neB X dX0_isLessThan_126 (t := 133) (by decide) (n := 129) rfl (fun c_9 => ?_) (fun c_9 => ?_)
          · replace hf := k_pos c_9 hf
            refine g_iconst X dX0_isLessThan_133 (v := 0) (by decide) (n := 134) rfl ?_
            refine g_sub [3, 2, 1, 0, 9] (lv' := [(2, .long v4), (4, .long (v2 - v2 / v4 * v4)), (6, .long v8), (8, .long (v6 - v6 / v8 * v8)), (11, .int v11)]) rfl ?_
            exact wX0_isLessThan_b134 X hk29 hret hf
          · replace hf := k_neg c_9 hf
            refine g_iconst X dX0_isLessThan_129 (v := 1) (by decide) (n := 130) rfl ?_
            refine g_goto X dX0_isLessThan_130 (n := 134) (by decide) ?_
            refine g_sub [3, 2, 1, 0, 9] (lv' := [(2, .long v4), (4, .long (v2 - v2 / v4 * v4)), (6, .long v8), (8, .long (v6 - v6 / v8 * v8)), (11, .int v11)]) rfl ?_
            exact wX0_isLessThan_b134 X hk29 hret hf
        · replace hf := k_neg c_6 hf
          refine g_lload X dX0_isLessThan_72 1 rfl (n := 74) rfl ?_
          refine g_lload X dX0_isLessThan_74 0 rfl (n := 76) rfl ?_
          refine g_lcmp_ge X dX0_isLessThan_76 dX0_isLessThan_77 (t := 84) (by decide) (n := 80) rfl (fun c_10 => ?_) (fun c_10 => ?_)
          · replace hf := k_pos c_10 hf
            refine g_iconst X dX0_isLessThan_84 (v := 0) (by decide) (n := 85) rfl ?_
            refine g_sub [6] (lv' := [(10, .int (bI v10))]) rfl ?_
            exact wX0_isLessThan_b85 X  hret hf
          · replace hf := k_neg c_10 hf
            refine g_iconst X dX0_isLessThan_80 (v := 1) (by decide) (n := 81) rfl ?_
            refine g_goto X dX0_isLessThan_81 (n := 85) (by decide) ?_
            refine g_sub [6] (lv' := [(10, .int (bI v10))]) rfl ?_
            exact wX0_isLessThan_b85 X  hret hf
set_option maxRecDepth 100000 in
set_option maxHeartbeats 4000000 in
theorem wX0_isLessThan_l29 {D : va_G} {l : Launch} {E : k_E} {N : Nat} {a0 : Nat} {b0 : Nat} {q : VX0} {w : VX0} {res : Bool} (X : k_X D E cX0_isLessThan RX0 20 0 0) (hret : ∀ (pc : Nat) (lv : List (Nat × Value)), decode cX0_isLessThan pc = .ok (.ireturn, 1) → k_G D l E (pic_X0 D a0 q ++ pic_X0 D b0 w) lv pc [.int (bI res)]) : ∀ (n0 : Nat) (v2 : Int64) (v4 : Int64) (v6 : Int64) (v8 : Int64) (v10 : Bool) (v11 : Int32) , fX0_isLessThan_l29 N q w n0 v2 v4 v6 v8 v10 v11 = some res → k_G D l E (pic_X0 D a0 q ++ pic_X0 D b0 w) [(2, .long v2), (4, .long v4), (6, .long v6), (8, .long v8), (10, .int (bI v10)), (11, .int v11)] 29 [] := by
  intro n0
  induction n0 with
  | zero => intro v2 v4 v6 v8 v10 v11 hf; cases hf
  | succ n0 ih => intro v2 v4 v6 v8 v10 v11 hf; exact wX0_isLessThan_b29 (N := N) (k29 := fX0_isLessThan_l29 N q w n0) X  ih hret hf
set_option maxRecDepth 100000 in
set_option maxHeartbeats 4000000 in
theorem wX0_isLessThan {D : va_G} {l : Launch} {E : k_E} {N : Nat} {a0 : Nat} {b0 : Nat} {q : VX0} {w : VX0} {res : Bool} (X : k_X D E cX0_isLessThan RX0 20 0 0) (hret : ∀ (pc : Nat) (lv : List (Nat × Value)), decode cX0_isLessThan pc = .ok (.ireturn, 1) → k_G D l E (pic_X0 D a0 q ++ pic_X0 D b0 w) lv pc [.int (bI res)]) (hf : fX0_isLessThan N q w = some res) : k_G D l E (pic_X0 D a0 q ++ pic_X0 D b0 w) [(0, .ref a0), (1, .ref b0)] 0 [] := by
  unfold fX0_isLessThan at hf
  refine g_aload_n X dX0_isLessThan_0 0 rfl rfl (n := 1) rfl ?_
  refine g_get X dX0_isLessThan_1 flX0_19 0 rfl (v := .long q.1) rfl (n := 4) rfl ?_
  refine g_lstore_n X dX0_isLessThan_4 rfl (by decide) (lv2 := [(2, .long q.1), (0, .ref a0), (1, .ref b0)]) rfl (n := 5) rfl ?_
  refine g_aload_n X dX0_isLessThan_5 1 rfl rfl (n := 6) rfl ?_
  refine g_get X dX0_isLessThan_6 flX0_9 0 rfl (v := .long q.2) rfl (n := 9) rfl ?_
  refine g_lstore X dX0_isLessThan_9 (by decide) (lv2 := [(4, .long q.2), (2, .long q.1), (0, .ref a0), (1, .ref b0)]) rfl (n := 11) rfl ?_
  refine g_aload_n X dX0_isLessThan_11 3 rfl rfl (n := 12) rfl ?_
  refine g_get X dX0_isLessThan_12 flX0_19 1 rfl (v := .long w.1) rfl (n := 15) rfl ?_
  refine g_lstore X dX0_isLessThan_15 (by decide) (lv2 := [(6, .long w.1), (4, .long q.2), (2, .long q.1), (0, .ref a0), (1, .ref b0)]) rfl (n := 17) rfl ?_
  refine g_aload_n X dX0_isLessThan_17 4 rfl rfl (n := 18) rfl ?_
  refine g_get X dX0_isLessThan_18 flX0_9 1 rfl (v := .long w.2) rfl (n := 21) rfl ?_
  refine g_lstore X dX0_isLessThan_21 (by decide) (lv2 := [(8, .long w.2), (6, .long w.1), (4, .long q.2), (2, .long q.1), (0, .ref a0), (1, .ref b0)]) rfl (n := 23) rfl ?_
  refine g_iconst X dX0_isLessThan_23 (v := 0) (by decide) (n := 24) rfl ?_
  refine g_istore X dX0_isLessThan_24 (by decide) (lv2 := [(10, .int 0), (8, .long w.2), (6, .long w.1), (4, .long q.2), (2, .long q.1), (0, .ref a0), (1, .ref b0)]) rfl (n := 26) rfl ?_
  refine g_iconst X dX0_isLessThan_26 (v := 0) (by decide) (n := 27) rfl ?_
  refine g_istore X dX0_isLessThan_27 (by decide) (lv2 := [(11, .int 0), (10, .int 0), (8, .long w.2), (6, .long w.1), (4, .long q.2), (2, .long q.1), (0, .ref a0), (1, .ref b0)]) rfl (n := 29) rfl ?_
  refine g_sub [5, 4, 3, 2, 1, 0] (lv' := [(2, .long q.1), (4, .long q.2), (6, .long w.1), (8, .long w.2), (10, .int (bI false)), (11, .int 0)]) rfl ?_
  exact wX0_isLessThan_l29 X  hret _ _ _ _ _ _ _ hf
set_option maxRecDepth 100000 in
set_option maxHeartbeats 4000000 in
theorem mX0_isLessThan {l : Launch} {D : va_G} {N : Nat} {a0 : Nat} {b0 : Nat} {q : VX0} {w : VX0} {res : Bool} (hf : fX0_isLessThan N q w = some res) : k_Met l yX0_isLessThan cX0_isLessThan 20 (some .boolean) 0 0 D [.ref a0, .ref b0] (pic_X0 D a0 q ++ pic_X0 D b0 w) (some (.int (bI res))) (pic_X0 D a0 q ++ pic_X0 D b0 w) :=
  k_of_z (by decide) (Nat.le_of_ble_eq_true rfl) (fun E X hret => wX0_isLessThan X hret hf)
set_option maxRecDepth 100000 in
set_option maxHeartbeats 4000000 in
theorem wX1_choose {D : va_G} {l : Launch} {E : k_E} {a0 a1 a2 : Nat} {p1 : Int32} {p2 : Int32} {z : VX1} {res : Int64} (X : k_X D E cX1_choose RX1 4 0 0) (hret : ∀ (pc : Nat) (lv : List (Nat × Value)), decode cX1_choose pc = .ok (.lreturn, 1) → k_G D l E (pic_X1 D a0 a1 a2 z) lv pc [.long res]) (hf : fX1_choose z p1 p2 = some res) : k_G D l E (pic_X1 D a0 a1 a2 z) [(0, .ref a0), (1, .int p1), (2, .int p2)] 0 [] := by
  unfold fX1_choose at hf
  refine g_iload_n X dX1_choose_0 1 rfl rfl (n := 1) rfl ?_
  refine g_if_lt X dX1_choose_1 (t := 19) (by decide) (n := 4) rfl (fun c_1 => ?_) (fun c_1 => ?_)
  · replace hf := k_pos c_1 hf
    refine g_lconst X dX1_choose_19 (v := 0) rfl (n := 20) rfl ?_
    obtain rfl := Option.some.inj hf
    exact hret _ _ dX1_choose_20
  · replace hf := k_neg c_1 hf
    refine g_iload_n X dX1_choose_4 1 rfl rfl (n := 5) rfl ?_
    refine g_bipush X dX1_choose_5 (v := 60) (by decide) (n := 7) rfl ?_
    refine g_icmp_gt X dX1_choose_7 (t := 19) (by decide) (n := 10) rfl (fun c_2 => ?_) (fun c_2 => ?_)
    · replace hf := k_pos c_2 hf
      refine g_lconst X dX1_choose_19 (v := 0) rfl (n := 20) rfl ?_
      obtain rfl := Option.some.inj hf
      exact hret _ _ dX1_choose_20
    · replace hf := k_neg c_2 hf
      refine g_iload_n X dX1_choose_10 2 rfl rfl (n := 11) rfl ?_
      refine g_if_lt X dX1_choose_11 (t := 19) (by decide) (n := 14) rfl (fun c_3 => ?_) (fun c_3 => ?_)
      · replace hf := k_pos c_3 hf
        refine g_lconst X dX1_choose_19 (v := 0) rfl (n := 20) rfl ?_
        obtain rfl := Option.some.inj hf
        exact hret _ _ dX1_choose_20
      · replace hf := k_neg c_3 hf
        refine g_iload_n X dX1_choose_14 2 rfl rfl (n := 15) rfl ?_
        refine g_iload_n X dX1_choose_15 1 rfl rfl (n := 16) rfl ?_
        refine g_icmp_le X dX1_choose_16 (t := 21) (by decide) (n := 19) rfl (fun c_4 => ?_) (fun c_4 => ?_)
        · replace hf := k_pos c_4 hf
          refine g_iload_n X dX1_choose_21 1 rfl rfl (n := 22) rfl ?_
          refine g_iload_n X dX1_choose_22 1 rfl rfl (n := 23) rfl ?_
          refine g_iconst X dX1_choose_23 (v := 1) (by decide) (n := 24) rfl ?_
          refine g_iadd X dX1_choose_24 (n := 25) rfl ?_
          refine g_imul X dX1_choose_25 (n := 26) rfl ?_
          refine g_iconst X dX1_choose_26 (v := 2) (by decide) (n := 27) rfl ?_
          refine g_idiv X dX1_choose_27 (by decide) (n := 28) rfl ?_
          refine g_iload_n X dX1_choose_28 2 rfl rfl (n := 29) rfl ?_
          refine g_iadd X dX1_choose_29 (n := 30) rfl ?_
          refine g_istore_n X dX1_choose_30 rfl (by decide) (lv2 := [(3, .int (((p1 * (p1 + 1)) / 2) + p2)), (0, .ref a0), (1, .int p1), (2, .int p2)]) rfl (n := 31) rfl ?_
          refine g_iload_n X dX1_choose_31 0 rfl rfl (n := 32) rfl ?_
          refine g_aload_n X dX1_choose_32 1 rfl rfl (n := 33) rfl ?_
          refine g_get X dX1_choose_33 flX1_11 0 rfl (v := .ref a1) rfl (n := 36) rfl ?_
          refine g_alen X dX1_choose_36 1 1 rfl rfl (v := 1891) rfl (n := 37) rfl ?_
          refine g_icmp_ge X dX1_choose_37 (t := 49) (by decide) (n := 40) rfl (fun c_5 => ?_) (fun c_5 => ?_)
          · replace hf := k_pos c_5 hf
            refine g_lconst X dX1_choose_49 (v := 0) rfl (n := 50) rfl ?_
            obtain rfl := Option.some.inj hf
            exact hret _ _ dX1_choose_50
          · replace hf := k_neg c_5 hf
            refine g_aload_n X dX1_choose_40 1 rfl rfl (n := 41) rfl ?_
            refine g_get X dX1_choose_41 flX1_11 0 rfl (v := .ref a1) rfl (n := 44) rfl ?_
            refine g_iload_n X dX1_choose_44 0 rfl rfl (n := 45) rfl ?_
            obtain ⟨h_6, hf⟩ := k_guard hf
            refine g_laload X dX1_choose_45 1 (f := z.1) rfl rfl h_6 (n := 46) rfl ?_
            refine g_goto X dX1_choose_46 (n := 50) (by decide) ?_
            obtain rfl := Option.some.inj hf
            exact hret _ _ dX1_choose_50
        · replace hf := k_neg c_4 hf
          refine g_lconst X dX1_choose_19 (v := 0) rfl (n := 20) rfl ?_
          obtain rfl := Option.some.inj hf
          exact hret _ _ dX1_choose_20
set_option maxRecDepth 100000 in
set_option maxHeartbeats 4000000 in
theorem mX1_choose {l : Launch} {D : va_G} {a0 a1 a2 : Nat} {p1 : Int32} {p2 : Int32} {z : VX1} {res : Int64} (hf : fX1_choose z p1 p2 = some res) : k_Met l yX1_choose cX1_choose 4 (some .long) 0 0 D [.ref a0, .int p1, .int p2] (pic_X1 D a0 a1 a2 z) (some (.long res)) (pic_X1 D a0 a1 a2 z) :=
  k_of_l (by decide) (Nat.le_of_ble_eq_true rfl) (fun E X hret => wX1_choose X hret hf)
set_option maxRecDepth 100000 in
set_option maxHeartbeats 4000000 in
theorem wX1_write {D : va_G} {l : Launch} {E : k_E} {a0 a1 a2 : Nat} {p1 : Int32} {p2 : Int32} {p3 : Int64} {z : VX1} {res : VX1} (X : k_X D E cX1_write RX1 6 0 0) (hret : ∀ (pc : Nat) (lv : List (Nat × Value)), decode cX1_write pc = .ok (.return_, 1) → k_G D l E (pic_X1 D a0 a1 a2 res) lv pc []) (hf : fX1_write p1 p2 p3 z = some res) : k_G D l E (pic_X1 D a0 a1 a2 z) [(0, .ref a0), (1, .int p1), (2, .int p2), (3, .long p3)] 0 [] := by
  unfold fX1_write at hf
  refine g_iload_n X dX1_write_0 1 rfl rfl (n := 1) rfl ?_
  refine g_bipush X dX1_write_1 (v := 61) (by decide) (n := 3) rfl ?_
  refine g_imul X dX1_write_3 (n := 4) rfl ?_
  refine g_iload_n X dX1_write_4 2 rfl rfl (n := 5) rfl ?_
  refine g_iadd X dX1_write_5 (n := 6) rfl ?_
  refine g_istore X dX1_write_6 (by decide) (lv2 := [(5, .int ((p1 * 61) + p2)), (0, .ref a0), (1, .int p1), (2, .int p2), (3, .long p3)]) rfl (n := 8) rfl ?_
  refine g_iload X dX1_write_8 0 rfl (n := 10) rfl ?_
  refine g_if_lt X dX1_write_10 (t := 31) (by decide) (n := 13) rfl (fun c_1 => ?_) (fun c_1 => ?_)
  · replace hf := k_pos c_1 hf
    obtain rfl := Option.some.inj hf
    exact hret _ _ dX1_write_31
  · replace hf := k_neg c_1 hf
    refine g_iload X dX1_write_13 0 rfl (n := 15) rfl ?_
    refine g_aload_n X dX1_write_15 1 rfl rfl (n := 16) rfl ?_
    refine g_get X dX1_write_16 flX1_15 0 rfl (v := .ref a2) rfl (n := 19) rfl ?_
    refine g_alen X dX1_write_19 2 1 rfl rfl (v := 1891) rfl (n := 20) rfl ?_
    refine g_icmp_ge X dX1_write_20 (t := 31) (by decide) (n := 23) rfl (fun c_2 => ?_) (fun c_2 => ?_)
    · replace hf := k_pos c_2 hf
      obtain rfl := Option.some.inj hf
      exact hret _ _ dX1_write_31
    · replace hf := k_neg c_2 hf
      refine g_aload_n X dX1_write_23 1 rfl rfl (n := 24) rfl ?_
      refine g_get X dX1_write_24 flX1_15 0 rfl (v := .ref a2) rfl (n := 27) rfl ?_
      refine g_iload X dX1_write_27 0 rfl (n := 29) rfl ?_
      refine g_lload_n X dX1_write_29 4 rfl rfl (n := 30) rfl ?_
      obtain ⟨h_3, hf⟩ := k_guard hf
      refine g_lastore X dX1_write_30 2 (f := z.2.1) rfl rfl h_3 (ws2 := pic_X1 D a0 a1 a2 (z.1, vp_updL z.2.1 (((p1 * 61) + p2)).toNatClampNeg p3, z.2.2.1, z.2.2.2.1, z.2.2.2.2)) rfl (n := 31) rfl ?_
      obtain rfl := Option.some.inj hf
      exact hret _ _ dX1_write_31
set_option maxRecDepth 100000 in
set_option maxHeartbeats 4000000 in
theorem mX1_write {l : Launch} {D : va_G} {a0 a1 a2 : Nat} {p1 : Int32} {p2 : Int32} {p3 : Int64} {z : VX1} {res : VX1} (hf : fX1_write p1 p2 p3 z = some res) : k_Met l yX1_write cX1_write 6 none 0 0 D [.ref a0, .int p1, .int p2, .long p3] (pic_X1 D a0 a1 a2 z) none (pic_X1 D a0 a1 a2 res) :=
  k_of_v (by decide) (Nat.le_of_ble_eq_true rfl) (fun E X hret => wX1_write X hret hf)
set_option maxRecDepth 100000 in
set_option maxHeartbeats 4000000 in
theorem wX1_people {D : va_G} {l : Launch} {E : k_E} {a0 a1 a2 : Nat} {p1 : Int32} {z : VX1} {res : Int32} (X : k_X D E cX1_people RX1 2 0 0) (hret : ∀ (pc : Nat) (lv : List (Nat × Value)), decode cX1_people pc = .ok (.ireturn, 1) → k_G D l E (pic_X1 D a0 a1 a2 z) lv pc [.int res]) (hf : fX1_people z p1 = some res) : k_G D l E (pic_X1 D a0 a1 a2 z) [(0, .ref a0), (1, .int p1)] 0 [] := by
  unfold fX1_people at hf
  refine g_aload_n X dX1_people_0 0 rfl rfl (n := 1) rfl ?_
  refine g_get X dX1_people_1 flX1_22 0 rfl (v := .int z.2.2.1) rfl (n := 4) rfl ?_
  refine g_aload_n X dX1_people_4 0 rfl rfl (n := 5) rfl ?_
  refine g_get X dX1_people_5 flX1_35 0 rfl (v := .int z.2.2.2.2) rfl (n := 8) rfl ?_
  refine g_iadd X dX1_people_8 (n := 9) rfl ?_
  refine g_iload_n X dX1_people_9 1 rfl rfl (n := 10) rfl ?_
  refine g_isub X dX1_people_10 (n := 11) rfl ?_
  obtain rfl := Option.some.inj hf
  exact hret _ _ dX1_people_11
set_option maxRecDepth 100000 in
set_option maxHeartbeats 4000000 in
theorem mX1_people {l : Launch} {D : va_G} {a0 a1 a2 : Nat} {p1 : Int32} {z : VX1} {res : Int32} (hf : fX1_people z p1 = some res) : k_Met l yX1_people cX1_people 2 (some .int) 0 0 D [.ref a0, .int p1] (pic_X1 D a0 a1 a2 z) (some (.int res)) (pic_X1 D a0 a1 a2 z) :=
  k_of_i (by decide) (Nat.le_of_ble_eq_true rfl) (fun E X hret => wX1_people X hret hf)
set_option maxRecDepth 100000 in
set_option maxHeartbeats 4000000 in
theorem wX1_read {D : va_G} {l : Launch} {E : k_E} {a0 a1 a2 : Nat} {p1 : Int32} {p2 : Int32} {z : VX1} {res : Int64} (X : k_X D E cX1_read RX1 4 1 21) (hret : ∀ (pc : Nat) (lv : List (Nat × Value)), decode cX1_read pc = .ok (.lreturn, 1) → k_G D l E (pic_X1 D a0 a1 a2 z) lv pc [.long res]) (hf : fX1_read z p1 p2 = some res) : k_G D l E (pic_X1 D a0 a1 a2 z) [(0, .ref a0), (1, .int p1), (2, .int p2)] 0 [] := by
  unfold fX1_read at hf
  refine g_iload_n X dX1_read_0 1 rfl rfl (n := 1) rfl ?_
  refine g_bipush X dX1_read_1 (v := 61) (by decide) (n := 3) rfl ?_
  refine g_imul X dX1_read_3 (n := 4) rfl ?_
  refine g_iload_n X dX1_read_4 2 rfl rfl (n := 5) rfl ?_
  refine g_iadd X dX1_read_5 (n := 6) rfl ?_
  refine g_istore_n X dX1_read_6 rfl (by decide) (lv2 := [(3, .int ((p1 * 61) + p2)), (0, .ref a0), (1, .int p1), (2, .int p2)]) rfl (n := 7) rfl ?_
  refine g_iload_n X dX1_read_7 3 rfl rfl (n := 8) rfl ?_
  refine g_if_lt X dX1_read_8 (t := 42) (by decide) (n := 11) rfl (fun c_1 => ?_) (fun c_1 => ?_)
  · replace hf := k_pos c_1 hf
    refine g_lconst X dX1_read_42 (v := 0) rfl (n := 43) rfl ?_
    obtain rfl := Option.some.inj hf
    exact hret _ _ dX1_read_43
  · replace hf := k_neg c_1 hf
    refine g_iload_n X dX1_read_11 3 rfl rfl (n := 12) rfl ?_
    refine g_aload_n X dX1_read_12 1 rfl rfl (n := 13) rfl ?_
    refine g_iload_n X dX1_read_13 2 rfl rfl (n := 14) rfl ?_
    obtain ⟨x_2, g_3, hf⟩ := k_b1s hf
    refine g_callV X (mX1_people (D := D) (l := l) (a0 := a0) (a1 := a1) (a2 := a2) g_3) lk_X1_people mlX1_42 dX1_read_14 (n := 17) rfl (st := [.int p2]) rfl (st2 := [.int x_2, .int p2]) rfl [0, 1, 2] rfl rfl rfl rfl rfl rfl (ws2 := pic_X1 D a0 a1 a2 z) rfl rfl rfl ⟨Nat.le_of_ble_eq_true rfl, Nat.le_of_ble_eq_true rfl⟩ (Nat.le_of_ble_eq_true rfl) ?_
    refine g_icmp_gt X dX1_read_17 (t := 42) (by decide) (n := 20) rfl (fun c_4 => ?_) (fun c_4 => ?_)
    · replace hf := k_pos c_4 hf
      refine g_lconst X dX1_read_42 (v := 0) rfl (n := 43) rfl ?_
      obtain rfl := Option.some.inj hf
      exact hret _ _ dX1_read_43
    · replace hf := k_neg c_4 hf
      refine g_iload_n X dX1_read_20 0 rfl rfl (n := 21) rfl ?_
      refine g_if_lt X dX1_read_21 (t := 42) (by decide) (n := 24) rfl (fun c_5 => ?_) (fun c_5 => ?_)
      · replace hf := k_pos c_5 hf
        refine g_lconst X dX1_read_42 (v := 0) rfl (n := 43) rfl ?_
        obtain rfl := Option.some.inj hf
        exact hret _ _ dX1_read_43
      · replace hf := k_neg c_5 hf
        refine g_iload_n X dX1_read_24 0 rfl rfl (n := 25) rfl ?_
        refine g_aload_n X dX1_read_25 1 rfl rfl (n := 26) rfl ?_
        refine g_get X dX1_read_26 flX1_15 0 rfl (v := .ref a2) rfl (n := 29) rfl ?_
        refine g_alen X dX1_read_29 2 1 rfl rfl (v := 1891) rfl (n := 30) rfl ?_
        refine g_icmp_ge X dX1_read_30 (t := 42) (by decide) (n := 33) rfl (fun c_6 => ?_) (fun c_6 => ?_)
        · replace hf := k_pos c_6 hf
          refine g_lconst X dX1_read_42 (v := 0) rfl (n := 43) rfl ?_
          obtain rfl := Option.some.inj hf
          exact hret _ _ dX1_read_43
        · replace hf := k_neg c_6 hf
          refine g_aload_n X dX1_read_33 1 rfl rfl (n := 34) rfl ?_
          refine g_get X dX1_read_34 flX1_15 0 rfl (v := .ref a2) rfl (n := 37) rfl ?_
          refine g_iload_n X dX1_read_37 0 rfl rfl (n := 38) rfl ?_
          obtain ⟨h_7, hf⟩ := k_guard hf
          refine g_laload X dX1_read_38 2 (f := z.2.1) rfl rfl h_7 (n := 39) rfl ?_
          refine g_goto X dX1_read_39 (n := 43) (by decide) ?_
          obtain rfl := Option.some.inj hf
          exact hret _ _ dX1_read_43
set_option maxRecDepth 100000 in
set_option maxHeartbeats 4000000 in
theorem mX1_read {l : Launch} {D : va_G} {a0 a1 a2 : Nat} {p1 : Int32} {p2 : Int32} {z : VX1} {res : Int64} (hf : fX1_read z p1 p2 = some res) : k_Met l yX1_read cX1_read 4 (some .long) 1 21 D [.ref a0, .int p1, .int p2] (pic_X1 D a0 a1 a2 z) (some (.long res)) (pic_X1 D a0 a1 a2 z) :=
  k_of_l (by decide) (Nat.le_of_ble_eq_true rfl) (fun E X hret => wX1_read X hret hf)
set_option maxRecDepth 100000 in
set_option maxHeartbeats 4000000 in
theorem wX1_lay_b74 {D : va_G} {l : Launch} {E : k_E} {N : Nat} {a0 a1 a2 : Nat} {k66 : Int32 → VX1 → Option (VX1)} {k74 : Int32 → Int32 → VX1 → Option (VX1)} {v4 : Int32} {v5 : Int32} {z : VX1} {res : VX1} (X : k_X D E cX1_lay RX1 6 2 44) (hk66 : ∀ (v4 : Int32) (z : VX1), k66 v4 z = some res → k_G D l E (pic_X1 D a0 a1 a2 z) [(0, .ref a0), (4, .int v4)] 66 []) (hk74 : ∀ (v4 : Int32) (v5 : Int32) (z : VX1), k74 v4 v5 z = some res → k_G D l E (pic_X1 D a0 a1 a2 z) [(0, .ref a0), (4, .int v4), (5, .int v5)] 74 []) (hret : ∀ (pc : Nat) (lv : List (Nat × Value)), decode cX1_lay pc = .ok (.return_, 1) → k_G D l E (pic_X1 D a0 a1 a2 res) lv pc []) (hf : fX1_lay_b74 N k66 k74 v4 v5 z = some res) : k_G D l E (pic_X1 D a0 a1 a2 z) [(0, .ref a0), (4, .int v4), (5, .int v5)] 74 [] := by
  unfold fX1_lay_b74 at hf
  refine g_iload X dX1_lay_74 2 rfl (n := 76) rfl ?_
  refine g_aload_n X dX1_lay_76 0 rfl rfl (n := 77) rfl ?_
  refine g_iload X dX1_lay_77 1 rfl (n := 79) rfl ?_
  obtain ⟨x_1, g_2, hf⟩ := k_b1s hf
  refine g_callV X (mX1_people (D := D) (l := l) (a0 := a0) (a1 := a1) (a2 := a2) g_2) lk_X1_people mlX1_42 dX1_lay_79 (n := 82) rfl (st := [.int v5]) rfl (st2 := [.int x_1, .int v5]) rfl [0, 1, 2] rfl rfl rfl rfl rfl rfl (ws2 := pic_X1 D a0 a1 a2 z) rfl rfl rfl ⟨Nat.le_of_ble_eq_true rfl, Nat.le_of_ble_eq_true rfl⟩ (Nat.le_of_ble_eq_true rfl) ?_
  refine g_icmp_gt X dX1_lay_82 (t := 126) (by decide) (n := 85) rfl (fun c_3 => ?_) (fun c_3 => ?_)
  · replace hf := k_pos c_3 hf
    refine g_iinc X dX1_lay_126 1 rfl (v := v4 + (-1)) rfl (by decide) (lv2 := [(4, .int (v4 + (-1))), (0, .ref a0), (5, .int v5)]) rfl (n := 129) rfl ?_
    refine g_goto X dX1_lay_129 (n := 66) (by decide) ?_
    refine g_sub [1, 0] (lv' := [(0, .ref a0), (4, .int (v4 + (-1)))]) rfl ?_
    exact hk66 _ _ hf
  · replace hf := k_neg c_3 hf
    refine g_aload_n X dX1_lay_85 0 rfl rfl (n := 86) rfl ?_
    refine g_iload X dX1_lay_86 1 rfl (n := 88) rfl ?_
    refine g_iload X dX1_lay_88 2 rfl (n := 90) rfl ?_
    refine g_aload_n X dX1_lay_90 0 rfl rfl (n := 91) rfl ?_
    refine g_iload X dX1_lay_91 1 rfl (n := 93) rfl ?_
    refine g_iconst X dX1_lay_93 (v := 1) (by decide) (n := 94) rfl ?_
    refine g_iadd X dX1_lay_94 (n := 95) rfl ?_
    refine g_iload X dX1_lay_95 2 rfl (n := 97) rfl ?_
    obtain ⟨x_4, g_5, hf⟩ := k_b1s hf
    refine g_callV X (mX1_read (D := D) (l := l) (a0 := a0) (a1 := a1) (a2 := a2) g_5) lk_X1_read mlX1_46 dX1_lay_97 (n := 100) rfl (st := [.int v5, .int v4, .ref a0]) rfl (st2 := [.long x_4, .int v5, .int v4, .ref a0]) rfl [0, 1, 2] rfl rfl rfl rfl rfl rfl (ws2 := pic_X1 D a0 a1 a2 z) rfl rfl rfl ⟨Nat.le_of_ble_eq_true rfl, Nat.le_of_ble_eq_true rfl⟩ (Nat.le_of_ble_eq_true rfl) ?_
    refine g_ldc2 X dX1_lay_100 kcX1_49 (n := 103) rfl ?_
    refine g_aload_n X dX1_lay_103 0 rfl rfl (n := 104) rfl ?_
    refine g_iload X dX1_lay_104 1 rfl (n := 106) rfl ?_
    refine g_iconst X dX1_lay_106 (v := 1) (by decide) (n := 107) rfl ?_
    refine g_iadd X dX1_lay_107 (n := 108) rfl ?_
    refine g_iload X dX1_lay_108 2 rfl (n := 110) rfl ?_
    refine g_iconst X dX1_lay_110 (v := 1) (by decide) (n := 111) rfl ?_
    refine g_isub X dX1_lay_111 (n := 112) rfl ?_
    obtain ⟨x_6, g_7, hf⟩ := k_b1s hf
    refine g_callV X (mX1_read (D := D) (l := l) (a0 := a0) (a1 := a1) (a2 := a2) g_7) lk_X1_read mlX1_46 dX1_lay_112 (n := 115) rfl (st := [.long (2 : Int64), .long x_4, .int v5, .int v4, .ref a0]) rfl (st2 := [.long x_6, .long (2 : Int64), .long x_4, .int v5, .int v4, .ref a0]) rfl [0, 1, 2] rfl rfl rfl rfl rfl rfl (ws2 := pic_X1 D a0 a1 a2 z) rfl rfl rfl ⟨Nat.le_of_ble_eq_true rfl, Nat.le_of_ble_eq_true rfl⟩ (Nat.le_of_ble_eq_true rfl) ?_
    refine g_lmul X dX1_lay_115 (n := 116) rfl ?_
    refine g_ladd X dX1_lay_116 (n := 117) rfl ?_
    obtain ⟨z_8, g_9, hf⟩ := k_b1s hf
    refine g_callV X (mX1_write (D := D) (l := l) (a0 := a0) (a1 := a1) (a2 := a2) g_9) lk_X1_write mlX1_38 dX1_lay_117 (n := 120) rfl (st := []) rfl (st2 := []) rfl [0, 1, 2] rfl rfl rfl rfl rfl rfl (ws2 := pic_X1 D a0 a1 a2 z_8) rfl rfl rfl ⟨Nat.le_of_ble_eq_true rfl, Nat.le_of_ble_eq_true rfl⟩ (Nat.le_of_ble_eq_true rfl) ?_
    refine g_iinc X dX1_lay_120 2 rfl (v := v5 + 1) rfl (by decide) (lv2 := [(5, .int (v5 + 1)), (0, .ref a0), (4, .int v4)]) rfl (n := 123) rfl ?_
    refine g_goto X dX1_lay_123 (n := 74) (by decide) ?_
    refine g_sub [1, 2, 0] (lv' := [(0, .ref a0), (4, .int v4), (5, .int (v5 + 1))]) rfl ?_
    exact hk74 _ _ _ hf
set_option maxRecDepth 100000 in
set_option maxHeartbeats 4000000 in
theorem wX1_lay_l74 {D : va_G} {l : Launch} {E : k_E} {N : Nat} {a0 a1 a2 : Nat} {k66 : Int32 → VX1 → Option (VX1)} {res : VX1} (X : k_X D E cX1_lay RX1 6 2 44) (hk66 : ∀ (v4 : Int32) (z : VX1), k66 v4 z = some res → k_G D l E (pic_X1 D a0 a1 a2 z) [(0, .ref a0), (4, .int v4)] 66 []) (hret : ∀ (pc : Nat) (lv : List (Nat × Value)), decode cX1_lay pc = .ok (.return_, 1) → k_G D l E (pic_X1 D a0 a1 a2 res) lv pc []) : ∀ (n0 : Nat) (v4 : Int32) (v5 : Int32) (z : VX1), fX1_lay_l74 N k66 n0 v4 v5 z = some res → k_G D l E (pic_X1 D a0 a1 a2 z) [(0, .ref a0), (4, .int v4), (5, .int v5)] 74 [] := by
  intro n0
  induction n0 with
  | zero => intro v4 v5 z hf; cases hf
  | succ n0 ih => intro v4 v5 z hf; exact wX1_lay_b74 (N := N) (k74 := fX1_lay_l74 N k66 n0) X hk66 ih hret hf
set_option maxRecDepth 100000 in
set_option maxHeartbeats 4000000 in
theorem wX1_lay_b66 {D : va_G} {l : Launch} {E : k_E} {N : Nat} {a0 a1 a2 : Nat} {k66 : Int32 → VX1 → Option (VX1)} {v4 : Int32} {z : VX1} {res : VX1} (X : k_X D E cX1_lay RX1 6 2 44) (hk66 : ∀ (v4 : Int32) (z : VX1), k66 v4 z = some res → k_G D l E (pic_X1 D a0 a1 a2 z) [(0, .ref a0), (4, .int v4)] 66 []) (hret : ∀ (pc : Nat) (lv : List (Nat × Value)), decode cX1_lay pc = .ok (.return_, 1) → k_G D l E (pic_X1 D a0 a1 a2 res) lv pc []) (hf : fX1_lay_b66 N k66 v4 z = some res) : k_G D l E (pic_X1 D a0 a1 a2 z) [(0, .ref a0), (4, .int v4)] 66 [] := by
  unfold fX1_lay_b66 at hf
  refine g_iload X dX1_lay_66 1 rfl (n := 68) rfl ?_
  refine g_if_lt X dX1_lay_68 (t := 132) (by decide) (n := 71) rfl (fun c_1 => ?_) (fun c_1 => ?_)
  · replace hf := k_pos c_1 hf
    obtain rfl := Option.some.inj hf
    exact hret _ _ dX1_lay_132
  · replace hf := k_neg c_1 hf
    refine g_iconst X dX1_lay_71 (v := 0) (by decide) (n := 72) rfl ?_
    refine g_istore X dX1_lay_72 (by decide) (lv2 := [(5, .int 0), (0, .ref a0), (4, .int v4)]) rfl (n := 74) rfl ?_
    refine g_sub [1, 2, 0] (lv' := [(0, .ref a0), (4, .int v4), (5, .int 0)]) rfl ?_
    exact wX1_lay_l74 X hk66 hret _ _ _ _ hf
set_option maxRecDepth 100000 in
set_option maxHeartbeats 4000000 in
theorem wX1_lay_l66 {D : va_G} {l : Launch} {E : k_E} {N : Nat} {a0 a1 a2 : Nat} {res : VX1} (X : k_X D E cX1_lay RX1 6 2 44) (hret : ∀ (pc : Nat) (lv : List (Nat × Value)), decode cX1_lay pc = .ok (.return_, 1) → k_G D l E (pic_X1 D a0 a1 a2 res) lv pc []) : ∀ (n0 : Nat) (v4 : Int32) (z : VX1), fX1_lay_l66 N n0 v4 z = some res → k_G D l E (pic_X1 D a0 a1 a2 z) [(0, .ref a0), (4, .int v4)] 66 [] := by
  intro n0
  induction n0 with
  | zero => intro v4 z hf; cases hf
  | succ n0 ih => intro v4 z hf; exact wX1_lay_b66 (N := N) (k66 := fX1_lay_l66 N n0) X  ih hret hf
set_option maxRecDepth 100000 in
set_option maxHeartbeats 4000000 in
theorem wX1_lay_b23 {D : va_G} {l : Launch} {E : k_E} {N : Nat} {a0 a1 a2 : Nat} {k23 : Int32 → VX1 → Option (VX1)} {v4 : Int32} {z : VX1} {res : VX1} (X : k_X D E cX1_lay RX1 6 2 44) (hk23 : ∀ (v4 : Int32) (z : VX1), k23 v4 z = some res → k_G D l E (pic_X1 D a0 a1 a2 z) [(0, .ref a0), (4, .int v4)] 23 []) (hret : ∀ (pc : Nat) (lv : List (Nat × Value)), decode cX1_lay pc = .ok (.return_, 1) → k_G D l E (pic_X1 D a0 a1 a2 res) lv pc []) (hf : fX1_lay_b23 N k23 v4 z = some res) : k_G D l E (pic_X1 D a0 a1 a2 z) [(0, .ref a0), (4, .int v4)] 23 [] := by
  unfold fX1_lay_b23 at hf
  refine g_iload X dX1_lay_23 1 rfl (n := 25) rfl ?_
  refine g_aload_n X dX1_lay_25 0 rfl rfl (n := 26) rfl ?_
  refine g_get X dX1_lay_26 flX1_22 0 rfl (v := .int z.2.2.1) rfl (n := 29) rfl ?_
  refine g_icmp_gt X dX1_lay_29 (t := 58) (by decide) (n := 32) rfl (fun c_1 => ?_) (fun c_1 => ?_)
  · replace hf := k_pos c_1 hf
    refine g_aload_n X dX1_lay_58 0 rfl rfl (n := 59) rfl ?_
    refine g_get X dX1_lay_59 flX1_35 0 rfl (v := .int z.2.2.2.2) rfl (n := 62) rfl ?_
    refine g_iconst X dX1_lay_62 (v := 1) (by decide) (n := 63) rfl ?_
    refine g_isub X dX1_lay_63 (n := 64) rfl ?_
    refine g_istore X dX1_lay_64 (by decide) (lv2 := [(4, .int (z.2.2.2.2 - 1)), (0, .ref a0)]) rfl (n := 66) rfl ?_
    refine g_sub [1, 0] (lv' := [(0, .ref a0), (4, .int (z.2.2.2.2 - 1))]) rfl ?_
    exact wX1_lay_l66 X  hret _ _ _ hf
  · replace hf := k_neg c_1 hf
    refine g_aload_n X dX1_lay_32 0 rfl rfl (n := 33) rfl ?_
    refine g_aload_n X dX1_lay_33 0 rfl rfl (n := 34) rfl ?_
    refine g_get X dX1_lay_34 flX1_35 0 rfl (v := .int z.2.2.2.2) rfl (n := 37) rfl ?_
    refine g_iload X dX1_lay_37 1 rfl (n := 39) rfl ?_
    refine g_aload_n X dX1_lay_39 0 rfl rfl (n := 40) rfl ?_
    refine g_aload_n X dX1_lay_40 0 rfl rfl (n := 41) rfl ?_
    refine g_get X dX1_lay_41 flX1_22 0 rfl (v := .int z.2.2.1) rfl (n := 44) rfl ?_
    refine g_iload X dX1_lay_44 1 rfl (n := 46) rfl ?_
    obtain ⟨x_2, g_3, hf⟩ := k_b1s hf
    refine g_callV X (mX1_choose (D := D) (l := l) (a0 := a0) (a1 := a1) (a2 := a2) g_3) lk_X1_choose mlX1_18 dX1_lay_46 (n := 49) rfl (st := [.int v4, .int z.2.2.2.2, .ref a0]) rfl (st2 := [.long x_2, .int v4, .int z.2.2.2.2, .ref a0]) rfl [0, 1, 2] rfl rfl rfl rfl rfl rfl (ws2 := pic_X1 D a0 a1 a2 z) rfl rfl rfl ⟨Nat.le_of_ble_eq_true rfl, Nat.le_of_ble_eq_true rfl⟩ (Nat.le_of_ble_eq_true rfl) ?_
    obtain ⟨z_4, g_5, hf⟩ := k_b1s hf
    refine g_callV X (mX1_write (D := D) (l := l) (a0 := a0) (a1 := a1) (a2 := a2) g_5) lk_X1_write mlX1_38 dX1_lay_49 (n := 52) rfl (st := []) rfl (st2 := []) rfl [0, 1, 2] rfl rfl rfl rfl rfl rfl (ws2 := pic_X1 D a0 a1 a2 z_4) rfl rfl rfl ⟨Nat.le_of_ble_eq_true rfl, Nat.le_of_ble_eq_true rfl⟩ (Nat.le_of_ble_eq_true rfl) ?_
    refine g_iinc X dX1_lay_52 1 rfl (v := v4 + 1) rfl (by decide) (lv2 := [(4, .int (v4 + 1)), (0, .ref a0)]) rfl (n := 55) rfl ?_
    refine g_goto X dX1_lay_55 (n := 23) (by decide) ?_
    refine g_sub [1, 0] (lv' := [(0, .ref a0), (4, .int (v4 + 1))]) rfl ?_
    exact hk23 _ _ hf
set_option maxRecDepth 100000 in
set_option maxHeartbeats 4000000 in
theorem wX1_lay_l23 {D : va_G} {l : Launch} {E : k_E} {N : Nat} {a0 a1 a2 : Nat} {res : VX1} (X : k_X D E cX1_lay RX1 6 2 44) (hret : ∀ (pc : Nat) (lv : List (Nat × Value)), decode cX1_lay pc = .ok (.return_, 1) → k_G D l E (pic_X1 D a0 a1 a2 res) lv pc []) : ∀ (n0 : Nat) (v4 : Int32) (z : VX1), fX1_lay_l23 N n0 v4 z = some res → k_G D l E (pic_X1 D a0 a1 a2 z) [(0, .ref a0), (4, .int v4)] 23 [] := by
  intro n0
  induction n0 with
  | zero => intro v4 z hf; cases hf
  | succ n0 ih => intro v4 z hf; exact wX1_lay_b23 (N := N) (k23 := fX1_lay_l23 N n0) X  ih hret hf
set_option maxRecDepth 100000 in
set_option maxHeartbeats 4000000 in
theorem wX1_lay {D : va_G} {l : Launch} {E : k_E} {N : Nat} {a0 a1 a2 : Nat} {p1 : Int32} {p2 : Int32} {p3 : Int32} {z : VX1} {res : VX1} (X : k_X D E cX1_lay RX1 6 2 44) (hret : ∀ (pc : Nat) (lv : List (Nat × Value)), decode cX1_lay pc = .ok (.return_, 1) → k_G D l E (pic_X1 D a0 a1 a2 res) lv pc []) (hf : fX1_lay N p1 p2 p3 z = some res) : k_G D l E (pic_X1 D a0 a1 a2 z) [(0, .ref a0), (1, .int p1), (2, .int p2), (3, .int p3)] 0 [] := by
  unfold fX1_lay at hf
  refine g_aload_n X dX1_lay_0 0 rfl rfl (n := 1) rfl ?_
  refine g_iload_n X dX1_lay_1 1 rfl rfl (n := 2) rfl ?_
  refine g_put X dX1_lay_2 flX1_22 0 rfl rfl rfl (Nat.le_of_ble_eq_true rfl) (ws2 := pic_X1 D a0 a1 a2 (z.1, z.2.1, p1, z.2.2.2.1, z.2.2.2.2)) rfl (n := 5) rfl ?_
  refine g_aload_n X dX1_lay_5 0 rfl rfl (n := 6) rfl ?_
  refine g_iload_n X dX1_lay_6 2 rfl rfl (n := 7) rfl ?_
  refine g_put X dX1_lay_7 flX1_26 0 rfl rfl rfl (Nat.le_of_ble_eq_true rfl) (ws2 := pic_X1 D a0 a1 a2 (z.1, z.2.1, p1, p2, z.2.2.2.2)) rfl (n := 10) rfl ?_
  refine g_aload_n X dX1_lay_10 0 rfl rfl (n := 11) rfl ?_
  refine g_iload_n X dX1_lay_11 3 rfl rfl (n := 12) rfl ?_
  refine g_bipush X dX1_lay_12 (v := 30) (by decide) (n := 14) rfl ?_
  refine g_min X lkM_min mlX1_29 dX1_lay_14 (n := 17) rfl ⟨Nat.le_of_ble_eq_true rfl, Nat.le_of_ble_eq_true rfl⟩ (Nat.le_of_ble_eq_true rfl) ?_
  refine g_put X dX1_lay_17 flX1_35 0 rfl rfl rfl (Nat.le_of_ble_eq_true rfl) (ws2 := pic_X1 D a0 a1 a2 (z.1, z.2.1, p1, p2, (if (30 : Int32) < p3 then (30 : Int32) else p3))) rfl (n := 20) rfl ?_
  refine g_iconst X dX1_lay_20 (v := 0) (by decide) (n := 21) rfl ?_
  refine g_istore X dX1_lay_21 (by decide) (lv2 := [(4, .int 0), (0, .ref a0), (1, .int p1), (2, .int p2), (3, .int p3)]) rfl (n := 23) rfl ?_
  refine g_sub [1, 0] (lv' := [(0, .ref a0), (4, .int 0)]) rfl ?_
  exact wX1_lay_l23 X  hret _ _ _ hf
set_option maxRecDepth 100000 in
set_option maxHeartbeats 4000000 in
theorem mX1_lay {l : Launch} {D : va_G} {N : Nat} {a0 a1 a2 : Nat} {p1 : Int32} {p2 : Int32} {p3 : Int32} {z : VX1} {res : VX1} (hf : fX1_lay N p1 p2 p3 z = some res) : k_Met l yX1_lay cX1_lay 6 none 2 44 D [.ref a0, .int p1, .int p2, .int p3] (pic_X1 D a0 a1 a2 z) none (pic_X1 D a0 a1 a2 res) :=
  k_of_v (by decide) (Nat.le_of_ble_eq_true rfl) (fun E X hret => wX1_lay X hret hf)
set_option maxRecDepth 100000 in
set_option maxHeartbeats 4000000 in
theorem wX1_valid {D : va_G} {l : Launch} {E : k_E} {a0 a1 a2 : Nat} {z : VX1} {res : Int32} (X : k_X D E cX1_valid RX1 1 0 0) (hret : ∀ (pc : Nat) (lv : List (Nat × Value)), decode cX1_valid pc = .ok (.ireturn, 1) → k_G D l E (pic_X1 D a0 a1 a2 z) lv pc [.int res]) (hf : fX1_valid z = some res) : k_G D l E (pic_X1 D a0 a1 a2 z) [(0, .ref a0)] 0 [] := by
  unfold fX1_valid at hf
  refine g_aload_n X dX1_valid_0 0 rfl rfl (n := 1) rfl ?_
  refine g_get X dX1_valid_1 flX1_22 0 rfl (v := .int z.2.2.1) rfl (n := 4) rfl ?_
  refine g_iconst X dX1_valid_4 (v := 2) (by decide) (n := 5) rfl ?_
  refine g_aload_n X dX1_valid_5 0 rfl rfl (n := 6) rfl ?_
  refine g_get X dX1_valid_6 flX1_35 0 rfl (v := .int z.2.2.2.2) rfl (n := 9) rfl ?_
  refine g_imul X dX1_valid_9 (n := 10) rfl ?_
  refine g_iadd X dX1_valid_10 (n := 11) rfl ?_
  obtain rfl := Option.some.inj hf
  exact hret _ _ dX1_valid_11
set_option maxRecDepth 100000 in
set_option maxHeartbeats 4000000 in
theorem mX1_valid {l : Launch} {D : va_G} {a0 a1 a2 : Nat} {z : VX1} {res : Int32} (hf : fX1_valid z = some res) : k_Met l yX1_valid cX1_valid 1 (some .int) 0 0 D [.ref a0] (pic_X1 D a0 a1 a2 z) (some (.int res)) (pic_X1 D a0 a1 a2 z) :=
  k_of_i (by decide) (Nat.le_of_ble_eq_true rfl) (fun E X hret => wX1_valid X hret hf)
set_option maxRecDepth 100000 in
set_option maxHeartbeats 4000000 in
theorem wX1_all {D : va_G} {l : Launch} {E : k_E} {a0 a1 a2 : Nat} {z : VX1} {res : Int32} (X : k_X D E cX1_all RX1 1 1 20) (hret : ∀ (pc : Nat) (lv : List (Nat × Value)), decode cX1_all pc = .ok (.ireturn, 1) → k_G D l E (pic_X1 D a0 a1 a2 z) lv pc [.int res]) (hf : fX1_all z = some res) : k_G D l E (pic_X1 D a0 a1 a2 z) [(0, .ref a0)] 0 [] := by
  unfold fX1_all at hf
  refine g_aload_n X dX1_all_0 0 rfl rfl (n := 1) rfl ?_
  obtain ⟨x_1, g_2, hf⟩ := k_b1s hf
  refine g_callV X (mX1_valid (D := D) (l := l) (a0 := a0) (a1 := a1) (a2 := a2) g_2) lk_X1_valid mlX1_51 dX1_all_1 (n := 4) rfl (st := []) rfl (st2 := [.int x_1]) rfl [0, 1, 2] rfl rfl rfl rfl rfl rfl (ws2 := pic_X1 D a0 a1 a2 z) rfl rfl rfl ⟨Nat.le_of_ble_eq_true rfl, Nat.le_of_ble_eq_true rfl⟩ (Nat.le_of_ble_eq_true rfl) ?_
  refine g_aload_n X dX1_all_4 0 rfl rfl (n := 5) rfl ?_
  refine g_get X dX1_all_5 flX1_26 0 rfl (v := .int z.2.2.2.1) rfl (n := 8) rfl ?_
  refine g_iadd X dX1_all_8 (n := 9) rfl ?_
  obtain rfl := Option.some.inj hf
  exact hret _ _ dX1_all_9
set_option maxRecDepth 100000 in
set_option maxHeartbeats 4000000 in
theorem mX1_all {l : Launch} {D : va_G} {a0 a1 a2 : Nat} {z : VX1} {res : Int32} (hf : fX1_all z = some res) : k_Met l yX1_all cX1_all 1 (some .int) 1 20 D [.ref a0] (pic_X1 D a0 a1 a2 z) (some (.int res)) (pic_X1 D a0 a1 a2 z) :=
  k_of_i (by decide) (Nat.le_of_ble_eq_true rfl) (fun E X hret => wX1_all X hret hf)
