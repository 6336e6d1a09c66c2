/-! walks: X7_shared X7_fine X7_word X7_lossOf X7_isOverfull X7_strike X7_worst -/
set_option maxRecDepth 100000 in
set_option maxHeartbeats 4000000 in
theorem wX7_shared_b52 {D : va_G} {l : Launch} {E : k_E} {N : Nat} {a : Nat → Nat} {k27 : Int32 → Int32 → Int32 → Int32 → VMl → VMh → VMs → Option (Int64 × VMl × VMh × VMs)} {v1 : Int32} {v2 : Int32} {v4 : Int32} {s0 : Int32} {s1 : Bool} {mp : VMp} {mg : VMg} {mc : Nat → Int64} {ml : VMl} {mq : VMq} {mh : VMh} {ms : VMs} {mr : Nat → Int32} {mi : VMi} {res : Int64 × VMl × VMh × VMs} (X : k_X D E cX7_shared RX7 6 4 91) (hk27 : ∀ (v1 : Int32) (v2 : Int32) (v3 : Int32) (v4 : Int32) (ml : VMl) (mh : VMh) (ms : VMs), k27 v1 v2 v3 v4 ml mh ms = some res → k_G D l E (pic_X7 D a mp mg mc ml mq mh ms mr mi) [(0, .ref (a 0)), (1, .int v1), (2, .int v2), (3, .int v3), (4, .int v4)] 27 []) (hret : ∀ (pc : Nat) (lv : List (Nat × Value)), decode cX7_shared pc = .ok (.lreturn, 1) → k_G D l E (pic_X7 D a mp mg mc res.2.1 mq res.2.2.1 res.2.2.2 mr mi) lv pc [.long res.1]) (hf : fX7_shared_b52 N mg mc k27 v1 v2 v4 s0 s1 ml mh ms = some res) : k_G D l E (pic_X7 D a mp mg mc ml mq mh ms mr mi) [(0, .ref (a 0)), (1, .int v1), (2, .int v2), (4, .int v4)] 52 [.int (bI s1), .int s0] := by
  unfold fX7_shared_b52 at hf
  refine g_iadd X dX7_shared_52 (n := 53) rfl ?_
  refine g_istore_n X dX7_shared_53 rfl (by decide) (lv2 := [(3, .int (s0 + (bI s1))), (0, .ref (a 0)), (1, .int v1), (2, .int v2), (4, .int v4)]) rfl (n := 54) rfl ?_
  refine g_iinc X dX7_shared_54 4 rfl (v := v4 + 1) rfl (by decide) (lv2 := [(4, .int (v4 + 1)), (3, .int (s0 + (bI s1))), (0, .ref (a 0)), (1, .int v1), (2, .int v2)]) rfl (n := 57) rfl ?_
  refine g_goto X dX7_shared_57 (n := 27) (by decide) ?_
  refine g_sub [2, 3, 4, 1, 0] (lv' := [(0, .ref (a 0)), (1, .int v1), (2, .int v2), (3, .int (s0 + (bI s1))), (4, .int (v4 + 1))]) rfl ?_
  exact hk27 _ _ _ _ _ _ _ hf
set_option maxRecDepth 100000 in
set_option maxHeartbeats 4000000 in
theorem wX7_shared_b27 {D : va_G} {l : Launch} {E : k_E} {N : Nat} {a : Nat → Nat} {k27 : Int32 → Int32 → Int32 → Int32 → VMl → VMh → VMs → Option (Int64 × VMl × VMh × VMs)} {v1 : Int32} {v2 : Int32} {v3 : Int32} {v4 : Int32} {mp : VMp} {mg : VMg} {mc : Nat → Int64} {ml : VMl} {mq : VMq} {mh : VMh} {ms : VMs} {mr : Nat → Int32} {mi : VMi} {res : Int64 × VMl × VMh × VMs} (X : k_X D E cX7_shared RX7 6 4 91) (hk27 : ∀ (v1 : Int32) (v2 : Int32) (v3 : Int32) (v4 : Int32) (ml : VMl) (mh : VMh) (ms : VMs), k27 v1 v2 v3 v4 ml mh ms = some res → k_G D l E (pic_X7 D a mp mg mc ml mq mh ms mr mi) [(0, .ref (a 0)), (1, .int v1), (2, .int v2), (3, .int v3), (4, .int v4)] 27 []) (hret : ∀ (pc : Nat) (lv : List (Nat × Value)), decode cX7_shared pc = .ok (.lreturn, 1) → k_G D l E (pic_X7 D a mp mg mc res.2.1 mq res.2.2.1 res.2.2.2 mr mi) lv pc [.long res.1]) (hf : fX7_shared_b27 N mg mc k27 v1 v2 v3 v4 ml mh ms = some res) : k_G D l E (pic_X7 D a mp mg mc ml mq mh ms mr mi) [(0, .ref (a 0)), (1, .int v1), (2, .int v2), (3, .int v3), (4, .int v4)] 27 [] := by
  unfold fX7_shared_b27 at hf
  refine g_iload X dX7_shared_27 4 rfl (n := 29) rfl ?_
  refine g_iconst X dX7_shared_29 (v := 5) (by decide) (n := 30) rfl ?_
  refine g_icmp_ge X dX7_shared_30 (t := 60) (by decide) (n := 33) rfl (fun c_1 => ?_) (fun c_1 => ?_)
  · replace hf := k_pos c_1 hf
    refine g_aload_n X dX7_shared_60 0 rfl rfl (n := 61) rfl ?_
    refine g_iload_n X dX7_shared_61 1 rfl rfl (n := 62) rfl ?_
    obtain ⟨ml_2, mh_3, ms_4, g_5, hf⟩ := k_b3s hf
    refine g_callV0 X (mX7_laySeems (D := D) (l := l) (a := a) (mp := mp) (mq := mq) (mr := mr) (mi := mi) g_5) lk_X7_laySeems mlX7_195 dX7_shared_62 (n := 65) rfl (st := []) rfl (st2 := []) rfl rfl rfl rfl (ws2 := pic_X7 D a mp mg mc ml_2 mq mh_3 ms_4 mr mi) (ad_X7 _ _ _ _ _ _ _ _ _ _ _ _ _ _ _ _ _ _ _ _) rfl ⟨Nat.le_of_ble_eq_true rfl, Nat.le_of_ble_eq_true rfl⟩ (Nat.le_of_ble_eq_true rfl) ?_
    refine g_aload_n X dX7_shared_65 0 rfl rfl (n := 66) rfl ?_
    refine g_get X dX7_shared_66 flX7_187 0 rfl (v := .long ms_4.1) rfl (n := 69) rfl ?_
    refine g_iload_n X dX7_shared_69 3 rfl rfl (n := 70) rfl ?_
    refine g_i2l X dX7_shared_70 (n := 71) rfl ?_
    refine g_lmul X dX7_shared_71 (n := 72) rfl ?_
    refine g_lstore X dX7_shared_72 (by decide) (lv2 := [(4, .long (ms_4.1 * (v3).toInt64)), (0, .ref (a 0)), (1, .int v1), (2, .int v2), (3, .int v3)]) rfl (n := 74) rfl ?_
    refine g_lload X dX7_shared_74 0 rfl (n := 76) rfl ?_
    refine g_aload_n X dX7_shared_76 1 rfl rfl (n := 77) rfl ?_
    refine g_get X dX7_shared_77 flX7_190 0 rfl (v := .long ms_4.2) rfl (n := 80) rfl ?_
    refine g_lcmp_lt X dX7_shared_80 dX7_shared_81 (t := 88) (by decide) (n := 84) rfl (fun c_6 => ?_) (fun c_6 => ?_)
    · replace hf := k_pos c_6 hf
      refine g_lload X dX7_shared_88 0 rfl (n := 90) rfl ?_
      refine g_aload_n X dX7_shared_90 1 rfl rfl (n := 91) rfl ?_
      refine g_get X dX7_shared_91 flX7_190 0 rfl (v := .long ms_4.2) rfl (n := 94) rfl ?_
      refine g_iload_n X dX7_shared_94 3 rfl rfl (n := 95) rfl ?_
      obtain ⟨x_7, g_8, hf⟩ := k_b1s hf
      refine g_callS0 X (mX7_term (D := D) (l := l)  g_8) lk_X7_term mlX7_160 dX7_shared_95 (n := 98) rfl (st := []) rfl (st2 := [.long x_7]) rfl rfl ⟨Nat.le_of_ble_eq_true rfl, Nat.le_of_ble_eq_true rfl⟩ (Nat.le_of_ble_eq_true rfl) ?_
      obtain rfl := Option.some.inj hf
      exact hret _ _ dX7_shared_98
    · replace hf := k_neg c_6 hf
      refine g_lconst X dX7_shared_84 (v := 1) rfl (n := 85) rfl ?_
      refine g_goto X dX7_shared_85 (n := 98) (by decide) ?_
      obtain rfl := Option.some.inj hf
      exact hret _ _ dX7_shared_98
  · replace hf := k_neg c_1 hf
    refine g_aload_n X dX7_shared_33 0 rfl rfl (n := 34) rfl ?_
    refine g_iload X dX7_shared_34 4 rfl (n := 36) rfl ?_
    obtain ⟨mh_9, g_10, hf⟩ := k_b1s hf
    refine g_callV0 X (mX7_layHis (D := D) (l := l) (a := a) (mp := mp) (mc := mc) (ml := ml) (mq := mq) (ms := ms) (mr := mr) (mi := mi) g_10) lk_X7_layHis mlX7_184 dX7_shared_36 (n := 39) rfl (st := []) rfl (st2 := []) rfl rfl rfl rfl (ws2 := pic_X7 D a mp mg mc ml mq mh_9 ms mr mi) (ad_X7 _ _ _ _ _ _ _ _ _ _ _ _ _ _ _ _ _ _ _ _) rfl ⟨Nat.le_of_ble_eq_true rfl, Nat.le_of_ble_eq_true rfl⟩ (Nat.le_of_ble_eq_true rfl) ?_
    refine g_iload_n X dX7_shared_39 3 rfl rfl (n := 40) rfl ?_
    refine g_aload_n X dX7_shared_40 0 rfl rfl (n := 41) rfl ?_
    refine g_get X dX7_shared_41 flX7_175 0 rfl (v := .int mh_9.1) rfl (n := 44) rfl ?_
    refine g_if_le X dX7_shared_44 (t := 51) (by decide) (n := 47) rfl (fun c_11 => ?_) (fun c_11 => ?_)
    · replace hf := k_pos c_11 hf
      refine g_iconst X dX7_shared_51 (v := 0) (by decide) (n := 52) rfl ?_
      refine g_sub [0, 1, 2, 4] (lv' := [(0, .ref (a 0)), (1, .int v1), (2, .int v2), (4, .int v4)]) rfl ?_
      exact wX7_shared_b52 X hk27 hret hf
    · replace hf := k_neg c_11 hf
      refine g_iconst X dX7_shared_47 (v := 1) (by decide) (n := 48) rfl ?_
      refine g_goto X dX7_shared_48 (n := 52) (by decide) ?_
      refine g_sub [0, 1, 2, 4] (lv' := [(0, .ref (a 0)), (1, .int v1), (2, .int v2), (4, .int v4)]) rfl ?_
      exact wX7_shared_b52 X hk27 hret hf
set_option maxRecDepth 100000 in
set_option maxHeartbeats 4000000 in
theorem wX7_shared_l27 {D : va_G} {l : Launch} {E : k_E} {N : Nat} {a : Nat → Nat} {mp : VMp} {mg : VMg} {mc : Nat → Int64} {mq : VMq} {mr : Nat → Int32} {mi : VMi} {res : Int64 × VMl × VMh × VMs} (X : k_X D E cX7_shared RX7 6 4 91) (hret : ∀ (pc : Nat) (lv : List (Nat × Value)), decode cX7_shared pc = .ok (.lreturn, 1) → k_G D l E (pic_X7 D a mp mg mc res.2.1 mq res.2.2.1 res.2.2.2 mr mi) lv pc [.long res.1]) : ∀ (n0 : Nat) (v1 : Int32) (v2 : Int32) (v3 : Int32) (v4 : Int32) (ml : VMl) (mh : VMh) (ms : VMs), fX7_shared_l27 N mg mc n0 v1 v2 v3 v4 ml mh ms = some res → k_G D l E (pic_X7 D a mp mg mc ml mq mh ms mr mi) [(0, .ref (a 0)), (1, .int v1), (2, .int v2), (3, .int v3), (4, .int v4)] 27 [] := by
  intro n0
  induction n0 with
  | zero => intro v1 v2 v3 v4 ml mh ms hf; cases hf
  | succ n0 ih => intro v1 v2 v3 v4 ml mh ms hf; exact wX7_shared_b27 (N := N) (k27 := fX7_shared_l27 N mg mc n0) X  ih hret hf
set_option maxRecDepth 100000 in
set_option maxHeartbeats 4000000 in
theorem wX7_shared {D : va_G} {l : Launch} {E : k_E} {N : Nat} {a : Nat → Nat} {p1 : Int32} {p2 : Int32} {mp : VMp} {mg : VMg} {mc : Nat → Int64} {ml : VMl} {mq : VMq} {mh : VMh} {ms : VMs} {mr : Nat → Int32} {mi : VMi} {res : Int64 × VMl × VMh × VMs} (X : k_X D E cX7_shared RX7 6 4 91) (hret : ∀ (pc : Nat) (lv : List (Nat × Value)), decode cX7_shared pc = .ok (.lreturn, 1) → k_G D l E (pic_X7 D a mp mg mc res.2.1 mq res.2.2.1 res.2.2.2 mr mi) lv pc [.long res.1]) (hf : fX7_shared N mg mc p1 p2 ml mh ms = some res) : k_G D l E (pic_X7 D a mp mg mc ml mq mh ms mr mi) [(0, .ref (a 0)), (1, .int p1), (2, .int p2)] 0 [] := by
  unfold fX7_shared at hf
  refine g_iload_n X dX7_shared_0 1 rfl rfl (n := 1) rfl ?_
  obtain ⟨x_1, g_2, hf⟩ := k_b1s hf
  refine g_callS0 X (mX7_isGatherer (D := D) (l := l)  g_2) lk_X7_isGatherer mlX7_181 dX7_shared_1 (n := 4) rfl (st := []) rfl (st2 := [.int (bI x_1)]) rfl rfl ⟨Nat.le_of_ble_eq_true rfl, Nat.le_of_ble_eq_true rfl⟩ (Nat.le_of_ble_eq_true rfl) ?_
  refine g_if_neB X dX7_shared_4 (t := 11) (by decide) (n := 7) rfl (fun c_3 => ?_) (fun c_3 => ?_)
  · replace hf := k_pos c_3 hf
    refine g_iload_n X dX7_shared_11 2 rfl rfl (n := 12) rfl ?_
    obtain ⟨x_4, g_5, hf⟩ := k_b1s hf
    refine g_callS0 X (mX7_isPart (D := D) (l := l)  g_5) lk_X7_isPart mlX7_129 dX7_shared_12 (n := 15) rfl (st := []) rfl (st2 := [.int (bI x_4)]) rfl rfl ⟨Nat.le_of_ble_eq_true rfl, Nat.le_of_ble_eq_true rfl⟩ (Nat.le_of_ble_eq_true rfl) ?_
    refine g_if_neB X dX7_shared_15 (t := 22) (by decide) (n := 18) rfl (fun c_6 => ?_) (fun c_6 => ?_)
    · replace hf := k_pos c_6 hf
      refine g_iconst X dX7_shared_22 (v := 0) (by decide) (n := 23) rfl ?_
      refine g_istore_n X dX7_shared_23 rfl (by decide) (lv2 := [(3, .int 0), (0, .ref (a 0)), (1, .int p1), (2, .int p2)]) rfl (n := 24) rfl ?_
      refine g_iconst X dX7_shared_24 (v := 0) (by decide) (n := 25) rfl ?_
      refine g_istore X dX7_shared_25 (by decide) (lv2 := [(4, .int 0), (3, .int 0), (0, .ref (a 0)), (1, .int p1), (2, .int p2)]) rfl (n := 27) rfl ?_
      refine g_sub [2, 3, 4, 1, 0] (lv' := [(0, .ref (a 0)), (1, .int p1), (2, .int p2), (3, .int 0), (4, .int 0)]) rfl ?_
      exact wX7_shared_l27 X  hret _ _ _ _ _ _ _ _ hf
    · replace hf := k_neg c_6 hf
      refine g_ldc2 X dX7_shared_18 kcX7_132 (n := 21) rfl ?_
      obtain rfl := Option.some.inj hf
      exact hret _ _ dX7_shared_21
  · replace hf := k_neg c_3 hf
    refine g_ldc2 X dX7_shared_7 kcX7_193 (n := 10) rfl ?_
    obtain rfl := Option.some.inj hf
    exact hret _ _ dX7_shared_10
set_option maxRecDepth 100000 in
set_option maxHeartbeats 4000000 in
theorem mX7_shared {l : Launch} {D : va_G} {N : Nat} {a : Nat → Nat} {p1 : Int32} {p2 : Int32} {mp : VMp} {mg : VMg} {mc : Nat → Int64} {ml : VMl} {mq : VMq} {mh : VMh} {ms : VMs} {mr : Nat → Int32} {mi : VMi} {res : Int64 × VMl × VMh × VMs} (hf : fX7_shared N mg mc p1 p2 ml mh ms = some res) : k_Met l yX7_shared cX7_shared 6 (some .long) 4 91 D [.ref (a 0), .int p1, .int p2] (pic_X7 D a mp mg mc ml mq mh ms mr mi) (some (.long res.1)) (pic_X7 D a mp mg mc res.2.1 mq res.2.2.1 res.2.2.2 mr mi) :=
  k_of_l (by decide) (Nat.le_of_ble_eq_true rfl) (fun E X hret => wX7_shared X hret hf)
set_option maxRecDepth 100000 in
set_option maxHeartbeats 4000000 in
theorem wX7_fine_b38 {D : va_G} {l : Launch} {E : k_E} {N : Nat} {a : Nat → Nat} {k38 : Int32 → Int32 → Int32 → Int32 → Option (Int32)} {v1 : Int32} {v2 : Int32} {v3 : Int32} {v4 : Int32} {mp : VMp} {mg : VMg} {mc : Nat → Int64} {ml : VMl} {mq : VMq} {mh : VMh} {ms : VMs} {mr : Nat → Int32} {mi : VMi} {res : Int32} (X : k_X D E cX7_fine RX7 5 1 22) (hk38 : ∀ (v1 : Int32) (v2 : Int32) (v3 : Int32) (v4 : Int32) , k38 v1 v2 v3 v4 = some res → k_G D l E (pic_X7 D a mp mg mc ml mq mh ms mr mi) [(1, .int v1), (2, .int v2), (3, .int v3), (4, .int v4)] 38 []) (hret : ∀ (pc : Nat) (lv : List (Nat × Value)), decode cX7_fine pc = .ok (.ireturn, 1) → k_G D l E (pic_X7 D a mp mg mc ml mq mh ms mr mi) lv pc [.int res]) (hf : fX7_fine_b38 N k38 v1 v2 v3 v4 = some res) : k_G D l E (pic_X7 D a mp mg mc ml mq mh ms mr mi) [(1, .int v1), (2, .int v2), (3, .int v3), (4, .int v4)] 38 [] := by
  unfold fX7_fine_b38 at hf
  refine g_iload X dX7_fine_38 3 rfl (n := 40) rfl ?_
  refine g_sipush X dX7_fine_40 (v := 10000) (by decide) (n := 43) rfl ?_
  refine g_icmp_ge X dX7_fine_43 (t := 68) (by decide) (n := 46) rfl (fun c_1 => ?_) (fun c_1 => ?_)
  · replace hf := k_pos c_1 hf
    refine g_bipush X dX7_fine_68 (v := (-6)) (by decide) (n := 70) rfl ?_
    obtain rfl := Option.some.inj hf
    exact hret _ _ dX7_fine_70
  · replace hf := k_neg c_1 hf
    refine g_bipush X dX7_fine_46 (v := 10) (by decide) (n := 48) rfl ?_
    refine g_iload_n X dX7_fine_48 2 rfl rfl (n := 49) rfl ?_
    refine g_imul X dX7_fine_49 (n := 50) rfl ?_
    refine g_iload_n X dX7_fine_50 1 rfl rfl (n := 51) rfl ?_
    refine g_iload X dX7_fine_51 3 rfl (n := 53) rfl ?_
    refine g_iload_n X dX7_fine_53 0 rfl rfl (n := 54) rfl ?_
    refine g_iadd X dX7_fine_54 (n := 55) rfl ?_
    refine g_imul X dX7_fine_55 (n := 56) rfl ?_
    refine g_icmp_gt X dX7_fine_56 (t := 62) (by decide) (n := 59) rfl (fun c_2 => ?_) (fun c_2 => ?_)
    · replace hf := k_pos c_2 hf
      refine g_iinc X dX7_fine_62 3 rfl (v := v4 + 1) rfl (by decide) (lv2 := [(4, .int (v4 + 1)), (1, .int v1), (2, .int v2), (3, .int v3)]) rfl (n := 65) rfl ?_
      refine g_goto X dX7_fine_65 (n := 38) (by decide) ?_
      refine g_sub [1, 2, 3, 0] (lv' := [(1, .int v1), (2, .int v2), (3, .int v3), (4, .int (v4 + 1))]) rfl ?_
      exact hk38 _ _ _ _ hf
    · replace hf := k_neg c_2 hf
      refine g_iload X dX7_fine_59 3 rfl (n := 61) rfl ?_
      obtain rfl := Option.some.inj hf
      exact hret _ _ dX7_fine_61
set_option maxRecDepth 100000 in
set_option maxHeartbeats 4000000 in
theorem wX7_fine_l38 {D : va_G} {l : Launch} {E : k_E} {N : Nat} {a : Nat → Nat} {mp : VMp} {mg : VMg} {mc : Nat → Int64} {ml : VMl} {mq : VMq} {mh : VMh} {ms : VMs} {mr : Nat → Int32} {mi : VMi} {res : Int32} (X : k_X D E cX7_fine RX7 5 1 22) (hret : ∀ (pc : Nat) (lv : List (Nat × Value)), decode cX7_fine pc = .ok (.ireturn, 1) → k_G D l E (pic_X7 D a mp mg mc ml mq mh ms mr mi) lv pc [.int res]) : ∀ (n0 : Nat) (v1 : Int32) (v2 : Int32) (v3 : Int32) (v4 : Int32) , fX7_fine_l38 N n0 v1 v2 v3 v4 = some res → k_G D l E (pic_X7 D a mp mg mc ml mq mh ms mr mi) [(1, .int v1), (2, .int v2), (3, .int v3), (4, .int v4)] 38 [] := by
  intro n0
  induction n0 with
  | zero => intro v1 v2 v3 v4 hf; cases hf
  | succ n0 ih => intro v1 v2 v3 v4 hf; exact wX7_fine_b38 (N := N) (k38 := fX7_fine_l38 N n0) X  ih hret hf
set_option maxRecDepth 100000 in
set_option maxHeartbeats 4000000 in
theorem wX7_fine {D : va_G} {l : Launch} {E : k_E} {N : Nat} {a : Nat → Nat} {p1 : Int32} {p2 : Int32} {p3 : Int32} {mp : VMp} {mg : VMg} {mc : Nat → Int64} {ml : VMl} {mq : VMq} {mh : VMh} {ms : VMs} {mr : Nat → Int32} {mi : VMi} {res : Int32} (X : k_X D E cX7_fine RX7 5 1 22) (hret : ∀ (pc : Nat) (lv : List (Nat × Value)), decode cX7_fine pc = .ok (.ireturn, 1) → k_G D l E (pic_X7 D a mp mg mc ml mq mh ms mr mi) lv pc [.int res]) (hf : fX7_fine N p1 p2 p3 = some res) : k_G D l E (pic_X7 D a mp mg mc ml mq mh ms mr mi) [(0, .ref (a 0)), (1, .int p1), (2, .int p2), (3, .int p3)] 0 [] := by
  unfold fX7_fine at hf
  refine g_iload_n X dX7_fine_0 1 rfl rfl (n := 1) rfl ?_
  refine g_iconst X dX7_fine_1 (v := 0) (by decide) (n := 2) rfl ?_
  refine g_sipush X dX7_fine_2 (v := 999) (by decide) (n := 5) rfl ?_
  obtain ⟨x_1, g_2, hf⟩ := k_b1s hf
  refine g_callS0 X (mX7_in (D := D) (l := l)  g_2) lk_X7_in mlX7_58 dX7_fine_5 (n := 8) rfl (st := []) rfl (st2 := [.int (bI x_1)]) rfl rfl ⟨Nat.le_of_ble_eq_true rfl, Nat.le_of_ble_eq_true rfl⟩ (Nat.le_of_ble_eq_true rfl) ?_
  refine g_if_eqB X dX7_fine_8 (t := 32) (by decide) (n := 11) rfl (fun c_3 => ?_) (fun c_3 => ?_)
  · replace hf := k_neg c_3 hf
    refine g_bipush X dX7_fine_32 (v := (-2)) (by decide) (n := 34) rfl ?_
    obtain rfl := Option.some.inj hf
    exact hret _ _ dX7_fine_34
  · replace hf := k_pos c_3 hf
    refine g_iload_n X dX7_fine_11 2 rfl rfl (n := 12) rfl ?_
    refine g_iconst X dX7_fine_12 (v := 0) (by decide) (n := 13) rfl ?_
    refine g_bipush X dX7_fine_13 (v := 10) (by decide) (n := 15) rfl ?_
    obtain ⟨x_4, g_5, hf⟩ := k_b1s hf
    refine g_callS0 X (mX7_in (D := D) (l := l)  g_5) lk_X7_in mlX7_58 dX7_fine_15 (n := 18) rfl (st := []) rfl (st2 := [.int (bI x_4)]) rfl rfl ⟨Nat.le_of_ble_eq_true rfl, Nat.le_of_ble_eq_true rfl⟩ (Nat.le_of_ble_eq_true rfl) ?_
    refine g_if_eqB X dX7_fine_18 (t := 32) (by decide) (n := 21) rfl (fun c_6 => ?_) (fun c_6 => ?_)
    · replace hf := k_neg c_6 hf
      refine g_bipush X dX7_fine_32 (v := (-2)) (by decide) (n := 34) rfl ?_
      obtain rfl := Option.some.inj hf
      exact hret _ _ dX7_fine_34
    · replace hf := k_pos c_6 hf
      refine g_iload_n X dX7_fine_21 3 rfl rfl (n := 22) rfl ?_
      refine g_iconst X dX7_fine_22 (v := 0) (by decide) (n := 23) rfl ?_
      refine g_sipush X dX7_fine_23 (v := 999) (by decide) (n := 26) rfl ?_
      obtain ⟨x_7, g_8, hf⟩ := k_b1s hf
      refine g_callS0 X (mX7_in (D := D) (l := l)  g_8) lk_X7_in mlX7_58 dX7_fine_26 (n := 29) rfl (st := []) rfl (st2 := [.int (bI x_7)]) rfl rfl ⟨Nat.le_of_ble_eq_true rfl, Nat.le_of_ble_eq_true rfl⟩ (Nat.le_of_ble_eq_true rfl) ?_
      refine g_if_neB X dX7_fine_29 (t := 35) (by decide) (n := 32) rfl (fun c_9 => ?_) (fun c_9 => ?_)
      · replace hf := k_pos c_9 hf
        refine g_iconst X dX7_fine_35 (v := 0) (by decide) (n := 36) rfl ?_
        refine g_istore X dX7_fine_36 (by decide) (lv2 := [(4, .int 0), (0, .ref (a 0)), (1, .int p1), (2, .int p2), (3, .int p3)]) rfl (n := 38) rfl ?_
        refine g_sub [2, 3, 4, 0] (lv' := [(1, .int p1), (2, .int p2), (3, .int p3), (4, .int 0)]) rfl ?_
        exact wX7_fine_l38 X  hret _ _ _ _ _ hf
      · replace hf := k_neg c_9 hf
        refine g_bipush X dX7_fine_32 (v := (-2)) (by decide) (n := 34) rfl ?_
        obtain rfl := Option.some.inj hf
        exact hret _ _ dX7_fine_34
set_option maxRecDepth 100000 in
set_option maxHeartbeats 4000000 in
theorem mX7_fine {l : Launch} {D : va_G} {N : Nat} {a : Nat → Nat} {p1 : Int32} {p2 : Int32} {p3 : Int32} {mp : VMp} {mg : VMg} {mc : Nat → Int64} {ml : VMl} {mq : VMq} {mh : VMh} {ms : VMs} {mr : Nat → Int32} {mi : VMi} {res : Int32} (hf : fX7_fine N p1 p2 p3 = some res) : k_Met l yX7_fine cX7_fine 5 (some .int) 1 22 D [.ref (a 0), .int p1, .int p2, .int p3] (pic_X7 D a mp mg mc ml mq mh ms mr mi) (some (.int res)) (pic_X7 D a mp mg mc ml mq mh ms mr mi) :=
  k_of_i (by decide) (Nat.le_of_ble_eq_true rfl) (fun E X hret => wX7_fine X hret hf)
set_option maxRecDepth 100000 in
set_option maxHeartbeats 4000000 in
theorem wX7_word {D : va_G} {l : Launch} {E : k_E} {N : Nat} {a : Nat → Nat} {p1 : Int32} {p2 : Int32} {p3 : Int32} {mp : VMp} {mg : VMg} {mc : Nat → Int64} {ml : VMl} {mq : VMq} {mh : VMh} {ms : VMs} {mr : Nat → Int32} {mi : VMi} {res : Int64 × VMl} (X : k_X D E cX7_word RX7 8 3 66) (hret : ∀ (pc : Nat) (lv : List (Nat × Value)), decode cX7_word pc = .ok (.lreturn, 1) → k_G D l E (pic_X7 D a mp mg mc res.2 mq mh ms mr mi) lv pc [.long res.1]) (hf : fX7_word N mg p1 p2 p3 ml = some res) : k_G D l E (pic_X7 D a mp mg mc ml mq mh ms mr mi) [(0, .ref (a 0)), (1, .int p1), (2, .int p2), (3, .int p3)] 0 [] := by
  unfold fX7_word at hf
  refine g_iload_n X dX7_word_0 1 rfl rfl (n := 1) rfl ?_
  refine g_iconst X dX7_word_1 (v := 0) (by decide) (n := 2) rfl ?_
  refine g_bipush X dX7_word_2 (v := 10) (by decide) (n := 4) rfl ?_
  obtain ⟨x_1, g_2, hf⟩ := k_b1s hf
  refine g_callS0 X (mX7_in (D := D) (l := l)  g_2) lk_X7_in mlX7_58 dX7_word_4 (n := 7) rfl (st := []) rfl (st2 := [.int (bI x_1)]) rfl rfl ⟨Nat.le_of_ble_eq_true rfl, Nat.le_of_ble_eq_true rfl⟩ (Nat.le_of_ble_eq_true rfl) ?_
  refine g_if_eqB X dX7_word_7 (t := 27) (by decide) (n := 10) rfl (fun c_3 => ?_) (fun c_3 => ?_)
  · replace hf := k_neg c_3 hf
    refine g_ldc2 X dX7_word_27 kcX7_132 (n := 30) rfl ?_
    obtain rfl := Option.some.inj hf
    exact hret _ _ dX7_word_30
  · replace hf := k_pos c_3 hf
    refine g_iload_n X dX7_word_10 2 rfl rfl (n := 11) rfl ?_
    refine g_iconst X dX7_word_11 (v := 0) (by decide) (n := 12) rfl ?_
    refine g_bipush X dX7_word_12 (v := 10) (by decide) (n := 14) rfl ?_
    obtain ⟨x_4, g_5, hf⟩ := k_b1s hf
    refine g_callS0 X (mX7_in (D := D) (l := l)  g_5) lk_X7_in mlX7_58 dX7_word_14 (n := 17) rfl (st := []) rfl (st2 := [.int (bI x_4)]) rfl rfl ⟨Nat.le_of_ble_eq_true rfl, Nat.le_of_ble_eq_true rfl⟩ (Nat.le_of_ble_eq_true rfl) ?_
    refine g_if_eqB X dX7_word_17 (t := 27) (by decide) (n := 20) rfl (fun c_6 => ?_) (fun c_6 => ?_)
    · replace hf := k_neg c_6 hf
      refine g_ldc2 X dX7_word_27 kcX7_132 (n := 30) rfl ?_
      obtain rfl := Option.some.inj hf
      exact hret _ _ dX7_word_30
    · replace hf := k_pos c_6 hf
      refine g_iload_n X dX7_word_20 3 rfl rfl (n := 21) rfl ?_
      obtain ⟨x_7, g_8, hf⟩ := k_b1s hf
      refine g_callS0 X (mX7_isPart (D := D) (l := l)  g_8) lk_X7_isPart mlX7_129 dX7_word_21 (n := 24) rfl (st := []) rfl (st2 := [.int (bI x_7)]) rfl rfl ⟨Nat.le_of_ble_eq_true rfl, Nat.le_of_ble_eq_true rfl⟩ (Nat.le_of_ble_eq_true rfl) ?_
      refine g_if_neB X dX7_word_24 (t := 31) (by decide) (n := 27) rfl (fun c_9 => ?_) (fun c_9 => ?_)
      · replace hf := k_pos c_9 hf
        refine g_aload_n X dX7_word_31 0 rfl rfl (n := 32) rfl ?_
        refine g_aload_n X dX7_word_32 0 rfl rfl (n := 33) rfl ?_
        obtain ⟨x_10, g_11, hf⟩ := k_b1s hf
        refine g_callV0 X (mX7_valid (D := D) (l := l) (a := a) (mp := mp) (mc := mc) (ml := ml) (mq := mq) (mh := mh) (ms := ms) (mr := mr) (mi := mi) g_11) lk_X7_valid mlX7_108 dX7_word_33 (n := 36) rfl (st := [.ref (a 0)]) rfl (st2 := [.int x_10, .ref (a 0)]) rfl rfl rfl rfl (ws2 := pic_X7 D a mp mg mc ml mq mh ms mr mi) (ad_X7 _ _ _ _ _ _ _ _ _ _ _ _ _ _ _ _ _ _ _ _) rfl ⟨Nat.le_of_ble_eq_true rfl, Nat.le_of_ble_eq_true rfl⟩ (Nat.le_of_ble_eq_true rfl) ?_
        obtain ⟨ml_12, g_13, hf⟩ := k_b1s hf
        refine g_callV0 X (mX7_layList (D := D) (l := l) (a := a) (mp := mp) (mc := mc) (mq := mq) (mh := mh) (ms := ms) (mr := mr) (mi := mi) g_13) lk_X7_layList mlX7_111 dX7_word_36 (n := 39) rfl (st := []) rfl (st2 := []) rfl rfl rfl rfl (ws2 := pic_X7 D a mp mg mc ml_12 mq mh ms mr mi) (ad_X7 _ _ _ _ _ _ _ _ _ _ _ _ _ _ _ _ _ _ _ _) rfl ⟨Nat.le_of_ble_eq_true rfl, Nat.le_of_ble_eq_true rfl⟩ (Nat.le_of_ble_eq_true rfl) ?_
        refine g_aload_n X dX7_word_39 0 rfl rfl (n := 40) rfl ?_
        refine g_get X dX7_word_40 flX7_89 0 rfl (v := .int ml_12.2.1) rfl (n := 43) rfl ?_
        refine g_if_ne X dX7_word_43 (t := 50) (by decide) (n := 46) rfl (fun c_14 => ?_) (fun c_14 => ?_)
        · replace hf := k_neg c_14 hf
          refine g_aload_n X dX7_word_50 0 rfl rfl (n := 51) rfl ?_
          refine g_get X dX7_word_51 flX7_89 0 rfl (v := .int ml_12.2.1) rfl (n := 54) rfl ?_
          refine g_aload_n X dX7_word_54 0 rfl rfl (n := 55) rfl ?_
          refine g_get X dX7_word_55 flX7_92 0 rfl (v := .int ml_12.2.2.1) rfl (n := 58) rfl ?_
          refine g_isub X dX7_word_58 (n := 59) rfl ?_
          refine g_iload_n X dX7_word_59 1 rfl rfl (n := 60) rfl ?_
          refine g_imul X dX7_word_60 (n := 61) rfl ?_
          refine g_i2l X dX7_word_61 (n := 62) rfl ?_
          obtain ⟨x_15, e_16, hf⟩ := k_b1s hf
          replace e_16 := Option.some.inj e_16
          refine g_eq (st' := [.long x_15]) rfl rfl (by rw [← e_16]) ?_
          refine g_lstore X dX7_word_62 (by decide) (lv2 := [(4, .long x_15), (0, .ref (a 0)), (1, .int p1), (2, .int p2), (3, .int p3)]) rfl (n := 64) rfl ?_
          refine g_lload X dX7_word_64 0 rfl (n := 66) rfl ?_
          refine g_aload_n X dX7_word_66 1 rfl rfl (n := 67) rfl ?_
          refine g_get X dX7_word_67 flX7_92 0 rfl (v := .int ml_12.2.2.1) rfl (n := 70) rfl ?_
          refine g_iload_n X dX7_word_70 3 rfl rfl (n := 71) rfl ?_
          refine g_imul X dX7_word_71 (n := 72) rfl ?_
          refine g_i2l X dX7_word_72 (n := 73) rfl ?_
          refine g_ladd X dX7_word_73 (n := 74) rfl ?_
          obtain ⟨x_17, e_18, hf⟩ := k_b1s hf
          replace e_18 := Option.some.inj e_18
          refine g_eq (st' := [.long x_17]) rfl rfl (by rw [← e_18]) ?_
          refine g_lstore X dX7_word_74 (by decide) (lv2 := [(6, .long x_17), (4, .long x_15), (0, .ref (a 0)), (1, .int p1), (2, .int p2), (3, .int p3)]) rfl (n := 76) rfl ?_
          refine g_lload X dX7_word_76 0 rfl (n := 78) rfl ?_
          refine g_lconst X dX7_word_78 (v := 0) rfl (n := 79) rfl ?_
          refine g_lcmp_ne X dX7_word_79 dX7_word_80 (t := 88) (by decide) (n := 83) rfl (fun c_19 => ?_) (fun c_19 => ?_)
          · replace hf := k_neg c_19 hf
            refine g_lload X dX7_word_88 1 rfl (n := 90) rfl ?_
            refine g_lload X dX7_word_90 0 rfl (n := 92) rfl ?_
            refine g_iload_n X dX7_word_92 5 rfl rfl (n := 93) rfl ?_
            obtain ⟨x_20, g_21, hf⟩ := k_b1s hf
            refine g_callS0 X (mX7_term (D := D) (l := l)  g_21) lk_X7_term mlX7_160 dX7_word_93 (n := 96) rfl (st := []) rfl (st2 := [.long x_20]) rfl rfl ⟨Nat.le_of_ble_eq_true rfl, Nat.le_of_ble_eq_true rfl⟩ (Nat.le_of_ble_eq_true rfl) ?_
            obtain rfl := Option.some.inj hf
            exact hret _ _ dX7_word_96
          · replace hf := k_pos c_19 hf
            refine g_iload_n X dX7_word_83 5 rfl rfl (n := 84) rfl ?_
            refine g_i2l X dX7_word_84 (n := 85) rfl ?_
            refine g_goto X dX7_word_85 (n := 96) (by decide) ?_
            obtain rfl := Option.some.inj hf
            exact hret _ _ dX7_word_96
        · replace hf := k_pos c_14 hf
          refine g_ldc2 X dX7_word_46 kcX7_134 (n := 49) rfl ?_
          obtain rfl := Option.some.inj hf
          exact hret _ _ dX7_word_49
      · replace hf := k_neg c_9 hf
        refine g_ldc2 X dX7_word_27 kcX7_132 (n := 30) rfl ?_
        obtain rfl := Option.some.inj hf
        exact hret _ _ dX7_word_30
set_option maxRecDepth 100000 in
set_option maxHeartbeats 4000000 in
theorem mX7_word {l : Launch} {D : va_G} {N : Nat} {a : Nat → Nat} {p1 : Int32} {p2 : Int32} {p3 : Int32} {mp : VMp} {mg : VMg} {mc : Nat → Int64} {ml : VMl} {mq : VMq} {mh : VMh} {ms : VMs} {mr : Nat → Int32} {mi : VMi} {res : Int64 × VMl} (hf : fX7_word N mg p1 p2 p3 ml = some res) : k_Met l yX7_word cX7_word 8 (some .long) 3 66 D [.ref (a 0), .int p1, .int p2, .int p3] (pic_X7 D a mp mg mc ml mq mh ms mr mi) (some (.long res.1)) (pic_X7 D a mp mg mc res.2 mq mh ms mr mi) :=
  k_of_l (by decide) (Nat.le_of_ble_eq_true rfl) (fun E X hret => wX7_word X hret hf)
set_option maxRecDepth 100000 in
set_option maxHeartbeats 4000000 in
theorem wX7_lossOf {D : va_G} {l : Launch} {E : k_E} {N : Nat} {a : Nat → Nat} {p1 : Int32} {mp : VMp} {mg : VMg} {mc : Nat → Int64} {ml : VMl} {mq : VMq} {mh : VMh} {ms : VMs} {mr : Nat → Int32} {mi : VMi} {res : Int32 × VMl} (X : k_X D E cX7_lossOf RX7 3 3 66) (hret : ∀ (pc : Nat) (lv : List (Nat × Value)), decode cX7_lossOf pc = .ok (.ireturn, 1) → k_G D l E (pic_X7 D a mp mg mc res.2 mq mh ms mr mi) lv pc [.int res.1]) (hf : fX7_lossOf N mg p1 ml = some res) : k_G D l E (pic_X7 D a mp mg mc ml mq mh ms mr mi) [(0, .ref (a 0)), (1, .int p1)] 0 [] := by
  unfold fX7_lossOf at hf
  refine g_aload_n X dX7_lossOf_0 0 rfl rfl (n := 1) rfl ?_
  refine g_aload_n X dX7_lossOf_1 0 rfl rfl (n := 2) rfl ?_
  obtain ⟨x_1, g_2, hf⟩ := k_b1s hf
  refine g_callV0 X (mX7_valid (D := D) (l := l) (a := a) (mp := mp) (mc := mc) (ml := ml) (mq := mq) (mh := mh) (ms := ms) (mr := mr) (mi := mi) g_2) lk_X7_valid mlX7_108 dX7_lossOf_2 (n := 5) rfl (st := [.ref (a 0)]) rfl (st2 := [.int x_1, .ref (a 0)]) rfl rfl rfl rfl (ws2 := pic_X7 D a mp mg mc ml mq mh ms mr mi) (ad_X7 _ _ _ _ _ _ _ _ _ _ _ _ _ _ _ _ _ _ _ _) rfl ⟨Nat.le_of_ble_eq_true rfl, Nat.le_of_ble_eq_true rfl⟩ (Nat.le_of_ble_eq_true rfl) ?_
  obtain ⟨ml_3, g_4, hf⟩ := k_b1s hf
  refine g_callV0 X (mX7_layList (D := D) (l := l) (a := a) (mp := mp) (mc := mc) (mq := mq) (mh := mh) (ms := ms) (mr := mr) (mi := mi) g_4) lk_X7_layList mlX7_111 dX7_lossOf_5 (n := 8) rfl (st := []) rfl (st2 := []) rfl rfl rfl rfl (ws2 := pic_X7 D a mp mg mc ml_3 mq mh ms mr mi) (ad_X7 _ _ _ _ _ _ _ _ _ _ _ _ _ _ _ _ _ _ _ _) rfl ⟨Nat.le_of_ble_eq_true rfl, Nat.le_of_ble_eq_true rfl⟩ (Nat.le_of_ble_eq_true rfl) ?_
  refine g_aload_n X dX7_lossOf_8 0 rfl rfl (n := 9) rfl ?_
  obtain ⟨x_5, g_6, hf⟩ := k_b1s hf
  refine g_callV0 X (mX7_good (D := D) (l := l) (a := a) (mp := mp) (mg := mg) (mc := mc) (mq := mq) (mh := mh) (ms := ms) (mr := mr) (mi := mi) g_6) lk_X7_good mlX7_115 dX7_lossOf_9 (n := 12) rfl (st := []) rfl (st2 := [.int x_5]) rfl rfl rfl rfl (ws2 := pic_X7 D a mp mg mc ml_3 mq mh ms mr mi) (ad_X7 _ _ _ _ _ _ _ _ _ _ _ _ _ _ _ _ _ _ _ _) rfl ⟨Nat.le_of_ble_eq_true rfl, Nat.le_of_ble_eq_true rfl⟩ (Nat.le_of_ble_eq_true rfl) ?_
  refine g_istore_n X dX7_lossOf_12 rfl (by decide) (lv2 := [(2, .int x_5), (0, .ref (a 0)), (1, .int p1)]) rfl (n := 13) rfl ?_
  refine g_aload_n X dX7_lossOf_13 1 rfl rfl (n := 14) rfl ?_
  refine g_aload_n X dX7_lossOf_14 1 rfl rfl (n := 15) rfl ?_
  obtain ⟨x_7, g_8, hf⟩ := k_b1s hf
  refine g_callV0 X (mX7_valid (D := D) (l := l) (a := a) (mp := mp) (mc := mc) (ml := ml_3) (mq := mq) (mh := mh) (ms := ms) (mr := mr) (mi := mi) g_8) lk_X7_valid mlX7_108 dX7_lossOf_15 (n := 18) rfl (st := [.ref (a 0)]) rfl (st2 := [.int x_7, .ref (a 0)]) rfl rfl rfl rfl (ws2 := pic_X7 D a mp mg mc ml_3 mq mh ms mr mi) (ad_X7 _ _ _ _ _ _ _ _ _ _ _ _ _ _ _ _ _ _ _ _) rfl ⟨Nat.le_of_ble_eq_true rfl, Nat.le_of_ble_eq_true rfl⟩ (Nat.le_of_ble_eq_true rfl) ?_
  refine g_iconst X dX7_lossOf_18 (v := 1) (by decide) (n := 19) rfl ?_
  refine g_iload_n X dX7_lossOf_19 2 rfl rfl (n := 20) rfl ?_
  refine g_ishl X dX7_lossOf_20 (n := 21) rfl ?_
  refine g_iconst X dX7_lossOf_21 (v := (-1)) (by decide) (n := 22) rfl ?_
  refine g_ixor X dX7_lossOf_22 (n := 23) rfl ?_
  refine g_iand X dX7_lossOf_23 (n := 24) rfl ?_
  obtain ⟨ml_9, g_10, hf⟩ := k_b1s hf
  refine g_callV0 X (mX7_layList (D := D) (l := l) (a := a) (mp := mp) (mc := mc) (mq := mq) (mh := mh) (ms := ms) (mr := mr) (mi := mi) g_10) lk_X7_layList mlX7_111 dX7_lossOf_24 (n := 27) rfl (st := []) rfl (st2 := []) rfl rfl rfl rfl (ws2 := pic_X7 D a mp mg mc ml_9 mq mh ms mr mi) (ad_X7 _ _ _ _ _ _ _ _ _ _ _ _ _ _ _ _ _ _ _ _) rfl ⟨Nat.le_of_ble_eq_true rfl, Nat.le_of_ble_eq_true rfl⟩ (Nat.le_of_ble_eq_true rfl) ?_
  refine g_iload_n X dX7_lossOf_27 0 rfl rfl (n := 28) rfl ?_
  refine g_aload_n X dX7_lossOf_28 1 rfl rfl (n := 29) rfl ?_
  obtain ⟨x_11, g_12, hf⟩ := k_b1s hf
  refine g_callV0 X (mX7_good (D := D) (l := l) (a := a) (mp := mp) (mg := mg) (mc := mc) (mq := mq) (mh := mh) (ms := ms) (mr := mr) (mi := mi) g_12) lk_X7_good mlX7_115 dX7_lossOf_29 (n := 32) rfl (st := [.int x_5]) rfl (st2 := [.int x_11, .int x_5]) rfl rfl rfl rfl (ws2 := pic_X7 D a mp mg mc ml_9 mq mh ms mr mi) (ad_X7 _ _ _ _ _ _ _ _ _ _ _ _ _ _ _ _ _ _ _ _) rfl ⟨Nat.le_of_ble_eq_true rfl, Nat.le_of_ble_eq_true rfl⟩ (Nat.le_of_ble_eq_true rfl) ?_
  refine g_isub X dX7_lossOf_32 (n := 33) rfl ?_
  obtain rfl := Option.some.inj hf
  exact hret _ _ dX7_lossOf_33
set_option maxRecDepth 100000 in
set_option maxHeartbeats 4000000 in
theorem mX7_lossOf {l : Launch} {D : va_G} {N : Nat} {a : Nat → Nat} {p1 : Int32} {mp : VMp} {mg : VMg} {mc : Nat → Int64} {ml : VMl} {mq : VMq} {mh : VMh} {ms : VMs} {mr : Nat → Int32} {mi : VMi} {res : Int32 × VMl} (hf : fX7_lossOf N mg p1 ml = some res) : k_Met l yX7_lossOf cX7_lossOf 3 (some .int) 3 66 D [.ref (a 0), .int p1] (pic_X7 D a mp mg mc ml mq mh ms mr mi) (some (.int res.1)) (pic_X7 D a mp mg mc res.2 mq mh ms mr mi) :=
  k_of_i (by decide) (Nat.le_of_ble_eq_true rfl) (fun E X hret => wX7_lossOf X hret hf)
set_option maxRecDepth 100000 in
set_option maxHeartbeats 4000000 in
theorem wX7_isOverfull {D : va_G} {l : Launch} {E : k_E} {N : Nat} {a : Nat → Nat} {mp : VMp} {mg : VMg} {mc : Nat → Int64} {ml : VMl} {mq : VMq} {mh : VMh} {ms : VMs} {mr : Nat → Int32} {mi : VMi} {res : Bool × VMl} (X : k_X D E cX7_isOverfull RX7 1 3 66) (hret : ∀ (pc : Nat) (lv : List (Nat × Value)), decode cX7_isOverfull pc = .ok (.ireturn, 1) → k_G D l E (pic_X7 D a mp mg mc res.2 mq mh ms mr mi) lv pc [.int (bI res.1)]) (hf : fX7_isOverfull N mg ml = some res) : k_G D l E (pic_X7 D a mp mg mc ml mq mh ms mr mi) [(0, .ref (a 0))] 0 [] := by
  unfold fX7_isOverfull at hf
  refine g_aload_n X dX7_isOverfull_0 0 rfl rfl (n := 1) rfl ?_
  refine g_aload_n X dX7_isOverfull_1 0 rfl rfl (n := 2) rfl ?_
  obtain ⟨x_1, g_2, hf⟩ := k_b1s hf
  refine g_callV0 X (mX7_valid (D := D) (l := l) (a := a) (mp := mp) (mc := mc) (ml := ml) (mq := mq) (mh := mh) (ms := ms) (mr := mr) (mi := mi) g_2) lk_X7_valid mlX7_108 dX7_isOverfull_2 (n := 5) rfl (st := [.ref (a 0)]) rfl (st2 := [.int x_1, .ref (a 0)]) rfl rfl rfl rfl (ws2 := pic_X7 D a mp mg mc ml mq mh ms mr mi) (ad_X7 _ _ _ _ _ _ _ _ _ _ _ _ _ _ _ _ _ _ _ _) rfl ⟨Nat.le_of_ble_eq_true rfl, Nat.le_of_ble_eq_true rfl⟩ (Nat.le_of_ble_eq_true rfl) ?_
  obtain ⟨ml_3, g_4, hf⟩ := k_b1s hf
  refine g_callV0 X (mX7_layList (D := D) (l := l) (a := a) (mp := mp) (mc := mc) (mq := mq) (mh := mh) (ms := ms) (mr := mr) (mi := mi) g_4) lk_X7_layList mlX7_111 dX7_isOverfull_5 (n := 8) rfl (st := []) rfl (st2 := []) rfl rfl rfl rfl (ws2 := pic_X7 D a mp mg mc ml_3 mq mh ms mr mi) (ad_X7 _ _ _ _ _ _ _ _ _ _ _ _ _ _ _ _ _ _ _ _) rfl ⟨Nat.le_of_ble_eq_true rfl, Nat.le_of_ble_eq_true rfl⟩ (Nat.le_of_ble_eq_true rfl) ?_
  refine g_aload_n X dX7_isOverfull_8 0 rfl rfl (n := 9) rfl ?_
  refine g_get X dX7_isOverfull_9 flX7_104 0 rfl (v := .int (bI ml_3.2.2.2.2.2.2)) rfl (n := 12) rfl ?_
  obtain rfl := Option.some.inj hf
  exact hret _ _ dX7_isOverfull_12
set_option maxRecDepth 100000 in
set_option maxHeartbeats 4000000 in
theorem mX7_isOverfull {l : Launch} {D : va_G} {N : Nat} {a : Nat → Nat} {mp : VMp} {mg : VMg} {mc : Nat → Int64} {ml : VMl} {mq : VMq} {mh : VMh} {ms : VMs} {mr : Nat → Int32} {mi : VMi} {res : Bool × VMl} (hf : fX7_isOverfull N mg ml = some res) : k_Met l yX7_isOverfull cX7_isOverfull 1 (some .boolean) 3 66 D [.ref (a 0)] (pic_X7 D a mp mg mc ml mq mh ms mr mi) (some (.int (bI res.1))) (pic_X7 D a mp mg mc res.2 mq mh ms mr mi) :=
  k_of_z (by decide) (Nat.le_of_ble_eq_true rfl) (fun E X hret => wX7_isOverfull X hret hf)
set_option maxRecDepth 100000 in
set_option maxHeartbeats 4000000 in
theorem wX7_strike {D : va_G} {l : Launch} {E : k_E} {N : Nat} {a : Nat → Nat} {p1 : Int32} {mp : VMp} {mg : VMg} {mc : Nat → Int64} {ml : VMl} {mq : VMq} {mh : VMh} {ms : VMs} {mr : Nat → Int32} {mi : VMi} {res : Int32 × VMl} (X : k_X D E cX7_strike RX7 2 4 88) (hret : ∀ (pc : Nat) (lv : List (Nat × Value)), decode cX7_strike pc = .ok (.ireturn, 1) → k_G D l E (pic_X7 D a mp mg mc res.2 mq mh ms mr mi) lv pc [.int res.1]) (hf : fX7_strike N mg p1 ml = some res) : k_G D l E (pic_X7 D a mp mg mc ml mq mh ms mr mi) [(0, .ref (a 0)), (1, .int p1)] 0 [] := by
  unfold fX7_strike at hf
  refine g_iload_n X dX7_strike_0 1 rfl rfl (n := 1) rfl ?_
  obtain ⟨x_1, g_2, hf⟩ := k_b1s hf
  refine g_callS0 X (mX7_isSheet (D := D) (l := l)  g_2) lk_X7_isSheet mlX7_86 dX7_strike_1 (n := 4) rfl (st := []) rfl (st2 := [.int (bI x_1)]) rfl rfl ⟨Nat.le_of_ble_eq_true rfl, Nat.le_of_ble_eq_true rfl⟩ (Nat.le_of_ble_eq_true rfl) ?_
  refine g_if_neB X dX7_strike_4 (t := 9) (by decide) (n := 7) rfl (fun c_3 => ?_) (fun c_3 => ?_)
  · replace hf := k_pos c_3 hf
    refine g_aload_n X dX7_strike_9 0 rfl rfl (n := 10) rfl ?_
    obtain ⟨x_4, ml_5, g_6, hf⟩ := k_b2s hf
    refine g_callV0 X (mX7_isOverfull (D := D) (l := l) (a := a) (mp := mp) (mc := mc) (mq := mq) (mh := mh) (ms := ms) (mr := mr) (mi := mi) g_6) lk_X7_isOverfull mlX7_202 dX7_strike_10 (n := 13) rfl (st := []) rfl (st2 := [.int (bI x_4)]) rfl rfl rfl rfl (ws2 := pic_X7 D a mp mg mc ml_5 mq mh ms mr mi) (ad_X7 _ _ _ _ _ _ _ _ _ _ _ _ _ _ _ _ _ _ _ _) rfl ⟨Nat.le_of_ble_eq_true rfl, Nat.le_of_ble_eq_true rfl⟩ (Nat.le_of_ble_eq_true rfl) ?_
    refine g_if_neB X dX7_strike_13 (t := 26) (by decide) (n := 16) rfl (fun c_7 => ?_) (fun c_7 => ?_)
    · replace hf := k_pos c_7 hf
      refine g_bipush X dX7_strike_26 (v := (-3)) (by decide) (n := 28) rfl ?_
      refine g_goto X dX7_strike_28 (n := 36) (by decide) ?_
      obtain rfl := Option.some.inj hf
      exact hret _ _ dX7_strike_36
    · replace hf := k_neg c_7 hf
      refine g_aload_n X dX7_strike_16 0 rfl rfl (n := 17) rfl ?_
      refine g_get X dX7_strike_17 flX7_16 0 rfl (v := .ref (a 3)) rfl (n := 20) rfl ?_
      refine g_iload_n X dX7_strike_20 1 rfl rfl (n := 21) rfl ?_
      obtain ⟨h_8, hf⟩ := k_guard hf
      refine g_iaload X dX7_strike_21 3 (f := mg.2.1) rfl rfl h_8 (n := 22) rfl ?_
      refine g_iconst X dX7_strike_22 (v := 1) (by decide) (n := 23) rfl ?_
      refine g_icmp_ne X dX7_strike_23 (t := 31) (by decide) (n := 26) rfl (fun c_9 => ?_) (fun c_9 => ?_)
      · replace hf := k_neg c_9 hf
        refine g_aload_n X dX7_strike_31 0 rfl rfl (n := 32) rfl ?_
        refine g_iload_n X dX7_strike_32 1 rfl rfl (n := 33) rfl ?_
        obtain ⟨x_10, ml_11, g_12, hf⟩ := k_b2s hf
        refine g_callV0 X (mX7_lossOf (D := D) (l := l) (a := a) (mp := mp) (mc := mc) (mq := mq) (mh := mh) (ms := ms) (mr := mr) (mi := mi) g_12) lk_X7_lossOf mlX7_206 dX7_strike_33 (n := 36) rfl (st := []) rfl (st2 := [.int x_10]) rfl rfl rfl rfl (ws2 := pic_X7 D a mp mg mc ml_11 mq mh ms mr mi) (ad_X7 _ _ _ _ _ _ _ _ _ _ _ _ _ _ _ _ _ _ _ _) rfl ⟨Nat.le_of_ble_eq_true rfl, Nat.le_of_ble_eq_true rfl⟩ (Nat.le_of_ble_eq_true rfl) ?_
        obtain rfl := Option.some.inj hf
        exact hret _ _ dX7_strike_36
      · replace hf := k_pos c_9 hf
        refine g_bipush X dX7_strike_26 (v := (-3)) (by decide) (n := 28) rfl ?_
        refine g_goto X dX7_strike_28 (n := 36) (by decide) ?_
        obtain rfl := Option.some.inj hf
        exact hret _ _ dX7_strike_36
  · replace hf := k_neg c_3 hf
    refine g_iconst X dX7_strike_7 (v := (-1)) (by decide) (n := 8) rfl ?_
    obtain rfl := Option.some.inj hf
    exact hret _ _ dX7_strike_8
set_option maxRecDepth 100000 in
set_option maxHeartbeats 4000000 in
theorem mX7_strike {l : Launch} {D : va_G} {N : Nat} {a : Nat → Nat} {p1 : Int32} {mp : VMp} {mg : VMg} {mc : Nat → Int64} {ml : VMl} {mq : VMq} {mh : VMh} {ms : VMs} {mr : Nat → Int32} {mi : VMi} {res : Int32 × VMl} (hf : fX7_strike N mg p1 ml = some res) : k_Met l yX7_strike cX7_strike 2 (some .int) 4 88 D [.ref (a 0), .int p1] (pic_X7 D a mp mg mc ml mq mh ms mr mi) (some (.int res.1)) (pic_X7 D a mp mg mc res.2 mq mh ms mr mi) :=
  k_of_i (by decide) (Nat.le_of_ble_eq_true rfl) (fun E X hret => wX7_strike X hret hf)
set_option maxRecDepth 100000 in
set_option maxHeartbeats 4000000 in
theorem wX7_worst_b79 {D : va_G} {l : Launch} {E : k_E} {N : Nat} {a : Nat → Nat} {k17 : Int32 → Int32 → Int32 → VMl → Option (Int32 × VMl)} {v1 : Int32} {v2 : Int32} {v3 : Int32} {mp : VMp} {mg : VMg} {mc : Nat → Int64} {ml : VMl} {mq : VMq} {mh : VMh} {ms : VMs} {mr : Nat → Int32} {mi : VMi} {res : Int32 × VMl} (X : k_X D E cX7_worst RX7 6 4 88) (hk17 : ∀ (v1 : Int32) (v2 : Int32) (v3 : Int32) (ml : VMl), k17 v1 v2 v3 ml = some res → k_G D l E (pic_X7 D a mp mg mc ml mq mh ms mr mi) [(0, .ref (a 0)), (1, .int v1), (2, .int v2), (3, .int v3)] 17 []) (hret : ∀ (pc : Nat) (lv : List (Nat × Value)), decode cX7_worst pc = .ok (.ireturn, 1) → k_G D l E (pic_X7 D a mp mg mc res.2 mq mh ms mr mi) lv pc [.int res.1]) (hf : fX7_worst_b79 N mg k17 v1 v2 v3 ml = some res) : k_G D l E (pic_X7 D a mp mg mc ml mq mh ms mr mi) [(0, .ref (a 0)), (1, .int v1), (2, .int v2), (3, .int v3)] 79 [] := by
  unfold fX7_worst_b79 at hf
  refine g_iinc X dX7_worst_79 3 rfl (v := v3 + 1) rfl (by decide) (lv2 := [(3, .int (v3 + 1)), (0, .ref (a 0)), (1, .int v1), (2, .int v2)]) rfl (n := 82) rfl ?_
  refine g_goto X dX7_worst_82 (n := 17) (by decide) ?_
  refine g_sub [1, 2, 3, 0] (lv' := [(0, .ref (a 0)), (1, .int v1), (2, .int v2), (3, .int (v3 + 1))]) rfl ?_
  exact hk17 _ _ _ _ hf
set_option maxRecDepth 100000 in
set_option maxHeartbeats 4000000 in
theorem wX7_worst_b78 {D : va_G} {l : Launch} {E : k_E} {N : Nat} {a : Nat → Nat} {k17 : Int32 → Int32 → Int32 → VMl → Option (Int32 × VMl)} {v1 : Int32} {v3 : Int32} {s0 : Int32} {mp : VMp} {mg : VMg} {mc : Nat → Int64} {ml : VMl} {mq : VMq} {mh : VMh} {ms : VMs} {mr : Nat → Int32} {mi : VMi} {res : Int32 × VMl} (X : k_X D E cX7_worst RX7 6 4 88) (hk17 : ∀ (v1 : Int32) (v2 : Int32) (v3 : Int32) (ml : VMl), k17 v1 v2 v3 ml = some res → k_G D l E (pic_X7 D a mp mg mc ml mq mh ms mr mi) [(0, .ref (a 0)), (1, .int v1), (2, .int v2), (3, .int v3)] 17 []) (hret : ∀ (pc : Nat) (lv : List (Nat × Value)), decode cX7_worst pc = .ok (.ireturn, 1) → k_G D l E (pic_X7 D a mp mg mc res.2 mq mh ms mr mi) lv pc [.int res.1]) (hf : fX7_worst_b78 N mg k17 v1 v3 s0 ml = some res) : k_G D l E (pic_X7 D a mp mg mc ml mq mh ms mr mi) [(0, .ref (a 0)), (1, .int v1), (3, .int v3)] 78 [.int s0] := by
  unfold fX7_worst_b78 at hf
  refine g_istore_n X dX7_worst_78 rfl (by decide) (lv2 := [(2, .int s0), (0, .ref (a 0)), (1, .int v1), (3, .int v3)]) rfl (n := 79) rfl ?_
  refine g_sub [1, 2, 0, 3] (lv' := [(0, .ref (a 0)), (1, .int v1), (2, .int s0), (3, .int v3)]) rfl ?_
  exact wX7_worst_b79 X hk17 hret hf
set_option maxRecDepth 100000 in
set_option maxHeartbeats 4000000 in
theorem wX7_worst_b66 {D : va_G} {l : Launch} {E : k_E} {N : Nat} {a : Nat → Nat} {k17 : Int32 → Int32 → Int32 → VMl → Option (Int32 × VMl)} {v2 : Int32} {v3 : Int32} {v4 : Int32} {v5 : Bool} {s0 : Int32} {mp : VMp} {mg : VMg} {mc : Nat → Int64} {ml : VMl} {mq : VMq} {mh : VMh} {ms : VMs} {mr : Nat → Int32} {mi : VMi} {res : Int32 × VMl} (X : k_X D E cX7_worst RX7 6 4 88) (hk17 : ∀ (v1 : Int32) (v2 : Int32) (v3 : Int32) (ml : VMl), k17 v1 v2 v3 ml = some res → k_G D l E (pic_X7 D a mp mg mc ml mq mh ms mr mi) [(0, .ref (a 0)), (1, .int v1), (2, .int v2), (3, .int v3)] 17 []) (hret : ∀ (pc : Nat) (lv : List (Nat × Value)), decode cX7_worst pc = .ok (.ireturn, 1) → k_G D l E (pic_X7 D a mp mg mc res.2 mq mh ms mr mi) lv pc [.int res.1]) (hf : fX7_worst_b66 N mg k17 v2 v3 v4 v5 s0 ml = some res) : k_G D l E (pic_X7 D a mp mg mc ml mq mh ms mr mi) [(0, .ref (a 0)), (2, .int v2), (3, .int v3), (4, .int v4), (5, .int (bI v5))] 66 [.int s0] := by
  unfold fX7_worst_b66 at hf
  refine g_istore_n X dX7_worst_66 rfl (by decide) (lv2 := [(1, .int s0), (0, .ref (a 0)), (2, .int v2), (3, .int v3), (4, .int v4), (5, .int (bI v5))]) rfl (n := 67) rfl ?_
  refine g_iload X dX7_worst_67 5 rfl (n := 69) rfl ?_
  refine g_if_eqB X dX7_worst_69 (t := 77) (by decide) (n := 72) rfl (fun c_1 => ?_) (fun c_1 => ?_)
  · replace hf := k_neg c_1 hf
    refine g_iload_n X dX7_worst_77 2 rfl rfl (n := 78) rfl ?_
    refine g_sub [1, 0, 3] (lv' := [(0, .ref (a 0)), (1, .int s0), (3, .int v3)]) rfl ?_
    exact wX7_worst_b78 X hk17 hret hf
  · replace hf := k_pos c_1 hf
    refine g_iload X dX7_worst_72 4 rfl (n := 74) rfl ?_
    refine g_goto X dX7_worst_74 (n := 78) (by decide) ?_
    refine g_sub [1, 0, 3] (lv' := [(0, .ref (a 0)), (1, .int s0), (3, .int v3)]) rfl ?_
    exact wX7_worst_b78 X hk17 hret hf
set_option maxRecDepth 100000 in
set_option maxHeartbeats 4000000 in
theorem wX7_worst_b54 {D : va_G} {l : Launch} {E : k_E} {N : Nat} {a : Nat → Nat} {k17 : Int32 → Int32 → Int32 → VMl → Option (Int32 × VMl)} {v1 : Int32} {v2 : Int32} {v3 : Int32} {v4 : Int32} {s0 : Bool} {mp : VMp} {mg : VMg} {mc : Nat → Int64} {ml : VMl} {mq : VMq} {mh : VMh} {ms : VMs} {mr : Nat → Int32} {mi : VMi} {res : Int32 × VMl} (X : k_X D E cX7_worst RX7 6 4 88) (hk17 : ∀ (v1 : Int32) (v2 : Int32) (v3 : Int32) (ml : VMl), k17 v1 v2 v3 ml = some res → k_G D l E (pic_X7 D a mp mg mc ml mq mh ms mr mi) [(0, .ref (a 0)), (1, .int v1), (2, .int v2), (3, .int v3)] 17 []) (hret : ∀ (pc : Nat) (lv : List (Nat × Value)), decode cX7_worst pc = .ok (.ireturn, 1) → k_G D l E (pic_X7 D a mp mg mc res.2 mq mh ms mr mi) lv pc [.int res.1]) (hf : fX7_worst_b54 N mg k17 v1 v2 v3 v4 s0 ml = some res) : k_G D l E (pic_X7 D a mp mg mc ml mq mh ms mr mi) [(0, .ref (a 0)), (1, .int v1), (2, .int v2), (3, .int v3), (4, .int v4)] 54 [.int (bI s0)] := by
  unfold fX7_worst_b54 at hf
  refine g_istore X dX7_worst_54 (by decide) (lv2 := [(5, .int (bI s0)), (0, .ref (a 0)), (1, .int v1), (2, .int v2), (3, .int v3), (4, .int v4)]) rfl (n := 56) rfl ?_
  refine g_iload X dX7_worst_56 0 rfl (n := 58) rfl ?_
  refine g_if_eqB X dX7_worst_58 (t := 65) (by decide) (n := 61) rfl (fun c_1 => ?_) (fun c_1 => ?_)
  · replace hf := k_neg c_1 hf
    refine g_iload_n X dX7_worst_65 2 rfl rfl (n := 66) rfl ?_
    refine g_sub [1, 3, 4, 5, 0] (lv' := [(0, .ref (a 0)), (2, .int v2), (3, .int v3), (4, .int v4), (5, .int (bI s0))]) rfl ?_
    exact wX7_worst_b66 X hk17 hret hf
  · replace hf := k_pos c_1 hf
    refine g_iload_n X dX7_worst_61 4 rfl rfl (n := 62) rfl ?_
    refine g_goto X dX7_worst_62 (n := 66) (by decide) ?_
    refine g_sub [1, 3, 4, 5, 0] (lv' := [(0, .ref (a 0)), (2, .int v2), (3, .int v3), (4, .int v4), (5, .int (bI s0))]) rfl ?_
    exact wX7_worst_b66 X hk17 hret hf
set_option maxRecDepth 100000 in
set_option maxHeartbeats 4000000 in
theorem wX7_worst_b49 {D : va_G} {l : Launch} {E : k_E} {N : Nat} {a : Nat → Nat} {k17 : Int32 → Int32 → Int32 → VMl → Option (Int32 × VMl)} {v1 : Int32} {v2 : Int32} {v3 : Int32} {v4 : Int32} {mp : VMp} {mg : VMg} {mc : Nat → Int64} {ml : VMl} {mq : VMq} {mh : VMh} {ms : VMs} {mr : Nat → Int32} {mi : VMi} {res : Int32 × VMl} (X : k_X D E cX7_worst RX7 6 4 88) (hk17 : ∀ (v1 : Int32) (v2 : Int32) (v3 : Int32) (ml : VMl), k17 v1 v2 v3 ml = some res → k_G D l E (pic_X7 D a mp mg mc ml mq mh ms mr mi) [(0, .ref (a 0)), (1, .int v1), (2, .int v2), (3, .int v3)] 17 []) (hret : ∀ (pc : Nat) (lv : List (Nat × Value)), decode cX7_worst pc = .ok (.ireturn, 1) → k_G D l E (pic_X7 D a mp mg mc res.2 mq mh ms mr mi) lv pc [.int res.1]) (hf : fX7_worst_b49 N mg k17 v1 v2 v3 v4 ml = some res) : k_G D l E (pic_X7 D a mp mg mc ml mq mh ms mr mi) [(0, .ref (a 0)), (1, .int v1), (2, .int v2), (3, .int v3), (4, .int v4)] 49 [] := by
  unfold fX7_worst_b49 at hf
  refine g_iconst X dX7_worst_49 (v := 1) (by decide) (n := 50) rfl ?_
  refine g_goto X dX7_worst_50 (n := 54) (by decide) ?_
  refine g_sub [0, 1, 2, 3, 4] (lv' := [(0, .ref (a 0)), (1, .int v1), (2, .int v2), (3, .int v3), (4, .int v4)]) rfl ?_
  exact wX7_worst_b54 X hk17 hret hf
set_option maxRecDepth 100000 in
set_option maxHeartbeats 4000000 in
theorem wX7_worst_b17 {D : va_G} {l : Launch} {E : k_E} {N : Nat} {a : Nat → Nat} {k17 : Int32 → Int32 → Int32 → VMl → Option (Int32 × VMl)} {v1 : Int32} {v2 : Int32} {v3 : Int32} {mp : VMp} {mg : VMg} {mc : Nat → Int64} {ml : VMl} {mq : VMq} {mh : VMh} {ms : VMs} {mr : Nat → Int32} {mi : VMi} {res : Int32 × VMl} (X : k_X D E cX7_worst RX7 6 4 88) (hk17 : ∀ (v1 : Int32) (v2 : Int32) (v3 : Int32) (ml : VMl), k17 v1 v2 v3 ml = some res → k_G D l E (pic_X7 D a mp mg mc ml mq mh ms mr mi) [(0, .ref (a 0)), (1, .int v1), (2, .int v2), (3, .int v3)] 17 []) (hret : ∀ (pc : Nat) (lv : List (Nat × Value)), decode cX7_worst pc = .ok (.ireturn, 1) → k_G D l E (pic_X7 D a mp mg mc res.2 mq mh ms mr mi) lv pc [.int res.1]) (hf : fX7_worst_b17 N mg k17 v1 v2 v3 ml = some res) : k_G D l E (pic_X7 D a mp mg mc ml mq mh ms mr mi) [(0, .ref (a 0)), (1, .int v1), (2, .int v2), (3, .int v3)] 17 [] := by
  unfold fX7_worst_b17 at hf
  refine g_iload_n X dX7_worst_17 3 rfl rfl (n := 18) rfl ?_
  refine g_bipush X dX7_worst_18 (v := 6) (by decide) (n := 20) rfl ?_
  refine g_icmp_ge X dX7_worst_20 (t := 85) (by decide) (n := 23) rfl (fun c_1 => ?_) (fun c_1 => ?_)
  · replace hf := k_pos c_1 hf
    refine g_iload_n X dX7_worst_85 1 rfl rfl (n := 86) rfl ?_
    obtain rfl := Option.some.inj hf
    exact hret _ _ dX7_worst_86
  · replace hf := k_neg c_1 hf
    refine g_aload_n X dX7_worst_23 0 rfl rfl (n := 24) rfl ?_
    refine g_get X dX7_worst_24 flX7_16 0 rfl (v := .ref (a 3)) rfl (n := 27) rfl ?_
    refine g_iload_n X dX7_worst_27 3 rfl rfl (n := 28) rfl ?_
    obtain ⟨h_2, hf⟩ := k_guard hf
    refine g_iaload X dX7_worst_28 3 (f := mg.2.1) rfl rfl h_2 (n := 29) rfl ?_
    refine g_if_ne X dX7_worst_29 (t := 79) (by decide) (n := 32) rfl (fun c_3 => ?_) (fun c_3 => ?_)
    · replace hf := k_neg c_3 hf
      refine g_sub [0, 1, 2, 3] (lv' := [(0, .ref (a 0)), (1, .int v1), (2, .int v2), (3, .int v3)]) rfl ?_
      exact wX7_worst_b79 X hk17 hret hf
    · replace hf := k_pos c_3 hf
      refine g_aload_n X dX7_worst_32 0 rfl rfl (n := 33) rfl ?_
      refine g_iload_n X dX7_worst_33 3 rfl rfl (n := 34) rfl ?_
      obtain ⟨x_4, ml_5, g_6, hf⟩ := k_b2s hf
      refine g_callV0 X (mX7_lossOf (D := D) (l := l) (a := a) (mp := mp) (mc := mc) (mq := mq) (mh := mh) (ms := ms) (mr := mr) (mi := mi) g_6) lk_X7_lossOf mlX7_206 dX7_worst_34 (n := 37) rfl (st := []) rfl (st2 := [.int x_4]) rfl rfl rfl rfl (ws2 := pic_X7 D a mp mg mc ml_5 mq mh ms mr mi) (ad_X7 _ _ _ _ _ _ _ _ _ _ _ _ _ _ _ _ _ _ _ _) rfl ⟨Nat.le_of_ble_eq_true rfl, Nat.le_of_ble_eq_true rfl⟩ (Nat.le_of_ble_eq_true rfl) ?_
      refine g_istore X dX7_worst_37 (by decide) (lv2 := [(4, .int x_4), (0, .ref (a 0)), (1, .int v1), (2, .int v2), (3, .int v3)]) rfl (n := 39) rfl ?_
      refine g_iload_n X dX7_worst_39 2 rfl rfl (n := 40) rfl ?_
      refine g_if_lt X dX7_worst_40 (t := 49) (by decide) (n := 43) rfl (fun c_7 => ?_) (fun c_7 => ?_)
      · replace hf := k_pos c_7 hf
        refine g_sub [1, 2, 3, 4, 0] (lv' := [(0, .ref (a 0)), (1, .int v1), (2, .int v2), (3, .int v3), (4, .int x_4)]) rfl ?_
        exact wX7_worst_b49 X hk17 hret hf
      · replace hf := k_neg c_7 hf
        refine g_iload X dX7_worst_43 0 rfl (n := 45) rfl ?_
        refine g_iload_n X dX7_worst_45 3 rfl rfl (n := 46) rfl ?_
        refine g_icmp_le X dX7_worst_46 (t := 53) (by decide) (n := 49) rfl (fun c_8 => ?_) (fun c_8 => ?_)
        · replace hf := k_pos c_8 hf
          refine g_iconst X dX7_worst_53 (v := 0) (by decide) (n := 54) rfl ?_
          refine g_sub [1, 2, 3, 4, 0] (lv' := [(0, .ref (a 0)), (1, .int v1), (2, .int v2), (3, .int v3), (4, .int x_4)]) rfl ?_
          exact wX7_worst_b54 X hk17 hret hf
        · replace hf := k_neg c_8 hf
          refine g_sub [1, 2, 3, 4, 0] (lv' := [(0, .ref (a 0)), (1, .int v1), (2, .int v2), (3, .int v3), (4, .int x_4)]) rfl ?_
          exact wX7_worst_b49 X hk17 hret hf
set_option maxRecDepth 100000 in
set_option maxHeartbeats 4000000 in
theorem wX7_worst_l17 {D : va_G} {l : Launch} {E : k_E} {N : Nat} {a : Nat → Nat} {mp : VMp} {mg : VMg} {mc : Nat → Int64} {mq : VMq} {mh : VMh} {ms : VMs} {mr : Nat → Int32} {mi : VMi} {res : Int32 × VMl} (X : k_X D E cX7_worst RX7 6 4 88) (hret : ∀ (pc : Nat) (lv : List (Nat × Value)), decode cX7_worst pc = .ok (.ireturn, 1) → k_G D l E (pic_X7 D a mp mg mc res.2 mq mh ms mr mi) lv pc [.int res.1]) : ∀ (n0 : Nat) (v1 : Int32) (v2 : Int32) (v3 : Int32) (ml : VMl), fX7_worst_l17 N mg n0 v1 v2 v3 ml = some res → k_G D l E (pic_X7 D a mp mg mc ml mq mh ms mr mi) [(0, .ref (a 0)), (1, .int v1), (2, .int v2), (3, .int v3)] 17 [] := by
  intro n0
  induction n0 with
  | zero => intro v1 v2 v3 ml hf; cases hf
  | succ n0 ih => intro v1 v2 v3 ml hf; exact wX7_worst_b17 (N := N) (k17 := fX7_worst_l17 N mg n0) X  ih hret hf
set_option maxRecDepth 100000 in
set_option maxHeartbeats 4000000 in
theorem wX7_worst {D : va_G} {l : Launch} {E : k_E} {N : Nat} {a : Nat → Nat} {mp : VMp} {mg : VMg} {mc : Nat → Int64} {ml : VMl} {mq : VMq} {mh : VMh} {ms : VMs} {mr : Nat → Int32} {mi : VMi} {res : Int32 × VMl} (X : k_X D E cX7_worst RX7 6 4 88) (hret : ∀ (pc : Nat) (lv : List (Nat × Value)), decode cX7_worst pc = .ok (.ireturn, 1) → k_G D l E (pic_X7 D a mp mg mc res.2 mq mh ms mr mi) lv pc [.int res.1]) (hf : fX7_worst N mg ml = some res) : k_G D l E (pic_X7 D a mp mg mc ml mq mh ms mr mi) [(0, .ref (a 0))] 0 [] := by
  unfold fX7_worst at hf
  refine g_aload_n X dX7_worst_0 0 rfl rfl (n := 1) rfl ?_
  obtain ⟨x_1, ml_2, g_3, hf⟩ := k_b2s hf
  refine g_callV0 X (mX7_isOverfull (D := D) (l := l) (a := a) (mp := mp) (mc := mc) (mq := mq) (mh := mh) (ms := ms) (mr := mr) (mi := mi) g_3) lk_X7_isOverfull mlX7_202 dX7_worst_1 (n := 4) rfl (st := []) rfl (st2 := [.int (bI x_1)]) rfl rfl rfl rfl (ws2 := pic_X7 D a mp mg mc ml_2 mq mh ms mr mi) (ad_X7 _ _ _ _ _ _ _ _ _ _ _ _ _ _ _ _ _ _ _ _) rfl ⟨Nat.le_of_ble_eq_true rfl, Nat.le_of_ble_eq_true rfl⟩ (Nat.le_of_ble_eq_true rfl) ?_
  refine g_if_eqB X dX7_worst_4 (t := 10) (by decide) (n := 7) rfl (fun c_4 => ?_) (fun c_4 => ?_)
  · replace hf := k_neg c_4 hf
    refine g_bipush X dX7_worst_10 (v := (-6)) (by decide) (n := 12) rfl ?_
    refine g_istore_n X dX7_worst_12 rfl (by decide) (lv2 := [(1, .int (-6)), (0, .ref (a 0))]) rfl (n := 13) rfl ?_
    refine g_iconst X dX7_worst_13 (v := 0) (by decide) (n := 14) rfl ?_
    refine g_istore_n X dX7_worst_14 rfl (by decide) (lv2 := [(2, .int 0), (1, .int (-6)), (0, .ref (a 0))]) rfl (n := 15) rfl ?_
    refine g_iconst X dX7_worst_15 (v := 0) (by decide) (n := 16) rfl ?_
    refine g_istore_n X dX7_worst_16 rfl (by decide) (lv2 := [(3, .int 0), (2, .int 0), (1, .int (-6)), (0, .ref (a 0))]) rfl (n := 17) rfl ?_
    refine g_sub [3, 2, 1, 0] (lv' := [(0, .ref (a 0)), (1, .int (-6)), (2, .int 0), (3, .int 0)]) rfl ?_
    exact wX7_worst_l17 X  hret _ _ _ _ _ hf
  · replace hf := k_pos c_4 hf
    refine g_bipush X dX7_worst_7 (v := (-3)) (by decide) (n := 9) rfl ?_
    obtain rfl := Option.some.inj hf
    exact hret _ _ dX7_worst_9
set_option maxRecDepth 100000 in
set_option maxHeartbeats 4000000 in
theorem mX7_worst {l : Launch} {D : va_G} {N : Nat} {a : Nat → Nat} {mp : VMp} {mg : VMg} {mc : Nat → Int64} {ml : VMl} {mq : VMq} {mh : VMh} {ms : VMs} {mr : Nat → Int32} {mi : VMi} {res : Int32 × VMl} (hf : fX7_worst N mg ml = some res) : k_Met l yX7_worst cX7_worst 6 (some .int) 4 88 D [.ref (a 0)] (pic_X7 D a mp mg mc ml mq mh ms mr mi) (some (.int res.1)) (pic_X7 D a mp mg mc res.2 mq mh ms mr mi) :=
  k_of_i (by decide) (Nat.le_of_ble_eq_true rfl) (fun E X hret => wX7_worst X hret hf)
