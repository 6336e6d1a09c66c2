/-! walks: X7_layHis X7_gatherer X7_laySeems X7_seems X7_isLess X7_suspect -/
set_option maxRecDepth 100000 in
set_option maxHeartbeats 4000000 in
theorem wX7_layHis_b96 {D : va_G} {l : Launch} {E : k_E} {N : Nat} {a : Nat → Nat} {k12 : Int32 → Int32 → VMh → Option (VMh)} {v1 : Int32} {v2 : Int32} {mp : VMp} {mg : VMg} {mc : Nat → Int64} {ml : VMl} {mq : VMq} {mh : VMh} {ms : VMs} {mr : Nat → Int32} {mi : VMi} {res : VMh} (X : k_X D E cX7_layHis RX7 4 1 20) (hk12 : ∀ (v1 : Int32) (v2 : Int32) (mh : VMh), k12 v1 v2 mh = some res → k_G D l E (pic_X7 D a mp mg mc ml mq mh ms mr mi) [(0, .ref (a 0)), (1, .int v1), (2, .int v2)] 12 []) (hret : ∀ (pc : Nat) (lv : List (Nat × Value)), decode cX7_layHis pc = .ok (.return_, 1) → k_G D l E (pic_X7 D a mp mg mc ml mq res ms mr mi) lv pc []) (hf : fX7_layHis_b96 N mg k12 v1 v2 mh = some res) : k_G D l E (pic_X7 D a mp mg mc ml mq mh ms mr mi) [(0, .ref (a 0)), (1, .int v1), (2, .int v2)] 96 [] := by
  unfold fX7_layHis_b96 at hf
  refine g_iinc X dX7_layHis_96 2 rfl (v := v2 + 1) rfl (by decide) (lv2 := [(2, .int (v2 + 1)), (0, .ref (a 0)), (1, .int v1)]) rfl (n := 99) rfl ?_
  refine g_goto X dX7_layHis_99 (n := 12) (by decide) ?_
  refine g_sub [1, 2, 0] (lv' := [(0, .ref (a 0)), (1, .int v1), (2, .int (v2 + 1))]) rfl ?_
  exact hk12 _ _ _ hf
set_option maxRecDepth 100000 in
set_option maxHeartbeats 4000000 in
theorem wX7_layHis_b86 {D : va_G} {l : Launch} {E : k_E} {N : Nat} {a : Nat → Nat} {k12 : Int32 → Int32 → VMh → Option (VMh)} {k20 : Int32 → Int32 → Int32 → VMh → Option (VMh)} {v1 : Int32} {v2 : Int32} {v3 : Int32} {s1 : Int32} {s2 : Bool} {mp : VMp} {mg : VMg} {mc : Nat → Int64} {ml : VMl} {mq : VMq} {mh : VMh} {ms : VMs} {mr : Nat → Int32} {mi : VMi} {res : VMh} (X : k_X D E cX7_layHis RX7 4 1 20) (hk12 : ∀ (v1 : Int32) (v2 : Int32) (mh : VMh), k12 v1 v2 mh = some res → k_G D l E (pic_X7 D a mp mg mc ml mq mh ms mr mi) [(0, .ref (a 0)), (1, .int v1), (2, .int v2)] 12 []) (hk20 : ∀ (v1 : Int32) (v2 : Int32) (v3 : Int32) (mh : VMh), k20 v1 v2 v3 mh = some res → k_G D l E (pic_X7 D a mp mg mc ml mq mh ms mr mi) [(0, .ref (a 0)), (1, .int v1), (2, .int v2), (3, .int v3)] 20 []) (hret : ∀ (pc : Nat) (lv : List (Nat × Value)), decode cX7_layHis pc = .ok (.return_, 1) → k_G D l E (pic_X7 D a mp mg mc ml mq res ms mr mi) lv pc []) (hf : fX7_layHis_b86 N mg k12 k20 v1 v2 v3 s1 s2 mh = some res) : k_G D l E (pic_X7 D a mp mg mc ml mq mh ms mr mi) [(0, .ref (a 0)), (1, .int v1), (2, .int v2), (3, .int v3)] 86 [.int (bI s2), .int s1, .ref (a 0)] := by
  unfold fX7_layHis_b86 at hf
  refine g_iadd X dX7_layHis_86 (n := 87) rfl ?_
  refine g_put X dX7_layHis_87 flX7_178 0 rfl rfl rfl (Nat.le_of_ble_eq_true rfl) (ws2 := pic_X7 D a mp mg mc ml mq (mh.1, (s1 + (bI s2))) ms mr mi) rfl (n := 90) rfl ?_
  refine g_iinc X dX7_layHis_90 3 rfl (v := v3 + 1) rfl (by decide) (lv2 := [(3, .int (v3 + 1)), (0, .ref (a 0)), (1, .int v1), (2, .int v2)]) rfl (n := 93) rfl ?_
  refine g_goto X dX7_layHis_93 (n := 20) (by decide) ?_
  refine g_sub [1, 2, 3, 0] (lv' := [(0, .ref (a 0)), (1, .int v1), (2, .int v2), (3, .int (v3 + 1))]) rfl ?_
  exact hk20 _ _ _ _ hf
set_option maxRecDepth 100000 in
set_option maxHeartbeats 4000000 in
theorem wX7_layHis_b20 {D : va_G} {l : Launch} {E : k_E} {N : Nat} {a : Nat → Nat} {k12 : Int32 → Int32 → VMh → Option (VMh)} {k20 : Int32 → Int32 → Int32 → VMh → Option (VMh)} {v1 : Int32} {v2 : Int32} {v3 : Int32} {mp : VMp} {mg : VMg} {mc : Nat → Int64} {ml : VMl} {mq : VMq} {mh : VMh} {ms : VMs} {mr : Nat → Int32} {mi : VMi} {res : VMh} (X : k_X D E cX7_layHis RX7 4 1 20) (hk12 : ∀ (v1 : Int32) (v2 : Int32) (mh : VMh), k12 v1 v2 mh = some res → k_G D l E (pic_X7 D a mp mg mc ml mq mh ms mr mi) [(0, .ref (a 0)), (1, .int v1), (2, .int v2)] 12 []) (hk20 : ∀ (v1 : Int32) (v2 : Int32) (v3 : Int32) (mh : VMh), k20 v1 v2 v3 mh = some res → k_G D l E (pic_X7 D a mp mg mc ml mq mh ms mr mi) [(0, .ref (a 0)), (1, .int v1), (2, .int v2), (3, .int v3)] 20 []) (hret : ∀ (pc : Nat) (lv : List (Nat × Value)), decode cX7_layHis pc = .ok (.return_, 1) → k_G D l E (pic_X7 D a mp mg mc ml mq res ms mr mi) lv pc []) (hf : fX7_layHis_b20 N mg k12 k20 v1 v2 v3 mh = some res) : k_G D l E (pic_X7 D a mp mg mc ml mq mh ms mr mi) [(0, .ref (a 0)), (1, .int v1), (2, .int v2), (3, .int v3)] 20 [] := by
  unfold fX7_layHis_b20 at hf
  refine g_iload_n X dX7_layHis_20 3 rfl rfl (n := 21) rfl ?_
  refine g_aload_n X dX7_layHis_21 0 rfl rfl (n := 22) rfl ?_
  refine g_get X dX7_layHis_22 flX7_19 0 rfl (v := .ref (a 4)) rfl (n := 25) rfl ?_
  refine g_iload_n X dX7_layHis_25 2 rfl rfl (n := 26) rfl ?_
  obtain ⟨h_1, hf⟩ := k_guard hf
  refine g_iaload X dX7_layHis_26 4 (f := mg.2.2.1) rfl rfl h_1 (n := 27) rfl ?_
  refine g_icmp_ge X dX7_layHis_27 (t := 96) (by decide) (n := 30) rfl (fun c_2 => ?_) (fun c_2 => ?_)
  · replace hf := k_pos c_2 hf
    refine g_sub [0, 1, 2] (lv' := [(0, .ref (a 0)), (1, .int v1), (2, .int v2)]) rfl ?_
    exact wX7_layHis_b96 X hk12 hret hf
  · replace hf := k_neg c_2 hf
    refine g_aload_n X dX7_layHis_30 0 rfl rfl (n := 31) rfl ?_
    refine g_get X dX7_layHis_31 flX7_16 0 rfl (v := .ref (a 3)) rfl (n := 34) rfl ?_
    refine g_iload_n X dX7_layHis_34 2 rfl rfl (n := 35) rfl ?_
    obtain ⟨h_3, hf⟩ := k_guard hf
    refine g_iaload X dX7_layHis_35 3 (f := mg.2.1) rfl rfl h_3 (n := 36) rfl ?_
    refine g_if_ne X dX7_layHis_36 (t := 96) (by decide) (n := 39) rfl (fun c_4 => ?_) (fun c_4 => ?_)
    · replace hf := k_neg c_4 hf
      refine g_sub [0, 1, 2] (lv' := [(0, .ref (a 0)), (1, .int v1), (2, .int v2)]) rfl ?_
      exact wX7_layHis_b96 X hk12 hret hf
    · replace hf := k_pos c_4 hf
      refine g_aload_n X dX7_layHis_39 0 rfl rfl (n := 40) rfl ?_
      refine g_get X dX7_layHis_40 flX7_13 0 rfl (v := .ref (a 2)) rfl (n := 43) rfl ?_
      refine g_iload_n X dX7_layHis_43 2 rfl rfl (n := 44) rfl ?_
      obtain ⟨h_5, hf⟩ := k_guard hf
      refine g_iaload X dX7_layHis_44 2 (f := mg.1) rfl rfl h_5 (n := 45) rfl ?_
      refine g_iload_n X dX7_layHis_45 1 rfl rfl (n := 46) rfl ?_
      refine g_icmp_ne X dX7_layHis_46 (t := 96) (by decide) (n := 49) rfl (fun c_6 => ?_) (fun c_6 => ?_)
      · replace hf := k_neg c_6 hf
        refine g_sub [0, 1, 2] (lv' := [(0, .ref (a 0)), (1, .int v1), (2, .int v2)]) rfl ?_
        exact wX7_layHis_b96 X hk12 hret hf
      · replace hf := k_pos c_6 hf
        refine g_aload_n X dX7_layHis_49 0 rfl rfl (n := 50) rfl ?_
        refine g_dup X dX7_layHis_50 rfl (n := 51) rfl ?_
        refine g_get X dX7_layHis_51 flX7_175 0 rfl (v := .int mh.1) rfl (n := 54) rfl ?_
        refine g_iconst X dX7_layHis_54 (v := 1) (by decide) (n := 55) rfl ?_
        refine g_iadd X dX7_layHis_55 (n := 56) rfl ?_
        refine g_put X dX7_layHis_56 flX7_175 0 rfl rfl rfl (Nat.le_of_ble_eq_true rfl) (ws2 := pic_X7 D a mp mg mc ml mq ((mh.1 + 1), mh.2) ms mr mi) rfl (n := 59) rfl ?_
        refine g_aload_n X dX7_layHis_59 0 rfl rfl (n := 60) rfl ?_
        refine g_dup X dX7_layHis_60 rfl (n := 61) rfl ?_
        refine g_get X dX7_layHis_61 flX7_178 0 rfl (v := .int mh.2) rfl (n := 64) rfl ?_
        refine g_aload_n X dX7_layHis_64 0 rfl rfl (n := 65) rfl ?_
        refine g_get X dX7_layHis_65 flX7_22 0 rfl (v := .ref (a 5)) rfl (n := 68) rfl ?_
        refine g_bipush X dX7_layHis_68 (v := 10) (by decide) (n := 70) rfl ?_
        refine g_iload_n X dX7_layHis_70 2 rfl rfl (n := 71) rfl ?_
        refine g_imul X dX7_layHis_71 (n := 72) rfl ?_
        refine g_iload_n X dX7_layHis_72 3 rfl rfl (n := 73) rfl ?_
        refine g_iadd X dX7_layHis_73 (n := 74) rfl ?_
        obtain ⟨h_7, hf⟩ := k_guard hf
        refine g_iaload X dX7_layHis_74 5 (f := mg.2.2.2.1) rfl rfl h_7 (n := 75) rfl ?_
        obtain ⟨x_8, g_9, hf⟩ := k_b1s hf
        refine g_callS0 X (mX7_isBad (D := D) (l := l)  g_9) lk_X7_isBad mlX7_69 dX7_layHis_75 (n := 78) rfl (st := [.int mh.2, .ref (a 0)]) rfl (st2 := [.int (bI x_8), .int mh.2, .ref (a 0)]) rfl rfl ⟨Nat.le_of_ble_eq_true rfl, Nat.le_of_ble_eq_true rfl⟩ (Nat.le_of_ble_eq_true rfl) ?_
        refine g_if_eqB X dX7_layHis_78 (t := 85) (by decide) (n := 81) rfl (fun c_10 => ?_) (fun c_10 => ?_)
        · replace hf := k_neg c_10 hf
          refine g_iconst X dX7_layHis_85 (v := 0) (by decide) (n := 86) rfl ?_
          refine g_sub [0, 1, 2, 3] (lv' := [(0, .ref (a 0)), (1, .int v1), (2, .int v2), (3, .int v3)]) rfl ?_
          exact wX7_layHis_b86 X hk12 hk20 hret hf
        · replace hf := k_pos c_10 hf
          refine g_iconst X dX7_layHis_81 (v := 1) (by decide) (n := 82) rfl ?_
          refine g_goto X dX7_layHis_82 (n := 86) (by decide) ?_
          refine g_sub [0, 1, 2, 3] (lv' := [(0, .ref (a 0)), (1, .int v1), (2, .int v2), (3, .int v3)]) rfl ?_
          exact wX7_layHis_b86 X hk12 hk20 hret hf
set_option maxRecDepth 100000 in
set_option maxHeartbeats 4000000 in
theorem wX7_layHis_l20 {D : va_G} {l : Launch} {E : k_E} {N : Nat} {a : Nat → Nat} {k12 : Int32 → Int32 → VMh → Option (VMh)} {mp : VMp} {mg : VMg} {mc : Nat → Int64} {ml : VMl} {mq : VMq} {ms : VMs} {mr : Nat → Int32} {mi : VMi} {res : VMh} (X : k_X D E cX7_layHis RX7 4 1 20) (hk12 : ∀ (v1 : Int32) (v2 : Int32) (mh : VMh), k12 v1 v2 mh = some res → k_G D l E (pic_X7 D a mp mg mc ml mq mh ms mr mi) [(0, .ref (a 0)), (1, .int v1), (2, .int v2)] 12 []) (hret : ∀ (pc : Nat) (lv : List (Nat × Value)), decode cX7_layHis pc = .ok (.return_, 1) → k_G D l E (pic_X7 D a mp mg mc ml mq res ms mr mi) lv pc []) : ∀ (n0 : Nat) (v1 : Int32) (v2 : Int32) (v3 : Int32) (mh : VMh), fX7_layHis_l20 N mg k12 n0 v1 v2 v3 mh = some res → k_G D l E (pic_X7 D a mp mg mc ml mq mh ms mr mi) [(0, .ref (a 0)), (1, .int v1), (2, .int v2), (3, .int v3)] 20 [] := by
  intro n0
  induction n0 with
  | zero => intro v1 v2 v3 mh hf; cases hf
  | succ n0 ih => intro v1 v2 v3 mh hf; exact wX7_layHis_b20 (N := N) (k20 := fX7_layHis_l20 N mg k12 n0) X hk12 ih hret hf
set_option maxRecDepth 100000 in
set_option maxHeartbeats 4000000 in
theorem wX7_layHis_b12 {D : va_G} {l : Launch} {E : k_E} {N : Nat} {a : Nat → Nat} {k12 : Int32 → Int32 → VMh → Option (VMh)} {v1 : Int32} {v2 : Int32} {mp : VMp} {mg : VMg} {mc : Nat → Int64} {ml : VMl} {mq : VMq} {mh : VMh} {ms : VMs} {mr : Nat → Int32} {mi : VMi} {res : VMh} (X : k_X D E cX7_layHis RX7 4 1 20) (hk12 : ∀ (v1 : Int32) (v2 : Int32) (mh : VMh), k12 v1 v2 mh = some res → k_G D l E (pic_X7 D a mp mg mc ml mq mh ms mr mi) [(0, .ref (a 0)), (1, .int v1), (2, .int v2)] 12 []) (hret : ∀ (pc : Nat) (lv : List (Nat × Value)), decode cX7_layHis pc = .ok (.return_, 1) → k_G D l E (pic_X7 D a mp mg mc ml mq res ms mr mi) lv pc []) (hf : fX7_layHis_b12 N mg k12 v1 v2 mh = some res) : k_G D l E (pic_X7 D a mp mg mc ml mq mh ms mr mi) [(0, .ref (a 0)), (1, .int v1), (2, .int v2)] 12 [] := by
  unfold fX7_layHis_b12 at hf
  refine g_iload_n X dX7_layHis_12 2 rfl rfl (n := 13) rfl ?_
  refine g_bipush X dX7_layHis_13 (v := 6) (by decide) (n := 15) rfl ?_
  refine g_icmp_ge X dX7_layHis_15 (t := 102) (by decide) (n := 18) rfl (fun c_1 => ?_) (fun c_1 => ?_)
  · replace hf := k_pos c_1 hf
    obtain rfl := Option.some.inj hf
    exact hret _ _ dX7_layHis_102
  · replace hf := k_neg c_1 hf
    refine g_iconst X dX7_layHis_18 (v := 0) (by decide) (n := 19) rfl ?_
    refine g_istore_n X dX7_layHis_19 rfl (by decide) (lv2 := [(3, .int 0), (0, .ref (a 0)), (1, .int v1), (2, .int v2)]) rfl (n := 20) rfl ?_
    refine g_sub [1, 2, 3, 0] (lv' := [(0, .ref (a 0)), (1, .int v1), (2, .int v2), (3, .int 0)]) rfl ?_
    exact wX7_layHis_l20 X hk12 hret _ _ _ _ _ hf
set_option maxRecDepth 100000 in
set_option maxHeartbeats 4000000 in
theorem wX7_layHis_l12 {D : va_G} {l : Launch} {E : k_E} {N : Nat} {a : Nat → Nat} {mp : VMp} {mg : VMg} {mc : Nat → Int64} {ml : VMl} {mq : VMq} {ms : VMs} {mr : Nat → Int32} {mi : VMi} {res : VMh} (X : k_X D E cX7_layHis RX7 4 1 20) (hret : ∀ (pc : Nat) (lv : List (Nat × Value)), decode cX7_layHis pc = .ok (.return_, 1) → k_G D l E (pic_X7 D a mp mg mc ml mq res ms mr mi) lv pc []) : ∀ (n0 : Nat) (v1 : Int32) (v2 : Int32) (mh : VMh), fX7_layHis_l12 N mg n0 v1 v2 mh = some res → k_G D l E (pic_X7 D a mp mg mc ml mq mh ms mr mi) [(0, .ref (a 0)), (1, .int v1), (2, .int v2)] 12 [] := by
  intro n0
  induction n0 with
  | zero => intro v1 v2 mh hf; cases hf
  | succ n0 ih => intro v1 v2 mh hf; exact wX7_layHis_b12 (N := N) (k12 := fX7_layHis_l12 N mg n0) X  ih hret hf
set_option maxRecDepth 100000 in
set_option maxHeartbeats 4000000 in
theorem wX7_layHis {D : va_G} {l : Launch} {E : k_E} {N : Nat} {a : Nat → Nat} {p1 : Int32} {mp : VMp} {mg : VMg} {mc : Nat → Int64} {ml : VMl} {mq : VMq} {mh : VMh} {ms : VMs} {mr : Nat → Int32} {mi : VMi} {res : VMh} (X : k_X D E cX7_layHis RX7 4 1 20) (hret : ∀ (pc : Nat) (lv : List (Nat × Value)), decode cX7_layHis pc = .ok (.return_, 1) → k_G D l E (pic_X7 D a mp mg mc ml mq res ms mr mi) lv pc []) (hf : fX7_layHis N mg p1 mh = some res) : k_G D l E (pic_X7 D a mp mg mc ml mq mh ms mr mi) [(0, .ref (a 0)), (1, .int p1)] 0 [] := by
  unfold fX7_layHis at hf
  refine g_aload_n X dX7_layHis_0 0 rfl rfl (n := 1) rfl ?_
  refine g_iconst X dX7_layHis_1 (v := 0) (by decide) (n := 2) rfl ?_
  refine g_put X dX7_layHis_2 flX7_175 0 rfl rfl rfl (Nat.le_of_ble_eq_true rfl) (ws2 := pic_X7 D a mp mg mc ml mq ((0 : Int32), mh.2) ms mr mi) rfl (n := 5) rfl ?_
  refine g_aload_n X dX7_layHis_5 0 rfl rfl (n := 6) rfl ?_
  refine g_iconst X dX7_layHis_6 (v := 0) (by decide) (n := 7) rfl ?_
  refine g_put X dX7_layHis_7 flX7_178 0 rfl rfl rfl (Nat.le_of_ble_eq_true rfl) (ws2 := pic_X7 D a mp mg mc ml mq ((0 : Int32), (0 : Int32)) ms mr mi) rfl (n := 10) rfl ?_
  refine g_iconst X dX7_layHis_10 (v := 0) (by decide) (n := 11) rfl ?_
  refine g_istore_n X dX7_layHis_11 rfl (by decide) (lv2 := [(2, .int 0), (0, .ref (a 0)), (1, .int p1)]) rfl (n := 12) rfl ?_
  refine g_sub [1, 2, 0] (lv' := [(0, .ref (a 0)), (1, .int p1), (2, .int 0)]) rfl ?_
  exact wX7_layHis_l12 X  hret _ _ _ _ hf
set_option maxRecDepth 100000 in
set_option maxHeartbeats 4000000 in
theorem mX7_layHis {l : Launch} {D : va_G} {N : Nat} {a : Nat → Nat} {p1 : Int32} {mp : VMp} {mg : VMg} {mc : Nat → Int64} {ml : VMl} {mq : VMq} {mh : VMh} {ms : VMs} {mr : Nat → Int32} {mi : VMi} {res : VMh} (hf : fX7_layHis N mg p1 mh = some res) : k_Met l yX7_layHis cX7_layHis 4 none 1 20 D [.ref (a 0), .int p1] (pic_X7 D a mp mg mc ml mq mh ms mr mi) none (pic_X7 D a mp mg mc ml mq res ms mr mi) :=
  k_of_v (by decide) (Nat.le_of_ble_eq_true rfl) (fun E X hret => wX7_layHis X hret hf)
set_option maxRecDepth 100000 in
set_option maxHeartbeats 4000000 in
theorem wX7_gatherer {D : va_G} {l : Launch} {E : k_E} {N : Nat} {a : Nat → Nat} {p1 : Int32} {p2 : Int32} {mp : VMp} {mg : VMg} {mc : Nat → Int64} {ml : VMl} {mq : VMq} {mh : VMh} {ms : VMs} {mr : Nat → Int32} {mi : VMi} {res : Int32 × VMh} (X : k_X D E cX7_gatherer RX7 3 2 43) (hret : ∀ (pc : Nat) (lv : List (Nat × Value)), decode cX7_gatherer pc = .ok (.ireturn, 1) → k_G D l E (pic_X7 D a mp mg mc ml mq res.2 ms mr mi) lv pc [.int res.1]) (hf : fX7_gatherer N mg p1 p2 mh = some res) : k_G D l E (pic_X7 D a mp mg mc ml mq mh ms mr mi) [(0, .ref (a 0)), (1, .int p1), (2, .int p2)] 0 [] := by
  unfold fX7_gatherer at hf
  refine g_iload_n X dX7_gatherer_0 1 rfl rfl (n := 1) rfl ?_
  obtain ⟨x_1, g_2, hf⟩ := k_b1s hf
  refine g_callS0 X (mX7_isGatherer (D := D) (l := l)  g_2) lk_X7_isGatherer mlX7_181 dX7_gatherer_1 (n := 4) rfl (st := []) rfl (st2 := [.int (bI x_1)]) rfl rfl ⟨Nat.le_of_ble_eq_true rfl, Nat.le_of_ble_eq_true rfl⟩ (Nat.le_of_ble_eq_true rfl) ?_
  refine g_if_neB X dX7_gatherer_4 (t := 9) (by decide) (n := 7) rfl (fun c_3 => ?_) (fun c_3 => ?_)
  · replace hf := k_pos c_3 hf
    refine g_iload_n X dX7_gatherer_9 2 rfl rfl (n := 10) rfl ?_
    refine g_iconst X dX7_gatherer_10 (v := 0) (by decide) (n := 11) rfl ?_
    refine g_iconst X dX7_gatherer_11 (v := 1) (by decide) (n := 12) rfl ?_
    obtain ⟨x_4, g_5, hf⟩ := k_b1s hf
    refine g_callS0 X (mX7_in (D := D) (l := l)  g_5) lk_X7_in mlX7_58 dX7_gatherer_12 (n := 15) rfl (st := []) rfl (st2 := [.int (bI x_4)]) rfl rfl ⟨Nat.le_of_ble_eq_true rfl, Nat.le_of_ble_eq_true rfl⟩ (Nat.le_of_ble_eq_true rfl) ?_
    refine g_if_neB X dX7_gatherer_15 (t := 21) (by decide) (n := 18) rfl (fun c_6 => ?_) (fun c_6 => ?_)
    · replace hf := k_pos c_6 hf
      refine g_aload_n X dX7_gatherer_21 0 rfl rfl (n := 22) rfl ?_
      refine g_iload_n X dX7_gatherer_22 1 rfl rfl (n := 23) rfl ?_
      obtain ⟨mh_7, g_8, hf⟩ := k_b1s hf
      refine g_callV0 X (mX7_layHis (D := D) (l := l) (a := a) (mp := mp) (mc := mc) (ml := ml) (mq := mq) (ms := ms) (mr := mr) (mi := mi) g_8) lk_X7_layHis mlX7_184 dX7_gatherer_23 (n := 26) rfl (st := []) rfl (st2 := []) rfl rfl rfl rfl (ws2 := pic_X7 D a mp mg mc ml mq mh_7 ms mr mi) (ad_X7 _ _ _ _ _ _ _ _ _ _ _ _ _ _ _ _ _ _ _ _) rfl ⟨Nat.le_of_ble_eq_true rfl, Nat.le_of_ble_eq_true rfl⟩ (Nat.le_of_ble_eq_true rfl) ?_
      refine g_iload_n X dX7_gatherer_26 2 rfl rfl (n := 27) rfl ?_
      refine g_if_ne X dX7_gatherer_27 (t := 37) (by decide) (n := 30) rfl (fun c_9 => ?_) (fun c_9 => ?_)
      · replace hf := k_neg c_9 hf
        refine g_aload_n X dX7_gatherer_37 0 rfl rfl (n := 38) rfl ?_
        refine g_get X dX7_gatherer_38 flX7_178 0 rfl (v := .int mh_7.2) rfl (n := 41) rfl ?_
        obtain rfl := Option.some.inj hf
        exact hret _ _ dX7_gatherer_41
      · replace hf := k_pos c_9 hf
        refine g_aload_n X dX7_gatherer_30 0 rfl rfl (n := 31) rfl ?_
        refine g_get X dX7_gatherer_31 flX7_175 0 rfl (v := .int mh_7.1) rfl (n := 34) rfl ?_
        refine g_goto X dX7_gatherer_34 (n := 41) (by decide) ?_
        obtain rfl := Option.some.inj hf
        exact hret _ _ dX7_gatherer_41
    · replace hf := k_neg c_6 hf
      refine g_bipush X dX7_gatherer_18 (v := (-2)) (by decide) (n := 20) rfl ?_
      obtain rfl := Option.some.inj hf
      exact hret _ _ dX7_gatherer_20
  · replace hf := k_neg c_3 hf
    refine g_iconst X dX7_gatherer_7 (v := (-1)) (by decide) (n := 8) rfl ?_
    obtain rfl := Option.some.inj hf
    exact hret _ _ dX7_gatherer_8
set_option maxRecDepth 100000 in
set_option maxHeartbeats 4000000 in
theorem mX7_gatherer {l : Launch} {D : va_G} {N : Nat} {a : Nat → Nat} {p1 : Int32} {p2 : Int32} {mp : VMp} {mg : VMg} {mc : Nat → Int64} {ml : VMl} {mq : VMq} {mh : VMh} {ms : VMs} {mr : Nat → Int32} {mi : VMi} {res : Int32 × VMh} (hf : fX7_gatherer N mg p1 p2 mh = some res) : k_Met l yX7_gatherer cX7_gatherer 3 (some .int) 2 43 D [.ref (a 0), .int p1, .int p2] (pic_X7 D a mp mg mc ml mq mh ms mr mi) (some (.int res.1)) (pic_X7 D a mp mg mc ml mq res.2 ms mr mi) :=
  k_of_i (by decide) (Nat.le_of_ble_eq_true rfl) (fun E X hret => wX7_gatherer X hret hf)
set_option maxRecDepth 100000 in
set_option maxHeartbeats 4000000 in
theorem wX7_laySeems_b21 {D : va_G} {l : Launch} {E : k_E} {N : Nat} {a : Nat → Nat} {k21 : Int64 → Int32 → VMl → VMh → VMs → Option (VMl × VMh × VMs)} {v2 : Int64} {v4 : Int32} {mp : VMp} {mg : VMg} {mc : Nat → Int64} {ml : VMl} {mq : VMq} {mh : VMh} {ms : VMs} {mr : Nat → Int32} {mi : VMi} {res : VMl × VMh × VMs} (X : k_X D E cX7_laySeems RX7 6 3 66) (hk21 : ∀ (v2 : Int64) (v4 : Int32) (ml : VMl) (mh : VMh) (ms : VMs), k21 v2 v4 ml mh ms = some res → k_G D l E (pic_X7 D a mp mg mc ml mq mh ms mr mi) [(0, .ref (a 0)), (2, .long v2), (4, .int v4)] 21 []) (hret : ∀ (pc : Nat) (lv : List (Nat × Value)), decode cX7_laySeems pc = .ok (.return_, 1) → k_G D l E (pic_X7 D a mp mg mc res.1 mq res.2.1 res.2.2 mr mi) lv pc []) (hf : fX7_laySeems_b21 N mg mc k21 v2 v4 ml mh ms = some res) : k_G D l E (pic_X7 D a mp mg mc ml mq mh ms mr mi) [(0, .ref (a 0)), (2, .long v2), (4, .int v4)] 21 [] := by
  unfold fX7_laySeems_b21 at hf
  refine g_iload X dX7_laySeems_21 2 rfl (n := 23) rfl ?_
  refine g_aload_n X dX7_laySeems_23 0 rfl rfl (n := 24) rfl ?_
  refine g_get X dX7_laySeems_24 flX7_175 0 rfl (v := .int mh.1) rfl (n := 27) rfl ?_
  refine g_icmp_gt X dX7_laySeems_27 (t := 70) (by decide) (n := 30) rfl (fun c_1 => ?_) (fun c_1 => ?_)
  · replace hf := k_pos c_1 hf
    refine g_lload_n X dX7_laySeems_70 1 rfl rfl (n := 71) rfl ?_
    refine g_aload_n X dX7_laySeems_71 0 rfl rfl (n := 72) rfl ?_
    refine g_aload_n X dX7_laySeems_72 0 rfl rfl (n := 73) rfl ?_
    refine g_get X dX7_laySeems_73 flX7_89 0 rfl (v := .int ml.2.1) rfl (n := 76) rfl ?_
    refine g_aload_n X dX7_laySeems_76 0 rfl rfl (n := 77) rfl ?_
    refine g_get X dX7_laySeems_77 flX7_175 0 rfl (v := .int mh.1) rfl (n := 80) rfl ?_
    obtain ⟨x_2, g_3, hf⟩ := k_b1s hf
    refine g_callV0 X (mX7_ways (D := D) (l := l) (a := a) (mp := mp) (mg := mg) (ml := ml) (mq := mq) (mh := mh) (ms := ms) (mr := mr) (mi := mi) g_3) lk_X7_ways mlX7_136 dX7_laySeems_80 (n := 83) rfl (st := [.long v2]) rfl (st2 := [.long x_2, .long v2]) rfl rfl rfl rfl (ws2 := pic_X7 D a mp mg mc ml mq mh ms mr mi) (ad_X7 _ _ _ _ _ _ _ _ _ _ _ _ _ _ _ _ _ _ _ _) rfl ⟨Nat.le_of_ble_eq_true rfl, Nat.le_of_ble_eq_true rfl⟩ (Nat.le_of_ble_eq_true rfl) ?_
    obtain ⟨x_4, g_5, hf⟩ := k_b1s hf
    refine g_callS0 X (mX7_common (D := D) (l := l)  g_5) lk_X7_common mlX7_62 dX7_laySeems_83 (n := 86) rfl (st := []) rfl (st2 := [.long x_4]) rfl rfl ⟨Nat.le_of_ble_eq_true rfl, Nat.le_of_ble_eq_true rfl⟩ (Nat.le_of_ble_eq_true rfl) ?_
    refine g_lstore X dX7_laySeems_86 (by decide) (lv2 := [(4, .long x_4), (0, .ref (a 0)), (2, .long v2)]) rfl (n := 88) rfl ?_
    refine g_aload_n X dX7_laySeems_88 1 rfl rfl (n := 89) rfl ?_
    refine g_lload_n X dX7_laySeems_89 2 rfl rfl (n := 90) rfl ?_
    refine g_lload X dX7_laySeems_90 0 rfl (n := 92) rfl ?_
    obtain ⟨h_6, hf⟩ := k_guardN hf
    refine g_ldiv X dX7_laySeems_92 h_6 (n := 93) rfl ?_
    refine g_put X dX7_laySeems_93 flX7_187 0 rfl rfl rfl (Nat.le_of_ble_eq_true rfl) (ws2 := pic_X7 D a mp mg mc ml mq mh ((v2 / x_4), ms.2) mr mi) rfl (n := 96) rfl ?_
    refine g_aload_n X dX7_laySeems_96 1 rfl rfl (n := 97) rfl ?_
    refine g_aload_n X dX7_laySeems_97 1 rfl rfl (n := 98) rfl ?_
    refine g_aload_n X dX7_laySeems_98 1 rfl rfl (n := 99) rfl ?_
    refine g_get X dX7_laySeems_99 flX7_89 0 rfl (v := .int ml.2.1) rfl (n := 102) rfl ?_
    refine g_aload_n X dX7_laySeems_102 1 rfl rfl (n := 103) rfl ?_
    refine g_get X dX7_laySeems_103 flX7_175 0 rfl (v := .int mh.1) rfl (n := 106) rfl ?_
    obtain ⟨x_7, g_8, hf⟩ := k_b1s hf
    refine g_callV0 X (mX7_ways (D := D) (l := l) (a := a) (mp := mp) (mg := mg) (ml := ml) (mq := mq) (mh := mh) (ms := ((v2 / x_4), ms.2)) (mr := mr) (mi := mi) g_8) lk_X7_ways mlX7_136 dX7_laySeems_106 (n := 109) rfl (st := [.ref (a 0)]) rfl (st2 := [.long x_7, .ref (a 0)]) rfl rfl rfl rfl (ws2 := pic_X7 D a mp mg mc ml mq mh ((v2 / x_4), ms.2) mr mi) (ad_X7 _ _ _ _ _ _ _ _ _ _ _ _ _ _ _ _ _ _ _ _) rfl ⟨Nat.le_of_ble_eq_true rfl, Nat.le_of_ble_eq_true rfl⟩ (Nat.le_of_ble_eq_true rfl) ?_
    refine g_lload X dX7_laySeems_109 0 rfl (n := 111) rfl ?_
    obtain ⟨h_9, hf⟩ := k_guardN hf
    refine g_ldiv X dX7_laySeems_111 h_9 (n := 112) rfl ?_
    refine g_put X dX7_laySeems_112 flX7_190 0 rfl rfl rfl (Nat.le_of_ble_eq_true rfl) (ws2 := pic_X7 D a mp mg mc ml mq mh ((v2 / x_4), (x_7 / x_4)) mr mi) rfl (n := 115) rfl ?_
    obtain rfl := Option.some.inj hf
    exact hret _ _ dX7_laySeems_115
  · replace hf := k_neg c_1 hf
    refine g_lload_n X dX7_laySeems_30 1 rfl rfl (n := 31) rfl ?_
    refine g_aload_n X dX7_laySeems_31 0 rfl rfl (n := 32) rfl ?_
    refine g_aload_n X dX7_laySeems_32 0 rfl rfl (n := 33) rfl ?_
    refine g_get X dX7_laySeems_33 flX7_92 0 rfl (v := .int ml.2.2.1) rfl (n := 36) rfl ?_
    refine g_iload X dX7_laySeems_36 2 rfl (n := 38) rfl ?_
    obtain ⟨x_10, g_11, hf⟩ := k_b1s hf
    refine g_callV0 X (mX7_ways (D := D) (l := l) (a := a) (mp := mp) (mg := mg) (ml := ml) (mq := mq) (mh := mh) (ms := ms) (mr := mr) (mi := mi) g_11) lk_X7_ways mlX7_136 dX7_laySeems_38 (n := 41) rfl (st := [.long v2]) rfl (st2 := [.long x_10, .long v2]) rfl rfl rfl rfl (ws2 := pic_X7 D a mp mg mc ml mq mh ms mr mi) (ad_X7 _ _ _ _ _ _ _ _ _ _ _ _ _ _ _ _ _ _ _ _) rfl ⟨Nat.le_of_ble_eq_true rfl, Nat.le_of_ble_eq_true rfl⟩ (Nat.le_of_ble_eq_true rfl) ?_
    refine g_aload_n X dX7_laySeems_41 0 rfl rfl (n := 42) rfl ?_
    refine g_aload_n X dX7_laySeems_42 0 rfl rfl (n := 43) rfl ?_
    refine g_get X dX7_laySeems_43 flX7_89 0 rfl (v := .int ml.2.1) rfl (n := 46) rfl ?_
    refine g_aload_n X dX7_laySeems_46 0 rfl rfl (n := 47) rfl ?_
    refine g_get X dX7_laySeems_47 flX7_92 0 rfl (v := .int ml.2.2.1) rfl (n := 50) rfl ?_
    refine g_isub X dX7_laySeems_50 (n := 51) rfl ?_
    refine g_aload_n X dX7_laySeems_51 0 rfl rfl (n := 52) rfl ?_
    refine g_get X dX7_laySeems_52 flX7_175 0 rfl (v := .int mh.1) rfl (n := 55) rfl ?_
    refine g_iload X dX7_laySeems_55 2 rfl (n := 57) rfl ?_
    refine g_isub X dX7_laySeems_57 (n := 58) rfl ?_
    obtain ⟨x_12, g_13, hf⟩ := k_b1s hf
    refine g_callV0 X (mX7_ways (D := D) (l := l) (a := a) (mp := mp) (mg := mg) (ml := ml) (mq := mq) (mh := mh) (ms := ms) (mr := mr) (mi := mi) g_13) lk_X7_ways mlX7_136 dX7_laySeems_58 (n := 61) rfl (st := [.long x_10, .long v2]) rfl (st2 := [.long x_12, .long x_10, .long v2]) rfl rfl rfl rfl (ws2 := pic_X7 D a mp mg mc ml mq mh ms mr mi) (ad_X7 _ _ _ _ _ _ _ _ _ _ _ _ _ _ _ _ _ _ _ _) rfl ⟨Nat.le_of_ble_eq_true rfl, Nat.le_of_ble_eq_true rfl⟩ (Nat.le_of_ble_eq_true rfl) ?_
    refine g_lmul X dX7_laySeems_61 (n := 62) rfl ?_
    refine g_ladd X dX7_laySeems_62 (n := 63) rfl ?_
    refine g_lstore_n X dX7_laySeems_63 rfl (by decide) (lv2 := [(2, .long (v2 + (x_10 * x_12))), (0, .ref (a 0)), (4, .int v4)]) rfl (n := 64) rfl ?_
    refine g_iinc X dX7_laySeems_64 2 rfl (v := v4 + 1) rfl (by decide) (lv2 := [(4, .int (v4 + 1)), (2, .long (v2 + (x_10 * x_12))), (0, .ref (a 0))]) rfl (n := 67) rfl ?_
    refine g_goto X dX7_laySeems_67 (n := 21) (by decide) ?_
    refine g_sub [2, 1, 0] (lv' := [(0, .ref (a 0)), (2, .long (v2 + (x_10 * x_12))), (4, .int (v4 + 1))]) rfl ?_
    exact hk21 _ _ _ _ _ hf
set_option maxRecDepth 100000 in
set_option maxHeartbeats 4000000 in
theorem wX7_laySeems_l21 {D : va_G} {l : Launch} {E : k_E} {N : Nat} {a : Nat → Nat} {mp : VMp} {mg : VMg} {mc : Nat → Int64} {mq : VMq} {mr : Nat → Int32} {mi : VMi} {res : VMl × VMh × VMs} (X : k_X D E cX7_laySeems RX7 6 3 66) (hret : ∀ (pc : Nat) (lv : List (Nat × Value)), decode cX7_laySeems pc = .ok (.return_, 1) → k_G D l E (pic_X7 D a mp mg mc res.1 mq res.2.1 res.2.2 mr mi) lv pc []) : ∀ (n0 : Nat) (v2 : Int64) (v4 : Int32) (ml : VMl) (mh : VMh) (ms : VMs), fX7_laySeems_l21 N mg mc n0 v2 v4 ml mh ms = some res → k_G D l E (pic_X7 D a mp mg mc ml mq mh ms mr mi) [(0, .ref (a 0)), (2, .long v2), (4, .int v4)] 21 [] := by
  intro n0
  induction n0 with
  | zero => intro v2 v4 ml mh ms hf; cases hf
  | succ n0 ih => intro v2 v4 ml mh ms hf; exact wX7_laySeems_b21 (N := N) (k21 := fX7_laySeems_l21 N mg mc n0) X  ih hret hf
set_option maxRecDepth 100000 in
set_option maxHeartbeats 4000000 in
theorem wX7_laySeems {D : va_G} {l : Launch} {E : k_E} {N : Nat} {a : Nat → Nat} {p1 : Int32} {mp : VMp} {mg : VMg} {mc : Nat → Int64} {ml : VMl} {mq : VMq} {mh : VMh} {ms : VMs} {mr : Nat → Int32} {mi : VMi} {res : VMl × VMh × VMs} (X : k_X D E cX7_laySeems RX7 6 3 66) (hret : ∀ (pc : Nat) (lv : List (Nat × Value)), decode cX7_laySeems pc = .ok (.return_, 1) → k_G D l E (pic_X7 D a mp mg mc res.1 mq res.2.1 res.2.2 mr mi) lv pc []) (hf : fX7_laySeems N mg mc p1 ml mh ms = some res) : k_G D l E (pic_X7 D a mp mg mc ml mq mh ms mr mi) [(0, .ref (a 0)), (1, .int p1)] 0 [] := by
  unfold fX7_laySeems at hf
  refine g_aload_n X dX7_laySeems_0 0 rfl rfl (n := 1) rfl ?_
  refine g_aload_n X dX7_laySeems_1 0 rfl rfl (n := 2) rfl ?_
  obtain ⟨x_1, g_2, hf⟩ := k_b1s hf
  refine g_callV0 X (mX7_valid (D := D) (l := l) (a := a) (mp := mp) (mc := mc) (ml := ml) (mq := mq) (mh := mh) (ms := ms) (mr := mr) (mi := mi) g_2) lk_X7_valid mlX7_108 dX7_laySeems_2 (n := 5) rfl (st := [.ref (a 0)]) rfl (st2 := [.int x_1, .ref (a 0)]) rfl rfl rfl rfl (ws2 := pic_X7 D a mp mg mc ml mq mh ms mr mi) (ad_X7 _ _ _ _ _ _ _ _ _ _ _ _ _ _ _ _ _ _ _ _) rfl ⟨Nat.le_of_ble_eq_true rfl, Nat.le_of_ble_eq_true rfl⟩ (Nat.le_of_ble_eq_true rfl) ?_
  obtain ⟨ml_3, g_4, hf⟩ := k_b1s hf
  refine g_callV0 X (mX7_layList (D := D) (l := l) (a := a) (mp := mp) (mc := mc) (mq := mq) (mh := mh) (ms := ms) (mr := mr) (mi := mi) g_4) lk_X7_layList mlX7_111 dX7_laySeems_5 (n := 8) rfl (st := []) rfl (st2 := []) rfl rfl rfl rfl (ws2 := pic_X7 D a mp mg mc ml_3 mq mh ms mr mi) (ad_X7 _ _ _ _ _ _ _ _ _ _ _ _ _ _ _ _ _ _ _ _) rfl ⟨Nat.le_of_ble_eq_true rfl, Nat.le_of_ble_eq_true rfl⟩ (Nat.le_of_ble_eq_true rfl) ?_
  refine g_aload_n X dX7_laySeems_8 0 rfl rfl (n := 9) rfl ?_
  refine g_iload_n X dX7_laySeems_9 1 rfl rfl (n := 10) rfl ?_
  obtain ⟨mh_5, g_6, hf⟩ := k_b1s hf
  refine g_callV0 X (mX7_layHis (D := D) (l := l) (a := a) (mp := mp) (mc := mc) (ml := ml_3) (mq := mq) (ms := ms) (mr := mr) (mi := mi) g_6) lk_X7_layHis mlX7_184 dX7_laySeems_10 (n := 13) rfl (st := []) rfl (st2 := []) rfl rfl rfl rfl (ws2 := pic_X7 D a mp mg mc ml_3 mq mh_5 ms mr mi) (ad_X7 _ _ _ _ _ _ _ _ _ _ _ _ _ _ _ _ _ _ _ _) rfl ⟨Nat.le_of_ble_eq_true rfl, Nat.le_of_ble_eq_true rfl⟩ (Nat.le_of_ble_eq_true rfl) ?_
  refine g_lconst X dX7_laySeems_13 (v := 0) rfl (n := 14) rfl ?_
  refine g_lstore_n X dX7_laySeems_14 rfl (by decide) (lv2 := [(2, .long (0 : Int64)), (0, .ref (a 0)), (1, .int p1)]) rfl (n := 15) rfl ?_
  refine g_aload_n X dX7_laySeems_15 1 rfl rfl (n := 16) rfl ?_
  refine g_get X dX7_laySeems_16 flX7_178 0 rfl (v := .int mh_5.2) rfl (n := 19) rfl ?_
  refine g_istore X dX7_laySeems_19 (by decide) (lv2 := [(4, .int mh_5.2), (2, .long (0 : Int64)), (0, .ref (a 0)), (1, .int p1)]) rfl (n := 21) rfl ?_
  refine g_sub [2, 1, 0] (lv' := [(0, .ref (a 0)), (2, .long (0 : Int64)), (4, .int mh_5.2)]) rfl ?_
  exact wX7_laySeems_l21 X  hret _ _ _ _ _ _ hf
set_option maxRecDepth 100000 in
set_option maxHeartbeats 4000000 in
theorem mX7_laySeems {l : Launch} {D : va_G} {N : Nat} {a : Nat → Nat} {p1 : Int32} {mp : VMp} {mg : VMg} {mc : Nat → Int64} {ml : VMl} {mq : VMq} {mh : VMh} {ms : VMs} {mr : Nat → Int32} {mi : VMi} {res : VMl × VMh × VMs} (hf : fX7_laySeems N mg mc p1 ml mh ms = some res) : k_Met l yX7_laySeems cX7_laySeems 6 none 3 66 D [.ref (a 0), .int p1] (pic_X7 D a mp mg mc ml mq mh ms mr mi) none (pic_X7 D a mp mg mc res.1 mq res.2.1 res.2.2 mr mi) :=
  k_of_v (by decide) (Nat.le_of_ble_eq_true rfl) (fun E X hret => wX7_laySeems X hret hf)
set_option maxRecDepth 100000 in
set_option maxHeartbeats 4000000 in
theorem wX7_seems {D : va_G} {l : Launch} {E : k_E} {N : Nat} {a : Nat → Nat} {p1 : Int32} {p2 : Int32} {mp : VMp} {mg : VMg} {mc : Nat → Int64} {ml : VMl} {mq : VMq} {mh : VMh} {ms : VMs} {mr : Nat → Int32} {mi : VMi} {res : Int64 × VMl × VMh × VMs} (X : k_X D E cX7_seems RX7 3 4 91) (hret : ∀ (pc : Nat) (lv : List (Nat × Value)), decode cX7_seems pc = .ok (.lreturn, 1) → k_G D l E (pic_X7 D a mp mg mc res.2.1 mq res.2.2.1 res.2.2.2 mr mi) lv pc [.long res.1]) (hf : fX7_seems N mg mc p1 p2 ml mh ms = some res) : k_G D l E (pic_X7 D a mp mg mc ml mq mh ms mr mi) [(0, .ref (a 0)), (1, .int p1), (2, .int p2)] 0 [] := by
  unfold fX7_seems at hf
  refine g_iload_n X dX7_seems_0 1 rfl rfl (n := 1) rfl ?_
  obtain ⟨x_1, g_2, hf⟩ := k_b1s hf
  refine g_callS0 X (mX7_isGatherer (D := D) (l := l)  g_2) lk_X7_isGatherer mlX7_181 dX7_seems_1 (n := 4) rfl (st := []) rfl (st2 := [.int (bI x_1)]) rfl rfl ⟨Nat.le_of_ble_eq_true rfl, Nat.le_of_ble_eq_true rfl⟩ (Nat.le_of_ble_eq_true rfl) ?_
  refine g_if_neB X dX7_seems_4 (t := 11) (by decide) (n := 7) rfl (fun c_3 => ?_) (fun c_3 => ?_)
  · replace hf := k_pos c_3 hf
    refine g_iload_n X dX7_seems_11 2 rfl rfl (n := 12) rfl ?_
    obtain ⟨x_4, g_5, hf⟩ := k_b1s hf
    refine g_callS0 X (mX7_isPart (D := D) (l := l)  g_5) lk_X7_isPart mlX7_129 dX7_seems_12 (n := 15) rfl (st := []) rfl (st2 := [.int (bI x_4)]) rfl rfl ⟨Nat.le_of_ble_eq_true rfl, Nat.le_of_ble_eq_true rfl⟩ (Nat.le_of_ble_eq_true rfl) ?_
    refine g_if_neB X dX7_seems_15 (t := 22) (by decide) (n := 18) rfl (fun c_6 => ?_) (fun c_6 => ?_)
    · replace hf := k_pos c_6 hf
      refine g_aload_n X dX7_seems_22 0 rfl rfl (n := 23) rfl ?_
      refine g_iload_n X dX7_seems_23 1 rfl rfl (n := 24) rfl ?_
      obtain ⟨ml_7, mh_8, ms_9, g_10, hf⟩ := k_b3s hf
      refine g_callV0 X (mX7_laySeems (D := D) (l := l) (a := a) (mp := mp) (mq := mq) (mr := mr) (mi := mi) g_10) lk_X7_laySeems mlX7_195 dX7_seems_24 (n := 27) rfl (st := []) rfl (st2 := []) rfl rfl rfl rfl (ws2 := pic_X7 D a mp mg mc ml_7 mq mh_8 ms_9 mr mi) (ad_X7 _ _ _ _ _ _ _ _ _ _ _ _ _ _ _ _ _ _ _ _) rfl ⟨Nat.le_of_ble_eq_true rfl, Nat.le_of_ble_eq_true rfl⟩ (Nat.le_of_ble_eq_true rfl) ?_
      refine g_iload_n X dX7_seems_27 2 rfl rfl (n := 28) rfl ?_
      refine g_if_ne X dX7_seems_28 (t := 38) (by decide) (n := 31) rfl (fun c_11 => ?_) (fun c_11 => ?_)
      · replace hf := k_neg c_11 hf
        refine g_aload_n X dX7_seems_38 0 rfl rfl (n := 39) rfl ?_
        refine g_get X dX7_seems_39 flX7_190 0 rfl (v := .long ms_9.2) rfl (n := 42) rfl ?_
        obtain rfl := Option.some.inj hf
        exact hret _ _ dX7_seems_42
      · replace hf := k_pos c_11 hf
        refine g_aload_n X dX7_seems_31 0 rfl rfl (n := 32) rfl ?_
        refine g_get X dX7_seems_32 flX7_187 0 rfl (v := .long ms_9.1) rfl (n := 35) rfl ?_
        refine g_goto X dX7_seems_35 (n := 42) (by decide) ?_
        obtain rfl := Option.some.inj hf
        exact hret _ _ dX7_seems_42
    · replace hf := k_neg c_6 hf
      refine g_ldc2 X dX7_seems_18 kcX7_132 (n := 21) rfl ?_
      obtain rfl := Option.some.inj hf
      exact hret _ _ dX7_seems_21
  · replace hf := k_neg c_3 hf
    refine g_ldc2 X dX7_seems_7 kcX7_193 (n := 10) rfl ?_
    obtain rfl := Option.some.inj hf
    exact hret _ _ dX7_seems_10
set_option maxRecDepth 100000 in
set_option maxHeartbeats 4000000 in
theorem mX7_seems {l : Launch} {D : va_G} {N : Nat} {a : Nat → Nat} {p1 : Int32} {p2 : Int32} {mp : VMp} {mg : VMg} {mc : Nat → Int64} {ml : VMl} {mq : VMq} {mh : VMh} {ms : VMs} {mr : Nat → Int32} {mi : VMi} {res : Int64 × VMl × VMh × VMs} (hf : fX7_seems N mg mc p1 p2 ml mh ms = some res) : k_Met l yX7_seems cX7_seems 3 (some .long) 4 91 D [.ref (a 0), .int p1, .int p2] (pic_X7 D a mp mg mc ml mq mh ms mr mi) (some (.long res.1)) (pic_X7 D a mp mg mc res.2.1 mq res.2.2.1 res.2.2.2 mr mi) :=
  k_of_l (by decide) (Nat.le_of_ble_eq_true rfl) (fun E X hret => wX7_seems X hret hf)
set_option maxRecDepth 100000 in
set_option maxHeartbeats 4000000 in
theorem wX7_isLess_b111 {D : va_G} {l : Launch} {E : k_E} {N : Nat} {v16 : Bool} {s0 : Bool} {res : Bool} (X : k_X D E cX7_isLess RX7 23 0 0) (hret : ∀ (pc : Nat) (lv : List (Nat × Value)), decode cX7_isLess pc = .ok (.ireturn, 1) → k_G D l E ([]) lv pc [.int (bI res)]) (hf : fX7_isLess_b111 N v16 s0 = some res) : k_G D l E ([]) [(16, .int (bI v16))] 111 [.int (bI s0)] := by
  unfold fX7_isLess_b111 at hf
  refine g_iload X dX7_isLess_111 0 rfl (n := 113) rfl ?_
  refine g_icmp_ne X dX7_isLess_113 (t := 120) (by decide) (n := 116) rfl (fun c_1 => ?_) (fun c_1 => ?_)
  · replace hf := k_neg c_1 hf
    refine g_iconst X dX7_isLess_120 (v := 0) (by decide) (n := 121) rfl ?_
    obtain rfl := Option.some.inj hf
    exact hret _ _ dX7_isLess_121
  · replace hf := k_pos c_1 hf
    refine g_iconst X dX7_isLess_116 (v := 1) (by decide) (n := 117) rfl ?_
    refine g_goto X dX7_isLess_117 (n := 121) (by decide) ?_
    obtain rfl := Option.some.inj hf
    exact hret _ _ dX7_isLess_121
set_option maxRecDepth 100000 in
set_option maxHeartbeats 4000000 in
theorem wX7_isLess_b91 {D : va_G} {l : Launch} {E : k_E} {N : Nat} {v8 : Int64} {v12 : Int64} {v16 : Bool} {res : Bool} (X : k_X D E cX7_isLess RX7 23 0 0) (hret : ∀ (pc : Nat) (lv : List (Nat × Value)), decode cX7_isLess pc = .ok (.ireturn, 1) → k_G D l E ([]) lv pc [.int (bI res)]) (hf : fX7_isLess_b91 N v8 v12 v16 = some res) : k_G D l E ([]) [(8, .long v8), (12, .long v12), (16, .int (bI v16))] 91 [] := by
  unfold fX7_isLess_b91 at hf
  refine g_lload X dX7_isLess_91 0 rfl (n := 93) rfl ?_
  refine g_lload X dX7_isLess_93 1 rfl (n := 95) rfl ?_
  refine g_lcmp_eq X dX7_isLess_95 dX7_isLess_96 (t := 120) (by decide) (n := 99) rfl (fun c_1 => ?_) (fun c_1 => ?_)
  · replace hf := k_pos c_1 hf
    refine g_iconst X dX7_isLess_120 (v := 0) (by decide) (n := 121) rfl ?_
    obtain rfl := Option.some.inj hf
    exact hret _ _ dX7_isLess_121
  · replace hf := k_neg c_1 hf
    refine g_lload X dX7_isLess_99 0 rfl (n := 101) rfl ?_
    refine g_lconst X dX7_isLess_101 (v := 0) rfl (n := 102) rfl ?_
    refine g_lcmp_ne X dX7_isLess_102 dX7_isLess_103 (t := 110) (by decide) (n := 106) rfl (fun c_2 => ?_) (fun c_2 => ?_)
    · replace hf := k_neg c_2 hf
      refine g_iconst X dX7_isLess_110 (v := 0) (by decide) (n := 111) rfl ?_
      refine g_sub [2] (lv' := [(16, .int (bI v16))]) rfl ?_
      exact wX7_isLess_b111 X  hret hf
    · replace hf := k_pos c_2 hf
      refine g_iconst X dX7_isLess_106 (v := 1) (by decide) (n := 107) rfl ?_
      refine g_goto X dX7_isLess_107 (n := 111) (by decide) ?_
      refine g_sub [2] (lv' := [(16, .int (bI v16))]) rfl ?_
      exact wX7_isLess_b111 X  hret hf
set_option maxRecDepth 100000 in
set_option maxHeartbeats 4000000 in
theorem wX7_isLess_b156 {D : va_G} {l : Launch} {E : k_E} {N : Nat} {k17 : Int64 → Int64 → Int64 → Int64 → Bool → Option (Bool)} {v8 : Int64} {v10 : Int64} {v12 : Int64} {v14 : Int64} {s0 : Bool} {res : Bool} (X : k_X D E cX7_isLess RX7 23 0 0) (hk17 : ∀ (v8 : Int64) (v10 : Int64) (v12 : Int64) (v14 : Int64) (v16 : Bool) , k17 v8 v10 v12 v14 v16 = some res → k_G D l E ([]) [(8, .long v8), (10, .long v10), (12, .long v12), (14, .long v14), (16, .int (bI v16))] 17 []) (hret : ∀ (pc : Nat) (lv : List (Nat × Value)), decode cX7_isLess pc = .ok (.ireturn, 1) → k_G D l E ([]) lv pc [.int (bI res)]) (hf : fX7_isLess_b156 N k17 v8 v10 v12 v14 s0 = some res) : k_G D l E ([]) [(8, .long v8), (10, .long v10), (12, .long v12), (14, .long v14)] 156 [.int (bI s0)] := by
  unfold fX7_isLess_b156 at hf
  refine g_istore X dX7_isLess_156 (by decide) (lv2 := [(16, .int (bI s0)), (8, .long v8), (10, .long v10), (12, .long v12), (14, .long v14)]) rfl (n := 158) rfl ?_
  refine g_goto X dX7_isLess_158 (n := 17) (by decide) ?_
  refine g_sub [1, 2, 3, 4, 0] (lv' := [(8, .long v8), (10, .long v10), (12, .long v12), (14, .long v14), (16, .int (bI s0))]) rfl ?_
  exact hk17 _ _ _ _ _ hf
set_option maxRecDepth 100000 in
set_option maxHeartbeats 4000000 in
theorem wX7_isLess_b52 {D : va_G} {l : Launch} {E : k_E} {N : Nat} {v16 : Bool} {s0 : Bool} {res : Bool} (X : k_X D E cX7_isLess RX7 23 0 0) (hret : ∀ (pc : Nat) (lv : List (Nat × Value)), decode cX7_isLess pc = .ok (.ireturn, 1) → k_G D l E ([]) lv pc [.int (bI res)]) (hf : fX7_isLess_b52 N v16 s0 = some res) : k_G D l E ([]) [(16, .int (bI v16))] 52 [.int (bI s0)] := by
  unfold fX7_isLess_b52 at hf
  refine g_iload X dX7_isLess_52 0 rfl (n := 54) rfl ?_
  refine g_icmp_ne X dX7_isLess_54 (t := 61) (by decide) (n := 57) rfl (fun c_1 => ?_) (fun c_1 => ?_)
  · replace hf := k_neg c_1 hf
    refine g_iconst X dX7_isLess_61 (v := 0) (by decide) (n := 62) rfl ?_
    obtain rfl := Option.some.inj hf
    exact hret _ _ dX7_isLess_62
  · replace hf := k_pos c_1 hf
    refine g_iconst X dX7_isLess_57 (v := 1) (by decide) (n := 58) rfl ?_
    refine g_goto X dX7_isLess_58 (n := 62) (by decide) ?_
    obtain rfl := Option.some.inj hf
    exact hret _ _ dX7_isLess_62
set_option maxRecDepth 100000 in
set_option maxHeartbeats 4000000 in
theorem wX7_isLess_b17 {D : va_G} {l : Launch} {E : k_E} {N : Nat} {k17 : Int64 → Int64 → Int64 → Int64 → Bool → Option (Bool)} {v8 : Int64} {v10 : Int64} {v12 : Int64} {v14 : Int64} {v16 : Bool} {res : Bool} (X : k_X D E cX7_isLess RX7 23 0 0) (hk17 : ∀ (v8 : Int64) (v10 : Int64) (v12 : Int64) (v14 : Int64) (v16 : Bool) , k17 v8 v10 v12 v14 v16 = some res → k_G D l E ([]) [(8, .long v8), (10, .long v10), (12, .long v12), (14, .long v14), (16, .int (bI v16))] 17 []) (hret : ∀ (pc : Nat) (lv : List (Nat × Value)), decode cX7_isLess pc = .ok (.ireturn, 1) → k_G D l E ([]) lv pc [.int (bI res)]) (hf : fX7_isLess_b17 N k17 v8 v10 v12 v14 v16 = some res) : k_G D l E ([]) [(8, .long v8), (10, .long v10), (12, .long v12), (14, .long v14), (16, .int (bI v16))] 17 [] := by
  unfold fX7_isLess_b17 at hf
  refine g_lload X dX7_isLess_17 0 rfl (n := 19) rfl ?_
  refine g_lload X dX7_isLess_19 1 rfl (n := 21) rfl ?_
  obtain ⟨h_1, hf⟩ := k_guardN hf
  refine g_ldiv X dX7_isLess_21 h_1 (n := 22) rfl ?_
  refine g_lstore X dX7_isLess_22 (by decide) (lv2 := [(17, .long (v8 / v10)), (8, .long v8), (10, .long v10), (12, .long v12), (14, .long v14), (16, .int (bI v16))]) rfl (n := 24) rfl ?_
  refine g_lload X dX7_isLess_24 3 rfl (n := 26) rfl ?_
  refine g_lload X dX7_isLess_26 4 rfl (n := 28) rfl ?_
  obtain ⟨h_2, hf⟩ := k_guardN hf
  refine g_ldiv X dX7_isLess_28 h_2 (n := 29) rfl ?_
  refine g_lstore X dX7_isLess_29 (by decide) (lv2 := [(19, .long (v12 / v14)), (17, .long (v8 / v10)), (8, .long v8), (10, .long v10), (12, .long v12), (14, .long v14), (16, .int (bI v16))]) rfl (n := 31) rfl ?_
  refine g_lload X dX7_isLess_31 1 rfl (n := 33) rfl ?_
  refine g_lload X dX7_isLess_33 0 rfl (n := 35) rfl ?_
  refine g_lcmp_eq X dX7_isLess_35 dX7_isLess_36 (t := 63) (by decide) (n := 39) rfl (fun c_3 => ?_) (fun c_3 => ?_)
  · replace hf := k_pos c_3 hf
    refine g_lload X dX7_isLess_63 2 rfl (n := 65) rfl ?_
    refine g_lload X dX7_isLess_65 3 rfl (n := 67) rfl ?_
    obtain ⟨h_4, hf⟩ := k_guardN hf
    refine g_lrem X dX7_isLess_67 h_4 (n := 68) rfl ?_
    refine g_lstore X dX7_isLess_68 (by decide) (lv2 := [(8, .long (v8 - v8 / v10 * v10)), (19, .long (v12 / v14)), (17, .long (v8 / v10)), (10, .long v10), (12, .long v12), (14, .long v14), (16, .int (bI v16))]) rfl (n := 70) rfl ?_
    refine g_lload X dX7_isLess_70 4 rfl (n := 72) rfl ?_
    refine g_lload X dX7_isLess_72 5 rfl (n := 74) rfl ?_
    obtain ⟨h_5, hf⟩ := k_guardN hf
    refine g_lrem X dX7_isLess_74 h_5 (n := 75) rfl ?_
    refine g_lstore X dX7_isLess_75 (by decide) (lv2 := [(12, .long (v12 - v12 / v14 * v14)), (8, .long (v8 - v8 / v10 * v10)), (19, .long (v12 / v14)), (17, .long (v8 / v10)), (10, .long v10), (14, .long v14), (16, .int (bI v16))]) rfl (n := 77) rfl ?_
    refine g_lload X dX7_isLess_77 1 rfl (n := 79) rfl ?_
    refine g_lconst X dX7_isLess_79 (v := 0) rfl (n := 80) rfl ?_
    refine g_lcmp_eq X dX7_isLess_80 dX7_isLess_81 (t := 91) (by decide) (n := 84) rfl (fun c_6 => ?_) (fun c_6 => ?_)
    · replace hf := k_pos c_6 hf
      refine g_sub [1, 0, 6] (lv' := [(8, .long (v8 - v8 / v10 * v10)), (12, .long (v12 - v12 / v14 * v14)), (16, .int (bI v16))]) rfl ?_
      exact wX7_isLess_b91 X  hret hf
    · replace hf := k_neg c_6 hf
      refine g_lload X dX7_isLess_84 0 rfl (n := 86) rfl ?_
      refine g_lconst X dX7_isLess_86 (v := 0) rfl (n := 87) rfl ?_
      refine g_lcmp_ne X dX7_isLess_87 dX7_isLess_88 (t := 122) (by decide) (n := 91) rfl (fun c_7 => ?_) (fun c_7 => ?_)
      · replace hf := k_neg c_7 hf
        refine g_lload X dX7_isLess_122 1 rfl (n := 124) rfl ?_
        refine g_lstore X dX7_isLess_124 (by decide) (lv2 := [(21, .long (v8 - v8 / v10 * v10)), (12, .long (v12 - v12 / v14 * v14)), (8, .long (v8 - v8 / v10 * v10)), (19, .long (v12 / v14)), (17, .long (v8 / v10)), (10, .long v10), (14, .long v14), (16, .int (bI v16))]) rfl (n := 126) rfl ?_
        refine g_lload X dX7_isLess_126 5 rfl (n := 128) rfl ?_
        refine g_lstore X dX7_isLess_128 (by decide) (lv2 := [(8, .long v10), (21, .long (v8 - v8 / v10 * v10)), (12, .long (v12 - v12 / v14 * v14)), (19, .long (v12 / v14)), (17, .long (v8 / v10)), (10, .long v10), (14, .long v14), (16, .int (bI v16))]) rfl (n := 130) rfl ?_
        refine g_lload X dX7_isLess_130 1 rfl (n := 132) rfl ?_
        refine g_lstore X dX7_isLess_132 (by decide) (lv2 := [(10, .long (v8 - v8 / v10 * v10)), (8, .long v10), (21, .long (v8 - v8 / v10 * v10)), (12, .long (v12 - v12 / v14 * v14)), (19, .long (v12 / v14)), (17, .long (v8 / v10)), (14, .long v14), (16, .int (bI v16))]) rfl (n := 134) rfl ?_
        refine g_lload X dX7_isLess_134 3 rfl (n := 136) rfl ?_
        refine g_lstore X dX7_isLess_136 (by decide) (lv2 := [(21, .long (v12 - v12 / v14 * v14)), (10, .long (v8 - v8 / v10 * v10)), (8, .long v10), (12, .long (v12 - v12 / v14 * v14)), (19, .long (v12 / v14)), (17, .long (v8 / v10)), (14, .long v14), (16, .int (bI v16))]) rfl (n := 138) rfl ?_
        refine g_lload X dX7_isLess_138 6 rfl (n := 140) rfl ?_
        refine g_lstore X dX7_isLess_140 (by decide) (lv2 := [(12, .long v14), (21, .long (v12 - v12 / v14 * v14)), (10, .long (v8 - v8 / v10 * v10)), (8, .long v10), (19, .long (v12 / v14)), (17, .long (v8 / v10)), (14, .long v14), (16, .int (bI v16))]) rfl (n := 142) rfl ?_
        refine g_lload X dX7_isLess_142 1 rfl (n := 144) rfl ?_
        refine g_lstore X dX7_isLess_144 (by decide) (lv2 := [(14, .long (v12 - v12 / v14 * v14)), (12, .long v14), (21, .long (v12 - v12 / v14 * v14)), (10, .long (v8 - v8 / v10 * v10)), (8, .long v10), (19, .long (v12 / v14)), (17, .long (v8 / v10)), (16, .int (bI v16))]) rfl (n := 146) rfl ?_
        refine g_iload X dX7_isLess_146 7 rfl (n := 148) rfl ?_
        refine g_if_neB X dX7_isLess_148 (t := 155) (by decide) (n := 151) rfl (fun c_8 => ?_) (fun c_8 => ?_)
        · replace hf := k_pos c_8 hf
          refine g_iconst X dX7_isLess_155 (v := 0) (by decide) (n := 156) rfl ?_
          refine g_sub [4, 3, 1, 0] (lv' := [(8, .long v10), (10, .long (v8 - v8 / v10 * v10)), (12, .long v14), (14, .long (v12 - v12 / v14 * v14))]) rfl ?_
          exact wX7_isLess_b156 X hk17 hret hf
        · replace hf := k_neg c_8 hf
          refine g_iconst X dX7_isLess_151 (v := 1) (by decide) (n := 152) rfl ?_
          refine g_goto X dX7_isLess_152 (n := 156) (by decide) ?_
          refine g_sub [4, 3, 1, 0] (lv' := [(8, .long v10), (10, .long (v8 - v8 / v10 * v10)), (12, .long v14), (14, .long (v12 - v12 / v14 * v14))]) rfl ?_
          exact wX7_isLess_b156 X hk17 hret hf
      · replace hf := k_pos c_7 hf
        refine g_sub [1, 0, 6] (lv' := [(8, .long (v8 - v8 / v10 * v10)), (12, .long (v12 - v12 / v14 * v14)), (16, .int (bI v16))]) rfl ?_
        exact wX7_isLess_b91 X  hret hf
  · replace hf := k_neg c_3 hf
    refine g_lload X dX7_isLess_39 1 rfl (n := 41) rfl ?_
    refine g_lload X dX7_isLess_41 0 rfl (n := 43) rfl ?_
    refine g_lcmp_ge X dX7_isLess_43 dX7_isLess_44 (t := 51) (by decide) (n := 47) rfl (fun c_9 => ?_) (fun c_9 => ?_)
    · replace hf := k_pos c_9 hf
      refine g_iconst X dX7_isLess_51 (v := 0) (by decide) (n := 52) rfl ?_
      refine g_sub [6] (lv' := [(16, .int (bI v16))]) rfl ?_
      exact wX7_isLess_b52 X  hret hf
    · replace hf := k_neg c_9 hf
      refine g_iconst X dX7_isLess_47 (v := 1) (by decide) (n := 48) rfl ?_
      refine g_goto X dX7_isLess_48 (n := 52) (by decide) ?_
      refine g_sub [6] (lv' := [(16, .int (bI v16))]) rfl ?_
      exact wX7_isLess_b52 X  hret hf
set_option maxRecDepth 100000 in
set_option maxHeartbeats 4000000 in
theorem wX7_isLess_l17 {D : va_G} {l : Launch} {E : k_E} {N : Nat} {res : Bool} (X : k_X D E cX7_isLess RX7 23 0 0) (hret : ∀ (pc : Nat) (lv : List (Nat × Value)), decode cX7_isLess pc = .ok (.ireturn, 1) → k_G D l E ([]) lv pc [.int (bI res)]) : ∀ (n0 : Nat) (v8 : Int64) (v10 : Int64) (v12 : Int64) (v14 : Int64) (v16 : Bool) , fX7_isLess_l17 N n0 v8 v10 v12 v14 v16 = some res → k_G D l E ([]) [(8, .long v8), (10, .long v10), (12, .long v12), (14, .long v14), (16, .int (bI v16))] 17 [] := by
  intro n0
  induction n0 with
  | zero => intro v8 v10 v12 v14 v16 hf; cases hf
  | succ n0 ih => intro v8 v10 v12 v14 v16 hf; exact wX7_isLess_b17 (N := N) (k17 := fX7_isLess_l17 N n0) X  ih hret hf
set_option maxRecDepth 100000 in
set_option maxHeartbeats 4000000 in
theorem wX7_isLess {D : va_G} {l : Launch} {E : k_E} {N : Nat} {p0 : Int64} {p2 : Int64} {p4 : Int64} {p6 : Int64} {res : Bool} (X : k_X D E cX7_isLess RX7 23 0 0) (hret : ∀ (pc : Nat) (lv : List (Nat × Value)), decode cX7_isLess pc = .ok (.ireturn, 1) → k_G D l E ([]) lv pc [.int (bI res)]) (hf : fX7_isLess N p0 p2 p4 p6 = some res) : k_G D l E ([]) [(0, .long p0), (2, .long p2), (4, .long p4), (6, .long p6)] 0 [] := by
  unfold fX7_isLess at hf
  refine g_lload_n X dX7_isLess_0 0 rfl rfl (n := 1) rfl ?_
  refine g_lstore X dX7_isLess_1 (by decide) (lv2 := [(8, .long p0), (0, .long p0), (2, .long p2), (4, .long p4), (6, .long p6)]) rfl (n := 3) rfl ?_
  refine g_lload_n X dX7_isLess_3 2 rfl rfl (n := 4) rfl ?_
  refine g_lstore X dX7_isLess_4 (by decide) (lv2 := [(10, .long p2), (8, .long p0), (0, .long p0), (2, .long p2), (4, .long p4), (6, .long p6)]) rfl (n := 6) rfl ?_
  refine g_lload X dX7_isLess_6 4 rfl (n := 8) rfl ?_
  refine g_lstore X dX7_isLess_8 (by decide) (lv2 := [(12, .long p4), (10, .long p2), (8, .long p0), (0, .long p0), (2, .long p2), (4, .long p4), (6, .long p6)]) rfl (n := 10) rfl ?_
  refine g_lload X dX7_isLess_10 6 rfl (n := 12) rfl ?_
  refine g_lstore X dX7_isLess_12 (by decide) (lv2 := [(14, .long p6), (12, .long p4), (10, .long p2), (8, .long p0), (0, .long p0), (2, .long p2), (4, .long p4), (6, .long p6)]) rfl (n := 14) rfl ?_
  refine g_iconst X dX7_isLess_14 (v := 1) (by decide) (n := 15) rfl ?_
  refine g_istore X dX7_isLess_15 (by decide) (lv2 := [(16, .int 1), (14, .long p6), (12, .long p4), (10, .long p2), (8, .long p0), (0, .long p0), (2, .long p2), (4, .long p4), (6, .long p6)]) rfl (n := 17) rfl ?_
  refine g_sub [4, 3, 2, 1, 0] (lv' := [(8, .long p0), (10, .long p2), (12, .long p4), (14, .long p6), (16, .int (bI true))]) rfl ?_
  exact wX7_isLess_l17 X  hret _ _ _ _ _ _ hf
set_option maxRecDepth 100000 in
set_option maxHeartbeats 4000000 in
theorem mX7_isLess {l : Launch} {D : va_G} {N : Nat} {p0 : Int64} {p2 : Int64} {p4 : Int64} {p6 : Int64} {res : Bool} (hf : fX7_isLess N p0 p2 p4 p6 = some res) : k_Met l yX7_isLess cX7_isLess 23 (some .boolean) 0 0 D [.long p0, .long p2, .long p4, .long p6] ([]) (some (.int (bI res))) ([]) :=
  k_of_z (by decide) (Nat.le_of_ble_eq_true rfl) (fun E X hret => wX7_isLess X hret hf)
set_option maxRecDepth 100000 in
set_option maxHeartbeats 4000000 in
theorem wX7_suspect_b65 {D : va_G} {l : Launch} {E : k_E} {N : Nat} {a : Nat → Nat} {k11 : Int32 → Int64 → Int64 → Int32 → VMl → VMh → VMs → Option (Int32 × VMl × VMh × VMs)} {v1 : Int32} {v2 : Int64} {v4 : Int64} {v6 : Int32} {mp : VMp} {mg : VMg} {mc : Nat → Int64} {ml : VMl} {mq : VMq} {mh : VMh} {ms : VMs} {mr : Nat → Int32} {mi : VMi} {res : Int32 × VMl × VMh × VMs} (X : k_X D E cX7_suspect RX7 7 4 91) (hk11 : ∀ (v1 : Int32) (v2 : Int64) (v4 : Int64) (v6 : Int32) (ml : VMl) (mh : VMh) (ms : VMs), k11 v1 v2 v4 v6 ml mh ms = some res → k_G D l E (pic_X7 D a mp mg mc ml mq mh ms mr mi) [(0, .ref (a 0)), (1, .int v1), (2, .long v2), (4, .long v4), (6, .int v6)] 11 []) (hret : ∀ (pc : Nat) (lv : List (Nat × Value)), decode cX7_suspect pc = .ok (.ireturn, 1) → k_G D l E (pic_X7 D a mp mg mc res.2.1 mq res.2.2.1 res.2.2.2 mr mi) lv pc [.int res.1]) (hf : fX7_suspect_b65 N mg mc k11 v1 v2 v4 v6 ml mh ms = some res) : k_G D l E (pic_X7 D a mp mg mc ml mq mh ms mr mi) [(0, .ref (a 0)), (1, .int v1), (2, .long v2), (4, .long v4), (6, .int v6)] 65 [] := by
  unfold fX7_suspect_b65 at hf
  refine g_iinc X dX7_suspect_65 4 rfl (v := v6 + 1) rfl (by decide) (lv2 := [(6, .int (v6 + 1)), (0, .ref (a 0)), (1, .int v1), (2, .long v2), (4, .long v4)]) rfl (n := 68) rfl ?_
  refine g_goto X dX7_suspect_68 (n := 11) (by decide) ?_
  refine g_sub [1, 2, 3, 4, 0] (lv' := [(0, .ref (a 0)), (1, .int v1), (2, .long v2), (4, .long v4), (6, .int (v6 + 1))]) rfl ?_
  exact hk11 _ _ _ _ _ _ _ hf
set_option maxRecDepth 100000 in
set_option maxHeartbeats 4000000 in
theorem wX7_suspect_b51 {D : va_G} {l : Launch} {E : k_E} {N : Nat} {a : Nat → Nat} {k11 : Int32 → Int64 → Int64 → Int32 → VMl → VMh → VMs → Option (Int32 × VMl × VMh × VMs)} {v6 : Int32} {mp : VMp} {mg : VMg} {mc : Nat → Int64} {ml : VMl} {mq : VMq} {mh : VMh} {ms : VMs} {mr : Nat → Int32} {mi : VMi} {res : Int32 × VMl × VMh × VMs} (X : k_X D E cX7_suspect RX7 7 4 91) (hk11 : ∀ (v1 : Int32) (v2 : Int64) (v4 : Int64) (v6 : Int32) (ml : VMl) (mh : VMh) (ms : VMs), k11 v1 v2 v4 v6 ml mh ms = some res → k_G D l E (pic_X7 D a mp mg mc ml mq mh ms mr mi) [(0, .ref (a 0)), (1, .int v1), (2, .long v2), (4, .long v4), (6, .int v6)] 11 []) (hret : ∀ (pc : Nat) (lv : List (Nat × Value)), decode cX7_suspect pc = .ok (.ireturn, 1) → k_G D l E (pic_X7 D a mp mg mc res.2.1 mq res.2.2.1 res.2.2.2 mr mi) lv pc [.int res.1]) (hf : fX7_suspect_b51 N mg mc k11 v6 ml mh ms = some res) : k_G D l E (pic_X7 D a mp mg mc ml mq mh ms mr mi) [(0, .ref (a 0)), (6, .int v6)] 51 [] := by
  unfold fX7_suspect_b51 at hf
  refine g_iload X dX7_suspect_51 1 rfl (n := 53) rfl ?_
  refine g_istore_n X dX7_suspect_53 rfl (by decide) (lv2 := [(1, .int v6), (0, .ref (a 0)), (6, .int v6)]) rfl (n := 54) rfl ?_
  refine g_aload_n X dX7_suspect_54 1 rfl rfl (n := 55) rfl ?_
  refine g_get X dX7_suspect_55 flX7_187 0 rfl (v := .long ms.1) rfl (n := 58) rfl ?_
  refine g_lstore_n X dX7_suspect_58 rfl (by decide) (lv2 := [(2, .long ms.1), (1, .int v6), (0, .ref (a 0)), (6, .int v6)]) rfl (n := 59) rfl ?_
  refine g_aload_n X dX7_suspect_59 2 rfl rfl (n := 60) rfl ?_
  refine g_get X dX7_suspect_60 flX7_190 0 rfl (v := .long ms.2) rfl (n := 63) rfl ?_
  refine g_lstore X dX7_suspect_63 (by decide) (lv2 := [(4, .long ms.2), (2, .long ms.1), (1, .int v6), (0, .ref (a 0)), (6, .int v6)]) rfl (n := 65) rfl ?_
  refine g_sub [3, 2, 1, 0, 4] (lv' := [(0, .ref (a 0)), (1, .int v6), (2, .long ms.1), (4, .long ms.2), (6, .int v6)]) rfl ?_
  exact wX7_suspect_b65 X hk11 hret hf
set_option maxRecDepth 100000 in
set_option maxHeartbeats 4000000 in
theorem wX7_suspect_b11 {D : va_G} {l : Launch} {E : k_E} {N : Nat} {a : Nat → Nat} {k11 : Int32 → Int64 → Int64 → Int32 → VMl → VMh → VMs → Option (Int32 × VMl × VMh × VMs)} {v1 : Int32} {v2 : Int64} {v4 : Int64} {v6 : Int32} {mp : VMp} {mg : VMg} {mc : Nat → Int64} {ml : VMl} {mq : VMq} {mh : VMh} {ms : VMs} {mr : Nat → Int32} {mi : VMi} {res : Int32 × VMl × VMh × VMs} (X : k_X D E cX7_suspect RX7 7 4 91) (hk11 : ∀ (v1 : Int32) (v2 : Int64) (v4 : Int64) (v6 : Int32) (ml : VMl) (mh : VMh) (ms : VMs), k11 v1 v2 v4 v6 ml mh ms = some res → k_G D l E (pic_X7 D a mp mg mc ml mq mh ms mr mi) [(0, .ref (a 0)), (1, .int v1), (2, .long v2), (4, .long v4), (6, .int v6)] 11 []) (hret : ∀ (pc : Nat) (lv : List (Nat × Value)), decode cX7_suspect pc = .ok (.ireturn, 1) → k_G D l E (pic_X7 D a mp mg mc res.2.1 mq res.2.2.1 res.2.2.2 mr mi) lv pc [.int res.1]) (hf : fX7_suspect_b11 N mg mc k11 v1 v2 v4 v6 ml mh ms = some res) : k_G D l E (pic_X7 D a mp mg mc ml mq mh ms mr mi) [(0, .ref (a 0)), (1, .int v1), (2, .long v2), (4, .long v4), (6, .int v6)] 11 [] := by
  unfold fX7_suspect_b11 at hf
  refine g_iload X dX7_suspect_11 4 rfl (n := 13) rfl ?_
  refine g_iconst X dX7_suspect_13 (v := 5) (by decide) (n := 14) rfl ?_
  refine g_icmp_ge X dX7_suspect_14 (t := 71) (by decide) (n := 17) rfl (fun c_1 => ?_) (fun c_1 => ?_)
  · replace hf := k_pos c_1 hf
    refine g_iload_n X dX7_suspect_71 1 rfl rfl (n := 72) rfl ?_
    obtain rfl := Option.some.inj hf
    exact hret _ _ dX7_suspect_72
  · replace hf := k_neg c_1 hf
    refine g_aload_n X dX7_suspect_17 0 rfl rfl (n := 18) rfl ?_
    refine g_iload X dX7_suspect_18 4 rfl (n := 20) rfl ?_
    obtain ⟨ml_2, mh_3, ms_4, g_5, hf⟩ := k_b3s hf
    refine g_callV0 X (mX7_laySeems (D := D) (l := l) (a := a) (mp := mp) (mq := mq) (mr := mr) (mi := mi) g_5) lk_X7_laySeems mlX7_195 dX7_suspect_20 (n := 23) rfl (st := []) rfl (st2 := []) rfl rfl rfl rfl (ws2 := pic_X7 D a mp mg mc ml_2 mq mh_3 ms_4 mr mi) (ad_X7 _ _ _ _ _ _ _ _ _ _ _ _ _ _ _ _ _ _ _ _) rfl ⟨Nat.le_of_ble_eq_true rfl, Nat.le_of_ble_eq_true rfl⟩ (Nat.le_of_ble_eq_true rfl) ?_
    refine g_aload_n X dX7_suspect_23 0 rfl rfl (n := 24) rfl ?_
    refine g_get X dX7_suspect_24 flX7_175 0 rfl (v := .int mh_3.1) rfl (n := 27) rfl ?_
    refine g_if_le X dX7_suspect_27 (t := 65) (by decide) (n := 30) rfl (fun c_6 => ?_) (fun c_6 => ?_)
    · replace hf := k_pos c_6 hf
      refine g_sub [0, 1, 2, 3, 4] (lv' := [(0, .ref (a 0)), (1, .int v1), (2, .long v2), (4, .long v4), (6, .int v6)]) rfl ?_
      exact wX7_suspect_b65 X hk11 hret hf
    · replace hf := k_neg c_6 hf
      refine g_iload_n X dX7_suspect_30 1 rfl rfl (n := 31) rfl ?_
      refine g_if_lt X dX7_suspect_31 (t := 51) (by decide) (n := 34) rfl (fun c_7 => ?_) (fun c_7 => ?_)
      · replace hf := k_pos c_7 hf
        refine g_sub [0, 4] (lv' := [(0, .ref (a 0)), (6, .int v6)]) rfl ?_
        exact wX7_suspect_b51 X hk11 hret hf
      · replace hf := k_neg c_7 hf
        refine g_aload_n X dX7_suspect_34 0 rfl rfl (n := 35) rfl ?_
        refine g_get X dX7_suspect_35 flX7_187 0 rfl (v := .long ms_4.1) rfl (n := 38) rfl ?_
        refine g_aload_n X dX7_suspect_38 0 rfl rfl (n := 39) rfl ?_
        refine g_get X dX7_suspect_39 flX7_190 0 rfl (v := .long ms_4.2) rfl (n := 42) rfl ?_
        refine g_lload_n X dX7_suspect_42 2 rfl rfl (n := 43) rfl ?_
        refine g_lload X dX7_suspect_43 3 rfl (n := 45) rfl ?_
        obtain ⟨x_8, g_9, hf⟩ := k_b1s hf
        refine g_callS0 X (mX7_isLess (D := D) (l := l)  g_9) lk_X7_isLess mlX7_198 dX7_suspect_45 (n := 48) rfl (st := []) rfl (st2 := [.int (bI x_8)]) rfl rfl ⟨Nat.le_of_ble_eq_true rfl, Nat.le_of_ble_eq_true rfl⟩ (Nat.le_of_ble_eq_true rfl) ?_
        refine g_if_eqB X dX7_suspect_48 (t := 65) (by decide) (n := 51) rfl (fun c_10 => ?_) (fun c_10 => ?_)
        · replace hf := k_neg c_10 hf
          refine g_sub [0, 1, 2, 3, 4] (lv' := [(0, .ref (a 0)), (1, .int v1), (2, .long v2), (4, .long v4), (6, .int v6)]) rfl ?_
          exact wX7_suspect_b65 X hk11 hret hf
        · replace hf := k_pos c_10 hf
          refine g_sub [0, 4] (lv' := [(0, .ref (a 0)), (6, .int v6)]) rfl ?_
          exact wX7_suspect_b51 X hk11 hret hf
set_option maxRecDepth 100000 in
set_option maxHeartbeats 4000000 in
theorem wX7_suspect_l11 {D : va_G} {l : Launch} {E : k_E} {N : Nat} {a : Nat → Nat} {mp : VMp} {mg : VMg} {mc : Nat → Int64} {mq : VMq} {mr : Nat → Int32} {mi : VMi} {res : Int32 × VMl × VMh × VMs} (X : k_X D E cX7_suspect RX7 7 4 91) (hret : ∀ (pc : Nat) (lv : List (Nat × Value)), decode cX7_suspect pc = .ok (.ireturn, 1) → k_G D l E (pic_X7 D a mp mg mc res.2.1 mq res.2.2.1 res.2.2.2 mr mi) lv pc [.int res.1]) : ∀ (n0 : Nat) (v1 : Int32) (v2 : Int64) (v4 : Int64) (v6 : Int32) (ml : VMl) (mh : VMh) (ms : VMs), fX7_suspect_l11 N mg mc n0 v1 v2 v4 v6 ml mh ms = some res → k_G D l E (pic_X7 D a mp mg mc ml mq mh ms mr mi) [(0, .ref (a 0)), (1, .int v1), (2, .long v2), (4, .long v4), (6, .int v6)] 11 [] := by
  intro n0
  induction n0 with
  | zero => intro v1 v2 v4 v6 ml mh ms hf; cases hf
  | succ n0 ih => intro v1 v2 v4 v6 ml mh ms hf; exact wX7_suspect_b11 (N := N) (k11 := fX7_suspect_l11 N mg mc n0) X  ih hret hf
set_option maxRecDepth 100000 in
set_option maxHeartbeats 4000000 in
theorem wX7_suspect {D : va_G} {l : Launch} {E : k_E} {N : Nat} {a : Nat → Nat} {mp : VMp} {mg : VMg} {mc : Nat → Int64} {ml : VMl} {mq : VMq} {mh : VMh} {ms : VMs} {mr : Nat → Int32} {mi : VMi} {res : Int32 × VMl × VMh × VMs} (X : k_X D E cX7_suspect RX7 7 4 91) (hret : ∀ (pc : Nat) (lv : List (Nat × Value)), decode cX7_suspect pc = .ok (.ireturn, 1) → k_G D l E (pic_X7 D a mp mg mc res.2.1 mq res.2.2.1 res.2.2.2 mr mi) lv pc [.int res.1]) (hf : fX7_suspect N mg mc ml mh ms = some res) : k_G D l E (pic_X7 D a mp mg mc ml mq mh ms mr mi) [(0, .ref (a 0))] 0 [] := by
  unfold fX7_suspect at hf
  refine g_bipush X dX7_suspect_0 (v := (-6)) (by decide) (n := 2) rfl ?_
  refine g_istore_n X dX7_suspect_2 rfl (by decide) (lv2 := [(1, .int (-6)), (0, .ref (a 0))]) rfl (n := 3) rfl ?_
  refine g_lconst X dX7_suspect_3 (v := 0) rfl (n := 4) rfl ?_
  refine g_lstore_n X dX7_suspect_4 rfl (by decide) (lv2 := [(2, .long (0 : Int64)), (1, .int (-6)), (0, .ref (a 0))]) rfl (n := 5) rfl ?_
  refine g_lconst X dX7_suspect_5 (v := 1) rfl (n := 6) rfl ?_
  refine g_lstore X dX7_suspect_6 (by decide) (lv2 := [(4, .long (1 : Int64)), (2, .long (0 : Int64)), (1, .int (-6)), (0, .ref (a 0))]) rfl (n := 8) rfl ?_
  refine g_iconst X dX7_suspect_8 (v := 0) (by decide) (n := 9) rfl ?_
  refine g_istore X dX7_suspect_9 (by decide) (lv2 := [(6, .int 0), (4, .long (1 : Int64)), (2, .long (0 : Int64)), (1, .int (-6)), (0, .ref (a 0))]) rfl (n := 11) rfl ?_
  refine g_sub [4, 3, 2, 1, 0] (lv' := [(0, .ref (a 0)), (1, .int (-6)), (2, .long (0 : Int64)), (4, .long (1 : Int64)), (6, .int 0)]) rfl ?_
  exact wX7_suspect_l11 X  hret _ _ _ _ _ _ _ _ hf
set_option maxRecDepth 100000 in
set_option maxHeartbeats 4000000 in
theorem mX7_suspect {l : Launch} {D : va_G} {N : Nat} {a : Nat → Nat} {mp : VMp} {mg : VMg} {mc : Nat → Int64} {ml : VMl} {mq : VMq} {mh : VMh} {ms : VMs} {mr : Nat → Int32} {mi : VMi} {res : Int32 × VMl × VMh × VMs} (hf : fX7_suspect N mg mc ml mh ms = some res) : k_Met l yX7_suspect cX7_suspect 7 (some .int) 4 91 D [.ref (a 0)] (pic_X7 D a mp mg mc ml mq mh ms mr mi) (some (.int res.1)) (pic_X7 D a mp mg mc res.2.1 mq res.2.2.1 res.2.2.2 mr mi) :=
  k_of_i (by decide) (Nat.le_of_ble_eq_true rfl) (fun E X hret => wX7_suspect X hret hf)
