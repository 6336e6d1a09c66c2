/-! walks: X7_count X7_need X7_rule X7_comesTo X7_saysYes -/
set_option maxRecDepth 100000 in
set_option maxHeartbeats 4000000 in
theorem wX7_count_b35 {D : va_G} {l : Launch} {E : k_E} {N : Nat} {a : Nat → Nat} {v1 : Int32} {mp : VMp} {mg : VMg} {mc : Nat → Int64} {ml : VMl} {mq : VMq} {mh : VMh} {ms : VMs} {mr : Nat → Int32} {mi : VMi} {res : Int32 × VMl} (X : k_X D E cX7_count RX7 2 3 66) (hret : ∀ (pc : Nat) (lv : List (Nat × Value)), decode cX7_count pc = .ok (.ireturn, 1) → k_G D l E (pic_X7 D a mp mg mc res.2 mq mh ms mr mi) lv pc [.int res.1]) (hf : fX7_count_b35 N mg v1 ml = some res) : k_G D l E (pic_X7 D a mp mg mc ml mq mh ms mr mi) [(0, .ref (a 0)), (1, .int v1)] 35 [] := by
  unfold fX7_count_b35 at hf
  refine g_iload_n X dX7_count_35 1 rfl rfl (n := 36) rfl ?_
  refine g_if_ne X dX7_count_36 (t := 46) (by decide) (n := 39) rfl (fun c_1 => ?_) (fun c_1 => ?_)
  · replace hf := k_neg c_1 hf
    refine g_iload_n X dX7_count_46 1 rfl rfl (n := 47) rfl ?_
    refine g_iconst X dX7_count_47 (v := 1) (by decide) (n := 48) rfl ?_
    refine g_icmp_ne X dX7_count_48 (t := 58) (by decide) (n := 51) rfl (fun c_2 => ?_) (fun c_2 => ?_)
    · replace hf := k_neg c_2 hf
      refine g_iload_n X dX7_count_58 1 rfl rfl (n := 59) rfl ?_
      refine g_iconst X dX7_count_59 (v := 2) (by decide) (n := 60) rfl ?_
      refine g_icmp_ne X dX7_count_60 (t := 70) (by decide) (n := 63) rfl (fun c_3 => ?_) (fun c_3 => ?_)
      · replace hf := k_neg c_3 hf
        refine g_aload_n X dX7_count_70 0 rfl rfl (n := 71) rfl ?_
        obtain ⟨x_4, g_5, hf⟩ := k_b1s hf
        refine g_callV0 X (mX7_good (D := D) (l := l) (a := a) (mp := mp) (mg := mg) (mc := mc) (mq := mq) (mh := mh) (ms := ms) (mr := mr) (mi := mi) g_5) lk_X7_good mlX7_115 dX7_count_71 (n := 74) rfl (st := []) rfl (st2 := [.int x_4]) rfl rfl rfl rfl (ws2 := pic_X7 D a mp mg mc ml mq mh ms mr mi) (ad_X7 _ _ _ _ _ _ _ _ _ _ _ _ _ _ _ _ _ _ _ _) rfl ⟨Nat.le_of_ble_eq_true rfl, Nat.le_of_ble_eq_true rfl⟩ (Nat.le_of_ble_eq_true rfl) ?_
        obtain rfl := Option.some.inj hf
        exact hret _ _ dX7_count_74
      · replace hf := k_pos c_3 hf
        refine g_aload_n X dX7_count_63 0 rfl rfl (n := 64) rfl ?_
        refine g_get X dX7_count_64 flX7_101 0 rfl (v := .int ml.2.2.2.2.2.1) rfl (n := 67) rfl ?_
        refine g_goto X dX7_count_67 (n := 74) (by decide) ?_
        obtain rfl := Option.some.inj hf
        exact hret _ _ dX7_count_74
    · replace hf := k_pos c_2 hf
      refine g_aload_n X dX7_count_51 0 rfl rfl (n := 52) rfl ?_
      refine g_get X dX7_count_52 flX7_92 0 rfl (v := .int ml.2.2.1) rfl (n := 55) rfl ?_
      refine g_goto X dX7_count_55 (n := 74) (by decide) ?_
      obtain rfl := Option.some.inj hf
      exact hret _ _ dX7_count_74
  · replace hf := k_pos c_1 hf
    refine g_aload_n X dX7_count_39 0 rfl rfl (n := 40) rfl ?_
    refine g_get X dX7_count_40 flX7_89 0 rfl (v := .int ml.2.1) rfl (n := 43) rfl ?_
    refine g_goto X dX7_count_43 (n := 74) (by decide) ?_
    obtain rfl := Option.some.inj hf
    exact hret _ _ dX7_count_74
set_option maxRecDepth 100000 in
set_option maxHeartbeats 4000000 in
theorem wX7_count {D : va_G} {l : Launch} {E : k_E} {N : Nat} {a : Nat → Nat} {p1 : Int32} {mp : VMp} {mg : VMg} {mc : Nat → Int64} {ml : VMl} {mq : VMq} {mh : VMh} {ms : VMs} {mr : Nat → Int32} {mi : VMi} {res : Int32 × VMl} (X : k_X D E cX7_count RX7 2 3 66) (hret : ∀ (pc : Nat) (lv : List (Nat × Value)), decode cX7_count pc = .ok (.ireturn, 1) → k_G D l E (pic_X7 D a mp mg mc res.2 mq mh ms mr mi) lv pc [.int res.1]) (hf : fX7_count N mg p1 ml = some res) : k_G D l E (pic_X7 D a mp mg mc ml mq mh ms mr mi) [(0, .ref (a 0)), (1, .int p1)] 0 [] := by
  unfold fX7_count at hf
  refine g_iload_n X dX7_count_0 1 rfl rfl (n := 1) rfl ?_
  refine g_iconst X dX7_count_1 (v := 0) (by decide) (n := 2) rfl ?_
  refine g_iconst X dX7_count_2 (v := 3) (by decide) (n := 3) rfl ?_
  obtain ⟨x_1, g_2, hf⟩ := k_b1s hf
  refine g_callS0 X (mX7_in (D := D) (l := l)  g_2) lk_X7_in mlX7_58 dX7_count_3 (n := 6) rfl (st := []) rfl (st2 := [.int (bI x_1)]) rfl rfl ⟨Nat.le_of_ble_eq_true rfl, Nat.le_of_ble_eq_true rfl⟩ (Nat.le_of_ble_eq_true rfl) ?_
  refine g_if_neB X dX7_count_6 (t := 12) (by decide) (n := 9) rfl (fun c_3 => ?_) (fun c_3 => ?_)
  · replace hf := k_pos c_3 hf
    refine g_aload_n X dX7_count_12 0 rfl rfl (n := 13) rfl ?_
    refine g_aload_n X dX7_count_13 0 rfl rfl (n := 14) rfl ?_
    obtain ⟨x_4, g_5, hf⟩ := k_b1s hf
    refine g_callV0 X (mX7_valid (D := D) (l := l) (a := a) (mp := mp) (mc := mc) (ml := ml) (mq := mq) (mh := mh) (ms := ms) (mr := mr) (mi := mi) g_5) lk_X7_valid mlX7_108 dX7_count_14 (n := 17) rfl (st := [.ref (a 0)]) rfl (st2 := [.int x_4, .ref (a 0)]) rfl rfl rfl rfl (ws2 := pic_X7 D a mp mg mc ml mq mh ms mr mi) (ad_X7 _ _ _ _ _ _ _ _ _ _ _ _ _ _ _ _ _ _ _ _) rfl ⟨Nat.le_of_ble_eq_true rfl, Nat.le_of_ble_eq_true rfl⟩ (Nat.le_of_ble_eq_true rfl) ?_
    obtain ⟨ml_6, g_7, hf⟩ := k_b1s hf
    refine g_callV0 X (mX7_layList (D := D) (l := l) (a := a) (mp := mp) (mc := mc) (mq := mq) (mh := mh) (ms := ms) (mr := mr) (mi := mi) g_7) lk_X7_layList mlX7_111 dX7_count_17 (n := 20) rfl (st := []) rfl (st2 := []) rfl rfl rfl rfl (ws2 := pic_X7 D a mp mg mc ml_6 mq mh ms mr mi) (ad_X7 _ _ _ _ _ _ _ _ _ _ _ _ _ _ _ _ _ _ _ _) rfl ⟨Nat.le_of_ble_eq_true rfl, Nat.le_of_ble_eq_true rfl⟩ (Nat.le_of_ble_eq_true rfl) ?_
    refine g_iload_n X dX7_count_20 1 rfl rfl (n := 21) rfl ?_
    refine g_iconst X dX7_count_21 (v := 1) (by decide) (n := 22) rfl ?_
    refine g_icmp_le X dX7_count_22 (t := 35) (by decide) (n := 25) rfl (fun c_8 => ?_) (fun c_8 => ?_)
    · replace hf := k_pos c_8 hf
      refine g_sub [0, 1] (lv' := [(0, .ref (a 0)), (1, .int p1)]) rfl ?_
      exact wX7_count_b35 X  hret hf
    · replace hf := k_neg c_8 hf
      refine g_aload_n X dX7_count_25 0 rfl rfl (n := 26) rfl ?_
      refine g_get X dX7_count_26 flX7_104 0 rfl (v := .int (bI ml_6.2.2.2.2.2.2)) rfl (n := 29) rfl ?_
      refine g_if_eqB X dX7_count_29 (t := 35) (by decide) (n := 32) rfl (fun c_9 => ?_) (fun c_9 => ?_)
      · replace hf := k_neg c_9 hf
        refine g_sub [0, 1] (lv' := [(0, .ref (a 0)), (1, .int p1)]) rfl ?_
        exact wX7_count_b35 X  hret hf
      · replace hf := k_pos c_9 hf
        refine g_bipush X dX7_count_32 (v := (-3)) (by decide) (n := 34) rfl ?_
        obtain rfl := Option.some.inj hf
        exact hret _ _ dX7_count_34
  · replace hf := k_neg c_3 hf
    refine g_bipush X dX7_count_9 (v := (-2)) (by decide) (n := 11) rfl ?_
    obtain rfl := Option.some.inj hf
    exact hret _ _ dX7_count_11
set_option maxRecDepth 100000 in
set_option maxHeartbeats 4000000 in
theorem mX7_count {l : Launch} {D : va_G} {N : Nat} {a : Nat → Nat} {p1 : Int32} {mp : VMp} {mg : VMg} {mc : Nat → Int64} {ml : VMl} {mq : VMq} {mh : VMh} {ms : VMs} {mr : Nat → Int32} {mi : VMi} {res : Int32 × VMl} (hf : fX7_count N mg p1 ml = some res) : k_Met l yX7_count cX7_count 2 (some .int) 3 66 D [.ref (a 0), .int p1] (pic_X7 D a mp mg mc ml mq mh ms mr mi) (some (.int res.1)) (pic_X7 D a mp mg mc res.2 mq mh ms mr mi) :=
  k_of_i (by decide) (Nat.le_of_ble_eq_true rfl) (fun E X hret => wX7_count X hret hf)
set_option maxRecDepth 100000 in
set_option maxHeartbeats 4000000 in
theorem wX7_need {D : va_G} {l : Launch} {E : k_E} {a : Nat → Nat} {p1 : Int32} {mp : VMp} {mg : VMg} {mc : Nat → Int64} {ml : VMl} {mq : VMq} {mh : VMh} {ms : VMs} {mr : Nat → Int32} {mi : VMi} {res : Int32 × VMg} (X : k_X D E cX7_need RX7 3 1 22) (hret : ∀ (pc : Nat) (lv : List (Nat × Value)), decode cX7_need pc = .ok (.ireturn, 1) → k_G D l E (pic_X7 D a mp res.2 mc ml mq mh ms mr mi) lv pc [.int res.1]) (hf : fX7_need p1 mg = some res) : k_G D l E (pic_X7 D a mp mg mc ml mq mh ms mr mi) [(0, .ref (a 0)), (1, .int p1)] 0 [] := by
  unfold fX7_need at hf
  refine g_iload_n X dX7_need_0 1 rfl rfl (n := 1) rfl ?_
  refine g_iconst X dX7_need_1 (v := 0) (by decide) (n := 2) rfl ?_
  refine g_bipush X dX7_need_2 (v := 60) (by decide) (n := 4) rfl ?_
  obtain ⟨x_1, g_2, hf⟩ := k_b1s hf
  refine g_callS0 X (mX7_in (D := D) (l := l)  g_2) lk_X7_in mlX7_58 dX7_need_4 (n := 7) rfl (st := []) rfl (st2 := [.int (bI x_1)]) rfl rfl ⟨Nat.le_of_ble_eq_true rfl, Nat.le_of_ble_eq_true rfl⟩ (Nat.le_of_ble_eq_true rfl) ?_
  refine g_if_neB X dX7_need_7 (t := 13) (by decide) (n := 10) rfl (fun c_3 => ?_) (fun c_3 => ?_)
  · replace hf := k_pos c_3 hf
    refine g_aload_n X dX7_need_13 0 rfl rfl (n := 14) rfl ?_
    refine g_get X dX7_need_14 flX7_25 0 rfl (v := .int mg.2.2.2.2.1) rfl (n := 17) rfl ?_
    refine g_istore_n X dX7_need_17 rfl (by decide) (lv2 := [(2, .int mg.2.2.2.2.1), (0, .ref (a 0)), (1, .int p1)]) rfl (n := 18) rfl ?_
    refine g_aload_n X dX7_need_18 1 rfl rfl (n := 19) rfl ?_
    refine g_iload_n X dX7_need_19 2 rfl rfl (n := 20) rfl ?_
    refine g_put X dX7_need_20 flX7_25 0 rfl rfl rfl (Nat.le_of_ble_eq_true rfl) (ws2 := pic_X7 D a mp (mg.1, mg.2.1, mg.2.2.1, mg.2.2.2.1, p1, mg.2.2.2.2.2.1, mg.2.2.2.2.2.2) mc ml mq mh ms mr mi) rfl (n := 23) rfl ?_
    refine g_iload_n X dX7_need_23 0 rfl rfl (n := 24) rfl ?_
    obtain rfl := Option.some.inj hf
    exact hret _ _ dX7_need_24
  · replace hf := k_neg c_3 hf
    refine g_bipush X dX7_need_10 (v := (-2)) (by decide) (n := 12) rfl ?_
    obtain rfl := Option.some.inj hf
    exact hret _ _ dX7_need_12
set_option maxRecDepth 100000 in
set_option maxHeartbeats 4000000 in
theorem mX7_need {l : Launch} {D : va_G} {a : Nat → Nat} {p1 : Int32} {mp : VMp} {mg : VMg} {mc : Nat → Int64} {ml : VMl} {mq : VMq} {mh : VMh} {ms : VMs} {mr : Nat → Int32} {mi : VMi} {res : Int32 × VMg} (hf : fX7_need p1 mg = some res) : k_Met l yX7_need cX7_need 3 (some .int) 1 22 D [.ref (a 0), .int p1] (pic_X7 D a mp mg mc ml mq mh ms mr mi) (some (.int res.1)) (pic_X7 D a mp res.2 mc ml mq mh ms mr mi) :=
  k_of_i (by decide) (Nat.le_of_ble_eq_true rfl) (fun E X hret => wX7_need X hret hf)
set_option maxRecDepth 100000 in
set_option maxHeartbeats 4000000 in
theorem wX7_rule_b20 {D : va_G} {l : Launch} {E : k_E} {N : Nat} {a : Nat → Nat} {k20 : Int32 → VMp → VMg → Option (Int32 × VMp × VMg)} {v1 : Int32} {mp : VMp} {mg : VMg} {mc : Nat → Int64} {ml : VMl} {mq : VMq} {mh : VMh} {ms : VMs} {mr : Nat → Int32} {mi : VMi} {res : Int32 × VMp × VMg} (X : k_X D E cX7_rule RX7 2 2 46) (hk20 : ∀ (v1 : Int32) (mp : VMp) (mg : VMg), k20 v1 mp mg = some res → k_G D l E (pic_X7 D a mp mg mc ml mq mh ms mr mi) [(0, .ref (a 0)), (1, .int v1)] 20 []) (hret : ∀ (pc : Nat) (lv : List (Nat × Value)), decode cX7_rule pc = .ok (.ireturn, 1) → k_G D l E (pic_X7 D a res.2.1 res.2.2 mc ml mq mh ms mr mi) lv pc [.int res.1]) (hf : fX7_rule_b20 N k20 v1 mp mg = some res) : k_G D l E (pic_X7 D a mp mg mc ml mq mh ms mr mi) [(0, .ref (a 0)), (1, .int v1)] 20 [] := by
  unfold fX7_rule_b20 at hf
  refine g_iload_n X dX7_rule_20 1 rfl rfl (n := 21) rfl ?_
  refine g_aload_n X dX7_rule_21 0 rfl rfl (n := 22) rfl ?_
  refine g_get X dX7_rule_22 flX7_66 0 rfl (v := .int mp.2) rfl (n := 25) rfl ?_
  refine g_icmp_ge X dX7_rule_25 (t := 46) (by decide) (n := 28) rfl (fun c_1 => ?_) (fun c_1 => ?_)
  · replace hf := k_pos c_1 hf
    refine g_aload_n X dX7_rule_46 0 rfl rfl (n := 47) rfl ?_
    refine g_iconst X dX7_rule_47 (v := 0) (by decide) (n := 48) rfl ?_
    refine g_put X dX7_rule_48 flX7_66 0 rfl rfl rfl (Nat.le_of_ble_eq_true rfl) (ws2 := pic_X7 D a (mp.1, (0 : Int32)) mg mc ml mq mh ms mr mi) rfl (n := 51) rfl ?_
    refine g_aload_n X dX7_rule_51 0 rfl rfl (n := 52) rfl ?_
    refine g_get X dX7_rule_52 flX7_29 0 rfl (v := .int mg.2.2.2.2.2.1) rfl (n := 55) rfl ?_
    obtain rfl := Option.some.inj hf
    exact hret _ _ dX7_rule_55
  · replace hf := k_neg c_1 hf
    refine g_aload_n X dX7_rule_28 0 rfl rfl (n := 29) rfl ?_
    refine g_get X dX7_rule_29 flX7_32 0 rfl (v := .ref (a 6)) rfl (n := 32) rfl ?_
    refine g_iload_n X dX7_rule_32 1 rfl rfl (n := 33) rfl ?_
    refine g_aload_n X dX7_rule_33 0 rfl rfl (n := 34) rfl ?_
    refine g_get X dX7_rule_34 flX7_7 0 rfl (v := .ref (a 1)) rfl (n := 37) rfl ?_
    refine g_iload_n X dX7_rule_37 1 rfl rfl (n := 38) rfl ?_
    obtain ⟨h_2, hf⟩ := k_guard hf
    refine g_iaload X dX7_rule_38 1 (f := mp.1) rfl rfl h_2 (n := 39) rfl ?_
    obtain ⟨h_3, hf⟩ := k_guard hf
    refine g_iastore X dX7_rule_39 6 (f := mg.2.2.2.2.2.2) rfl rfl h_3 (ws2 := pic_X7 D a mp (mg.1, mg.2.1, mg.2.2.1, mg.2.2.2.1, mg.2.2.2.2.1, mg.2.2.2.2.2.1, upd mg.2.2.2.2.2.2 (v1).toNatClampNeg (mp.1 v1.toNatClampNeg)) mc ml mq mh ms mr mi) rfl (n := 40) rfl ?_
    refine g_iinc X dX7_rule_40 1 rfl (v := v1 + 1) rfl (by decide) (lv2 := [(1, .int (v1 + 1)), (0, .ref (a 0))]) rfl (n := 43) rfl ?_
    refine g_goto X dX7_rule_43 (n := 20) (by decide) ?_
    refine g_sub [1, 0] (lv' := [(0, .ref (a 0)), (1, .int (v1 + 1))]) rfl ?_
    exact hk20 _ _ _ hf
set_option maxRecDepth 100000 in
set_option maxHeartbeats 4000000 in
theorem wX7_rule_l20 {D : va_G} {l : Launch} {E : k_E} {N : Nat} {a : Nat → Nat} {mc : Nat → Int64} {ml : VMl} {mq : VMq} {mh : VMh} {ms : VMs} {mr : Nat → Int32} {mi : VMi} {res : Int32 × VMp × VMg} (X : k_X D E cX7_rule RX7 2 2 46) (hret : ∀ (pc : Nat) (lv : List (Nat × Value)), decode cX7_rule pc = .ok (.ireturn, 1) → k_G D l E (pic_X7 D a res.2.1 res.2.2 mc ml mq mh ms mr mi) lv pc [.int res.1]) : ∀ (n0 : Nat) (v1 : Int32) (mp : VMp) (mg : VMg), fX7_rule_l20 N n0 v1 mp mg = some res → k_G D l E (pic_X7 D a mp mg mc ml mq mh ms mr mi) [(0, .ref (a 0)), (1, .int v1)] 20 [] := by
  intro n0
  induction n0 with
  | zero => intro v1 mp mg hf; cases hf
  | succ n0 ih => intro v1 mp mg hf; exact wX7_rule_b20 (N := N) (k20 := fX7_rule_l20 N n0) X  ih hret hf
set_option maxRecDepth 100000 in
set_option maxHeartbeats 4000000 in
theorem wX7_rule {D : va_G} {l : Launch} {E : k_E} {N : Nat} {a : Nat → Nat} {mp : VMp} {mg : VMg} {mc : Nat → Int64} {ml : VMl} {mq : VMq} {mh : VMh} {ms : VMs} {mr : Nat → Int32} {mi : VMi} {res : Int32 × VMp × VMg} (X : k_X D E cX7_rule RX7 2 2 46) (hret : ∀ (pc : Nat) (lv : List (Nat × Value)), decode cX7_rule pc = .ok (.ireturn, 1) → k_G D l E (pic_X7 D a res.2.1 res.2.2 mc ml mq mh ms mr mi) lv pc [.int res.1]) (hf : fX7_rule N mp mg = some res) : k_G D l E (pic_X7 D a mp mg mc ml mq mh ms mr mi) [(0, .ref (a 0))] 0 [] := by
  unfold fX7_rule at hf
  refine g_aload_n X dX7_rule_0 0 rfl rfl (n := 1) rfl ?_
  obtain ⟨x_1, g_2, hf⟩ := k_b1s hf
  refine g_callV0 X (mX7_ruleFault (D := D) (l := l) (a := a) (mg := mg) (mc := mc) (ml := ml) (mq := mq) (mh := mh) (ms := ms) (mr := mr) (mi := mi) g_2) lk_X7_ruleFault mlX7_83 dX7_rule_1 (n := 4) rfl (st := []) rfl (st2 := [.int x_1]) rfl rfl rfl rfl (ws2 := pic_X7 D a mp mg mc ml mq mh ms mr mi) (ad_X7 _ _ _ _ _ _ _ _ _ _ _ _ _ _ _ _ _ _ _ _) rfl ⟨Nat.le_of_ble_eq_true rfl, Nat.le_of_ble_eq_true rfl⟩ (Nat.le_of_ble_eq_true rfl) ?_
  refine g_if_lt X dX7_rule_4 (t := 10) (by decide) (n := 7) rfl (fun c_3 => ?_) (fun c_3 => ?_)
  · replace hf := k_pos c_3 hf
    refine g_aload_n X dX7_rule_10 0 rfl rfl (n := 11) rfl ?_
    refine g_aload_n X dX7_rule_11 0 rfl rfl (n := 12) rfl ?_
    refine g_get X dX7_rule_12 flX7_66 0 rfl (v := .int mp.2) rfl (n := 15) rfl ?_
    refine g_put X dX7_rule_15 flX7_29 0 rfl rfl rfl (Nat.le_of_ble_eq_true rfl) (ws2 := pic_X7 D a mp (mg.1, mg.2.1, mg.2.2.1, mg.2.2.2.1, mg.2.2.2.2.1, mp.2, mg.2.2.2.2.2.2) mc ml mq mh ms mr mi) rfl (n := 18) rfl ?_
    refine g_iconst X dX7_rule_18 (v := 0) (by decide) (n := 19) rfl ?_
    refine g_istore_n X dX7_rule_19 rfl (by decide) (lv2 := [(1, .int 0), (0, .ref (a 0))]) rfl (n := 20) rfl ?_
    refine g_sub [1, 0] (lv' := [(0, .ref (a 0)), (1, .int 0)]) rfl ?_
    exact wX7_rule_l20 X  hret _ _ _ _ hf
  · replace hf := k_neg c_3 hf
    refine g_bipush X dX7_rule_7 (v := (-5)) (by decide) (n := 9) rfl ?_
    obtain rfl := Option.some.inj hf
    exact hret _ _ dX7_rule_9
set_option maxRecDepth 100000 in
set_option maxHeartbeats 4000000 in
theorem mX7_rule {l : Launch} {D : va_G} {N : Nat} {a : Nat → Nat} {mp : VMp} {mg : VMg} {mc : Nat → Int64} {ml : VMl} {mq : VMq} {mh : VMh} {ms : VMs} {mr : Nat → Int32} {mi : VMi} {res : Int32 × VMp × VMg} (hf : fX7_rule N mp mg = some res) : k_Met l yX7_rule cX7_rule 2 (some .int) 2 46 D [.ref (a 0)] (pic_X7 D a mp mg mc ml mq mh ms mr mi) (some (.int res.1)) (pic_X7 D a res.2.1 res.2.2 mc ml mq mh ms mr mi) :=
  k_of_i (by decide) (Nat.le_of_ble_eq_true rfl) (fun E X hret => wX7_rule X hret hf)
set_option maxRecDepth 100000 in
set_option maxHeartbeats 4000000 in
theorem wX7_comesTo_b324 {D : va_G} {l : Launch} {E : k_E} {N : Nat} {a : Nat → Nat} {k11 : Int32 → Int32 → Int32 → Int32 → Int32 → Int32 → VMq → Option (Bool × VMq)} {v1 : Int32} {v2 : Int32} {v3 : Int32} {v4 : Int32} {v5 : Int32} {v6 : Int32} {mp : VMp} {mg : VMg} {mc : Nat → Int64} {ml : VMl} {mq : VMq} {mh : VMh} {ms : VMs} {mr : Nat → Int32} {mi : VMi} {res : Bool × VMq} (X : k_X D E cX7_comesTo RX7 22 1 29) (hk11 : ∀ (v1 : Int32) (v2 : Int32) (v3 : Int32) (v4 : Int32) (v5 : Int32) (v6 : Int32) (mq : VMq), k11 v1 v2 v3 v4 v5 v6 mq = some res → k_G D l E (pic_X7 D a mp mg mc ml mq mh ms mr mi) [(0, .ref (a 0)), (1, .int v1), (2, .int v2), (3, .int v3), (4, .int v4), (5, .int v5), (6, .int v6)] 11 []) (hret : ∀ (pc : Nat) (lv : List (Nat × Value)), decode cX7_comesTo pc = .ok (.ireturn, 1) → k_G D l E (pic_X7 D a mp mg mc ml res.2 mh ms mr mi) lv pc [.int (bI res.1)]) (hf : fX7_comesTo_b324 N mg k11 v1 v2 v3 v4 v5 v6 mq = some res) : k_G D l E (pic_X7 D a mp mg mc ml mq mh ms mr mi) [(0, .ref (a 0)), (1, .int v1), (2, .int v2), (3, .int v3), (4, .int v4), (5, .int v5), (6, .int v6)] 324 [] := by
  unfold fX7_comesTo_b324 at hf
  refine g_iinc X dX7_comesTo_324 6 rfl (v := v6 + (-1)) rfl (by decide) (lv2 := [(6, .int (v6 + (-1))), (0, .ref (a 0)), (1, .int v1), (2, .int v2), (3, .int v3), (4, .int v4), (5, .int v5)]) rfl (n := 327) rfl ?_
  refine g_goto X dX7_comesTo_327 (n := 11) (by decide) ?_
  refine g_sub [1, 2, 3, 4, 5, 6, 0] (lv' := [(0, .ref (a 0)), (1, .int v1), (2, .int v2), (3, .int v3), (4, .int v4), (5, .int v5), (6, .int (v6 + (-1)))]) rfl ?_
  exact hk11 _ _ _ _ _ _ _ hf
set_option maxRecDepth 100000 in
set_option maxHeartbeats 4000000 in
theorem wX7_comesTo_b312 {D : va_G} {l : Launch} {E : k_E} {N : Nat} {a : Nat → Nat} {k11 : Int32 → Int32 → Int32 → Int32 → Int32 → Int32 → VMq → Option (Bool × VMq)} {v1 : Int32} {v2 : Int32} {v3 : Int32} {v4 : Int32} {v5 : Int32} {v6 : Int32} {s1 : Int32} {s2 : Int64} {mp : VMp} {mg : VMg} {mc : Nat → Int64} {ml : VMl} {mq : VMq} {mh : VMh} {ms : VMs} {mr : Nat → Int32} {mi : VMi} {res : Bool × VMq} (X : k_X D E cX7_comesTo RX7 22 1 29) (hk11 : ∀ (v1 : Int32) (v2 : Int32) (v3 : Int32) (v4 : Int32) (v5 : Int32) (v6 : Int32) (mq : VMq), k11 v1 v2 v3 v4 v5 v6 mq = some res → k_G D l E (pic_X7 D a mp mg mc ml mq mh ms mr mi) [(0, .ref (a 0)), (1, .int v1), (2, .int v2), (3, .int v3), (4, .int v4), (5, .int v5), (6, .int v6)] 11 []) (hret : ∀ (pc : Nat) (lv : List (Nat × Value)), decode cX7_comesTo pc = .ok (.ireturn, 1) → k_G D l E (pic_X7 D a mp mg mc ml res.2 mh ms mr mi) lv pc [.int (bI res.1)]) (hf : fX7_comesTo_b312 N mg k11 v1 v2 v3 v4 v5 v6 s1 s2 mq = some res) : k_G D l E (pic_X7 D a mp mg mc ml mq mh ms mr mi) [(0, .ref (a 0)), (1, .int v1), (2, .int v2), (3, .int v3), (4, .int v4), (5, .int v5), (6, .int v6)] 312 [.long s2, .int s1, .ref (a 9)] := by
  unfold fX7_comesTo_b312 at hf
  obtain ⟨h_1, hf⟩ := k_guard hf
  refine g_lastore X dX7_comesTo_312 9 (f := mq.1) rfl rfl h_1 (ws2 := pic_X7 D a mp mg mc ml (vp_updL mq.1 (s1).toNatClampNeg s2, mq.2.1, mq.2.2.1, mq.2.2.2) mh ms mr mi) rfl (n := 313) rfl ?_
  refine g_aload_n X dX7_comesTo_313 0 rfl rfl (n := 314) rfl ?_
  refine g_get X dX7_comesTo_314 flX7_45 0 rfl (v := .ref (a 10)) rfl (n := 317) rfl ?_
  refine g_iload X dX7_comesTo_317 5 rfl (n := 319) rfl ?_
  refine g_lconst X dX7_comesTo_319 (v := 1) rfl (n := 320) rfl ?_
  obtain ⟨h_2, hf⟩ := k_guard hf
  refine g_lastore X dX7_comesTo_320 10 (f := mq.2.1) rfl rfl h_2 (ws2 := pic_X7 D a mp mg mc ml (vp_updL mq.1 (s1).toNatClampNeg s2, vp_updL mq.2.1 (v5).toNatClampNeg (1 : Int64), mq.2.2.1, mq.2.2.2) mh ms mr mi) rfl (n := 321) rfl ?_
  refine g_iinc X dX7_comesTo_321 5 rfl (v := v5 + 1) rfl (by decide) (lv2 := [(5, .int (v5 + 1)), (0, .ref (a 0)), (1, .int v1), (2, .int v2), (3, .int v3), (4, .int v4), (6, .int v6)]) rfl (n := 324) rfl ?_
  refine g_sub [1, 2, 3, 4, 5, 0, 6] (lv' := [(0, .ref (a 0)), (1, .int v1), (2, .int v2), (3, .int v3), (4, .int v4), (5, .int (v5 + 1)), (6, .int v6)]) rfl ?_
  exact wX7_comesTo_b324 X hk11 hret hf
set_option maxRecDepth 100000 in
set_option maxHeartbeats 4000000 in
theorem wX7_comesTo_b209 {D : va_G} {l : Launch} {E : k_E} {N : Nat} {a : Nat → Nat} {k11 : Int32 → Int32 → Int32 → Int32 → Int32 → Int32 → VMq → Option (Bool × VMq)} {v1 : Int32} {v2 : Int32} {v3 : Int32} {v4 : Int32} {v5 : Int32} {v6 : Int32} {v16 : Int64} {s0 : Int64} {mp : VMp} {mg : VMg} {mc : Nat → Int64} {ml : VMl} {mq : VMq} {mh : VMh} {ms : VMs} {mr : Nat → Int32} {mi : VMi} {res : Bool × VMq} (X : k_X D E cX7_comesTo RX7 22 1 29) (hk11 : ∀ (v1 : Int32) (v2 : Int32) (v3 : Int32) (v4 : Int32) (v5 : Int32) (v6 : Int32) (mq : VMq), k11 v1 v2 v3 v4 v5 v6 mq = some res → k_G D l E (pic_X7 D a mp mg mc ml mq mh ms mr mi) [(0, .ref (a 0)), (1, .int v1), (2, .int v2), (3, .int v3), (4, .int v4), (5, .int v5), (6, .int v6)] 11 []) (hret : ∀ (pc : Nat) (lv : List (Nat × Value)), decode cX7_comesTo pc = .ok (.ireturn, 1) → k_G D l E (pic_X7 D a mp mg mc ml res.2 mh ms mr mi) lv pc [.int (bI res.1)]) (hf : fX7_comesTo_b209 N mg k11 v1 v2 v3 v4 v5 v6 v16 s0 mq = some res) : k_G D l E (pic_X7 D a mp mg mc ml mq mh ms mr mi) [(0, .ref (a 0)), (1, .int v1), (2, .int v2), (3, .int v3), (4, .int v4), (5, .int v5), (6, .int v6), (16, .long v16)] 209 [.long s0] := by
  unfold fX7_comesTo_b209 at hf
  refine g_lstore X dX7_comesTo_209 (by decide) (lv2 := [(18, .long s0), (0, .ref (a 0)), (1, .int v1), (2, .int v2), (3, .int v3), (4, .int v4), (5, .int v5), (6, .int v6), (16, .long v16)]) rfl (n := 211) rfl ?_
  refine g_lload X dX7_comesTo_211 8 rfl (n := 213) rfl ?_
  refine g_lload X dX7_comesTo_213 0 rfl (n := 215) rfl ?_
  obtain ⟨x_1, g_2, hf⟩ := k_b1s hf
  refine g_callS0 X (mX7_common (D := D) (l := l)  g_2) lk_X7_common mlX7_62 dX7_comesTo_215 (n := 218) rfl (st := []) rfl (st2 := [.long x_1]) rfl rfl ⟨Nat.le_of_ble_eq_true rfl, Nat.le_of_ble_eq_true rfl⟩ (Nat.le_of_ble_eq_true rfl) ?_
  refine g_lstore X dX7_comesTo_218 (by decide) (lv2 := [(20, .long x_1), (18, .long s0), (0, .ref (a 0)), (1, .int v1), (2, .int v2), (3, .int v3), (4, .int v4), (5, .int v5), (6, .int v6), (16, .long v16)]) rfl (n := 220) rfl ?_
  refine g_aload_n X dX7_comesTo_220 2 rfl rfl (n := 221) rfl ?_
  refine g_get X dX7_comesTo_221 flX7_42 0 rfl (v := .ref (a 9)) rfl (n := 224) rfl ?_
  refine g_iload X dX7_comesTo_224 7 rfl (n := 226) rfl ?_
  refine g_iconst X dX7_comesTo_226 (v := 1) (by decide) (n := 227) rfl ?_
  refine g_isub X dX7_comesTo_227 (n := 228) rfl ?_
  refine g_lload X dX7_comesTo_228 9 rfl (n := 230) rfl ?_
  refine g_lload X dX7_comesTo_230 0 rfl (n := 232) rfl ?_
  obtain ⟨h_3, hf⟩ := k_guardN hf
  refine g_ldiv X dX7_comesTo_232 h_3 (n := 233) rfl ?_
  obtain ⟨h_4, hf⟩ := k_guard hf
  refine g_lastore X dX7_comesTo_233 9 (f := mq.1) rfl rfl h_4 (ws2 := pic_X7 D a mp mg mc ml (vp_updL mq.1 ((v5 - 1)).toNatClampNeg (v16 / x_1), mq.2.1, mq.2.2.1, mq.2.2.2) mh ms mr mi) rfl (n := 234) rfl ?_
  refine g_aload_n X dX7_comesTo_234 2 rfl rfl (n := 235) rfl ?_
  refine g_get X dX7_comesTo_235 flX7_45 0 rfl (v := .ref (a 10)) rfl (n := 238) rfl ?_
  refine g_iload X dX7_comesTo_238 7 rfl (n := 240) rfl ?_
  refine g_iconst X dX7_comesTo_240 (v := 1) (by decide) (n := 241) rfl ?_
  refine g_isub X dX7_comesTo_241 (n := 242) rfl ?_
  refine g_lload X dX7_comesTo_242 1 rfl (n := 244) rfl ?_
  refine g_lload X dX7_comesTo_244 0 rfl (n := 246) rfl ?_
  obtain ⟨h_5, hf⟩ := k_guardN hf
  refine g_ldiv X dX7_comesTo_246 h_5 (n := 247) rfl ?_
  obtain ⟨h_6, hf⟩ := k_guard hf
  refine g_lastore X dX7_comesTo_247 10 (f := mq.2.1) rfl rfl h_6 (ws2 := pic_X7 D a mp mg mc ml (vp_updL mq.1 ((v5 - 1)).toNatClampNeg (v16 / x_1), vp_updL mq.2.1 ((v5 - 1)).toNatClampNeg (s0 / x_1), mq.2.2.1, mq.2.2.2) mh ms mr mi) rfl (n := 248) rfl ?_
  refine g_goto X dX7_comesTo_248 (n := 324) (by decide) ?_
  refine g_sub [2, 3, 4, 5, 6, 7, 8] (lv' := [(0, .ref (a 0)), (1, .int v1), (2, .int v2), (3, .int v3), (4, .int v4), (5, .int v5), (6, .int v6)]) rfl ?_
  exact wX7_comesTo_b324 X hk11 hret hf
set_option maxRecDepth 100000 in
set_option maxHeartbeats 4000000 in
theorem wX7_comesTo_b200 {D : va_G} {l : Launch} {E : k_E} {N : Nat} {a : Nat → Nat} {k11 : Int32 → Int32 → Int32 → Int32 → Int32 → Int32 → VMq → Option (Bool × VMq)} {v1 : Int32} {v2 : Int32} {v3 : Int32} {v4 : Int32} {v5 : Int32} {v6 : Int32} {v16 : Int64} {s0 : Int64} {s1 : Int64} {mp : VMp} {mg : VMg} {mc : Nat → Int64} {ml : VMl} {mq : VMq} {mh : VMh} {ms : VMs} {mr : Nat → Int32} {mi : VMi} {res : Bool × VMq} (X : k_X D E cX7_comesTo RX7 22 1 29) (hk11 : ∀ (v1 : Int32) (v2 : Int32) (v3 : Int32) (v4 : Int32) (v5 : Int32) (v6 : Int32) (mq : VMq), k11 v1 v2 v3 v4 v5 v6 mq = some res → k_G D l E (pic_X7 D a mp mg mc ml mq mh ms mr mi) [(0, .ref (a 0)), (1, .int v1), (2, .int v2), (3, .int v3), (4, .int v4), (5, .int v5), (6, .int v6)] 11 []) (hret : ∀ (pc : Nat) (lv : List (Nat × Value)), decode cX7_comesTo pc = .ok (.ireturn, 1) → k_G D l E (pic_X7 D a mp mg mc ml res.2 mh ms mr mi) lv pc [.int (bI res.1)]) (hf : fX7_comesTo_b200 N mg k11 v1 v2 v3 v4 v5 v6 v16 s0 s1 mq = some res) : k_G D l E (pic_X7 D a mp mg mc ml mq mh ms mr mi) [(0, .ref (a 0)), (1, .int v1), (2, .int v2), (3, .int v3), (4, .int v4), (5, .int v5), (6, .int v6), (16, .long v16)] 200 [.long s1, .long s0] := by
  unfold fX7_comesTo_b200 at hf
  refine g_lmul X dX7_comesTo_200 (n := 201) rfl ?_
  refine g_goto X dX7_comesTo_201 (n := 209) (by decide) ?_
  refine g_sub [0, 1, 2, 3, 4, 5, 6, 7] (lv' := [(0, .ref (a 0)), (1, .int v1), (2, .int v2), (3, .int v3), (4, .int v4), (5, .int v5), (6, .int v6), (16, .long v16)]) rfl ?_
  exact wX7_comesTo_b209 X hk11 hret hf
set_option maxRecDepth 100000 in
set_option maxHeartbeats 4000000 in
theorem wX7_comesTo_b174 {D : va_G} {l : Launch} {E : k_E} {N : Nat} {a : Nat → Nat} {k11 : Int32 → Int32 → Int32 → Int32 → Int32 → Int32 → VMq → Option (Bool × VMq)} {v1 : Int32} {v2 : Int32} {v3 : Int32} {v4 : Int32} {v5 : Int32} {v6 : Int32} {v7 : Int32} {v10 : Int64} {v12 : Int64} {v14 : Int64} {s0 : Int64} {mp : VMp} {mg : VMg} {mc : Nat → Int64} {ml : VMl} {mq : VMq} {mh : VMh} {ms : VMs} {mr : Nat → Int32} {mi : VMi} {res : Bool × VMq} (X : k_X D E cX7_comesTo RX7 22 1 29) (hk11 : ∀ (v1 : Int32) (v2 : Int32) (v3 : Int32) (v4 : Int32) (v5 : Int32) (v6 : Int32) (mq : VMq), k11 v1 v2 v3 v4 v5 v6 mq = some res → k_G D l E (pic_X7 D a mp mg mc ml mq mh ms mr mi) [(0, .ref (a 0)), (1, .int v1), (2, .int v2), (3, .int v3), (4, .int v4), (5, .int v5), (6, .int v6)] 11 []) (hret : ∀ (pc : Nat) (lv : List (Nat × Value)), decode cX7_comesTo pc = .ok (.ireturn, 1) → k_G D l E (pic_X7 D a mp mg mc ml res.2 mh ms mr mi) lv pc [.int (bI res.1)]) (hf : fX7_comesTo_b174 N mg k11 v1 v2 v3 v4 v5 v6 v7 v10 v12 v14 s0 mq = some res) : k_G D l E (pic_X7 D a mp mg mc ml mq mh ms mr mi) [(0, .ref (a 0)), (1, .int v1), (2, .int v2), (3, .int v3), (4, .int v4), (5, .int v5), (6, .int v6), (7, .int v7), (10, .long v10), (12, .long v12), (14, .long v14)] 174 [.long s0] := by
  unfold fX7_comesTo_b174 at hf
  refine g_lstore X dX7_comesTo_174 (by decide) (lv2 := [(16, .long s0), (0, .ref (a 0)), (1, .int v1), (2, .int v2), (3, .int v3), (4, .int v4), (5, .int v5), (6, .int v6), (7, .int v7), (10, .long v10), (12, .long v12), (14, .long v14)]) rfl (n := 176) rfl ?_
  refine g_iload X dX7_comesTo_176 8 rfl (n := 178) rfl ?_
  refine g_bipush X dX7_comesTo_178 (v := 47) (by decide) (n := 180) rfl ?_
  refine g_icmp_ne X dX7_comesTo_180 (t := 204) (by decide) (n := 183) rfl (fun c_1 => ?_) (fun c_1 => ?_)
  · replace hf := k_neg c_1 hf
    refine g_lload X dX7_comesTo_204 9 rfl (n := 206) rfl ?_
    refine g_lload X dX7_comesTo_206 11 rfl (n := 208) rfl ?_
    refine g_lmul X dX7_comesTo_208 (n := 209) rfl ?_
    refine g_sub [1, 2, 3, 4, 5, 6, 7, 0] (lv' := [(0, .ref (a 0)), (1, .int v1), (2, .int v2), (3, .int v3), (4, .int v4), (5, .int v5), (6, .int v6), (16, .long s0)]) rfl ?_
    exact wX7_comesTo_b209 X hk11 hret hf
  · replace hf := k_pos c_1 hf
    refine g_lload X dX7_comesTo_183 9 rfl (n := 185) rfl ?_
    refine g_lload X dX7_comesTo_185 10 rfl (n := 187) rfl ?_
    refine g_lconst X dX7_comesTo_187 (v := 0) rfl (n := 188) rfl ?_
    refine g_lcmp_ge X dX7_comesTo_188 dX7_comesTo_189 (t := 198) (by decide) (n := 192) rfl (fun c_2 => ?_) (fun c_2 => ?_)
    · replace hf := k_pos c_2 hf
      refine g_lload X dX7_comesTo_198 10 rfl (n := 200) rfl ?_
      refine g_sub [1, 2, 3, 4, 5, 6, 7, 0] (lv' := [(0, .ref (a 0)), (1, .int v1), (2, .int v2), (3, .int v3), (4, .int v4), (5, .int v5), (6, .int v6), (16, .long s0)]) rfl ?_
      exact wX7_comesTo_b200 X hk11 hret hf
    · replace hf := k_neg c_2 hf
      refine g_lload X dX7_comesTo_192 10 rfl (n := 194) rfl ?_
      refine g_lneg X dX7_comesTo_194 (n := 195) rfl ?_
      refine g_goto X dX7_comesTo_195 (n := 200) (by decide) ?_
      refine g_sub [1, 2, 3, 4, 5, 6, 7, 0] (lv' := [(0, .ref (a 0)), (1, .int v1), (2, .int v2), (3, .int v3), (4, .int v4), (5, .int v5), (6, .int v6), (16, .long s0)]) rfl ?_
      exact wX7_comesTo_b200 X hk11 hret hf
set_option maxRecDepth 100000 in
set_option maxHeartbeats 4000000 in
theorem wX7_comesTo_b96 {D : va_G} {l : Launch} {E : k_E} {N : Nat} {a : Nat → Nat} {k11 : Int32 → Int32 → Int32 → Int32 → Int32 → Int32 → VMq → Option (Bool × VMq)} {v1 : Int32} {v2 : Int32} {v3 : Int32} {v4 : Int32} {v5 : Int32} {v6 : Int32} {v7 : Int32} {v8 : Int64} {v10 : Int64} {v12 : Int64} {v14 : Int64} {mp : VMp} {mg : VMg} {mc : Nat → Int64} {ml : VMl} {mq : VMq} {mh : VMh} {ms : VMs} {mr : Nat → Int32} {mi : VMi} {res : Bool × VMq} (X : k_X D E cX7_comesTo RX7 22 1 29) (hk11 : ∀ (v1 : Int32) (v2 : Int32) (v3 : Int32) (v4 : Int32) (v5 : Int32) (v6 : Int32) (mq : VMq), k11 v1 v2 v3 v4 v5 v6 mq = some res → k_G D l E (pic_X7 D a mp mg mc ml mq mh ms mr mi) [(0, .ref (a 0)), (1, .int v1), (2, .int v2), (3, .int v3), (4, .int v4), (5, .int v5), (6, .int v6)] 11 []) (hret : ∀ (pc : Nat) (lv : List (Nat × Value)), decode cX7_comesTo pc = .ok (.ireturn, 1) → k_G D l E (pic_X7 D a mp mg mc ml res.2 mh ms mr mi) lv pc [.int (bI res.1)]) (hf : fX7_comesTo_b96 N mg k11 v1 v2 v3 v4 v5 v6 v7 v8 v10 v12 v14 mq = some res) : k_G D l E (pic_X7 D a mp mg mc ml mq mh ms mr mi) [(0, .ref (a 0)), (1, .int v1), (2, .int v2), (3, .int v3), (4, .int v4), (5, .int v5), (6, .int v6), (7, .int v7), (8, .long v8), (10, .long v10), (12, .long v12), (14, .long v14)] 96 [] := by
  unfold fX7_comesTo_b96 at hf
  refine g_iload X dX7_comesTo_96 7 rfl (n := 98) rfl ?_
  refine g_bipush X dX7_comesTo_98 (v := 43) (by decide) (n := 100) rfl ?_
  refine g_icmp_ne X dX7_comesTo_100 (t := 117) (by decide) (n := 103) rfl (fun c_1 => ?_) (fun c_1 => ?_)
  · replace hf := k_neg c_1 hf
    refine g_iload X dX7_comesTo_117 7 rfl (n := 119) rfl ?_
    refine g_bipush X dX7_comesTo_119 (v := 45) (by decide) (n := 121) rfl ?_
    refine g_icmp_ne X dX7_comesTo_121 (t := 138) (by decide) (n := 124) rfl (fun c_2 => ?_) (fun c_2 => ?_)
    · replace hf := k_neg c_2 hf
      refine g_iload X dX7_comesTo_138 7 rfl (n := 140) rfl ?_
      refine g_bipush X dX7_comesTo_140 (v := 42) (by decide) (n := 142) rfl ?_
      refine g_icmp_ne X dX7_comesTo_142 (t := 153) (by decide) (n := 145) rfl (fun c_3 => ?_) (fun c_3 => ?_)
      · replace hf := k_neg c_3 hf
        refine g_lload X dX7_comesTo_153 10 rfl (n := 155) rfl ?_
        refine g_lconst X dX7_comesTo_155 (v := 0) rfl (n := 156) rfl ?_
        refine g_lcmp_ge X dX7_comesTo_156 dX7_comesTo_157 (t := 169) (by decide) (n := 160) rfl (fun c_4 => ?_) (fun c_4 => ?_)
        · replace hf := k_pos c_4 hf
          refine g_lload X dX7_comesTo_169 8 rfl (n := 171) rfl ?_
          refine g_lload X dX7_comesTo_171 11 rfl (n := 173) rfl ?_
          refine g_lmul X dX7_comesTo_173 (n := 174) rfl ?_
          refine g_sub [0, 1, 2, 3, 4, 5, 6, 7, 9, 10, 11] (lv' := [(0, .ref (a 0)), (1, .int v1), (2, .int v2), (3, .int v3), (4, .int v4), (5, .int v5), (6, .int v6), (7, .int v7), (10, .long v10), (12, .long v12), (14, .long v14)]) rfl ?_
          exact wX7_comesTo_b174 X hk11 hret hf
        · replace hf := k_neg c_4 hf
          refine g_lload X dX7_comesTo_160 8 rfl (n := 162) rfl ?_
          refine g_lneg X dX7_comesTo_162 (n := 163) rfl ?_
          refine g_lload X dX7_comesTo_163 11 rfl (n := 165) rfl ?_
          refine g_lmul X dX7_comesTo_165 (n := 166) rfl ?_
          refine g_goto X dX7_comesTo_166 (n := 174) (by decide) ?_
          refine g_sub [0, 1, 2, 3, 4, 5, 6, 7, 9, 10, 11] (lv' := [(0, .ref (a 0)), (1, .int v1), (2, .int v2), (3, .int v3), (4, .int v4), (5, .int v5), (6, .int v6), (7, .int v7), (10, .long v10), (12, .long v12), (14, .long v14)]) rfl ?_
          exact wX7_comesTo_b174 X hk11 hret hf
      · replace hf := k_pos c_3 hf
        refine g_lload X dX7_comesTo_145 8 rfl (n := 147) rfl ?_
        refine g_lload X dX7_comesTo_147 10 rfl (n := 149) rfl ?_
        refine g_lmul X dX7_comesTo_149 (n := 150) rfl ?_
        refine g_goto X dX7_comesTo_150 (n := 174) (by decide) ?_
        refine g_sub [0, 1, 2, 3, 4, 5, 6, 7, 9, 10, 11] (lv' := [(0, .ref (a 0)), (1, .int v1), (2, .int v2), (3, .int v3), (4, .int v4), (5, .int v5), (6, .int v6), (7, .int v7), (10, .long v10), (12, .long v12), (14, .long v14)]) rfl ?_
        exact wX7_comesTo_b174 X hk11 hret hf
    · replace hf := k_pos c_2 hf
      refine g_lload X dX7_comesTo_124 8 rfl (n := 126) rfl ?_
      refine g_lload X dX7_comesTo_126 11 rfl (n := 128) rfl ?_
      refine g_lmul X dX7_comesTo_128 (n := 129) rfl ?_
      refine g_lload X dX7_comesTo_129 10 rfl (n := 131) rfl ?_
      refine g_lload X dX7_comesTo_131 9 rfl (n := 133) rfl ?_
      refine g_lmul X dX7_comesTo_133 (n := 134) rfl ?_
      refine g_lsub X dX7_comesTo_134 (n := 135) rfl ?_
      refine g_goto X dX7_comesTo_135 (n := 174) (by decide) ?_
      refine g_sub [0, 1, 2, 3, 4, 5, 6, 7, 9, 10, 11] (lv' := [(0, .ref (a 0)), (1, .int v1), (2, .int v2), (3, .int v3), (4, .int v4), (5, .int v5), (6, .int v6), (7, .int v7), (10, .long v10), (12, .long v12), (14, .long v14)]) rfl ?_
      exact wX7_comesTo_b174 X hk11 hret hf
  · replace hf := k_pos c_1 hf
    refine g_lload X dX7_comesTo_103 8 rfl (n := 105) rfl ?_
    refine g_lload X dX7_comesTo_105 11 rfl (n := 107) rfl ?_
    refine g_lmul X dX7_comesTo_107 (n := 108) rfl ?_
    refine g_lload X dX7_comesTo_108 10 rfl (n := 110) rfl ?_
    refine g_lload X dX7_comesTo_110 9 rfl (n := 112) rfl ?_
    refine g_lmul X dX7_comesTo_112 (n := 113) rfl ?_
    refine g_ladd X dX7_comesTo_113 (n := 114) rfl ?_
    refine g_goto X dX7_comesTo_114 (n := 174) (by decide) ?_
    refine g_sub [0, 1, 2, 3, 4, 5, 6, 7, 9, 10, 11] (lv' := [(0, .ref (a 0)), (1, .int v1), (2, .int v2), (3, .int v3), (4, .int v4), (5, .int v5), (6, .int v6), (7, .int v7), (10, .long v10), (12, .long v12), (14, .long v14)]) rfl ?_
    exact wX7_comesTo_b174 X hk11 hret hf
set_option maxRecDepth 100000 in
set_option maxHeartbeats 4000000 in
theorem wX7_comesTo_b11 {D : va_G} {l : Launch} {E : k_E} {N : Nat} {a : Nat → Nat} {k11 : Int32 → Int32 → Int32 → Int32 → Int32 → Int32 → VMq → Option (Bool × VMq)} {v1 : Int32} {v2 : Int32} {v3 : Int32} {v4 : Int32} {v5 : Int32} {v6 : Int32} {mp : VMp} {mg : VMg} {mc : Nat → Int64} {ml : VMl} {mq : VMq} {mh : VMh} {ms : VMs} {mr : Nat → Int32} {mi : VMi} {res : Bool × VMq} (X : k_X D E cX7_comesTo RX7 22 1 29) (hk11 : ∀ (v1 : Int32) (v2 : Int32) (v3 : Int32) (v4 : Int32) (v5 : Int32) (v6 : Int32) (mq : VMq), k11 v1 v2 v3 v4 v5 v6 mq = some res → k_G D l E (pic_X7 D a mp mg mc ml mq mh ms mr mi) [(0, .ref (a 0)), (1, .int v1), (2, .int v2), (3, .int v3), (4, .int v4), (5, .int v5), (6, .int v6)] 11 []) (hret : ∀ (pc : Nat) (lv : List (Nat × Value)), decode cX7_comesTo pc = .ok (.ireturn, 1) → k_G D l E (pic_X7 D a mp mg mc ml res.2 mh ms mr mi) lv pc [.int (bI res.1)]) (hf : fX7_comesTo_b11 N mg k11 v1 v2 v3 v4 v5 v6 mq = some res) : k_G D l E (pic_X7 D a mp mg mc ml mq mh ms mr mi) [(0, .ref (a 0)), (1, .int v1), (2, .int v2), (3, .int v3), (4, .int v4), (5, .int v5), (6, .int v6)] 11 [] := by
  unfold fX7_comesTo_b11 at hf
  refine g_iload X dX7_comesTo_11 6 rfl (n := 13) rfl ?_
  refine g_if_lt X dX7_comesTo_13 (t := 330) (by decide) (n := 16) rfl (fun c_1 => ?_) (fun c_1 => ?_)
  · replace hf := k_pos c_1 hf
    refine g_aload_n X dX7_comesTo_330 0 rfl rfl (n := 331) rfl ?_
    refine g_aload_n X dX7_comesTo_331 0 rfl rfl (n := 332) rfl ?_
    refine g_get X dX7_comesTo_332 flX7_42 0 rfl (v := .ref (a 9)) rfl (n := 335) rfl ?_
    refine g_iconst X dX7_comesTo_335 (v := 0) (by decide) (n := 336) rfl ?_
    obtain ⟨h_2, hf⟩ := k_guard hf
    refine g_laload X dX7_comesTo_336 9 (f := mq.1) rfl rfl h_2 (n := 337) rfl ?_
    refine g_put X dX7_comesTo_337 flX7_118 0 rfl rfl rfl (Nat.le_of_ble_eq_true rfl) (ws2 := pic_X7 D a mp mg mc ml (mq.1, mq.2.1, (mq.1 ((0 : Int32)).toNatClampNeg), mq.2.2.2) mh ms mr mi) rfl (n := 340) rfl ?_
    refine g_aload_n X dX7_comesTo_340 0 rfl rfl (n := 341) rfl ?_
    refine g_aload_n X dX7_comesTo_341 0 rfl rfl (n := 342) rfl ?_
    refine g_get X dX7_comesTo_342 flX7_45 0 rfl (v := .ref (a 10)) rfl (n := 345) rfl ?_
    refine g_iconst X dX7_comesTo_345 (v := 0) (by decide) (n := 346) rfl ?_
    obtain ⟨h_3, hf⟩ := k_guard hf
    refine g_laload X dX7_comesTo_346 10 (f := mq.2.1) rfl rfl h_3 (n := 347) rfl ?_
    refine g_put X dX7_comesTo_347 flX7_122 0 rfl rfl rfl (Nat.le_of_ble_eq_true rfl) (ws2 := pic_X7 D a mp mg mc ml (mq.1, mq.2.1, (mq.1 ((0 : Int32)).toNatClampNeg), (mq.2.1 ((0 : Int32)).toNatClampNeg)) mh ms mr mi) rfl (n := 350) rfl ?_
    refine g_iconst X dX7_comesTo_350 (v := 1) (by decide) (n := 351) rfl ?_
    obtain rfl := Option.some.inj hf
    exact hret _ _ dX7_comesTo_351
  · replace hf := k_neg c_1 hf
    refine g_aload_n X dX7_comesTo_16 0 rfl rfl (n := 17) rfl ?_
    refine g_get X dX7_comesTo_17 flX7_32 0 rfl (v := .ref (a 6)) rfl (n := 20) rfl ?_
    refine g_iload X dX7_comesTo_20 6 rfl (n := 22) rfl ?_
    obtain ⟨h_4, hf⟩ := k_guard hf
    refine g_iaload X dX7_comesTo_22 6 (f := mg.2.2.2.2.2.2) rfl rfl h_4 (n := 23) rfl ?_
    refine g_istore X dX7_comesTo_23 (by decide) (lv2 := [(7, .int (mg.2.2.2.2.2.2 v6.toNatClampNeg)), (0, .ref (a 0)), (1, .int v1), (2, .int v2), (3, .int v3), (4, .int v4), (5, .int v5), (6, .int v6)]) rfl (n := 25) rfl ?_
    refine g_iload X dX7_comesTo_25 0 rfl (n := 27) rfl ?_
    obtain ⟨x_5, g_6, hf⟩ := k_b1s hf
    refine g_callS0 X (mX7_isAct (D := D) (l := l)  g_6) lk_X7_isAct mlX7_76 dX7_comesTo_27 (n := 30) rfl (st := []) rfl (st2 := [.int (bI x_5)]) rfl rfl ⟨Nat.le_of_ble_eq_true rfl, Nat.le_of_ble_eq_true rfl⟩ (Nat.le_of_ble_eq_true rfl) ?_
    refine g_if_eqB X dX7_comesTo_30 (t := 251) (by decide) (n := 33) rfl (fun c_7 => ?_) (fun c_7 => ?_)
    · replace hf := k_neg c_7 hf
      refine g_aload_n X dX7_comesTo_251 1 rfl rfl (n := 252) rfl ?_
      refine g_get X dX7_comesTo_252 flX7_42 0 rfl (v := .ref (a 9)) rfl (n := 255) rfl ?_
      refine g_iload X dX7_comesTo_255 6 rfl (n := 257) rfl ?_
      refine g_iload X dX7_comesTo_257 0 rfl (n := 259) rfl ?_
      refine g_bipush X dX7_comesTo_259 (v := 78) (by decide) (n := 261) rfl ?_
      refine g_icmp_ne X dX7_comesTo_261 (t := 269) (by decide) (n := 264) rfl (fun c_8 => ?_) (fun c_8 => ?_)
      · replace hf := k_neg c_8 hf
        refine g_iload X dX7_comesTo_269 0 rfl (n := 271) rfl ?_
        refine g_bipush X dX7_comesTo_271 (v := 107) (by decide) (n := 273) rfl ?_
        refine g_icmp_ne X dX7_comesTo_273 (t := 281) (by decide) (n := 276) rfl (fun c_9 => ?_) (fun c_9 => ?_)
        · replace hf := k_neg c_9 hf
          refine g_iload X dX7_comesTo_281 0 rfl (n := 283) rfl ?_
          refine g_bipush X dX7_comesTo_283 (v := 118) (by decide) (n := 285) rfl ?_
          refine g_icmp_ne X dX7_comesTo_285 (t := 293) (by decide) (n := 288) rfl (fun c_10 => ?_) (fun c_10 => ?_)
          · replace hf := k_neg c_10 hf
            refine g_iload X dX7_comesTo_293 0 rfl (n := 295) rfl ?_
            refine g_bipush X dX7_comesTo_295 (v := 100) (by decide) (n := 297) rfl ?_
            refine g_icmp_ne X dX7_comesTo_297 (t := 306) (by decide) (n := 300) rfl (fun c_11 => ?_) (fun c_11 => ?_)
            · replace hf := k_neg c_11 hf
              refine g_iload X dX7_comesTo_306 0 rfl (n := 308) rfl ?_
              refine g_bipush X dX7_comesTo_308 (v := 48) (by decide) (n := 310) rfl ?_
              refine g_isub X dX7_comesTo_310 (n := 311) rfl ?_
              refine g_i2l X dX7_comesTo_311 (n := 312) rfl ?_
              refine g_sub [1, 2, 3, 4, 5, 6, 7] (lv' := [(0, .ref (a 0)), (1, .int v1), (2, .int v2), (3, .int v3), (4, .int v4), (5, .int v5), (6, .int v6)]) rfl ?_
              exact wX7_comesTo_b312 X hk11 hret hf
            · replace hf := k_pos c_11 hf
              refine g_iload X dX7_comesTo_300 5 rfl (n := 302) rfl ?_
              refine g_i2l X dX7_comesTo_302 (n := 303) rfl ?_
              refine g_goto X dX7_comesTo_303 (n := 312) (by decide) ?_
              refine g_sub [1, 2, 3, 4, 5, 6, 7] (lv' := [(0, .ref (a 0)), (1, .int v1), (2, .int v2), (3, .int v3), (4, .int v4), (5, .int v5), (6, .int v6)]) rfl ?_
              exact wX7_comesTo_b312 X hk11 hret hf
          · replace hf := k_pos c_10 hf
            refine g_iload_n X dX7_comesTo_288 4 rfl rfl (n := 289) rfl ?_
            refine g_i2l X dX7_comesTo_289 (n := 290) rfl ?_
            refine g_goto X dX7_comesTo_290 (n := 312) (by decide) ?_
            refine g_sub [1, 2, 3, 4, 5, 6, 7] (lv' := [(0, .ref (a 0)), (1, .int v1), (2, .int v2), (3, .int v3), (4, .int v4), (5, .int v5), (6, .int v6)]) rfl ?_
            exact wX7_comesTo_b312 X hk11 hret hf
        · replace hf := k_pos c_9 hf
          refine g_iload_n X dX7_comesTo_276 3 rfl rfl (n := 277) rfl ?_
          refine g_i2l X dX7_comesTo_277 (n := 278) rfl ?_
          refine g_goto X dX7_comesTo_278 (n := 312) (by decide) ?_
          refine g_sub [1, 2, 3, 4, 5, 6, 7] (lv' := [(0, .ref (a 0)), (1, .int v1), (2, .int v2), (3, .int v3), (4, .int v4), (5, .int v5), (6, .int v6)]) rfl ?_
          exact wX7_comesTo_b312 X hk11 hret hf
      · replace hf := k_pos c_8 hf
        refine g_iload_n X dX7_comesTo_264 2 rfl rfl (n := 265) rfl ?_
        refine g_i2l X dX7_comesTo_265 (n := 266) rfl ?_
        refine g_goto X dX7_comesTo_266 (n := 312) (by decide) ?_
        refine g_sub [1, 2, 3, 4, 5, 6, 7] (lv' := [(0, .ref (a 0)), (1, .int v1), (2, .int v2), (3, .int v3), (4, .int v4), (5, .int v5), (6, .int v6)]) rfl ?_
        exact wX7_comesTo_b312 X hk11 hret hf
    · replace hf := k_pos c_7 hf
      refine g_aload_n X dX7_comesTo_33 1 rfl rfl (n := 34) rfl ?_
      refine g_get X dX7_comesTo_34 flX7_42 0 rfl (v := .ref (a 9)) rfl (n := 37) rfl ?_
      refine g_iload X dX7_comesTo_37 6 rfl (n := 39) rfl ?_
      refine g_iconst X dX7_comesTo_39 (v := 1) (by decide) (n := 40) rfl ?_
      refine g_isub X dX7_comesTo_40 (n := 41) rfl ?_
      obtain ⟨h_12, hf⟩ := k_guard hf
      refine g_laload X dX7_comesTo_41 9 (f := mq.1) rfl rfl h_12 (n := 42) rfl ?_
      refine g_lstore X dX7_comesTo_42 (by decide) (lv2 := [(8, .long (mq.1 (v5 - 1).toNatClampNeg)), (7, .int (mg.2.2.2.2.2.2 v6.toNatClampNeg)), (0, .ref (a 0)), (1, .int v1), (2, .int v2), (3, .int v3), (4, .int v4), (5, .int v5), (6, .int v6)]) rfl (n := 44) rfl ?_
      refine g_aload_n X dX7_comesTo_44 2 rfl rfl (n := 45) rfl ?_
      refine g_get X dX7_comesTo_45 flX7_45 0 rfl (v := .ref (a 10)) rfl (n := 48) rfl ?_
      refine g_iload X dX7_comesTo_48 7 rfl (n := 50) rfl ?_
      refine g_iconst X dX7_comesTo_50 (v := 1) (by decide) (n := 51) rfl ?_
      refine g_isub X dX7_comesTo_51 (n := 52) rfl ?_
      obtain ⟨h_13, hf⟩ := k_guard hf
      refine g_laload X dX7_comesTo_52 10 (f := mq.2.1) rfl rfl h_13 (n := 53) rfl ?_
      refine g_lstore X dX7_comesTo_53 (by decide) (lv2 := [(10, .long (mq.2.1 (v5 - 1).toNatClampNeg)), (8, .long (mq.1 (v5 - 1).toNatClampNeg)), (7, .int (mg.2.2.2.2.2.2 v6.toNatClampNeg)), (0, .ref (a 0)), (1, .int v1), (2, .int v2), (3, .int v3), (4, .int v4), (5, .int v5), (6, .int v6)]) rfl (n := 55) rfl ?_
      refine g_aload_n X dX7_comesTo_55 3 rfl rfl (n := 56) rfl ?_
      refine g_get X dX7_comesTo_56 flX7_42 0 rfl (v := .ref (a 9)) rfl (n := 59) rfl ?_
      refine g_iload X dX7_comesTo_59 8 rfl (n := 61) rfl ?_
      refine g_iconst X dX7_comesTo_61 (v := 2) (by decide) (n := 62) rfl ?_
      refine g_isub X dX7_comesTo_62 (n := 63) rfl ?_
      obtain ⟨h_14, hf⟩ := k_guard hf
      refine g_laload X dX7_comesTo_63 9 (f := mq.1) rfl rfl h_14 (n := 64) rfl ?_
      refine g_lstore X dX7_comesTo_64 (by decide) (lv2 := [(12, .long (mq.1 (v5 - 2).toNatClampNeg)), (10, .long (mq.2.1 (v5 - 1).toNatClampNeg)), (8, .long (mq.1 (v5 - 1).toNatClampNeg)), (7, .int (mg.2.2.2.2.2.2 v6.toNatClampNeg)), (0, .ref (a 0)), (1, .int v1), (2, .int v2), (3, .int v3), (4, .int v4), (5, .int v5), (6, .int v6)]) rfl (n := 66) rfl ?_
      refine g_aload_n X dX7_comesTo_66 4 rfl rfl (n := 67) rfl ?_
      refine g_get X dX7_comesTo_67 flX7_45 0 rfl (v := .ref (a 10)) rfl (n := 70) rfl ?_
      refine g_iload X dX7_comesTo_70 9 rfl (n := 72) rfl ?_
      refine g_iconst X dX7_comesTo_72 (v := 2) (by decide) (n := 73) rfl ?_
      refine g_isub X dX7_comesTo_73 (n := 74) rfl ?_
      obtain ⟨h_15, hf⟩ := k_guard hf
      refine g_laload X dX7_comesTo_74 10 (f := mq.2.1) rfl rfl h_15 (n := 75) rfl ?_
      refine g_lstore X dX7_comesTo_75 (by decide) (lv2 := [(14, .long (mq.2.1 (v5 - 2).toNatClampNeg)), (12, .long (mq.1 (v5 - 2).toNatClampNeg)), (10, .long (mq.2.1 (v5 - 1).toNatClampNeg)), (8, .long (mq.1 (v5 - 1).toNatClampNeg)), (7, .int (mg.2.2.2.2.2.2 v6.toNatClampNeg)), (0, .ref (a 0)), (1, .int v1), (2, .int v2), (3, .int v3), (4, .int v4), (5, .int v5), (6, .int v6)]) rfl (n := 77) rfl ?_
      refine g_iinc X dX7_comesTo_77 10 rfl (v := v5 + (-1)) rfl (by decide) (lv2 := [(5, .int (v5 + (-1))), (14, .long (mq.2.1 (v5 - 2).toNatClampNeg)), (12, .long (mq.1 (v5 - 2).toNatClampNeg)), (10, .long (mq.2.1 (v5 - 1).toNatClampNeg)), (8, .long (mq.1 (v5 - 1).toNatClampNeg)), (7, .int (mg.2.2.2.2.2.2 v6.toNatClampNeg)), (0, .ref (a 0)), (1, .int v1), (2, .int v2), (3, .int v3), (4, .int v4), (6, .int v6)]) rfl (n := 80) rfl ?_
      refine g_iload X dX7_comesTo_80 5 rfl (n := 82) rfl ?_
      refine g_bipush X dX7_comesTo_82 (v := 47) (by decide) (n := 84) rfl ?_
      refine g_icmp_ne X dX7_comesTo_84 (t := 96) (by decide) (n := 87) rfl (fun c_16 => ?_) (fun c_16 => ?_)
      · replace hf := k_neg c_16 hf
        refine g_sub [6, 7, 8, 9, 10, 0, 11, 5, 4, 3, 2, 1] (lv' := [(0, .ref (a 0)), (1, .int v1), (2, .int v2), (3, .int v3), (4, .int v4), (5, .int (v5 + (-1))), (6, .int v6), (7, .int (mg.2.2.2.2.2.2 v6.toNatClampNeg)), (8, .long (mq.1 (v5 - 1).toNatClampNeg)), (10, .long (mq.2.1 (v5 - 1).toNatClampNeg)), (12, .long (mq.1 (v5 - 2).toNatClampNeg)), (14, .long (mq.2.1 (v5 - 2).toNatClampNeg))]) rfl ?_
        exact wX7_comesTo_b96 X hk11 hret hf
      · replace hf := k_pos c_16 hf
        refine g_lload X dX7_comesTo_87 2 rfl (n := 89) rfl ?_
        refine g_lconst X dX7_comesTo_89 (v := 0) rfl (n := 90) rfl ?_
        refine g_lcmp_ne X dX7_comesTo_90 dX7_comesTo_91 (t := 96) (by decide) (n := 94) rfl (fun c_17 => ?_) (fun c_17 => ?_)
        · replace hf := k_neg c_17 hf
          refine g_sub [6, 7, 8, 9, 10, 0, 11, 5, 4, 3, 2, 1] (lv' := [(0, .ref (a 0)), (1, .int v1), (2, .int v2), (3, .int v3), (4, .int v4), (5, .int (v5 + (-1))), (6, .int v6), (7, .int (mg.2.2.2.2.2.2 v6.toNatClampNeg)), (8, .long (mq.1 (v5 - 1).toNatClampNeg)), (10, .long (mq.2.1 (v5 - 1).toNatClampNeg)), (12, .long (mq.1 (v5 - 2).toNatClampNeg)), (14, .long (mq.2.1 (v5 - 2).toNatClampNeg))]) rfl ?_
          exact wX7_comesTo_b96 X hk11 hret hf
        · replace hf := k_pos c_17 hf
          refine g_iconst X dX7_comesTo_94 (v := 0) (by decide) (n := 95) rfl ?_
          obtain rfl := Option.some.inj hf
          exact hret _ _ dX7_comesTo_95
set_option maxRecDepth 100000 in
set_option maxHeartbeats 4000000 in
theorem wX7_comesTo_l11 {D : va_G} {l : Launch} {E : k_E} {N : Nat} {a : Nat → Nat} {mp : VMp} {mg : VMg} {mc : Nat → Int64} {ml : VMl} {mh : VMh} {ms : VMs} {mr : Nat → Int32} {mi : VMi} {res : Bool × VMq} (X : k_X D E cX7_comesTo RX7 22 1 29) (hret : ∀ (pc : Nat) (lv : List (Nat × Value)), decode cX7_comesTo pc = .ok (.ireturn, 1) → k_G D l E (pic_X7 D a mp mg mc ml res.2 mh ms mr mi) lv pc [.int (bI res.1)]) : ∀ (n0 : Nat) (v1 : Int32) (v2 : Int32) (v3 : Int32) (v4 : Int32) (v5 : Int32) (v6 : Int32) (mq : VMq), fX7_comesTo_l11 N mg n0 v1 v2 v3 v4 v5 v6 mq = some res → k_G D l E (pic_X7 D a mp mg mc ml mq mh ms mr mi) [(0, .ref (a 0)), (1, .int v1), (2, .int v2), (3, .int v3), (4, .int v4), (5, .int v5), (6, .int v6)] 11 [] := by
  intro n0
  induction n0 with
  | zero => intro v1 v2 v3 v4 v5 v6 mq hf; cases hf
  | succ n0 ih => intro v1 v2 v3 v4 v5 v6 mq hf; exact wX7_comesTo_b11 (N := N) (k11 := fX7_comesTo_l11 N mg n0) X  ih hret hf
set_option maxRecDepth 100000 in
set_option maxHeartbeats 4000000 in
theorem wX7_comesTo {D : va_G} {l : Launch} {E : k_E} {N : Nat} {a : Nat → Nat} {p1 : Int32} {p2 : Int32} {p3 : Int32} {p4 : Int32} {mp : VMp} {mg : VMg} {mc : Nat → Int64} {ml : VMl} {mq : VMq} {mh : VMh} {ms : VMs} {mr : Nat → Int32} {mi : VMi} {res : Bool × VMq} (X : k_X D E cX7_comesTo RX7 22 1 29) (hret : ∀ (pc : Nat) (lv : List (Nat × Value)), decode cX7_comesTo pc = .ok (.ireturn, 1) → k_G D l E (pic_X7 D a mp mg mc ml res.2 mh ms mr mi) lv pc [.int (bI res.1)]) (hf : fX7_comesTo N mg p1 p2 p3 p4 mq = some res) : k_G D l E (pic_X7 D a mp mg mc ml mq mh ms mr mi) [(0, .ref (a 0)), (1, .int p1), (2, .int p2), (3, .int p3), (4, .int p4)] 0 [] := by
  unfold fX7_comesTo at hf
  refine g_iconst X dX7_comesTo_0 (v := 0) (by decide) (n := 1) rfl ?_
  refine g_istore X dX7_comesTo_1 (by decide) (lv2 := [(5, .int 0), (0, .ref (a 0)), (1, .int p1), (2, .int p2), (3, .int p3), (4, .int p4)]) rfl (n := 3) rfl ?_
  refine g_aload_n X dX7_comesTo_3 1 rfl rfl (n := 4) rfl ?_
  refine g_get X dX7_comesTo_4 flX7_29 0 rfl (v := .int mg.2.2.2.2.2.1) rfl (n := 7) rfl ?_
  refine g_iconst X dX7_comesTo_7 (v := 1) (by decide) (n := 8) rfl ?_
  refine g_isub X dX7_comesTo_8 (n := 9) rfl ?_
  refine g_istore X dX7_comesTo_9 (by decide) (lv2 := [(6, .int (mg.2.2.2.2.2.1 - 1)), (5, .int 0), (0, .ref (a 0)), (1, .int p1), (2, .int p2), (3, .int p3), (4, .int p4)]) rfl (n := 11) rfl ?_
  refine g_sub [2, 3, 4, 5, 6, 1, 0] (lv' := [(0, .ref (a 0)), (1, .int p1), (2, .int p2), (3, .int p3), (4, .int p4), (5, .int 0), (6, .int (mg.2.2.2.2.2.1 - 1))]) rfl ?_
  exact wX7_comesTo_l11 X  hret _ _ _ _ _ _ _ _ hf
set_option maxRecDepth 100000 in
set_option maxHeartbeats 4000000 in
theorem mX7_comesTo {l : Launch} {D : va_G} {N : Nat} {a : Nat → Nat} {p1 : Int32} {p2 : Int32} {p3 : Int32} {p4 : Int32} {mp : VMp} {mg : VMg} {mc : Nat → Int64} {ml : VMl} {mq : VMq} {mh : VMh} {ms : VMs} {mr : Nat → Int32} {mi : VMi} {res : Bool × VMq} (hf : fX7_comesTo N mg p1 p2 p3 p4 mq = some res) : k_Met l yX7_comesTo cX7_comesTo 22 (some .boolean) 1 29 D [.ref (a 0), .int p1, .int p2, .int p3, .int p4] (pic_X7 D a mp mg mc ml mq mh ms mr mi) (some (.int (bI res.1))) (pic_X7 D a mp mg mc ml res.2 mh ms mr mi) :=
  k_of_z (by decide) (Nat.le_of_ble_eq_true rfl) (fun E X hret => wX7_comesTo X hret hf)
set_option maxRecDepth 100000 in
set_option maxHeartbeats 4000000 in
theorem wX7_saysYes {D : va_G} {l : Launch} {E : k_E} {N : Nat} {a : Nat → Nat} {p1 : Int32} {p2 : Int32} {p3 : Int32} {p4 : Int32} {mp : VMp} {mg : VMg} {mc : Nat → Int64} {ml : VMl} {mq : VMq} {mh : VMh} {ms : VMs} {mr : Nat → Int32} {mi : VMi} {res : Bool × VMq} (X : k_X D E cX7_saysYes RX7 5 2 70) (hret : ∀ (pc : Nat) (lv : List (Nat × Value)), decode cX7_saysYes pc = .ok (.ireturn, 1) → k_G D l E (pic_X7 D a mp mg mc ml res.2 mh ms mr mi) lv pc [.int (bI res.1)]) (hf : fX7_saysYes N mg p1 p2 p3 p4 mq = some res) : k_G D l E (pic_X7 D a mp mg mc ml mq mh ms mr mi) [(0, .ref (a 0)), (1, .int p1), (2, .int p2), (3, .int p3), (4, .int p4)] 0 [] := by
  unfold fX7_saysYes at hf
  refine g_aload_n X dX7_saysYes_0 0 rfl rfl (n := 1) rfl ?_
  refine g_iload_n X dX7_saysYes_1 1 rfl rfl (n := 2) rfl ?_
  refine g_iload_n X dX7_saysYes_2 2 rfl rfl (n := 3) rfl ?_
  refine g_iload_n X dX7_saysYes_3 3 rfl rfl (n := 4) rfl ?_
  refine g_iload X dX7_saysYes_4 4 rfl (n := 6) rfl ?_
  obtain ⟨x_1, mq_2, g_3, hf⟩ := k_b2s hf
  refine g_callV0 X (mX7_comesTo (D := D) (l := l) (a := a) (mp := mp) (mc := mc) (ml := ml) (mh := mh) (ms := ms) (mr := mr) (mi := mi) g_3) lk_X7_comesTo mlX7_125 dX7_saysYes_6 (n := 9) rfl (st := []) rfl (st2 := [.int (bI x_1)]) rfl rfl rfl rfl (ws2 := pic_X7 D a mp mg mc ml mq_2 mh ms mr mi) (ad_X7 _ _ _ _ _ _ _ _ _ _ _ _ _ _ _ _ _ _ _ _) rfl ⟨Nat.le_of_ble_eq_true rfl, Nat.le_of_ble_eq_true rfl⟩ (Nat.le_of_ble_eq_true rfl) ?_
  refine g_if_eqB X dX7_saysYes_9 (t := 34) (by decide) (n := 12) rfl (fun c_4 => ?_) (fun c_4 => ?_)
  · replace hf := k_neg c_4 hf
    refine g_iconst X dX7_saysYes_34 (v := 0) (by decide) (n := 35) rfl ?_
    obtain rfl := Option.some.inj hf
    exact hret _ _ dX7_saysYes_35
  · replace hf := k_pos c_4 hf
    refine g_aload_n X dX7_saysYes_12 0 rfl rfl (n := 13) rfl ?_
    refine g_get X dX7_saysYes_13 flX7_118 0 rfl (v := .long mq_2.2.2.1) rfl (n := 16) rfl ?_
    refine g_aload_n X dX7_saysYes_16 0 rfl rfl (n := 17) rfl ?_
    refine g_get X dX7_saysYes_17 flX7_25 0 rfl (v := .int mg.2.2.2.2.1) rfl (n := 20) rfl ?_
    refine g_i2l X dX7_saysYes_20 (n := 21) rfl ?_
    refine g_aload_n X dX7_saysYes_21 0 rfl rfl (n := 22) rfl ?_
    refine g_get X dX7_saysYes_22 flX7_122 0 rfl (v := .long mq_2.2.2.2) rfl (n := 25) rfl ?_
    refine g_lmul X dX7_saysYes_25 (n := 26) rfl ?_
    refine g_lcmp_lt X dX7_saysYes_26 dX7_saysYes_27 (t := 34) (by decide) (n := 30) rfl (fun c_5 => ?_) (fun c_5 => ?_)
    · replace hf := k_pos c_5 hf
      refine g_iconst X dX7_saysYes_34 (v := 0) (by decide) (n := 35) rfl ?_
      obtain rfl := Option.some.inj hf
      exact hret _ _ dX7_saysYes_35
    · replace hf := k_neg c_5 hf
      refine g_iconst X dX7_saysYes_30 (v := 1) (by decide) (n := 31) rfl ?_
      refine g_goto X dX7_saysYes_31 (n := 35) (by decide) ?_
      obtain rfl := Option.some.inj hf
      exact hret _ _ dX7_saysYes_35
set_option maxRecDepth 100000 in
set_option maxHeartbeats 4000000 in
theorem mX7_saysYes {l : Launch} {D : va_G} {N : Nat} {a : Nat → Nat} {p1 : Int32} {p2 : Int32} {p3 : Int32} {p4 : Int32} {mp : VMp} {mg : VMg} {mc : Nat → Int64} {ml : VMl} {mq : VMq} {mh : VMh} {ms : VMs} {mr : Nat → Int32} {mi : VMi} {res : Bool × VMq} (hf : fX7_saysYes N mg p1 p2 p3 p4 mq = some res) : k_Met l yX7_saysYes cX7_saysYes 5 (some .boolean) 2 70 D [.ref (a 0), .int p1, .int p2, .int p3, .int p4] (pic_X7 D a mp mg mc ml mq mh ms mr mi) (some (.int (bI res.1))) (pic_X7 D a mp mg mc ml res.2 mh ms mr mi) :=
  k_of_z (by decide) (Nat.le_of_ble_eq_true rfl) (fun E X hret => wX7_saysYes X hret hf)
