/-! walks: X7_image X7_restore X7_told -/
set_option maxRecDepth 100000 in
set_option maxHeartbeats 4000000 in
theorem wX7_image_b138 {D : va_G} {l : Launch} {E : k_E} {N : Nat} {a : Nat → Nat} {k138 : Int32 → Int32 → Int32 → VMi → Option (Int32 × VMi)} {v1 : Int32} {v2 : Int32} {v3 : Int32} {mp : VMp} {mg : VMg} {mc : Nat → Int64} {ml : VMl} {mq : VMq} {mh : VMh} {ms : VMs} {mr : Nat → Int32} {mi : VMi} {res : Int32 × VMi} (X : k_X D E cX7_image RX7 4 1 22) (hk138 : ∀ (v1 : Int32) (v2 : Int32) (v3 : Int32) (mi : VMi), k138 v1 v2 v3 mi = some res → k_G D l E (pic_X7 D a mp mg mc ml mq mh ms mr mi) [(0, .ref (a 0)), (1, .int v1), (2, .int v2), (3, .int v3)] 138 []) (hret : ∀ (pc : Nat) (lv : List (Nat × Value)), decode cX7_image pc = .ok (.ireturn, 1) → k_G D l E (pic_X7 D a mp mg mc ml mq mh ms mr res.2) lv pc [.int res.1]) (hf : fX7_image_b138 N mg k138 v1 v2 v3 mi = some res) : k_G D l E (pic_X7 D a mp mg mc ml mq mh ms mr mi) [(0, .ref (a 0)), (1, .int v1), (2, .int v2), (3, .int v3)] 138 [] := by
  unfold fX7_image_b138 at hf
  refine g_iload_n X dX7_image_138 3 rfl rfl (n := 139) rfl ?_
  refine g_bipush X dX7_image_139 (v := 11) (by decide) (n := 141) rfl ?_
  refine g_icmp_ge X dX7_image_141 (t := 167) (by decide) (n := 144) rfl (fun c_1 => ?_) (fun c_1 => ?_)
  · replace hf := k_pos c_1 hf
    refine g_aload_n X dX7_image_167 0 rfl rfl (n := 168) rfl ?_
    refine g_get X dX7_image_168 flX7_54 0 rfl (v := .ref (a 13)) rfl (n := 171) rfl ?_
    refine g_iload_n X dX7_image_171 1 rfl rfl (n := 172) rfl ?_
    refine g_iconst X dX7_image_172 (v := 1) (by decide) (n := 173) rfl ?_
    obtain ⟨h_2, hf⟩ := k_guard hf
    refine g_bastore X dX7_image_173 13 (f := mi.2) rfl rfl h_2 (ws2 := pic_X7 D a mp mg mc ml mq mh ms mr (mi.1, upd mi.2 (v1).toNatClampNeg (vp_nar .boolean 1))) rfl (n := 174) rfl ?_
    refine g_iconst X dX7_image_174 (v := 1) (by decide) (n := 175) rfl ?_
    obtain rfl := Option.some.inj hf
    exact hret _ _ dX7_image_175
  · replace hf := k_neg c_1 hf
    refine g_aload_n X dX7_image_144 0 rfl rfl (n := 145) rfl ?_
    refine g_get X dX7_image_145 flX7_51 0 rfl (v := .ref (a 12)) rfl (n := 148) rfl ?_
    refine g_iload_n X dX7_image_148 2 rfl rfl (n := 149) rfl ?_
    refine g_bipush X dX7_image_149 (v := 80) (by decide) (n := 151) rfl ?_
    refine g_iadd X dX7_image_151 (n := 152) rfl ?_
    refine g_iload_n X dX7_image_152 3 rfl rfl (n := 153) rfl ?_
    refine g_iadd X dX7_image_153 (n := 154) rfl ?_
    refine g_aload_n X dX7_image_154 0 rfl rfl (n := 155) rfl ?_
    refine g_get X dX7_image_155 flX7_32 0 rfl (v := .ref (a 6)) rfl (n := 158) rfl ?_
    refine g_iload_n X dX7_image_158 3 rfl rfl (n := 159) rfl ?_
    obtain ⟨h_3, hf⟩ := k_guard hf
    refine g_iaload X dX7_image_159 6 (f := mg.2.2.2.2.2.2) rfl rfl h_3 (n := 160) rfl ?_
    obtain ⟨h_4, hf⟩ := k_guard hf
    refine g_iastore X dX7_image_160 12 (f := mi.1) rfl rfl h_4 (ws2 := pic_X7 D a mp mg mc ml mq mh ms mr (upd mi.1 (((v2 + 80) + v3)).toNatClampNeg (mg.2.2.2.2.2.2 v3.toNatClampNeg), mi.2)) rfl (n := 161) rfl ?_
    refine g_iinc X dX7_image_161 3 rfl (v := v3 + 1) rfl (by decide) (lv2 := [(3, .int (v3 + 1)), (0, .ref (a 0)), (1, .int v1), (2, .int v2)]) rfl (n := 164) rfl ?_
    refine g_goto X dX7_image_164 (n := 138) (by decide) ?_
    refine g_sub [1, 2, 3, 0] (lv' := [(0, .ref (a 0)), (1, .int v1), (2, .int v2), (3, .int (v3 + 1))]) rfl ?_
    exact hk138 _ _ _ _ hf
set_option maxRecDepth 100000 in
set_option maxHeartbeats 4000000 in
theorem wX7_image_l138 {D : va_G} {l : Launch} {E : k_E} {N : Nat} {a : Nat → Nat} {mp : VMp} {mg : VMg} {mc : Nat → Int64} {ml : VMl} {mq : VMq} {mh : VMh} {ms : VMs} {mr : Nat → Int32} {res : Int32 × VMi} (X : k_X D E cX7_image RX7 4 1 22) (hret : ∀ (pc : Nat) (lv : List (Nat × Value)), decode cX7_image pc = .ok (.ireturn, 1) → k_G D l E (pic_X7 D a mp mg mc ml mq mh ms mr res.2) lv pc [.int res.1]) : ∀ (n0 : Nat) (v1 : Int32) (v2 : Int32) (v3 : Int32) (mi : VMi), fX7_image_l138 N mg n0 v1 v2 v3 mi = some res → k_G D l E (pic_X7 D a mp mg mc ml mq mh ms mr mi) [(0, .ref (a 0)), (1, .int v1), (2, .int v2), (3, .int v3)] 138 [] := by
  intro n0
  induction n0 with
  | zero => intro v1 v2 v3 mi hf; cases hf
  | succ n0 ih => intro v1 v2 v3 mi hf; exact wX7_image_b138 (N := N) (k138 := fX7_image_l138 N mg n0) X  ih hret hf
set_option maxRecDepth 100000 in
set_option maxHeartbeats 4000000 in
theorem wX7_image_b81 {D : va_G} {l : Launch} {E : k_E} {N : Nat} {a : Nat → Nat} {k81 : Int32 → Int32 → Int32 → VMi → Option (Int32 × VMi)} {v1 : Int32} {v2 : Int32} {v3 : Int32} {mp : VMp} {mg : VMg} {mc : Nat → Int64} {ml : VMl} {mq : VMq} {mh : VMh} {ms : VMs} {mr : Nat → Int32} {mi : VMi} {res : Int32 × VMi} (X : k_X D E cX7_image RX7 4 1 22) (hk81 : ∀ (v1 : Int32) (v2 : Int32) (v3 : Int32) (mi : VMi), k81 v1 v2 v3 mi = some res → k_G D l E (pic_X7 D a mp mg mc ml mq mh ms mr mi) [(0, .ref (a 0)), (1, .int v1), (2, .int v2), (3, .int v3)] 81 []) (hret : ∀ (pc : Nat) (lv : List (Nat × Value)), decode cX7_image pc = .ok (.ireturn, 1) → k_G D l E (pic_X7 D a mp mg mc ml mq mh ms mr res.2) lv pc [.int res.1]) (hf : fX7_image_b81 N mg k81 v1 v2 v3 mi = some res) : k_G D l E (pic_X7 D a mp mg mc ml mq mh ms mr mi) [(0, .ref (a 0)), (1, .int v1), (2, .int v2), (3, .int v3)] 81 [] := by
  unfold fX7_image_b81 at hf
  refine g_iload_n X dX7_image_81 3 rfl rfl (n := 82) rfl ?_
  refine g_bipush X dX7_image_82 (v := 60) (by decide) (n := 84) rfl ?_
  refine g_icmp_ge X dX7_image_84 (t := 110) (by decide) (n := 87) rfl (fun c_1 => ?_) (fun c_1 => ?_)
  · replace hf := k_pos c_1 hf
    refine g_aload_n X dX7_image_110 0 rfl rfl (n := 111) rfl ?_
    refine g_get X dX7_image_111 flX7_51 0 rfl (v := .ref (a 12)) rfl (n := 114) rfl ?_
    refine g_iload_n X dX7_image_114 2 rfl rfl (n := 115) rfl ?_
    refine g_bipush X dX7_image_115 (v := 78) (by decide) (n := 117) rfl ?_
    refine g_iadd X dX7_image_117 (n := 118) rfl ?_
    refine g_aload_n X dX7_image_118 0 rfl rfl (n := 119) rfl ?_
    refine g_get X dX7_image_119 flX7_25 0 rfl (v := .int mg.2.2.2.2.1) rfl (n := 122) rfl ?_
    obtain ⟨h_2, hf⟩ := k_guard hf
    refine g_iastore X dX7_image_122 12 (f := mi.1) rfl rfl h_2 (ws2 := pic_X7 D a mp mg mc ml mq mh ms mr (upd mi.1 ((v2 + 78)).toNatClampNeg mg.2.2.2.2.1, mi.2)) rfl (n := 123) rfl ?_
    refine g_aload_n X dX7_image_123 0 rfl rfl (n := 124) rfl ?_
    refine g_get X dX7_image_124 flX7_51 0 rfl (v := .ref (a 12)) rfl (n := 127) rfl ?_
    refine g_iload_n X dX7_image_127 2 rfl rfl (n := 128) rfl ?_
    refine g_bipush X dX7_image_128 (v := 79) (by decide) (n := 130) rfl ?_
    refine g_iadd X dX7_image_130 (n := 131) rfl ?_
    refine g_aload_n X dX7_image_131 0 rfl rfl (n := 132) rfl ?_
    refine g_get X dX7_image_132 flX7_29 0 rfl (v := .int mg.2.2.2.2.2.1) rfl (n := 135) rfl ?_
    obtain ⟨h_3, hf⟩ := k_guard hf
    refine g_iastore X dX7_image_135 12 (f := upd mi.1 ((v2 + 78)).toNatClampNeg mg.2.2.2.2.1) rfl rfl h_3 (ws2 := pic_X7 D a mp mg mc ml mq mh ms mr (upd (upd mi.1 ((v2 + 78)).toNatClampNeg mg.2.2.2.2.1) ((v2 + 79)).toNatClampNeg mg.2.2.2.2.2.1, mi.2)) rfl (n := 136) rfl ?_
    refine g_iconst X dX7_image_136 (v := 0) (by decide) (n := 137) rfl ?_
    refine g_istore_n X dX7_image_137 rfl (by decide) (lv2 := [(3, .int 0), (0, .ref (a 0)), (1, .int v1), (2, .int v2)]) rfl (n := 138) rfl ?_
    refine g_sub [1, 2, 3, 0] (lv' := [(0, .ref (a 0)), (1, .int v1), (2, .int v2), (3, .int 0)]) rfl ?_
    exact wX7_image_l138 X  hret _ _ _ _ _ hf
  · replace hf := k_neg c_1 hf
    refine g_aload_n X dX7_image_87 0 rfl rfl (n := 88) rfl ?_
    refine g_get X dX7_image_88 flX7_51 0 rfl (v := .ref (a 12)) rfl (n := 91) rfl ?_
    refine g_iload_n X dX7_image_91 2 rfl rfl (n := 92) rfl ?_
    refine g_bipush X dX7_image_92 (v := 18) (by decide) (n := 94) rfl ?_
    refine g_iadd X dX7_image_94 (n := 95) rfl ?_
    refine g_iload_n X dX7_image_95 3 rfl rfl (n := 96) rfl ?_
    refine g_iadd X dX7_image_96 (n := 97) rfl ?_
    refine g_aload_n X dX7_image_97 0 rfl rfl (n := 98) rfl ?_
    refine g_get X dX7_image_98 flX7_22 0 rfl (v := .ref (a 5)) rfl (n := 101) rfl ?_
    refine g_iload_n X dX7_image_101 3 rfl rfl (n := 102) rfl ?_
    obtain ⟨h_4, hf⟩ := k_guard hf
    refine g_iaload X dX7_image_102 5 (f := mg.2.2.2.1) rfl rfl h_4 (n := 103) rfl ?_
    obtain ⟨h_5, hf⟩ := k_guard hf
    refine g_iastore X dX7_image_103 12 (f := mi.1) rfl rfl h_5 (ws2 := pic_X7 D a mp mg mc ml mq mh ms mr (upd mi.1 (((v2 + 18) + v3)).toNatClampNeg (mg.2.2.2.1 v3.toNatClampNeg), mi.2)) rfl (n := 104) rfl ?_
    refine g_iinc X dX7_image_104 3 rfl (v := v3 + 1) rfl (by decide) (lv2 := [(3, .int (v3 + 1)), (0, .ref (a 0)), (1, .int v1), (2, .int v2)]) rfl (n := 107) rfl ?_
    refine g_goto X dX7_image_107 (n := 81) (by decide) ?_
    refine g_sub [1, 2, 3, 0] (lv' := [(0, .ref (a 0)), (1, .int v1), (2, .int v2), (3, .int (v3 + 1))]) rfl ?_
    exact hk81 _ _ _ _ hf
set_option maxRecDepth 100000 in
set_option maxHeartbeats 4000000 in
theorem wX7_image_l81 {D : va_G} {l : Launch} {E : k_E} {N : Nat} {a : Nat → Nat} {mp : VMp} {mg : VMg} {mc : Nat → Int64} {ml : VMl} {mq : VMq} {mh : VMh} {ms : VMs} {mr : Nat → Int32} {res : Int32 × VMi} (X : k_X D E cX7_image RX7 4 1 22) (hret : ∀ (pc : Nat) (lv : List (Nat × Value)), decode cX7_image pc = .ok (.ireturn, 1) → k_G D l E (pic_X7 D a mp mg mc ml mq mh ms mr res.2) lv pc [.int res.1]) : ∀ (n0 : Nat) (v1 : Int32) (v2 : Int32) (v3 : Int32) (mi : VMi), fX7_image_l81 N mg n0 v1 v2 v3 mi = some res → k_G D l E (pic_X7 D a mp mg mc ml mq mh ms mr mi) [(0, .ref (a 0)), (1, .int v1), (2, .int v2), (3, .int v3)] 81 [] := by
  intro n0
  induction n0 with
  | zero => intro v1 v2 v3 mi hf; cases hf
  | succ n0 ih => intro v1 v2 v3 mi hf; exact wX7_image_b81 (N := N) (k81 := fX7_image_l81 N mg n0) X  ih hret hf
set_option maxRecDepth 100000 in
set_option maxHeartbeats 4000000 in
theorem wX7_image_b19 {D : va_G} {l : Launch} {E : k_E} {N : Nat} {a : Nat → Nat} {k19 : Int32 → Int32 → Int32 → VMi → Option (Int32 × VMi)} {v1 : Int32} {v2 : Int32} {v3 : Int32} {mp : VMp} {mg : VMg} {mc : Nat → Int64} {ml : VMl} {mq : VMq} {mh : VMh} {ms : VMs} {mr : Nat → Int32} {mi : VMi} {res : Int32 × VMi} (X : k_X D E cX7_image RX7 4 1 22) (hk19 : ∀ (v1 : Int32) (v2 : Int32) (v3 : Int32) (mi : VMi), k19 v1 v2 v3 mi = some res → k_G D l E (pic_X7 D a mp mg mc ml mq mh ms mr mi) [(0, .ref (a 0)), (1, .int v1), (2, .int v2), (3, .int v3)] 19 []) (hret : ∀ (pc : Nat) (lv : List (Nat × Value)), decode cX7_image pc = .ok (.ireturn, 1) → k_G D l E (pic_X7 D a mp mg mc ml mq mh ms mr res.2) lv pc [.int res.1]) (hf : fX7_image_b19 N mg k19 v1 v2 v3 mi = some res) : k_G D l E (pic_X7 D a mp mg mc ml mq mh ms mr mi) [(0, .ref (a 0)), (1, .int v1), (2, .int v2), (3, .int v3)] 19 [] := by
  unfold fX7_image_b19 at hf
  refine g_iload_n X dX7_image_19 3 rfl rfl (n := 20) rfl ?_
  refine g_bipush X dX7_image_20 (v := 6) (by decide) (n := 22) rfl ?_
  refine g_icmp_ge X dX7_image_22 (t := 79) (by decide) (n := 25) rfl (fun c_1 => ?_) (fun c_1 => ?_)
  · replace hf := k_pos c_1 hf
    refine g_iconst X dX7_image_79 (v := 0) (by decide) (n := 80) rfl ?_
    refine g_istore_n X dX7_image_80 rfl (by decide) (lv2 := [(3, .int 0), (0, .ref (a 0)), (1, .int v1), (2, .int v2)]) rfl (n := 81) rfl ?_
    refine g_sub [1, 2, 3, 0] (lv' := [(0, .ref (a 0)), (1, .int v1), (2, .int v2), (3, .int 0)]) rfl ?_
    exact wX7_image_l81 X  hret _ _ _ _ _ hf
  · replace hf := k_neg c_1 hf
    refine g_aload_n X dX7_image_25 0 rfl rfl (n := 26) rfl ?_
    refine g_get X dX7_image_26 flX7_51 0 rfl (v := .ref (a 12)) rfl (n := 29) rfl ?_
    refine g_iload_n X dX7_image_29 2 rfl rfl (n := 30) rfl ?_
    refine g_iload_n X dX7_image_30 3 rfl rfl (n := 31) rfl ?_
    refine g_iadd X dX7_image_31 (n := 32) rfl ?_
    refine g_aload_n X dX7_image_32 0 rfl rfl (n := 33) rfl ?_
    refine g_get X dX7_image_33 flX7_13 0 rfl (v := .ref (a 2)) rfl (n := 36) rfl ?_
    refine g_iload_n X dX7_image_36 3 rfl rfl (n := 37) rfl ?_
    obtain ⟨h_2, hf⟩ := k_guard hf
    refine g_iaload X dX7_image_37 2 (f := mg.1) rfl rfl h_2 (n := 38) rfl ?_
    obtain ⟨h_3, hf⟩ := k_guard hf
    refine g_iastore X dX7_image_38 12 (f := mi.1) rfl rfl h_3 (ws2 := pic_X7 D a mp mg mc ml mq mh ms mr (upd mi.1 ((v2 + v3)).toNatClampNeg (mg.1 v3.toNatClampNeg), mi.2)) rfl (n := 39) rfl ?_
    refine g_aload_n X dX7_image_39 0 rfl rfl (n := 40) rfl ?_
    refine g_get X dX7_image_40 flX7_51 0 rfl (v := .ref (a 12)) rfl (n := 43) rfl ?_
    refine g_iload_n X dX7_image_43 2 rfl rfl (n := 44) rfl ?_
    refine g_bipush X dX7_image_44 (v := 6) (by decide) (n := 46) rfl ?_
    refine g_iadd X dX7_image_46 (n := 47) rfl ?_
    refine g_iload_n X dX7_image_47 3 rfl rfl (n := 48) rfl ?_
    refine g_iadd X dX7_image_48 (n := 49) rfl ?_
    refine g_aload_n X dX7_image_49 0 rfl rfl (n := 50) rfl ?_
    refine g_get X dX7_image_50 flX7_16 0 rfl (v := .ref (a 3)) rfl (n := 53) rfl ?_
    refine g_iload_n X dX7_image_53 3 rfl rfl (n := 54) rfl ?_
    obtain ⟨h_4, hf⟩ := k_guard hf
    refine g_iaload X dX7_image_54 3 (f := mg.2.1) rfl rfl h_4 (n := 55) rfl ?_
    obtain ⟨h_5, hf⟩ := k_guard hf
    refine g_iastore X dX7_image_55 12 (f := upd mi.1 ((v2 + v3)).toNatClampNeg (mg.1 v3.toNatClampNeg)) rfl rfl h_5 (ws2 := pic_X7 D a mp mg mc ml mq mh ms mr (upd (upd mi.1 ((v2 + v3)).toNatClampNeg (mg.1 v3.toNatClampNeg)) (((v2 + 6) + v3)).toNatClampNeg (mg.2.1 v3.toNatClampNeg), mi.2)) rfl (n := 56) rfl ?_
    refine g_aload_n X dX7_image_56 0 rfl rfl (n := 57) rfl ?_
    refine g_get X dX7_image_57 flX7_51 0 rfl (v := .ref (a 12)) rfl (n := 60) rfl ?_
    refine g_iload_n X dX7_image_60 2 rfl rfl (n := 61) rfl ?_
    refine g_bipush X dX7_image_61 (v := 12) (by decide) (n := 63) rfl ?_
    refine g_iadd X dX7_image_63 (n := 64) rfl ?_
    refine g_iload_n X dX7_image_64 3 rfl rfl (n := 65) rfl ?_
    refine g_iadd X dX7_image_65 (n := 66) rfl ?_
    refine g_aload_n X dX7_image_66 0 rfl rfl (n := 67) rfl ?_
    refine g_get X dX7_image_67 flX7_19 0 rfl (v := .ref (a 4)) rfl (n := 70) rfl ?_
    refine g_iload_n X dX7_image_70 3 rfl rfl (n := 71) rfl ?_
    obtain ⟨h_6, hf⟩ := k_guard hf
    refine g_iaload X dX7_image_71 4 (f := mg.2.2.1) rfl rfl h_6 (n := 72) rfl ?_
    obtain ⟨h_7, hf⟩ := k_guard hf
    refine g_iastore X dX7_image_72 12 (f := upd (upd mi.1 ((v2 + v3)).toNatClampNeg (mg.1 v3.toNatClampNeg)) (((v2 + 6) + v3)).toNatClampNeg (mg.2.1 v3.toNatClampNeg)) rfl rfl h_7 (ws2 := pic_X7 D a mp mg mc ml mq mh ms mr (upd (upd (upd mi.1 ((v2 + v3)).toNatClampNeg (mg.1 v3.toNatClampNeg)) (((v2 + 6) + v3)).toNatClampNeg (mg.2.1 v3.toNatClampNeg)) (((v2 + 12) + v3)).toNatClampNeg (mg.2.2.1 v3.toNatClampNeg), mi.2)) rfl (n := 73) rfl ?_
    refine g_iinc X dX7_image_73 3 rfl (v := v3 + 1) rfl (by decide) (lv2 := [(3, .int (v3 + 1)), (0, .ref (a 0)), (1, .int v1), (2, .int v2)]) rfl (n := 76) rfl ?_
    refine g_goto X dX7_image_76 (n := 19) (by decide) ?_
    refine g_sub [1, 2, 3, 0] (lv' := [(0, .ref (a 0)), (1, .int v1), (2, .int v2), (3, .int (v3 + 1))]) rfl ?_
    exact hk19 _ _ _ _ hf
set_option maxRecDepth 100000 in
set_option maxHeartbeats 4000000 in
theorem wX7_image_l19 {D : va_G} {l : Launch} {E : k_E} {N : Nat} {a : Nat → Nat} {mp : VMp} {mg : VMg} {mc : Nat → Int64} {ml : VMl} {mq : VMq} {mh : VMh} {ms : VMs} {mr : Nat → Int32} {res : Int32 × VMi} (X : k_X D E cX7_image RX7 4 1 22) (hret : ∀ (pc : Nat) (lv : List (Nat × Value)), decode cX7_image pc = .ok (.ireturn, 1) → k_G D l E (pic_X7 D a mp mg mc ml mq mh ms mr res.2) lv pc [.int res.1]) : ∀ (n0 : Nat) (v1 : Int32) (v2 : Int32) (v3 : Int32) (mi : VMi), fX7_image_l19 N mg n0 v1 v2 v3 mi = some res → k_G D l E (pic_X7 D a mp mg mc ml mq mh ms mr mi) [(0, .ref (a 0)), (1, .int v1), (2, .int v2), (3, .int v3)] 19 [] := by
  intro n0
  induction n0 with
  | zero => intro v1 v2 v3 mi hf; cases hf
  | succ n0 ih => intro v1 v2 v3 mi hf; exact wX7_image_b19 (N := N) (k19 := fX7_image_l19 N mg n0) X  ih hret hf
set_option maxRecDepth 100000 in
set_option maxHeartbeats 4000000 in
theorem wX7_image {D : va_G} {l : Launch} {E : k_E} {N : Nat} {a : Nat → Nat} {p1 : Int32} {mp : VMp} {mg : VMg} {mc : Nat → Int64} {ml : VMl} {mq : VMq} {mh : VMh} {ms : VMs} {mr : Nat → Int32} {mi : VMi} {res : Int32 × VMi} (X : k_X D E cX7_image RX7 4 1 22) (hret : ∀ (pc : Nat) (lv : List (Nat × Value)), decode cX7_image pc = .ok (.ireturn, 1) → k_G D l E (pic_X7 D a mp mg mc ml mq mh ms mr res.2) lv pc [.int res.1]) (hf : fX7_image N mg p1 mi = some res) : k_G D l E (pic_X7 D a mp mg mc ml mq mh ms mr mi) [(0, .ref (a 0)), (1, .int p1)] 0 [] := by
  unfold fX7_image at hf
  refine g_iload_n X dX7_image_0 1 rfl rfl (n := 1) rfl ?_
  refine g_iconst X dX7_image_1 (v := 0) (by decide) (n := 2) rfl ?_
  refine g_iconst X dX7_image_2 (v := 1) (by decide) (n := 3) rfl ?_
  obtain ⟨x_1, g_2, hf⟩ := k_b1s hf
  refine g_callS0 X (mX7_in (D := D) (l := l)  g_2) lk_X7_in mlX7_58 dX7_image_3 (n := 6) rfl (st := []) rfl (st2 := [.int (bI x_1)]) rfl rfl ⟨Nat.le_of_ble_eq_true rfl, Nat.le_of_ble_eq_true rfl⟩ (Nat.le_of_ble_eq_true rfl) ?_
  refine g_if_neB X dX7_image_6 (t := 12) (by decide) (n := 9) rfl (fun c_3 => ?_) (fun c_3 => ?_)
  · replace hf := k_pos c_3 hf
    refine g_bipush X dX7_image_12 (v := 92) (by decide) (n := 14) rfl ?_
    refine g_iload_n X dX7_image_14 1 rfl rfl (n := 15) rfl ?_
    refine g_imul X dX7_image_15 (n := 16) rfl ?_
    refine g_istore_n X dX7_image_16 rfl (by decide) (lv2 := [(2, .int ((92 : Int32) * p1)), (0, .ref (a 0)), (1, .int p1)]) rfl (n := 17) rfl ?_
    refine g_iconst X dX7_image_17 (v := 0) (by decide) (n := 18) rfl ?_
    refine g_istore_n X dX7_image_18 rfl (by decide) (lv2 := [(3, .int 0), (2, .int ((92 : Int32) * p1)), (0, .ref (a 0)), (1, .int p1)]) rfl (n := 19) rfl ?_
    refine g_sub [2, 3, 1, 0] (lv' := [(0, .ref (a 0)), (1, .int p1), (2, .int ((92 : Int32) * p1)), (3, .int 0)]) rfl ?_
    exact wX7_image_l19 X  hret _ _ _ _ _ hf
  · replace hf := k_neg c_3 hf
    refine g_bipush X dX7_image_9 (v := (-2)) (by decide) (n := 11) rfl ?_
    obtain rfl := Option.some.inj hf
    exact hret _ _ dX7_image_11
set_option maxRecDepth 100000 in
set_option maxHeartbeats 4000000 in
theorem mX7_image {l : Launch} {D : va_G} {N : Nat} {a : Nat → Nat} {p1 : Int32} {mp : VMp} {mg : VMg} {mc : Nat → Int64} {ml : VMl} {mq : VMq} {mh : VMh} {ms : VMs} {mr : Nat → Int32} {mi : VMi} {res : Int32 × VMi} (hf : fX7_image N mg p1 mi = some res) : k_Met l yX7_image cX7_image 4 (some .int) 1 22 D [.ref (a 0), .int p1] (pic_X7 D a mp mg mc ml mq mh ms mr mi) (some (.int res.1)) (pic_X7 D a mp mg mc ml mq mh ms mr res.2) :=
  k_of_i (by decide) (Nat.le_of_ble_eq_true rfl) (fun E X hret => wX7_image X hret hf)
set_option maxRecDepth 100000 in
set_option maxHeartbeats 4000000 in
theorem wX7_restore_b150 {D : va_G} {l : Launch} {E : k_E} {N : Nat} {a : Nat → Nat} {k150 : Int32 → Int32 → VMg → Option (Int32 × VMg)} {v2 : Int32} {v3 : Int32} {mp : VMp} {mg : VMg} {mc : Nat → Int64} {ml : VMl} {mq : VMq} {mh : VMh} {ms : VMs} {mr : Nat → Int32} {mi : VMi} {res : Int32 × VMg} (X : k_X D E cX7_restore RX7 4 1 22) (hk150 : ∀ (v2 : Int32) (v3 : Int32) (mg : VMg), k150 v2 v3 mg = some res → k_G D l E (pic_X7 D a mp mg mc ml mq mh ms mr mi) [(0, .ref (a 0)), (2, .int v2), (3, .int v3)] 150 []) (hret : ∀ (pc : Nat) (lv : List (Nat × Value)), decode cX7_restore pc = .ok (.ireturn, 1) → k_G D l E (pic_X7 D a mp res.2 mc ml mq mh ms mr mi) lv pc [.int res.1]) (hf : fX7_restore_b150 N mi k150 v2 v3 mg = some res) : k_G D l E (pic_X7 D a mp mg mc ml mq mh ms mr mi) [(0, .ref (a 0)), (2, .int v2), (3, .int v3)] 150 [] := by
  unfold fX7_restore_b150 at hf
  refine g_iload_n X dX7_restore_150 2 rfl rfl (n := 151) rfl ?_
  refine g_bipush X dX7_restore_151 (v := 11) (by decide) (n := 153) rfl ?_
  refine g_icmp_ge X dX7_restore_153 (t := 179) (by decide) (n := 156) rfl (fun c_1 => ?_) (fun c_1 => ?_)
  · replace hf := k_pos c_1 hf
    refine g_iconst X dX7_restore_179 (v := 1) (by decide) (n := 180) rfl ?_
    obtain rfl := Option.some.inj hf
    exact hret _ _ dX7_restore_180
  · replace hf := k_neg c_1 hf
    refine g_aload_n X dX7_restore_156 0 rfl rfl (n := 157) rfl ?_
    refine g_get X dX7_restore_157 flX7_32 0 rfl (v := .ref (a 6)) rfl (n := 160) rfl ?_
    refine g_iload_n X dX7_restore_160 2 rfl rfl (n := 161) rfl ?_
    refine g_aload_n X dX7_restore_161 0 rfl rfl (n := 162) rfl ?_
    refine g_get X dX7_restore_162 flX7_51 0 rfl (v := .ref (a 12)) rfl (n := 165) rfl ?_
    refine g_iload_n X dX7_restore_165 1 rfl rfl (n := 166) rfl ?_
    refine g_bipush X dX7_restore_166 (v := 80) (by decide) (n := 168) rfl ?_
    refine g_iadd X dX7_restore_168 (n := 169) rfl ?_
    refine g_iload_n X dX7_restore_169 2 rfl rfl (n := 170) rfl ?_
    refine g_iadd X dX7_restore_170 (n := 171) rfl ?_
    obtain ⟨h_2, hf⟩ := k_guard hf
    refine g_iaload X dX7_restore_171 12 (f := mi.1) rfl rfl h_2 (n := 172) rfl ?_
    obtain ⟨h_3, hf⟩ := k_guard hf
    refine g_iastore X dX7_restore_172 6 (f := mg.2.2.2.2.2.2) rfl rfl h_3 (ws2 := pic_X7 D a mp (mg.1, mg.2.1, mg.2.2.1, mg.2.2.2.1, mg.2.2.2.2.1, mg.2.2.2.2.2.1, upd mg.2.2.2.2.2.2 (v3).toNatClampNeg (mi.1 ((v2 + 80) + v3).toNatClampNeg)) mc ml mq mh ms mr mi) rfl (n := 173) rfl ?_
    refine g_iinc X dX7_restore_173 2 rfl (v := v3 + 1) rfl (by decide) (lv2 := [(3, .int (v3 + 1)), (0, .ref (a 0)), (2, .int v2)]) rfl (n := 176) rfl ?_
    refine g_goto X dX7_restore_176 (n := 150) (by decide) ?_
    refine g_sub [1, 2, 0] (lv' := [(0, .ref (a 0)), (2, .int v2), (3, .int (v3 + 1))]) rfl ?_
    exact hk150 _ _ _ hf
set_option maxRecDepth 100000 in
set_option maxHeartbeats 4000000 in
theorem wX7_restore_l150 {D : va_G} {l : Launch} {E : k_E} {N : Nat} {a : Nat → Nat} {mp : VMp} {mc : Nat → Int64} {ml : VMl} {mq : VMq} {mh : VMh} {ms : VMs} {mr : Nat → Int32} {mi : VMi} {res : Int32 × VMg} (X : k_X D E cX7_restore RX7 4 1 22) (hret : ∀ (pc : Nat) (lv : List (Nat × Value)), decode cX7_restore pc = .ok (.ireturn, 1) → k_G D l E (pic_X7 D a mp res.2 mc ml mq mh ms mr mi) lv pc [.int res.1]) : ∀ (n0 : Nat) (v2 : Int32) (v3 : Int32) (mg : VMg), fX7_restore_l150 N mi n0 v2 v3 mg = some res → k_G D l E (pic_X7 D a mp mg mc ml mq mh ms mr mi) [(0, .ref (a 0)), (2, .int v2), (3, .int v3)] 150 [] := by
  intro n0
  induction n0 with
  | zero => intro v2 v3 mg hf; cases hf
  | succ n0 ih => intro v2 v3 mg hf; exact wX7_restore_b150 (N := N) (k150 := fX7_restore_l150 N mi n0) X  ih hret hf
set_option maxRecDepth 100000 in
set_option maxHeartbeats 4000000 in
theorem wX7_restore_b93 {D : va_G} {l : Launch} {E : k_E} {N : Nat} {a : Nat → Nat} {k93 : Int32 → Int32 → VMg → Option (Int32 × VMg)} {v2 : Int32} {v3 : Int32} {mp : VMp} {mg : VMg} {mc : Nat → Int64} {ml : VMl} {mq : VMq} {mh : VMh} {ms : VMs} {mr : Nat → Int32} {mi : VMi} {res : Int32 × VMg} (X : k_X D E cX7_restore RX7 4 1 22) (hk93 : ∀ (v2 : Int32) (v3 : Int32) (mg : VMg), k93 v2 v3 mg = some res → k_G D l E (pic_X7 D a mp mg mc ml mq mh ms mr mi) [(0, .ref (a 0)), (2, .int v2), (3, .int v3)] 93 []) (hret : ∀ (pc : Nat) (lv : List (Nat × Value)), decode cX7_restore pc = .ok (.ireturn, 1) → k_G D l E (pic_X7 D a mp res.2 mc ml mq mh ms mr mi) lv pc [.int res.1]) (hf : fX7_restore_b93 N mi k93 v2 v3 mg = some res) : k_G D l E (pic_X7 D a mp mg mc ml mq mh ms mr mi) [(0, .ref (a 0)), (2, .int v2), (3, .int v3)] 93 [] := by
  unfold fX7_restore_b93 at hf
  refine g_iload_n X dX7_restore_93 2 rfl rfl (n := 94) rfl ?_
  refine g_bipush X dX7_restore_94 (v := 60) (by decide) (n := 96) rfl ?_
  refine g_icmp_ge X dX7_restore_96 (t := 122) (by decide) (n := 99) rfl (fun c_1 => ?_) (fun c_1 => ?_)
  · replace hf := k_pos c_1 hf
    refine g_aload_n X dX7_restore_122 0 rfl rfl (n := 123) rfl ?_
    refine g_aload_n X dX7_restore_123 0 rfl rfl (n := 124) rfl ?_
    refine g_get X dX7_restore_124 flX7_51 0 rfl (v := .ref (a 12)) rfl (n := 127) rfl ?_
    refine g_iload_n X dX7_restore_127 1 rfl rfl (n := 128) rfl ?_
    refine g_bipush X dX7_restore_128 (v := 78) (by decide) (n := 130) rfl ?_
    refine g_iadd X dX7_restore_130 (n := 131) rfl ?_
    obtain ⟨h_2, hf⟩ := k_guard hf
    refine g_iaload X dX7_restore_131 12 (f := mi.1) rfl rfl h_2 (n := 132) rfl ?_
    refine g_put X dX7_restore_132 flX7_25 0 rfl rfl rfl (Nat.le_of_ble_eq_true rfl) (ws2 := pic_X7 D a mp (mg.1, mg.2.1, mg.2.2.1, mg.2.2.2.1, (mi.1 (v2 + 78).toNatClampNeg), mg.2.2.2.2.2.1, mg.2.2.2.2.2.2) mc ml mq mh ms mr mi) rfl (n := 135) rfl ?_
    refine g_aload_n X dX7_restore_135 0 rfl rfl (n := 136) rfl ?_
    refine g_aload_n X dX7_restore_136 0 rfl rfl (n := 137) rfl ?_
    refine g_get X dX7_restore_137 flX7_51 0 rfl (v := .ref (a 12)) rfl (n := 140) rfl ?_
    refine g_iload_n X dX7_restore_140 1 rfl rfl (n := 141) rfl ?_
    refine g_bipush X dX7_restore_141 (v := 79) (by decide) (n := 143) rfl ?_
    refine g_iadd X dX7_restore_143 (n := 144) rfl ?_
    obtain ⟨h_3, hf⟩ := k_guard hf
    refine g_iaload X dX7_restore_144 12 (f := mi.1) rfl rfl h_3 (n := 145) rfl ?_
    refine g_put X dX7_restore_145 flX7_29 0 rfl rfl rfl (Nat.le_of_ble_eq_true rfl) (ws2 := pic_X7 D a mp (mg.1, mg.2.1, mg.2.2.1, mg.2.2.2.1, (mi.1 (v2 + 78).toNatClampNeg), (mi.1 (v2 + 79).toNatClampNeg), mg.2.2.2.2.2.2) mc ml mq mh ms mr mi) rfl (n := 148) rfl ?_
    refine g_iconst X dX7_restore_148 (v := 0) (by decide) (n := 149) rfl ?_
    refine g_istore_n X dX7_restore_149 rfl (by decide) (lv2 := [(3, .int 0), (0, .ref (a 0)), (2, .int v2)]) rfl (n := 150) rfl ?_
    refine g_sub [1, 2, 0] (lv' := [(0, .ref (a 0)), (2, .int v2), (3, .int 0)]) rfl ?_
    exact wX7_restore_l150 X  hret _ _ _ _ hf
  · replace hf := k_neg c_1 hf
    refine g_aload_n X dX7_restore_99 0 rfl rfl (n := 100) rfl ?_
    refine g_get X dX7_restore_100 flX7_22 0 rfl (v := .ref (a 5)) rfl (n := 103) rfl ?_
    refine g_iload_n X dX7_restore_103 2 rfl rfl (n := 104) rfl ?_
    refine g_aload_n X dX7_restore_104 0 rfl rfl (n := 105) rfl ?_
    refine g_get X dX7_restore_105 flX7_51 0 rfl (v := .ref (a 12)) rfl (n := 108) rfl ?_
    refine g_iload_n X dX7_restore_108 1 rfl rfl (n := 109) rfl ?_
    refine g_bipush X dX7_restore_109 (v := 18) (by decide) (n := 111) rfl ?_
    refine g_iadd X dX7_restore_111 (n := 112) rfl ?_
    refine g_iload_n X dX7_restore_112 2 rfl rfl (n := 113) rfl ?_
    refine g_iadd X dX7_restore_113 (n := 114) rfl ?_
    obtain ⟨h_4, hf⟩ := k_guard hf
    refine g_iaload X dX7_restore_114 12 (f := mi.1) rfl rfl h_4 (n := 115) rfl ?_
    obtain ⟨h_5, hf⟩ := k_guard hf
    refine g_iastore X dX7_restore_115 5 (f := mg.2.2.2.1) rfl rfl h_5 (ws2 := pic_X7 D a mp (mg.1, mg.2.1, mg.2.2.1, upd mg.2.2.2.1 (v3).toNatClampNeg (mi.1 ((v2 + 18) + v3).toNatClampNeg), mg.2.2.2.2.1, mg.2.2.2.2.2.1, mg.2.2.2.2.2.2) mc ml mq mh ms mr mi) rfl (n := 116) rfl ?_
    refine g_iinc X dX7_restore_116 2 rfl (v := v3 + 1) rfl (by decide) (lv2 := [(3, .int (v3 + 1)), (0, .ref (a 0)), (2, .int v2)]) rfl (n := 119) rfl ?_
    refine g_goto X dX7_restore_119 (n := 93) (by decide) ?_
    refine g_sub [1, 2, 0] (lv' := [(0, .ref (a 0)), (2, .int v2), (3, .int (v3 + 1))]) rfl ?_
    exact hk93 _ _ _ hf
set_option maxRecDepth 100000 in
set_option maxHeartbeats 4000000 in
theorem wX7_restore_l93 {D : va_G} {l : Launch} {E : k_E} {N : Nat} {a : Nat → Nat} {mp : VMp} {mc : Nat → Int64} {ml : VMl} {mq : VMq} {mh : VMh} {ms : VMs} {mr : Nat → Int32} {mi : VMi} {res : Int32 × VMg} (X : k_X D E cX7_restore RX7 4 1 22) (hret : ∀ (pc : Nat) (lv : List (Nat × Value)), decode cX7_restore pc = .ok (.ireturn, 1) → k_G D l E (pic_X7 D a mp res.2 mc ml mq mh ms mr mi) lv pc [.int res.1]) : ∀ (n0 : Nat) (v2 : Int32) (v3 : Int32) (mg : VMg), fX7_restore_l93 N mi n0 v2 v3 mg = some res → k_G D l E (pic_X7 D a mp mg mc ml mq mh ms mr mi) [(0, .ref (a 0)), (2, .int v2), (3, .int v3)] 93 [] := by
  intro n0
  induction n0 with
  | zero => intro v2 v3 mg hf; cases hf
  | succ n0 ih => intro v2 v3 mg hf; exact wX7_restore_b93 (N := N) (k93 := fX7_restore_l93 N mi n0) X  ih hret hf
set_option maxRecDepth 100000 in
set_option maxHeartbeats 4000000 in
theorem wX7_restore_b31 {D : va_G} {l : Launch} {E : k_E} {N : Nat} {a : Nat → Nat} {k31 : Int32 → Int32 → VMg → Option (Int32 × VMg)} {v2 : Int32} {v3 : Int32} {mp : VMp} {mg : VMg} {mc : Nat → Int64} {ml : VMl} {mq : VMq} {mh : VMh} {ms : VMs} {mr : Nat → Int32} {mi : VMi} {res : Int32 × VMg} (X : k_X D E cX7_restore RX7 4 1 22) (hk31 : ∀ (v2 : Int32) (v3 : Int32) (mg : VMg), k31 v2 v3 mg = some res → k_G D l E (pic_X7 D a mp mg mc ml mq mh ms mr mi) [(0, .ref (a 0)), (2, .int v2), (3, .int v3)] 31 []) (hret : ∀ (pc : Nat) (lv : List (Nat × Value)), decode cX7_restore pc = .ok (.ireturn, 1) → k_G D l E (pic_X7 D a mp res.2 mc ml mq mh ms mr mi) lv pc [.int res.1]) (hf : fX7_restore_b31 N mi k31 v2 v3 mg = some res) : k_G D l E (pic_X7 D a mp mg mc ml mq mh ms mr mi) [(0, .ref (a 0)), (2, .int v2), (3, .int v3)] 31 [] := by
  unfold fX7_restore_b31 at hf
  refine g_iload_n X dX7_restore_31 2 rfl rfl (n := 32) rfl ?_
  refine g_bipush X dX7_restore_32 (v := 6) (by decide) (n := 34) rfl ?_
  refine g_icmp_ge X dX7_restore_34 (t := 91) (by decide) (n := 37) rfl (fun c_1 => ?_) (fun c_1 => ?_)
  · replace hf := k_pos c_1 hf
    refine g_iconst X dX7_restore_91 (v := 0) (by decide) (n := 92) rfl ?_
    refine g_istore_n X dX7_restore_92 rfl (by decide) (lv2 := [(3, .int 0), (0, .ref (a 0)), (2, .int v2)]) rfl (n := 93) rfl ?_
    refine g_sub [1, 2, 0] (lv' := [(0, .ref (a 0)), (2, .int v2), (3, .int 0)]) rfl ?_
    exact wX7_restore_l93 X  hret _ _ _ _ hf
  · replace hf := k_neg c_1 hf
    refine g_aload_n X dX7_restore_37 0 rfl rfl (n := 38) rfl ?_
    refine g_get X dX7_restore_38 flX7_13 0 rfl (v := .ref (a 2)) rfl (n := 41) rfl ?_
    refine g_iload_n X dX7_restore_41 2 rfl rfl (n := 42) rfl ?_
    refine g_aload_n X dX7_restore_42 0 rfl rfl (n := 43) rfl ?_
    refine g_get X dX7_restore_43 flX7_51 0 rfl (v := .ref (a 12)) rfl (n := 46) rfl ?_
    refine g_iload_n X dX7_restore_46 1 rfl rfl (n := 47) rfl ?_
    refine g_iload_n X dX7_restore_47 2 rfl rfl (n := 48) rfl ?_
    refine g_iadd X dX7_restore_48 (n := 49) rfl ?_
    obtain ⟨h_2, hf⟩ := k_guard hf
    refine g_iaload X dX7_restore_49 12 (f := mi.1) rfl rfl h_2 (n := 50) rfl ?_
    obtain ⟨h_3, hf⟩ := k_guard hf
    refine g_iastore X dX7_restore_50 2 (f := mg.1) rfl rfl h_3 (ws2 := pic_X7 D a mp (upd mg.1 (v3).toNatClampNeg (mi.1 (v2 + v3).toNatClampNeg), mg.2.1, mg.2.2.1, mg.2.2.2.1, mg.2.2.2.2.1, mg.2.2.2.2.2.1, mg.2.2.2.2.2.2) mc ml mq mh ms mr mi) rfl (n := 51) rfl ?_
    refine g_aload_n X dX7_restore_51 0 rfl rfl (n := 52) rfl ?_
    refine g_get X dX7_restore_52 flX7_16 0 rfl (v := .ref (a 3)) rfl (n := 55) rfl ?_
    refine g_iload_n X dX7_restore_55 2 rfl rfl (n := 56) rfl ?_
    refine g_aload_n X dX7_restore_56 0 rfl rfl (n := 57) rfl ?_
    refine g_get X dX7_restore_57 flX7_51 0 rfl (v := .ref (a 12)) rfl (n := 60) rfl ?_
    refine g_iload_n X dX7_restore_60 1 rfl rfl (n := 61) rfl ?_
    refine g_bipush X dX7_restore_61 (v := 6) (by decide) (n := 63) rfl ?_
    refine g_iadd X dX7_restore_63 (n := 64) rfl ?_
    refine g_iload_n X dX7_restore_64 2 rfl rfl (n := 65) rfl ?_
    refine g_iadd X dX7_restore_65 (n := 66) rfl ?_
    obtain ⟨h_4, hf⟩ := k_guard hf
    refine g_iaload X dX7_restore_66 12 (f := mi.1) rfl rfl h_4 (n := 67) rfl ?_
    obtain ⟨h_5, hf⟩ := k_guard hf
    refine g_iastore X dX7_restore_67 3 (f := mg.2.1) rfl rfl h_5 (ws2 := pic_X7 D a mp (upd mg.1 (v3).toNatClampNeg (mi.1 (v2 + v3).toNatClampNeg), upd mg.2.1 (v3).toNatClampNeg (mi.1 ((v2 + 6) + v3).toNatClampNeg), mg.2.2.1, mg.2.2.2.1, mg.2.2.2.2.1, mg.2.2.2.2.2.1, mg.2.2.2.2.2.2) mc ml mq mh ms mr mi) rfl (n := 68) rfl ?_
    refine g_aload_n X dX7_restore_68 0 rfl rfl (n := 69) rfl ?_
    refine g_get X dX7_restore_69 flX7_19 0 rfl (v := .ref (a 4)) rfl (n := 72) rfl ?_
    refine g_iload_n X dX7_restore_72 2 rfl rfl (n := 73) rfl ?_
    refine g_aload_n X dX7_restore_73 0 rfl rfl (n := 74) rfl ?_
    refine g_get X dX7_restore_74 flX7_51 0 rfl (v := .ref (a 12)) rfl (n := 77) rfl ?_
    refine g_iload_n X dX7_restore_77 1 rfl rfl (n := 78) rfl ?_
    refine g_bipush X dX7_restore_78 (v := 12) (by decide) (n := 80) rfl ?_
    refine g_iadd X dX7_restore_80 (n := 81) rfl ?_
    refine g_iload_n X dX7_restore_81 2 rfl rfl (n := 82) rfl ?_
    refine g_iadd X dX7_restore_82 (n := 83) rfl ?_
    obtain ⟨h_6, hf⟩ := k_guard hf
    refine g_iaload X dX7_restore_83 12 (f := mi.1) rfl rfl h_6 (n := 84) rfl ?_
    obtain ⟨h_7, hf⟩ := k_guard hf
    refine g_iastore X dX7_restore_84 4 (f := mg.2.2.1) rfl rfl h_7 (ws2 := pic_X7 D a mp (upd mg.1 (v3).toNatClampNeg (mi.1 (v2 + v3).toNatClampNeg), upd mg.2.1 (v3).toNatClampNeg (mi.1 ((v2 + 6) + v3).toNatClampNeg), upd mg.2.2.1 (v3).toNatClampNeg (mi.1 ((v2 + 12) + v3).toNatClampNeg), mg.2.2.2.1, mg.2.2.2.2.1, mg.2.2.2.2.2.1, mg.2.2.2.2.2.2) mc ml mq mh ms mr mi) rfl (n := 85) rfl ?_
    refine g_iinc X dX7_restore_85 2 rfl (v := v3 + 1) rfl (by decide) (lv2 := [(3, .int (v3 + 1)), (0, .ref (a 0)), (2, .int v2)]) rfl (n := 88) rfl ?_
    refine g_goto X dX7_restore_88 (n := 31) (by decide) ?_
    refine g_sub [1, 2, 0] (lv' := [(0, .ref (a 0)), (2, .int v2), (3, .int (v3 + 1))]) rfl ?_
    exact hk31 _ _ _ hf
set_option maxRecDepth 100000 in
set_option maxHeartbeats 4000000 in
theorem wX7_restore_l31 {D : va_G} {l : Launch} {E : k_E} {N : Nat} {a : Nat → Nat} {mp : VMp} {mc : Nat → Int64} {ml : VMl} {mq : VMq} {mh : VMh} {ms : VMs} {mr : Nat → Int32} {mi : VMi} {res : Int32 × VMg} (X : k_X D E cX7_restore RX7 4 1 22) (hret : ∀ (pc : Nat) (lv : List (Nat × Value)), decode cX7_restore pc = .ok (.ireturn, 1) → k_G D l E (pic_X7 D a mp res.2 mc ml mq mh ms mr mi) lv pc [.int res.1]) : ∀ (n0 : Nat) (v2 : Int32) (v3 : Int32) (mg : VMg), fX7_restore_l31 N mi n0 v2 v3 mg = some res → k_G D l E (pic_X7 D a mp mg mc ml mq mh ms mr mi) [(0, .ref (a 0)), (2, .int v2), (3, .int v3)] 31 [] := by
  intro n0
  induction n0 with
  | zero => intro v2 v3 mg hf; cases hf
  | succ n0 ih => intro v2 v3 mg hf; exact wX7_restore_b31 (N := N) (k31 := fX7_restore_l31 N mi n0) X  ih hret hf
set_option maxRecDepth 100000 in
set_option maxHeartbeats 4000000 in
theorem wX7_restore {D : va_G} {l : Launch} {E : k_E} {N : Nat} {a : Nat → Nat} {p1 : Int32} {mp : VMp} {mg : VMg} {mc : Nat → Int64} {ml : VMl} {mq : VMq} {mh : VMh} {ms : VMs} {mr : Nat → Int32} {mi : VMi} {res : Int32 × VMg} (X : k_X D E cX7_restore RX7 4 1 22) (hret : ∀ (pc : Nat) (lv : List (Nat × Value)), decode cX7_restore pc = .ok (.ireturn, 1) → k_G D l E (pic_X7 D a mp res.2 mc ml mq mh ms mr mi) lv pc [.int res.1]) (hf : fX7_restore N mi p1 mg = some res) : k_G D l E (pic_X7 D a mp mg mc ml mq mh ms mr mi) [(0, .ref (a 0)), (1, .int p1)] 0 [] := by
  unfold fX7_restore at hf
  refine g_iload_n X dX7_restore_0 1 rfl rfl (n := 1) rfl ?_
  refine g_iconst X dX7_restore_1 (v := 0) (by decide) (n := 2) rfl ?_
  refine g_iconst X dX7_restore_2 (v := 1) (by decide) (n := 3) rfl ?_
  obtain ⟨x_1, g_2, hf⟩ := k_b1s hf
  refine g_callS0 X (mX7_in (D := D) (l := l)  g_2) lk_X7_in mlX7_58 dX7_restore_3 (n := 6) rfl (st := []) rfl (st2 := [.int (bI x_1)]) rfl rfl ⟨Nat.le_of_ble_eq_true rfl, Nat.le_of_ble_eq_true rfl⟩ (Nat.le_of_ble_eq_true rfl) ?_
  refine g_if_neB X dX7_restore_6 (t := 12) (by decide) (n := 9) rfl (fun c_3 => ?_) (fun c_3 => ?_)
  · replace hf := k_pos c_3 hf
    refine g_aload_n X dX7_restore_12 0 rfl rfl (n := 13) rfl ?_
    refine g_get X dX7_restore_13 flX7_54 0 rfl (v := .ref (a 13)) rfl (n := 16) rfl ?_
    refine g_iload_n X dX7_restore_16 1 rfl rfl (n := 17) rfl ?_
    obtain ⟨h_4, hf⟩ := k_guard hf
    refine g_baload X dX7_restore_17 13 (f := mi.2) rfl rfl h_4 (n := 18) rfl ?_
    refine g_if_ne X dX7_restore_18 (t := 24) (by decide) (n := 21) rfl (fun c_5 => ?_) (fun c_5 => ?_)
    · replace hf := k_neg c_5 hf
      refine g_bipush X dX7_restore_24 (v := 92) (by decide) (n := 26) rfl ?_
      refine g_iload_n X dX7_restore_26 1 rfl rfl (n := 27) rfl ?_
      refine g_imul X dX7_restore_27 (n := 28) rfl ?_
      refine g_istore_n X dX7_restore_28 rfl (by decide) (lv2 := [(2, .int ((92 : Int32) * p1)), (0, .ref (a 0)), (1, .int p1)]) rfl (n := 29) rfl ?_
      refine g_iconst X dX7_restore_29 (v := 0) (by decide) (n := 30) rfl ?_
      refine g_istore_n X dX7_restore_30 rfl (by decide) (lv2 := [(3, .int 0), (2, .int ((92 : Int32) * p1)), (0, .ref (a 0)), (1, .int p1)]) rfl (n := 31) rfl ?_
      refine g_sub [2, 1, 0] (lv' := [(0, .ref (a 0)), (2, .int ((92 : Int32) * p1)), (3, .int 0)]) rfl ?_
      exact wX7_restore_l31 X  hret _ _ _ _ hf
    · replace hf := k_pos c_5 hf
      refine g_bipush X dX7_restore_21 (v := (-3)) (by decide) (n := 23) rfl ?_
      obtain rfl := Option.some.inj hf
      exact hret _ _ dX7_restore_23
  · replace hf := k_neg c_3 hf
    refine g_bipush X dX7_restore_9 (v := (-2)) (by decide) (n := 11) rfl ?_
    obtain rfl := Option.some.inj hf
    exact hret _ _ dX7_restore_11
set_option maxRecDepth 100000 in
set_option maxHeartbeats 4000000 in
theorem mX7_restore {l : Launch} {D : va_G} {N : Nat} {a : Nat → Nat} {p1 : Int32} {mp : VMp} {mg : VMg} {mc : Nat → Int64} {ml : VMl} {mq : VMq} {mh : VMh} {ms : VMs} {mr : Nat → Int32} {mi : VMi} {res : Int32 × VMg} (hf : fX7_restore N mi p1 mg = some res) : k_Met l yX7_restore cX7_restore 4 (some .int) 1 22 D [.ref (a 0), .int p1] (pic_X7 D a mp mg mc ml mq mh ms mr mi) (some (.int res.1)) (pic_X7 D a mp res.2 mc ml mq mh ms mr mi) :=
  k_of_i (by decide) (Nat.le_of_ble_eq_true rfl) (fun E X hret => wX7_restore X hret hf)
set_option maxRecDepth 100000 in
set_option maxHeartbeats 4000000 in
theorem wX7_told {D : va_G} {l : Launch} {E : k_E} {N : Nat} {a : Nat → Nat} {p1 : Int32} {mp : VMp} {mg : VMg} {mc : Nat → Int64} {ml : VMl} {mq : VMq} {mh : VMh} {ms : VMs} {mr : Nat → Int32} {mi : VMi} {res : Int32} (X : k_X D E cX7_told RX7 2 1 22) (hret : ∀ (pc : Nat) (lv : List (Nat × Value)), decode cX7_told pc = .ok (.ireturn, 1) → k_G D l E (pic_X7 D a mp mg mc ml mq mh ms mr mi) lv pc [.int res]) (hf : fX7_told N mp mg p1 = some res) : k_G D l E (pic_X7 D a mp mg mc ml mq mh ms mr mi) [(0, .ref (a 0)), (1, .int p1)] 0 [] := by
  unfold fX7_told at hf
  refine g_iload_n X dX7_told_0 1 rfl rfl (n := 1) rfl ?_
  refine g_bipush X dX7_told_1 (v := 10) (by decide) (n := 3) rfl ?_
  refine g_bipush X dX7_told_3 (v := 15) (by decide) (n := 5) rfl ?_
  obtain ⟨x_1, g_2, hf⟩ := k_b1s hf
  refine g_callS0 X (mX7_in (D := D) (l := l)  g_2) lk_X7_in mlX7_58 dX7_told_5 (n := 8) rfl (st := []) rfl (st2 := [.int (bI x_1)]) rfl rfl ⟨Nat.le_of_ble_eq_true rfl, Nat.le_of_ble_eq_true rfl⟩ (Nat.le_of_ble_eq_true rfl) ?_
  refine g_if_eqB X dX7_told_8 (t := 21) (by decide) (n := 11) rfl (fun c_3 => ?_) (fun c_3 => ?_)
  · replace hf := k_neg c_3 hf
    refine g_iload_n X dX7_told_21 1 rfl rfl (n := 22) rfl ?_
    refine g_bipush X dX7_told_22 (v := 20) (by decide) (n := 24) rfl ?_
    refine g_bipush X dX7_told_24 (v := 25) (by decide) (n := 26) rfl ?_
    obtain ⟨x_4, g_5, hf⟩ := k_b1s hf
    refine g_callS0 X (mX7_in (D := D) (l := l)  g_5) lk_X7_in mlX7_58 dX7_told_26 (n := 29) rfl (st := []) rfl (st2 := [.int (bI x_4)]) rfl rfl ⟨Nat.le_of_ble_eq_true rfl, Nat.le_of_ble_eq_true rfl⟩ (Nat.le_of_ble_eq_true rfl) ?_
    refine g_if_eqB X dX7_told_29 (t := 42) (by decide) (n := 32) rfl (fun c_6 => ?_) (fun c_6 => ?_)
    · replace hf := k_neg c_6 hf
      refine g_iload_n X dX7_told_42 1 rfl rfl (n := 43) rfl ?_
      refine g_if_ne X dX7_told_43 (t := 53) (by decide) (n := 46) rfl (fun c_7 => ?_) (fun c_7 => ?_)
      · replace hf := k_neg c_7 hf
        refine g_iload_n X dX7_told_53 1 rfl rfl (n := 54) rfl ?_
        refine g_iconst X dX7_told_54 (v := 1) (by decide) (n := 55) rfl ?_
        refine g_icmp_ne X dX7_told_55 (t := 65) (by decide) (n := 58) rfl (fun c_8 => ?_) (fun c_8 => ?_)
        · replace hf := k_neg c_8 hf
          refine g_iload_n X dX7_told_65 1 rfl rfl (n := 66) rfl ?_
          refine g_iconst X dX7_told_66 (v := 2) (by decide) (n := 67) rfl ?_
          refine g_icmp_ne X dX7_told_67 (t := 77) (by decide) (n := 70) rfl (fun c_9 => ?_) (fun c_9 => ?_)
          · replace hf := k_neg c_9 hf
            refine g_iload_n X dX7_told_77 1 rfl rfl (n := 78) rfl ?_
            refine g_iconst X dX7_told_78 (v := 3) (by decide) (n := 79) rfl ?_
            refine g_icmp_ne X dX7_told_79 (t := 94) (by decide) (n := 82) rfl (fun c_10 => ?_) (fun c_10 => ?_)
            · replace hf := k_neg c_10 hf
              refine g_bipush X dX7_told_94 (v := (-2)) (by decide) (n := 96) rfl ?_
              obtain rfl := Option.some.inj hf
              exact hret _ _ dX7_told_96
            · replace hf := k_pos c_10 hf
              refine g_bipush X dX7_told_82 (v := 63) (by decide) (n := 84) rfl ?_
              refine g_aload_n X dX7_told_84 0 rfl rfl (n := 85) rfl ?_
              obtain ⟨x_11, g_12, hf⟩ := k_b1s hf
              refine g_callV0 X (mX7_valid (D := D) (l := l) (a := a) (mp := mp) (mc := mc) (ml := ml) (mq := mq) (mh := mh) (ms := ms) (mr := mr) (mi := mi) g_12) lk_X7_valid mlX7_108 dX7_told_85 (n := 88) rfl (st := [.int 63]) rfl (st2 := [.int x_11, .int 63]) rfl rfl rfl rfl (ws2 := pic_X7 D a mp mg mc ml mq mh ms mr mi) (ad_X7 _ _ _ _ _ _ _ _ _ _ _ _ _ _ _ _ _ _ _ _) rfl ⟨Nat.le_of_ble_eq_true rfl, Nat.le_of_ble_eq_true rfl⟩ (Nat.le_of_ble_eq_true rfl) ?_
              refine g_iconst X dX7_told_88 (v := (-1)) (by decide) (n := 89) rfl ?_
              refine g_ixor X dX7_told_89 (n := 90) rfl ?_
              refine g_iand X dX7_told_90 (n := 91) rfl ?_
              refine g_goto X dX7_told_91 (n := 96) (by decide) ?_
              obtain rfl := Option.some.inj hf
              exact hret _ _ dX7_told_96
          · replace hf := k_pos c_9 hf
            refine g_aload_n X dX7_told_70 0 rfl rfl (n := 71) rfl ?_
            refine g_get X dX7_told_71 flX7_29 0 rfl (v := .int mg.2.2.2.2.2.1) rfl (n := 74) rfl ?_
            refine g_goto X dX7_told_74 (n := 96) (by decide) ?_
            obtain rfl := Option.some.inj hf
            exact hret _ _ dX7_told_96
        · replace hf := k_pos c_8 hf
          refine g_aload_n X dX7_told_58 0 rfl rfl (n := 59) rfl ?_
          refine g_get X dX7_told_59 flX7_25 0 rfl (v := .int mg.2.2.2.2.1) rfl (n := 62) rfl ?_
          refine g_goto X dX7_told_62 (n := 96) (by decide) ?_
          obtain rfl := Option.some.inj hf
          exact hret _ _ dX7_told_96
      · replace hf := k_pos c_7 hf
        refine g_aload_n X dX7_told_46 0 rfl rfl (n := 47) rfl ?_
        refine g_get X dX7_told_47 flX7_66 0 rfl (v := .int mp.2) rfl (n := 50) rfl ?_
        refine g_goto X dX7_told_50 (n := 96) (by decide) ?_
        obtain rfl := Option.some.inj hf
        exact hret _ _ dX7_told_96
    · replace hf := k_pos c_6 hf
      refine g_aload_n X dX7_told_32 0 rfl rfl (n := 33) rfl ?_
      refine g_get X dX7_told_33 flX7_19 0 rfl (v := .ref (a 4)) rfl (n := 36) rfl ?_
      refine g_iload_n X dX7_told_36 1 rfl rfl (n := 37) rfl ?_
      refine g_bipush X dX7_told_37 (v := 20) (by decide) (n := 39) rfl ?_
      refine g_isub X dX7_told_39 (n := 40) rfl ?_
      obtain ⟨h_13, hf⟩ := k_guard hf
      refine g_iaload X dX7_told_40 4 (f := mg.2.2.1) rfl rfl h_13 (n := 41) rfl ?_
      obtain rfl := Option.some.inj hf
      exact hret _ _ dX7_told_41
  · replace hf := k_pos c_3 hf
    refine g_aload_n X dX7_told_11 0 rfl rfl (n := 12) rfl ?_
    refine g_get X dX7_told_12 flX7_13 0 rfl (v := .ref (a 2)) rfl (n := 15) rfl ?_
    refine g_iload_n X dX7_told_15 1 rfl rfl (n := 16) rfl ?_
    refine g_bipush X dX7_told_16 (v := 10) (by decide) (n := 18) rfl ?_
    refine g_isub X dX7_told_18 (n := 19) rfl ?_
    obtain ⟨h_14, hf⟩ := k_guard hf
    refine g_iaload X dX7_told_19 2 (f := mg.1) rfl rfl h_14 (n := 20) rfl ?_
    obtain rfl := Option.some.inj hf
    exact hret _ _ dX7_told_20
set_option maxRecDepth 100000 in
set_option maxHeartbeats 4000000 in
theorem mX7_told {l : Launch} {D : va_G} {N : Nat} {a : Nat → Nat} {p1 : Int32} {mp : VMp} {mg : VMg} {mc : Nat → Int64} {ml : VMl} {mq : VMq} {mh : VMh} {ms : VMs} {mr : Nat → Int32} {mi : VMi} {res : Int32} (hf : fX7_told N mp mg p1 = some res) : k_Met l yX7_told cX7_told 2 (some .int) 1 22 D [.ref (a 0), .int p1] (pic_X7 D a mp mg mc ml mq mh ms mr mi) (some (.int res)) (pic_X7 D a mp mg mc ml mq mh ms mr mi) :=
  k_of_i (by decide) (Nat.le_of_ble_eq_true rfl) (fun E X hret => wX7_told X hret hf)
