/-! walks: X6_isGatherer X6_sheetsOf X6_gatherer X6_oddsByLot_ru X6_oddsByLot_ot X6_seems X6_hasNames X6_suspect -/
set_option maxRecDepth 100000 in
set_option maxHeartbeats 4000000 in
theorem wX6_isGatherer {D : va_G} {l : Launch} {E : k_E} {p0 : Int32} {res : Bool} (X : k_X D E cX6_isGatherer RX6 1 1 22) (hret : ∀ (pc : Nat) (lv : List (Nat × Value)), decode cX6_isGatherer pc = .ok (.ireturn, 1) → k_G D l E ([]) lv pc [.int (bI res)]) (hf : fX6_isGatherer p0 = some res) : k_G D l E ([]) [(0, .int p0)] 0 [] := by
  unfold fX6_isGatherer at hf
  refine g_iload_n X dX6_isGatherer_0 0 rfl rfl (n := 1) rfl ?_
  refine g_iconst X dX6_isGatherer_1 (v := 0) (by decide) (n := 2) rfl ?_
  refine g_iconst X dX6_isGatherer_2 (v := 4) (by decide) (n := 3) rfl ?_
  obtain ⟨x_1, g_2, hf⟩ := k_b1s hf
  refine g_callS0 X (mX6_isWithin (D := D) (l := l)  g_2) lk_X6_isWithin mlX6_69 dX6_isGatherer_3 (n := 6) rfl (st := []) rfl (st2 := [.int (bI x_1)]) rfl rfl ⟨Nat.le_of_ble_eq_true rfl, Nat.le_of_ble_eq_true rfl⟩ (Nat.le_of_ble_eq_true rfl) ?_
  obtain rfl := Option.some.inj hf
  exact hret _ _ dX6_isGatherer_6
set_option maxRecDepth 100000 in
set_option maxHeartbeats 4000000 in
theorem mX6_isGatherer {l : Launch} {D : va_G} {p0 : Int32} {res : Bool} (hf : fX6_isGatherer p0 = some res) : k_Met l yX6_isGatherer cX6_isGatherer 1 (some .boolean) 1 22 D [.int p0] ([]) (some (.int (bI res))) ([]) :=
  k_of_z (by decide) (Nat.le_of_ble_eq_true rfl) (fun E X hret => wX6_isGatherer X hret hf)
set_option maxRecDepth 100000 in
set_option maxHeartbeats 4000000 in
theorem wX6_sheetsOf_b39 {D : va_G} {l : Launch} {E : k_E} {N : Nat} {a : Nat → Nat} {k4 : Int32 → Int32 → Int32 → Option (Int32)} {v1 : Int32} {v2 : Int32} {v3 : Int32} {pad : VX5} {now : VX3} {fi : VX3} {se : VX3} {li : VX4} {so : VX4} {lo : VX1} {re : VX2} {ru : VX0} {ot : VX0} {le : Nat → Int32} {res : Int32} (X : k_X D E cX6_sheetsOf RX6 4 1 21) (hk4 : ∀ (v1 : Int32) (v2 : Int32) (v3 : Int32) , k4 v1 v2 v3 = some res → k_G D l E (pic_X6 D a pad now fi se li so lo re ru ot le) [(0, .ref (a 0)), (1, .int v1), (2, .int v2), (3, .int v3)] 4 []) (hret : ∀ (pc : Nat) (lv : List (Nat × Value)), decode cX6_sheetsOf pc = .ok (.ireturn, 1) → k_G D l E (pic_X6 D a pad now fi se li so lo re ru ot le) lv pc [.int res]) (hf : fX6_sheetsOf_b39 N now k4 v1 v2 v3 = some res) : k_G D l E (pic_X6 D a pad now fi se li so lo re ru ot le) [(0, .ref (a 0)), (1, .int v1), (2, .int v2), (3, .int v3)] 39 [] := by
  unfold fX6_sheetsOf_b39 at hf
  refine g_iinc X dX6_sheetsOf_39 3 rfl (v := v3 + 1) rfl (by decide) (lv2 := [(3, .int (v3 + 1)), (0, .ref (a 0)), (1, .int v1), (2, .int v2)]) rfl (n := 42) rfl ?_
  refine g_goto X dX6_sheetsOf_42 (n := 4) (by decide) ?_
  refine g_sub [1, 2, 3, 0] (lv' := [(0, .ref (a 0)), (1, .int v1), (2, .int v2), (3, .int (v3 + 1))]) rfl ?_
  exact hk4 _ _ _ hf
set_option maxRecDepth 100000 in
set_option maxHeartbeats 4000000 in
theorem wX6_sheetsOf_b4 {D : va_G} {l : Launch} {E : k_E} {N : Nat} {a : Nat → Nat} {k4 : Int32 → Int32 → Int32 → Option (Int32)} {v1 : Int32} {v2 : Int32} {v3 : Int32} {pad : VX5} {now : VX3} {fi : VX3} {se : VX3} {li : VX4} {so : VX4} {lo : VX1} {re : VX2} {ru : VX0} {ot : VX0} {le : Nat → Int32} {res : Int32} (X : k_X D E cX6_sheetsOf RX6 4 1 21) (hk4 : ∀ (v1 : Int32) (v2 : Int32) (v3 : Int32) , k4 v1 v2 v3 = some res → k_G D l E (pic_X6 D a pad now fi se li so lo re ru ot le) [(0, .ref (a 0)), (1, .int v1), (2, .int v2), (3, .int v3)] 4 []) (hret : ∀ (pc : Nat) (lv : List (Nat × Value)), decode cX6_sheetsOf pc = .ok (.ireturn, 1) → k_G D l E (pic_X6 D a pad now fi se li so lo re ru ot le) lv pc [.int res]) (hf : fX6_sheetsOf_b4 N now k4 v1 v2 v3 = some res) : k_G D l E (pic_X6 D a pad now fi se li so lo re ru ot le) [(0, .ref (a 0)), (1, .int v1), (2, .int v2), (3, .int v3)] 4 [] := by
  unfold fX6_sheetsOf_b4 at hf
  refine g_iload_n X dX6_sheetsOf_4 3 rfl rfl (n := 5) rfl ?_
  refine g_bipush X dX6_sheetsOf_5 (v := 6) (by decide) (n := 7) rfl ?_
  refine g_icmp_ge X dX6_sheetsOf_7 (t := 45) (by decide) (n := 10) rfl (fun c_1 => ?_) (fun c_1 => ?_)
  · replace hf := k_pos c_1 hf
    refine g_iload_n X dX6_sheetsOf_45 2 rfl rfl (n := 46) rfl ?_
    obtain rfl := Option.some.inj hf
    exact hret _ _ dX6_sheetsOf_46
  · replace hf := k_neg c_1 hf
    refine g_aload_n X dX6_sheetsOf_10 0 rfl rfl (n := 11) rfl ?_
    refine g_get X dX6_sheetsOf_11 flX6_21 0 rfl (v := .ref (a 3)) rfl (n := 14) rfl ?_
    refine g_iload_n X dX6_sheetsOf_14 3 rfl rfl (n := 15) rfl ?_
    obtain ⟨x_2, g_3, hf⟩ := k_b1s hf
    refine g_callV X (mX3_isStruck (D := D) (l := l) (a0 := (a 3)) (a1 := (a 4)) (a2 := (a 5)) (a3 := (a 6)) (a4 := (a 7)) (a5 := (a 8)) g_3) lk_X3_isStruck mlX6_254 dX6_sheetsOf_15 (n := 18) rfl (st := []) rfl (st2 := [.int (bI x_2)]) rfl [3, 4, 5, 6, 7, 8] rfl rfl rfl rfl rfl rfl (ws2 := pic_X6 D a pad now fi se li so lo re ru ot le) rfl rfl rfl ⟨Nat.le_of_ble_eq_true rfl, Nat.le_of_ble_eq_true rfl⟩ (Nat.le_of_ble_eq_true rfl) ?_
    refine g_if_neB X dX6_sheetsOf_18 (t := 39) (by decide) (n := 21) rfl (fun c_4 => ?_) (fun c_4 => ?_)
    · replace hf := k_pos c_4 hf
      refine g_sub [0, 1, 2, 3] (lv' := [(0, .ref (a 0)), (1, .int v1), (2, .int v2), (3, .int v3)]) rfl ?_
      exact wX6_sheetsOf_b39 X hk4 hret hf
    · replace hf := k_neg c_4 hf
      refine g_aload_n X dX6_sheetsOf_21 0 rfl rfl (n := 22) rfl ?_
      refine g_get X dX6_sheetsOf_22 flX6_21 0 rfl (v := .ref (a 3)) rfl (n := 25) rfl ?_
      refine g_iload_n X dX6_sheetsOf_25 3 rfl rfl (n := 26) rfl ?_
      obtain ⟨x_5, g_6, hf⟩ := k_b1s hf
      refine g_callV X (mX3_gathererOf (D := D) (l := l) (a0 := (a 3)) (a1 := (a 4)) (a2 := (a 5)) (a3 := (a 6)) (a4 := (a 7)) (a5 := (a 8)) g_6) lk_X3_gathererOf mlX6_294 dX6_sheetsOf_26 (n := 29) rfl (st := []) rfl (st2 := [.int x_5]) rfl [3, 4, 5, 6, 7, 8] rfl rfl rfl rfl rfl rfl (ws2 := pic_X6 D a pad now fi se li so lo re ru ot le) rfl rfl rfl ⟨Nat.le_of_ble_eq_true rfl, Nat.le_of_ble_eq_true rfl⟩ (Nat.le_of_ble_eq_true rfl) ?_
      refine g_iload_n X dX6_sheetsOf_29 1 rfl rfl (n := 30) rfl ?_
      refine g_icmp_ne X dX6_sheetsOf_30 (t := 39) (by decide) (n := 33) rfl (fun c_7 => ?_) (fun c_7 => ?_)
      · replace hf := k_neg c_7 hf
        refine g_sub [0, 1, 2, 3] (lv' := [(0, .ref (a 0)), (1, .int v1), (2, .int v2), (3, .int v3)]) rfl ?_
        exact wX6_sheetsOf_b39 X hk4 hret hf
      · replace hf := k_pos c_7 hf
        refine g_iload_n X dX6_sheetsOf_33 2 rfl rfl (n := 34) rfl ?_
        refine g_iconst X dX6_sheetsOf_34 (v := 1) (by decide) (n := 35) rfl ?_
        refine g_iload_n X dX6_sheetsOf_35 3 rfl rfl (n := 36) rfl ?_
        refine g_ishl X dX6_sheetsOf_36 (n := 37) rfl ?_
        refine g_ior X dX6_sheetsOf_37 (n := 38) rfl ?_
        refine g_istore_n X dX6_sheetsOf_38 rfl (by decide) (lv2 := [(2, .int (v2 ||| ((1 : Int32) <<< (v3 &&& 31)))), (0, .ref (a 0)), (1, .int v1), (3, .int v3)]) rfl (n := 39) rfl ?_
        refine g_sub [1, 2, 0, 3] (lv' := [(0, .ref (a 0)), (1, .int v1), (2, .int (v2 ||| ((1 : Int32) <<< (v3 &&& 31)))), (3, .int v3)]) rfl ?_
        exact wX6_sheetsOf_b39 X hk4 hret hf
set_option maxRecDepth 100000 in
set_option maxHeartbeats 4000000 in
theorem wX6_sheetsOf_l4 {D : va_G} {l : Launch} {E : k_E} {N : Nat} {a : Nat → Nat} {pad : VX5} {now : VX3} {fi : VX3} {se : VX3} {li : VX4} {so : VX4} {lo : VX1} {re : VX2} {ru : VX0} {ot : VX0} {le : Nat → Int32} {res : Int32} (X : k_X D E cX6_sheetsOf RX6 4 1 21) (hret : ∀ (pc : Nat) (lv : List (Nat × Value)), decode cX6_sheetsOf pc = .ok (.ireturn, 1) → k_G D l E (pic_X6 D a pad now fi se li so lo re ru ot le) lv pc [.int res]) : ∀ (n0 : Nat) (v1 : Int32) (v2 : Int32) (v3 : Int32) , fX6_sheetsOf_l4 N now n0 v1 v2 v3 = some res → k_G D l E (pic_X6 D a pad now fi se li so lo re ru ot le) [(0, .ref (a 0)), (1, .int v1), (2, .int v2), (3, .int v3)] 4 [] := by
  intro n0
  induction n0 with
  | zero => intro v1 v2 v3 hf; cases hf
  | succ n0 ih => intro v1 v2 v3 hf; exact wX6_sheetsOf_b4 (N := N) (k4 := fX6_sheetsOf_l4 N now n0) X  ih hret hf
set_option maxRecDepth 100000 in
set_option maxHeartbeats 4000000 in
theorem wX6_sheetsOf {D : va_G} {l : Launch} {E : k_E} {N : Nat} {a : Nat → Nat} {p1 : Int32} {pad : VX5} {now : VX3} {fi : VX3} {se : VX3} {li : VX4} {so : VX4} {lo : VX1} {re : VX2} {ru : VX0} {ot : VX0} {le : Nat → Int32} {res : Int32} (X : k_X D E cX6_sheetsOf RX6 4 1 21) (hret : ∀ (pc : Nat) (lv : List (Nat × Value)), decode cX6_sheetsOf pc = .ok (.ireturn, 1) → k_G D l E (pic_X6 D a pad now fi se li so lo re ru ot le) lv pc [.int res]) (hf : fX6_sheetsOf N now p1 = some res) : k_G D l E (pic_X6 D a pad now fi se li so lo re ru ot le) [(0, .ref (a 0)), (1, .int p1)] 0 [] := by
  unfold fX6_sheetsOf at hf
  refine g_iconst X dX6_sheetsOf_0 (v := 0) (by decide) (n := 1) rfl ?_
  refine g_istore_n X dX6_sheetsOf_1 rfl (by decide) (lv2 := [(2, .int 0), (0, .ref (a 0)), (1, .int p1)]) rfl (n := 2) rfl ?_
  refine g_iconst X dX6_sheetsOf_2 (v := 0) (by decide) (n := 3) rfl ?_
  refine g_istore_n X dX6_sheetsOf_3 rfl (by decide) (lv2 := [(3, .int 0), (2, .int 0), (0, .ref (a 0)), (1, .int p1)]) rfl (n := 4) rfl ?_
  refine g_sub [2, 3, 1, 0] (lv' := [(0, .ref (a 0)), (1, .int p1), (2, .int 0), (3, .int 0)]) rfl ?_
  exact wX6_sheetsOf_l4 X  hret _ _ _ _ hf
set_option maxRecDepth 100000 in
set_option maxHeartbeats 4000000 in
theorem mX6_sheetsOf {l : Launch} {D : va_G} {N : Nat} {a : Nat → Nat} {p1 : Int32} {pad : VX5} {now : VX3} {fi : VX3} {se : VX3} {li : VX4} {so : VX4} {lo : VX1} {re : VX2} {ru : VX0} {ot : VX0} {le : Nat → Int32} {res : Int32} (hf : fX6_sheetsOf N now p1 = some res) : k_Met l yX6_sheetsOf cX6_sheetsOf 4 (some .int) 1 21 D [.ref (a 0), .int p1] (pic_X6 D a pad now fi se li so lo re ru ot le) (some (.int res)) (pic_X6 D a pad now fi se li so lo re ru ot le) :=
  k_of_i (by decide) (Nat.le_of_ble_eq_true rfl) (fun E X hret => wX6_sheetsOf X hret hf)
set_option maxRecDepth 100000 in
set_option maxHeartbeats 4000000 in
theorem wX6_gatherer {D : va_G} {l : Launch} {E : k_E} {N : Nat} {a : Nat → Nat} {p1 : Int32} {p2 : Int32} {pad : VX5} {now : VX3} {fi : VX3} {se : VX3} {li : VX4} {so : VX4} {lo : VX1} {re : VX2} {ru : VX0} {ot : VX0} {le : Nat → Int32} {res : Int32 × VX4} (X : k_X D E cX6_gatherer RX6 3 3 69) (hret : ∀ (pc : Nat) (lv : List (Nat × Value)), decode cX6_gatherer pc = .ok (.ireturn, 1) → k_G D l E (pic_X6 D a pad now fi se li res.2 lo re ru ot le) lv pc [.int res.1]) (hf : fX6_gatherer N now p1 p2 so = some res) : k_G D l E (pic_X6 D a pad now fi se li so lo re ru ot le) [(0, .ref (a 0)), (1, .int p1), (2, .int p2)] 0 [] := by
  unfold fX6_gatherer at hf
  refine g_iload_n X dX6_gatherer_0 1 rfl rfl (n := 1) rfl ?_
  obtain ⟨x_1, g_2, hf⟩ := k_b1s hf
  refine g_callS0 X (mX6_isGatherer (D := D) (l := l)  g_2) lk_X6_isGatherer mlX6_211 dX6_gatherer_1 (n := 4) rfl (st := []) rfl (st2 := [.int (bI x_1)]) rfl rfl ⟨Nat.le_of_ble_eq_true rfl, Nat.le_of_ble_eq_true rfl⟩ (Nat.le_of_ble_eq_true rfl) ?_
  refine g_if_neB X dX6_gatherer_4 (t := 9) (by decide) (n := 7) rfl (fun c_3 => ?_) (fun c_3 => ?_)
  · replace hf := k_pos c_3 hf
    refine g_iload_n X dX6_gatherer_9 2 rfl rfl (n := 10) rfl ?_
    refine g_iconst X dX6_gatherer_10 (v := 0) (by decide) (n := 11) rfl ?_
    refine g_iconst X dX6_gatherer_11 (v := 1) (by decide) (n := 12) rfl ?_
    obtain ⟨x_4, g_5, hf⟩ := k_b1s hf
    refine g_callS0 X (mX6_isWithin (D := D) (l := l)  g_5) lk_X6_isWithin mlX6_69 dX6_gatherer_12 (n := 15) rfl (st := []) rfl (st2 := [.int (bI x_4)]) rfl rfl ⟨Nat.le_of_ble_eq_true rfl, Nat.le_of_ble_eq_true rfl⟩ (Nat.le_of_ble_eq_true rfl) ?_
    refine g_if_neB X dX6_gatherer_15 (t := 21) (by decide) (n := 18) rfl (fun c_6 => ?_) (fun c_6 => ?_)
    · replace hf := k_pos c_6 hf
      refine g_aload_n X dX6_gatherer_21 0 rfl rfl (n := 22) rfl ?_
      refine g_get X dX6_gatherer_22 flX6_38 0 rfl (v := .ref (a 23)) rfl (n := 25) rfl ?_
      refine g_aload_n X dX6_gatherer_25 0 rfl rfl (n := 26) rfl ?_
      refine g_get X dX6_gatherer_26 flX6_21 0 rfl (v := .ref (a 3)) rfl (n := 29) rfl ?_
      refine g_aload_n X dX6_gatherer_29 0 rfl rfl (n := 30) rfl ?_
      refine g_iload_n X dX6_gatherer_30 1 rfl rfl (n := 31) rfl ?_
      obtain ⟨x_7, g_8, hf⟩ := k_b1s hf
      refine g_callV0 X (mX6_sheetsOf (D := D) (l := l) (a := a) (pad := pad) (fi := fi) (se := se) (li := li) (so := so) (lo := lo) (re := re) (ru := ru) (ot := ot) (le := le) g_8) lk_X6_sheetsOf mlX6_214 dX6_gatherer_31 (n := 34) rfl (st := [.ref (a 3), .ref (a 23)]) rfl (st2 := [.int x_7, .ref (a 3), .ref (a 23)]) rfl rfl rfl rfl (ws2 := pic_X6 D a pad now fi se li so lo re ru ot le) (ad_X6 _ _ _ _ _ _ _ _ _ _ _ _ _ _ _ _ _ _ _ _ _ _ _ _) rfl ⟨Nat.le_of_ble_eq_true rfl, Nat.le_of_ble_eq_true rfl⟩ (Nat.le_of_ble_eq_true rfl) ?_
      obtain ⟨so_9, g_10, hf⟩ := k_b1s hf
      refine g_callV X (mX4_readSheets (D := D) (l := l) (a0 := (a 23)) (a1 := (a 24)) (b0 := (a 3)) (b1 := (a 4)) (b2 := (a 5)) (b3 := (a 6)) (b4 := (a 7)) (b5 := (a 8)) g_10) lk_X4_readSheets mlX6_217 dX6_gatherer_34 (n := 37) rfl (st := []) rfl (st2 := []) rfl [23, 24, 3, 4, 5, 6, 7, 8] rfl rfl rfl rfl rfl rfl (ws2 := pic_X6 D a pad now fi se li so_9 lo re ru ot le) rfl rfl rfl ⟨Nat.le_of_ble_eq_true rfl, Nat.le_of_ble_eq_true rfl⟩ (Nat.le_of_ble_eq_true rfl) ?_
      refine g_iload_n X dX6_gatherer_37 2 rfl rfl (n := 38) rfl ?_
      refine g_if_ne X dX6_gatherer_38 (t := 51) (by decide) (n := 41) rfl (fun c_11 => ?_) (fun c_11 => ?_)
      · replace hf := k_neg c_11 hf
        refine g_aload_n X dX6_gatherer_51 0 rfl rfl (n := 52) rfl ?_
        refine g_get X dX6_gatherer_52 flX6_38 0 rfl (v := .ref (a 23)) rfl (n := 55) rfl ?_
        refine g_getN X dX6_gatherer_55 flX6_121 23 rfl (v := .int so_9.2.2.1) rfl (n := 58) rfl ?_
        obtain rfl := Option.some.inj hf
        exact hret _ _ dX6_gatherer_58
      · replace hf := k_pos c_11 hf
        refine g_aload_n X dX6_gatherer_41 0 rfl rfl (n := 42) rfl ?_
        refine g_get X dX6_gatherer_42 flX6_38 0 rfl (v := .ref (a 23)) rfl (n := 45) rfl ?_
        refine g_getN X dX6_gatherer_45 flX6_118 23 rfl (v := .int so_9.2.1) rfl (n := 48) rfl ?_
        refine g_goto X dX6_gatherer_48 (n := 58) (by decide) ?_
        obtain rfl := Option.some.inj hf
        exact hret _ _ dX6_gatherer_58
    · replace hf := k_neg c_6 hf
      refine g_bipush X dX6_gatherer_18 (v := (-2)) (by decide) (n := 20) rfl ?_
      obtain rfl := Option.some.inj hf
      exact hret _ _ dX6_gatherer_20
  · replace hf := k_neg c_3 hf
    refine g_iconst X dX6_gatherer_7 (v := (-1)) (by decide) (n := 8) rfl ?_
    obtain rfl := Option.some.inj hf
    exact hret _ _ dX6_gatherer_8
set_option maxRecDepth 100000 in
set_option maxHeartbeats 4000000 in
theorem mX6_gatherer {l : Launch} {D : va_G} {N : Nat} {a : Nat → Nat} {p1 : Int32} {p2 : Int32} {pad : VX5} {now : VX3} {fi : VX3} {se : VX3} {li : VX4} {so : VX4} {lo : VX1} {re : VX2} {ru : VX0} {ot : VX0} {le : Nat → Int32} {res : Int32 × VX4} (hf : fX6_gatherer N now p1 p2 so = some res) : k_Met l yX6_gatherer cX6_gatherer 3 (some .int) 3 69 D [.ref (a 0), .int p1, .int p2] (pic_X6 D a pad now fi se li so lo re ru ot le) (some (.int res.1)) (pic_X6 D a pad now fi se li res.2 lo re ru ot le) :=
  k_of_i (by decide) (Nat.le_of_ble_eq_true rfl) (fun E X hret => wX6_gatherer X hret hf)
set_option maxRecDepth 100000 in
set_option maxHeartbeats 4000000 in
theorem wX6_oddsByLot_ru_b27 {D : va_G} {l : Launch} {E : k_E} {N : Nat} {a : Nat → Nat} {k27 : Int64 → Int32 → VX4 → VX0 → Option (VX4 × VX0)} {v3 : Int64} {v5 : Int32} {pad : VX5} {now : VX3} {fi : VX3} {se : VX3} {li : VX4} {so : VX4} {lo : VX1} {re : VX2} {ru : VX0} {ot : VX0} {le : Nat → Int32} {res : VX4 × VX0} (X : k_X D E cX6_oddsByLot RX6 6 3 77) (hk27 : ∀ (v3 : Int64) (v5 : Int32) (so : VX4) (ru : VX0), k27 v3 v5 so ru = some res → k_G D l E (pic_X6 D a pad now fi se li so lo re ru ot le) [(0, .ref (a 0)), (2, .ref (a 31)), (3, .long v3), (5, .int v5)] 27 []) (hret : ∀ (pc : Nat) (lv : List (Nat × Value)), decode cX6_oddsByLot pc = .ok (.return_, 1) → k_G D l E (pic_X6 D a pad now fi se li res.1 lo re res.2 ot le) lv pc []) (hf : fX6_oddsByLot_ru_b27 N now li lo k27 v3 v5 so ru = some res) : k_G D l E (pic_X6 D a pad now fi se li so lo re ru ot le) [(0, .ref (a 0)), (2, .ref (a 31)), (3, .long v3), (5, .int v5)] 27 [] := by
  unfold fX6_oddsByLot_ru_b27 at hf
  refine g_iload X dX6_oddsByLot_27 3 rfl (n := 29) rfl ?_
  refine g_aload_n X dX6_oddsByLot_29 0 rfl rfl (n := 30) rfl ?_
  refine g_get X dX6_oddsByLot_30 flX6_38 0 rfl (v := .ref (a 23)) rfl (n := 33) rfl ?_
  refine g_getN X dX6_oddsByLot_33 flX6_118 23 rfl (v := .int so.2.1) rfl (n := 36) rfl ?_
  refine g_icmp_gt X dX6_oddsByLot_36 (t := 89) (by decide) (n := 39) rfl (fun c_1 => ?_) (fun c_1 => ?_)
  · replace hf := k_pos c_1 hf
    refine g_aload_n X dX6_oddsByLot_89 1 rfl rfl (n := 90) rfl ?_
    refine g_lload_n X dX6_oddsByLot_90 2 rfl rfl (n := 91) rfl ?_
    refine g_aload_n X dX6_oddsByLot_91 0 rfl rfl (n := 92) rfl ?_
    refine g_get X dX6_oddsByLot_92 flX6_44 0 rfl (v := .ref (a 25)) rfl (n := 95) rfl ?_
    refine g_aload_n X dX6_oddsByLot_95 0 rfl rfl (n := 96) rfl ?_
    refine g_get X dX6_oddsByLot_96 flX6_34 0 rfl (v := .ref (a 21)) rfl (n := 99) rfl ?_
    refine g_getN X dX6_oddsByLot_99 flX6_118 21 rfl (v := .int li.2.1) rfl (n := 102) rfl ?_
    refine g_aload_n X dX6_oddsByLot_102 0 rfl rfl (n := 103) rfl ?_
    refine g_get X dX6_oddsByLot_103 flX6_38 0 rfl (v := .ref (a 23)) rfl (n := 106) rfl ?_
    refine g_getN X dX6_oddsByLot_106 flX6_118 23 rfl (v := .int so.2.1) rfl (n := 109) rfl ?_
    obtain ⟨x_2, g_3, hf⟩ := k_b1s hf
    refine g_callV X (mX1_choose (D := D) (l := l) (a0 := (a 25)) (a1 := (a 26)) (a2 := (a 27)) g_3) lk_X1_choose mlX6_183 dX6_oddsByLot_109 (n := 112) rfl (st := [.long v3, .ref (a 31)]) rfl (st2 := [.long x_2, .long v3, .ref (a 31)]) rfl [25, 26, 27] rfl rfl rfl rfl rfl rfl (ws2 := pic_X6 D a pad now fi se li so lo re ru ot le) rfl rfl rfl ⟨Nat.le_of_ble_eq_true rfl, Nat.le_of_ble_eq_true rfl⟩ (Nat.le_of_ble_eq_true rfl) ?_
    obtain ⟨ru_4, g_5, hf⟩ := k_b1s hf
    refine g_callV X (mX0_become (D := D) (l := l) (a0 := (a 31)) g_5) lk_X0_become mlX6_165 dX6_oddsByLot_112 (n := 115) rfl (st := []) rfl (st2 := []) rfl [31] rfl rfl rfl rfl rfl rfl (ws2 := pic_X6 D a pad now fi se li so lo re ru_4 ot le) rfl rfl rfl ⟨Nat.le_of_ble_eq_true rfl, Nat.le_of_ble_eq_true rfl⟩ (Nat.le_of_ble_eq_true rfl) ?_
    obtain rfl := Option.some.inj hf
    exact hret _ _ dX6_oddsByLot_115
  · replace hf := k_neg c_1 hf
    refine g_lload_n X dX6_oddsByLot_39 2 rfl rfl (n := 40) rfl ?_
    refine g_aload_n X dX6_oddsByLot_40 0 rfl rfl (n := 41) rfl ?_
    refine g_get X dX6_oddsByLot_41 flX6_44 0 rfl (v := .ref (a 25)) rfl (n := 44) rfl ?_
    refine g_aload_n X dX6_oddsByLot_44 0 rfl rfl (n := 45) rfl ?_
    refine g_get X dX6_oddsByLot_45 flX6_34 0 rfl (v := .ref (a 21)) rfl (n := 48) rfl ?_
    refine g_getN X dX6_oddsByLot_48 flX6_121 21 rfl (v := .int li.2.2.1) rfl (n := 51) rfl ?_
    refine g_iload X dX6_oddsByLot_51 3 rfl (n := 53) rfl ?_
    obtain ⟨x_6, g_7, hf⟩ := k_b1s hf
    refine g_callV X (mX1_choose (D := D) (l := l) (a0 := (a 25)) (a1 := (a 26)) (a2 := (a 27)) g_7) lk_X1_choose mlX6_183 dX6_oddsByLot_53 (n := 56) rfl (st := [.long v3]) rfl (st2 := [.long x_6, .long v3]) rfl [25, 26, 27] rfl rfl rfl rfl rfl rfl (ws2 := pic_X6 D a pad now fi se li so lo re ru ot le) rfl rfl rfl ⟨Nat.le_of_ble_eq_true rfl, Nat.le_of_ble_eq_true rfl⟩ (Nat.le_of_ble_eq_true rfl) ?_
    refine g_aload_n X dX6_oddsByLot_56 0 rfl rfl (n := 57) rfl ?_
    refine g_get X dX6_oddsByLot_57 flX6_44 0 rfl (v := .ref (a 25)) rfl (n := 60) rfl ?_
    refine g_aload_n X dX6_oddsByLot_60 0 rfl rfl (n := 61) rfl ?_
    refine g_get X dX6_oddsByLot_61 flX6_34 0 rfl (v := .ref (a 21)) rfl (n := 64) rfl ?_
    obtain ⟨x_8, g_9, hf⟩ := k_b1s hf
    refine g_callV X (mX4_valid (D := D) (l := l) (a0 := (a 21)) (a1 := (a 22)) g_9) lk_X4_valid mlX6_251 dX6_oddsByLot_64 (n := 67) rfl (st := [.ref (a 25), .long x_6, .long v3]) rfl (st2 := [.int x_8, .ref (a 25), .long x_6, .long v3]) rfl [21, 22] rfl rfl rfl rfl rfl rfl (ws2 := pic_X6 D a pad now fi se li so lo re ru ot le) rfl rfl rfl ⟨Nat.le_of_ble_eq_true rfl, Nat.le_of_ble_eq_true rfl⟩ (Nat.le_of_ble_eq_true rfl) ?_
    refine g_aload_n X dX6_oddsByLot_67 0 rfl rfl (n := 68) rfl ?_
    refine g_get X dX6_oddsByLot_68 flX6_38 0 rfl (v := .ref (a 23)) rfl (n := 71) rfl ?_
    refine g_getN X dX6_oddsByLot_71 flX6_118 23 rfl (v := .int so.2.1) rfl (n := 74) rfl ?_
    refine g_iload X dX6_oddsByLot_74 3 rfl (n := 76) rfl ?_
    refine g_isub X dX6_oddsByLot_76 (n := 77) rfl ?_
    obtain ⟨x_10, g_11, hf⟩ := k_b1s hf
    refine g_callV X (mX1_choose (D := D) (l := l) (a0 := (a 25)) (a1 := (a 26)) (a2 := (a 27)) g_11) lk_X1_choose mlX6_183 dX6_oddsByLot_77 (n := 80) rfl (st := [.long x_6, .long v3]) rfl (st2 := [.long x_10, .long x_6, .long v3]) rfl [25, 26, 27] rfl rfl rfl rfl rfl rfl (ws2 := pic_X6 D a pad now fi se li so lo re ru ot le) rfl rfl rfl ⟨Nat.le_of_ble_eq_true rfl, Nat.le_of_ble_eq_true rfl⟩ (Nat.le_of_ble_eq_true rfl) ?_
    refine g_lmul X dX6_oddsByLot_80 (n := 81) rfl ?_
    refine g_ladd X dX6_oddsByLot_81 (n := 82) rfl ?_
    refine g_lstore_n X dX6_oddsByLot_82 rfl (by decide) (lv2 := [(3, .long (v3 + (x_6 * x_10))), (0, .ref (a 0)), (2, .ref (a 31)), (5, .int v5)]) rfl (n := 83) rfl ?_
    refine g_iinc X dX6_oddsByLot_83 3 rfl (v := v5 + 1) rfl (by decide) (lv2 := [(5, .int (v5 + 1)), (3, .long (v3 + (x_6 * x_10))), (0, .ref (a 0)), (2, .ref (a 31))]) rfl (n := 86) rfl ?_
    refine g_goto X dX6_oddsByLot_86 (n := 27) (by decide) ?_
    refine g_sub [2, 3, 1, 0] (lv' := [(0, .ref (a 0)), (2, .ref (a 31)), (3, .long (v3 + (x_6 * x_10))), (5, .int (v5 + 1))]) rfl ?_
    exact hk27 _ _ _ _ hf
set_option maxRecDepth 100000 in
set_option maxHeartbeats 4000000 in
theorem wX6_oddsByLot_ru_l27 {D : va_G} {l : Launch} {E : k_E} {N : Nat} {a : Nat → Nat} {pad : VX5} {now : VX3} {fi : VX3} {se : VX3} {li : VX4} {lo : VX1} {re : VX2} {ot : VX0} {le : Nat → Int32} {res : VX4 × VX0} (X : k_X D E cX6_oddsByLot RX6 6 3 77) (hret : ∀ (pc : Nat) (lv : List (Nat × Value)), decode cX6_oddsByLot pc = .ok (.return_, 1) → k_G D l E (pic_X6 D a pad now fi se li res.1 lo re res.2 ot le) lv pc []) : ∀ (n0 : Nat) (v3 : Int64) (v5 : Int32) (so : VX4) (ru : VX0), fX6_oddsByLot_ru_l27 N now li lo n0 v3 v5 so ru = some res → k_G D l E (pic_X6 D a pad now fi se li so lo re ru ot le) [(0, .ref (a 0)), (2, .ref (a 31)), (3, .long v3), (5, .int v5)] 27 [] := by
  intro n0
  induction n0 with
  | zero => intro v3 v5 so ru hf; cases hf
  | succ n0 ih => intro v3 v5 so ru hf; exact wX6_oddsByLot_ru_b27 (N := N) (k27 := fX6_oddsByLot_ru_l27 N now li lo n0) X  ih hret hf
set_option maxRecDepth 100000 in
set_option maxHeartbeats 4000000 in
theorem wX6_oddsByLot_ru {D : va_G} {l : Launch} {E : k_E} {N : Nat} {a : Nat → Nat} {p1 : Int32} {pad : VX5} {now : VX3} {fi : VX3} {se : VX3} {li : VX4} {so : VX4} {lo : VX1} {re : VX2} {ru : VX0} {ot : VX0} {le : Nat → Int32} {res : VX4 × VX0} (X : k_X D E cX6_oddsByLot RX6 6 3 77) (hret : ∀ (pc : Nat) (lv : List (Nat × Value)), decode cX6_oddsByLot pc = .ok (.return_, 1) → k_G D l E (pic_X6 D a pad now fi se li res.1 lo re res.2 ot le) lv pc []) (hf : fX6_oddsByLot_ru N now li lo p1 so ru = some res) : k_G D l E (pic_X6 D a pad now fi se li so lo re ru ot le) [(0, .ref (a 0)), (1, .int p1), (2, .ref (a 31))] 0 [] := by
  unfold fX6_oddsByLot_ru at hf
  refine g_aload_n X dX6_oddsByLot_0 0 rfl rfl (n := 1) rfl ?_
  refine g_get X dX6_oddsByLot_1 flX6_38 0 rfl (v := .ref (a 23)) rfl (n := 4) rfl ?_
  refine g_aload_n X dX6_oddsByLot_4 0 rfl rfl (n := 5) rfl ?_
  refine g_get X dX6_oddsByLot_5 flX6_21 0 rfl (v := .ref (a 3)) rfl (n := 8) rfl ?_
  refine g_aload_n X dX6_oddsByLot_8 0 rfl rfl (n := 9) rfl ?_
  refine g_iload_n X dX6_oddsByLot_9 1 rfl rfl (n := 10) rfl ?_
  obtain ⟨x_1, g_2, hf⟩ := k_b1s hf
  refine g_callV0 X (mX6_sheetsOf (D := D) (l := l) (a := a) (pad := pad) (fi := fi) (se := se) (li := li) (so := so) (lo := lo) (re := re) (ru := ru) (ot := ot) (le := le) g_2) lk_X6_sheetsOf mlX6_214 dX6_oddsByLot_10 (n := 13) rfl (st := [.ref (a 3), .ref (a 23)]) rfl (st2 := [.int x_1, .ref (a 3), .ref (a 23)]) rfl rfl rfl rfl (ws2 := pic_X6 D a pad now fi se li so lo re ru ot le) (ad_X6 _ _ _ _ _ _ _ _ _ _ _ _ _ _ _ _ _ _ _ _ _ _ _ _) rfl ⟨Nat.le_of_ble_eq_true rfl, Nat.le_of_ble_eq_true rfl⟩ (Nat.le_of_ble_eq_true rfl) ?_
  obtain ⟨so_3, g_4, hf⟩ := k_b1s hf
  refine g_callV X (mX4_readSheets (D := D) (l := l) (a0 := (a 23)) (a1 := (a 24)) (b0 := (a 3)) (b1 := (a 4)) (b2 := (a 5)) (b3 := (a 6)) (b4 := (a 7)) (b5 := (a 8)) g_4) lk_X4_readSheets mlX6_217 dX6_oddsByLot_13 (n := 16) rfl (st := []) rfl (st2 := []) rfl [23, 24, 3, 4, 5, 6, 7, 8] rfl rfl rfl rfl rfl rfl (ws2 := pic_X6 D a pad now fi se li so_3 lo re ru ot le) rfl rfl rfl ⟨Nat.le_of_ble_eq_true rfl, Nat.le_of_ble_eq_true rfl⟩ (Nat.le_of_ble_eq_true rfl) ?_
  refine g_lconst X dX6_oddsByLot_16 (v := 0) rfl (n := 17) rfl ?_
  refine g_lstore_n X dX6_oddsByLot_17 rfl (by decide) (lv2 := [(3, .long (0 : Int64)), (0, .ref (a 0)), (1, .int p1), (2, .ref (a 31))]) rfl (n := 18) rfl ?_
  refine g_aload_n X dX6_oddsByLot_18 1 rfl rfl (n := 19) rfl ?_
  refine g_get X dX6_oddsByLot_19 flX6_38 0 rfl (v := .ref (a 23)) rfl (n := 22) rfl ?_
  refine g_getN X dX6_oddsByLot_22 flX6_121 23 rfl (v := .int so_3.2.2.1) rfl (n := 25) rfl ?_
  refine g_istore X dX6_oddsByLot_25 (by decide) (lv2 := [(5, .int so_3.2.2.1), (3, .long (0 : Int64)), (0, .ref (a 0)), (1, .int p1), (2, .ref (a 31))]) rfl (n := 27) rfl ?_
  refine g_sub [2, 4, 1, 0] (lv' := [(0, .ref (a 0)), (2, .ref (a 31)), (3, .long (0 : Int64)), (5, .int so_3.2.2.1)]) rfl ?_
  exact wX6_oddsByLot_ru_l27 X  hret _ _ _ _ _ hf
set_option maxRecDepth 100000 in
set_option maxHeartbeats 4000000 in
theorem mX6_oddsByLot_ru {l : Launch} {D : va_G} {N : Nat} {a : Nat → Nat} {p1 : Int32} {pad : VX5} {now : VX3} {fi : VX3} {se : VX3} {li : VX4} {so : VX4} {lo : VX1} {re : VX2} {ru : VX0} {ot : VX0} {le : Nat → Int32} {res : VX4 × VX0} (hf : fX6_oddsByLot_ru N now li lo p1 so ru = some res) : k_Met l yX6_oddsByLot cX6_oddsByLot 6 none 3 77 D [.ref (a 0), .int p1, .ref (a 31)] (pic_X6 D a pad now fi se li so lo re ru ot le) none (pic_X6 D a pad now fi se li res.1 lo re res.2 ot le) :=
  k_of_v (by decide) (Nat.le_of_ble_eq_true rfl) (fun E X hret => wX6_oddsByLot_ru X hret hf)
set_option maxRecDepth 100000 in
set_option maxHeartbeats 4000000 in
theorem wX6_oddsByLot_ot_b27 {D : va_G} {l : Launch} {E : k_E} {N : Nat} {a : Nat → Nat} {k27 : Int64 → Int32 → VX4 → VX0 → Option (VX4 × VX0)} {v3 : Int64} {v5 : Int32} {pad : VX5} {now : VX3} {fi : VX3} {se : VX3} {li : VX4} {so : VX4} {lo : VX1} {re : VX2} {ru : VX0} {ot : VX0} {le : Nat → Int32} {res : VX4 × VX0} (X : k_X D E cX6_oddsByLot RX6 6 3 77) (hk27 : ∀ (v3 : Int64) (v5 : Int32) (so : VX4) (ot : VX0), k27 v3 v5 so ot = some res → k_G D l E (pic_X6 D a pad now fi se li so lo re ru ot le) [(0, .ref (a 0)), (2, .ref (a 32)), (3, .long v3), (5, .int v5)] 27 []) (hret : ∀ (pc : Nat) (lv : List (Nat × Value)), decode cX6_oddsByLot pc = .ok (.return_, 1) → k_G D l E (pic_X6 D a pad now fi se li res.1 lo re ru res.2 le) lv pc []) (hf : fX6_oddsByLot_ot_b27 N now li lo k27 v3 v5 so ot = some res) : k_G D l E (pic_X6 D a pad now fi se li so lo re ru ot le) [(0, .ref (a 0)), (2, .ref (a 32)), (3, .long v3), (5, .int v5)] 27 [] := by
  unfold fX6_oddsByLot_ot_b27 at hf
  refine g_iload X dX6_oddsByLot_27 3 rfl (n := 29) rfl ?_
  refine g_aload_n X dX6_oddsByLot_29 0 rfl rfl (n := 30) rfl ?_
  refine g_get X dX6_oddsByLot_30 flX6_38 0 rfl (v := .ref (a 23)) rfl (n := 33) rfl ?_
  refine g_getN X dX6_oddsByLot_33 flX6_118 23 rfl (v := .int so.2.1) rfl (n := 36) rfl ?_
  refine g_icmp_gt X dX6_oddsByLot_36 (t := 89) (by decide) (n := 39) rfl (fun c_1 => ?_) (fun c_1 => ?_)
  · replace hf := k_pos c_1 hf
    refine g_aload_n X dX6_oddsByLot_89 1 rfl rfl (n := 90) rfl ?_
    refine g_lload_n X dX6_oddsByLot_90 2 rfl rfl (n := 91) rfl ?_
    refine g_aload_n X dX6_oddsByLot_91 0 rfl rfl (n := 92) rfl ?_
    refine g_get X dX6_oddsByLot_92 flX6_44 0 rfl (v := .ref (a 25)) rfl (n := 95) rfl ?_
    refine g_aload_n X dX6_oddsByLot_95 0 rfl rfl (n := 96) rfl ?_
    refine g_get X dX6_oddsByLot_96 flX6_34 0 rfl (v := .ref (a 21)) rfl (n := 99) rfl ?_
    refine g_getN X dX6_oddsByLot_99 flX6_118 21 rfl (v := .int li.2.1) rfl (n := 102) rfl ?_
    refine g_aload_n X dX6_oddsByLot_102 0 rfl rfl (n := 103) rfl ?_
    refine g_get X dX6_oddsByLot_103 flX6_38 0 rfl (v := .ref (a 23)) rfl (n := 106) rfl ?_
    refine g_getN X dX6_oddsByLot_106 flX6_118 23 rfl (v := .int so.2.1) rfl (n := 109) rfl ?_
    obtain ⟨x_2, g_3, hf⟩ := k_b1s hf
    refine g_callV X (mX1_choose (D := D) (l := l) (a0 := (a 25)) (a1 := (a 26)) (a2 := (a 27)) g_3) lk_X1_choose mlX6_183 dX6_oddsByLot_109 (n := 112) rfl (st := [.long v3, .ref (a 32)]) rfl (st2 := [.long x_2, .long v3, .ref (a 32)]) rfl [25, 26, 27] rfl rfl rfl rfl rfl rfl (ws2 := pic_X6 D a pad now fi se li so lo re ru ot le) rfl rfl rfl ⟨Nat.le_of_ble_eq_true rfl, Nat.le_of_ble_eq_true rfl⟩ (Nat.le_of_ble_eq_true rfl) ?_
    obtain ⟨ot_4, g_5, hf⟩ := k_b1s hf
    refine g_callV X (mX0_become (D := D) (l := l) (a0 := (a 32)) g_5) lk_X0_become mlX6_165 dX6_oddsByLot_112 (n := 115) rfl (st := []) rfl (st2 := []) rfl [32] rfl rfl rfl rfl rfl rfl (ws2 := pic_X6 D a pad now fi se li so lo re ru ot_4 le) rfl rfl rfl ⟨Nat.le_of_ble_eq_true rfl, Nat.le_of_ble_eq_true rfl⟩ (Nat.le_of_ble_eq_true rfl) ?_
    obtain rfl := Option.some.inj hf
    exact hret _ _ dX6_oddsByLot_115
  · replace hf := k_neg c_1 hf
    refine g_lload_n X dX6_oddsByLot_39 2 rfl rfl (n := 40) rfl ?_
    refine g_aload_n X dX6_oddsByLot_40 0 rfl rfl (n := 41) rfl ?_
    refine g_get X dX6_oddsByLot_41 flX6_44 0 rfl (v := .ref (a 25)) rfl (n := 44) rfl ?_
    refine g_aload_n X dX6_oddsByLot_44 0 rfl rfl (n := 45) rfl ?_
    refine g_get X dX6_oddsByLot_45 flX6_34 0 rfl (v := .ref (a 21)) rfl (n := 48) rfl ?_
    refine g_getN X dX6_oddsByLot_48 flX6_121 21 rfl (v := .int li.2.2.1) rfl (n := 51) rfl ?_
    refine g_iload X dX6_oddsByLot_51 3 rfl (n := 53) rfl ?_
    obtain ⟨x_6, g_7, hf⟩ := k_b1s hf
    refine g_callV X (mX1_choose (D := D) (l := l) (a0 := (a 25)) (a1 := (a 26)) (a2 := (a 27)) g_7) lk_X1_choose mlX6_183 dX6_oddsByLot_53 (n := 56) rfl (st := [.long v3]) rfl (st2 := [.long x_6, .long v3]) rfl [25, 26, 27] rfl rfl rfl rfl rfl rfl (ws2 := pic_X6 D a pad now fi se li so lo re ru ot le) rfl rfl rfl ⟨Nat.le_of_ble_eq_true rfl, Nat.le_of_ble_eq_true rfl⟩ (Nat.le_of_ble_eq_true rfl) ?_
    refine g_aload_n X dX6_oddsByLot_56 0 rfl rfl (n := 57) rfl ?_
    refine g_get X dX6_oddsByLot_57 flX6_44 0 rfl (v := .ref (a 25)) rfl (n := 60) rfl ?_
    refine g_aload_n X dX6_oddsByLot_60 0 rfl rfl (n := 61) rfl ?_
    refine g_get X dX6_oddsByLot_61 flX6_34 0 rfl (v := .ref (a 21)) rfl (n := 64) rfl ?_
    obtain ⟨x_8, g_9, hf⟩ := k_b1s hf
    refine g_callV X (mX4_valid (D := D) (l := l) (a0 := (a 21)) (a1 := (a 22)) g_9) lk_X4_valid mlX6_251 dX6_oddsByLot_64 (n := 67) rfl (st := [.ref (a 25), .long x_6, .long v3]) rfl (st2 := [.int x_8, .ref (a 25), .long x_6, .long v3]) rfl [21, 22] rfl rfl rfl rfl rfl rfl (ws2 := pic_X6 D a pad now fi se li so lo re ru ot le) rfl rfl rfl ⟨Nat.le_of_ble_eq_true rfl, Nat.le_of_ble_eq_true rfl⟩ (Nat.le_of_ble_eq_true rfl) ?_
    refine g_aload_n X dX6_oddsByLot_67 0 rfl rfl (n := 68) rfl ?_
    refine g_get X dX6_oddsByLot_68 flX6_38 0 rfl (v := .ref (a 23)) rfl (n := 71) rfl ?_
    refine g_getN X dX6_oddsByLot_71 flX6_118 23 rfl (v := .int so.2.1) rfl (n := 74) rfl ?_
    refine g_iload X dX6_oddsByLot_74 3 rfl (n := 76) rfl ?_
    refine g_isub X dX6_oddsByLot_76 (n := 77) rfl ?_
    obtain ⟨x_10, g_11, hf⟩ := k_b1s hf
    refine g_callV X (mX1_choose (D := D) (l := l) (a0 := (a 25)) (a1 := (a 26)) (a2 := (a 27)) g_11) lk_X1_choose mlX6_183 dX6_oddsByLot_77 (n := 80) rfl (st := [.long x_6, .long v3]) rfl (st2 := [.long x_10, .long x_6, .long v3]) rfl [25, 26, 27] rfl rfl rfl rfl rfl rfl (ws2 := pic_X6 D a pad now fi se li so lo re ru ot le) rfl rfl rfl ⟨Nat.le_of_ble_eq_true rfl, Nat.le_of_ble_eq_true rfl⟩ (Nat.le_of_ble_eq_true rfl) ?_
    refine g_lmul X dX6_oddsByLot_80 (n := 81) rfl ?_
    refine g_ladd X dX6_oddsByLot_81 (n := 82) rfl ?_
    refine g_lstore_n X dX6_oddsByLot_82 rfl (by decide) (lv2 := [(3, .long (v3 + (x_6 * x_10))), (0, .ref (a 0)), (2, .ref (a 32)), (5, .int v5)]) rfl (n := 83) rfl ?_
    refine g_iinc X dX6_oddsByLot_83 3 rfl (v := v5 + 1) rfl (by decide) (lv2 := [(5, .int (v5 + 1)), (3, .long (v3 + (x_6 * x_10))), (0, .ref (a 0)), (2, .ref (a 32))]) rfl (n := 86) rfl ?_
    refine g_goto X dX6_oddsByLot_86 (n := 27) (by decide) ?_
    refine g_sub [2, 3, 1, 0] (lv' := [(0, .ref (a 0)), (2, .ref (a 32)), (3, .long (v3 + (x_6 * x_10))), (5, .int (v5 + 1))]) rfl ?_
    exact hk27 _ _ _ _ hf
set_option maxRecDepth 100000 in
set_option maxHeartbeats 4000000 in
theorem wX6_oddsByLot_ot_l27 {D : va_G} {l : Launch} {E : k_E} {N : Nat} {a : Nat → Nat} {pad : VX5} {now : VX3} {fi : VX3} {se : VX3} {li : VX4} {lo : VX1} {re : VX2} {ru : VX0} {le : Nat → Int32} {res : VX4 × VX0} (X : k_X D E cX6_oddsByLot RX6 6 3 77) (hret : ∀ (pc : Nat) (lv : List (Nat × Value)), decode cX6_oddsByLot pc = .ok (.return_, 1) → k_G D l E (pic_X6 D a pad now fi se li res.1 lo re ru res.2 le) lv pc []) : ∀ (n0 : Nat) (v3 : Int64) (v5 : Int32) (so : VX4) (ot : VX0), fX6_oddsByLot_ot_l27 N now li lo n0 v3 v5 so ot = some res → k_G D l E (pic_X6 D a pad now fi se li so lo re ru ot le) [(0, .ref (a 0)), (2, .ref (a 32)), (3, .long v3), (5, .int v5)] 27 [] := by
  intro n0
  induction n0 with
  | zero => intro v3 v5 so ot hf; cases hf
  | succ n0 ih => intro v3 v5 so ot hf; exact wX6_oddsByLot_ot_b27 (N := N) (k27 := fX6_oddsByLot_ot_l27 N now li lo n0) X  ih hret hf
set_option maxRecDepth 100000 in
set_option maxHeartbeats 4000000 in
theorem wX6_oddsByLot_ot {D : va_G} {l : Launch} {E : k_E} {N : Nat} {a : Nat → Nat} {p1 : Int32} {pad : VX5} {now : VX3} {fi : VX3} {se : VX3} {li : VX4} {so : VX4} {lo : VX1} {re : VX2} {ru : VX0} {ot : VX0} {le : Nat → Int32} {res : VX4 × VX0} (X : k_X D E cX6_oddsByLot RX6 6 3 77) (hret : ∀ (pc : Nat) (lv : List (Nat × Value)), decode cX6_oddsByLot pc = .ok (.return_, 1) → k_G D l E (pic_X6 D a pad now fi se li res.1 lo re ru res.2 le) lv pc []) (hf : fX6_oddsByLot_ot N now li lo p1 so ot = some res) : k_G D l E (pic_X6 D a pad now fi se li so lo re ru ot le) [(0, .ref (a 0)), (1, .int p1), (2, .ref (a 32))] 0 [] := by
  unfold fX6_oddsByLot_ot at hf
  refine g_aload_n X dX6_oddsByLot_0 0 rfl rfl (n := 1) rfl ?_
  refine g_get X dX6_oddsByLot_1 flX6_38 0 rfl (v := .ref (a 23)) rfl (n := 4) rfl ?_
  refine g_aload_n X dX6_oddsByLot_4 0 rfl rfl (n := 5) rfl ?_
  refine g_get X dX6_oddsByLot_5 flX6_21 0 rfl (v := .ref (a 3)) rfl (n := 8) rfl ?_
  refine g_aload_n X dX6_oddsByLot_8 0 rfl rfl (n := 9) rfl ?_
  refine g_iload_n X dX6_oddsByLot_9 1 rfl rfl (n := 10) rfl ?_
  obtain ⟨x_1, g_2, hf⟩ := k_b1s hf
  refine g_callV0 X (mX6_sheetsOf (D := D) (l := l) (a := a) (pad := pad) (fi := fi) (se := se) (li := li) (so := so) (lo := lo) (re := re) (ru := ru) (ot := ot) (le := le) g_2) lk_X6_sheetsOf mlX6_214 dX6_oddsByLot_10 (n := 13) rfl (st := [.ref (a 3), .ref (a 23)]) rfl (st2 := [.int x_1, .ref (a 3), .ref (a 23)]) rfl rfl rfl rfl (ws2 := pic_X6 D a pad now fi se li so lo re ru ot le) (ad_X6 _ _ _ _ _ _ _ _ _ _ _ _ _ _ _ _ _ _ _ _ _ _ _ _) rfl ⟨Nat.le_of_ble_eq_true rfl, Nat.le_of_ble_eq_true rfl⟩ (Nat.le_of_ble_eq_true rfl) ?_
  obtain ⟨so_3, g_4, hf⟩ := k_b1s hf
  refine g_callV X (mX4_readSheets (D := D) (l := l) (a0 := (a 23)) (a1 := (a 24)) (b0 := (a 3)) (b1 := (a 4)) (b2 := (a 5)) (b3 := (a 6)) (b4 := (a 7)) (b5 := (a 8)) g_4) lk_X4_readSheets mlX6_217 dX6_oddsByLot_13 (n := 16) rfl (st := []) rfl (st2 := []) rfl [23, 24, 3, 4, 5, 6, 7, 8] rfl rfl rfl rfl rfl rfl (ws2 := pic_X6 D a pad now fi se li so_3 lo re ru ot le) rfl rfl rfl ⟨Nat.le_of_ble_eq_true rfl, Nat.le_of_ble_eq_true rfl⟩ (Nat.le_of_ble_eq_true rfl) ?_
  refine g_lconst X dX6_oddsByLot_16 (v := 0) rfl (n := 17) rfl ?_
  refine g_lstore_n X dX6_oddsByLot_17 rfl (by decide) (lv2 := [(3, .long (0 : Int64)), (0, .ref (a 0)), (1, .int p1), (2, .ref (a 32))]) rfl (n := 18) rfl ?_
  refine g_aload_n X dX6_oddsByLot_18 1 rfl rfl (n := 19) rfl ?_
  refine g_get X dX6_oddsByLot_19 flX6_38 0 rfl (v := .ref (a 23)) rfl (n := 22) rfl ?_
  refine g_getN X dX6_oddsByLot_22 flX6_121 23 rfl (v := .int so_3.2.2.1) rfl (n := 25) rfl ?_
  refine g_istore X dX6_oddsByLot_25 (by decide) (lv2 := [(5, .int so_3.2.2.1), (3, .long (0 : Int64)), (0, .ref (a 0)), (1, .int p1), (2, .ref (a 32))]) rfl (n := 27) rfl ?_
  refine g_sub [2, 4, 1, 0] (lv' := [(0, .ref (a 0)), (2, .ref (a 32)), (3, .long (0 : Int64)), (5, .int so_3.2.2.1)]) rfl ?_
  exact wX6_oddsByLot_ot_l27 X  hret _ _ _ _ _ hf
set_option maxRecDepth 100000 in
set_option maxHeartbeats 4000000 in
theorem mX6_oddsByLot_ot {l : Launch} {D : va_G} {N : Nat} {a : Nat → Nat} {p1 : Int32} {pad : VX5} {now : VX3} {fi : VX3} {se : VX3} {li : VX4} {so : VX4} {lo : VX1} {re : VX2} {ru : VX0} {ot : VX0} {le : Nat → Int32} {res : VX4 × VX0} (hf : fX6_oddsByLot_ot N now li lo p1 so ot = some res) : k_Met l yX6_oddsByLot cX6_oddsByLot 6 none 3 77 D [.ref (a 0), .int p1, .ref (a 32)] (pic_X6 D a pad now fi se li so lo re ru ot le) none (pic_X6 D a pad now fi se li res.1 lo re ru res.2 le) :=
  k_of_v (by decide) (Nat.le_of_ble_eq_true rfl) (fun E X hret => wX6_oddsByLot_ot X hret hf)
set_option maxRecDepth 100000 in
set_option maxHeartbeats 4000000 in
theorem wX6_seems {D : va_G} {l : Launch} {E : k_E} {N : Nat} {a : Nat → Nat} {p1 : Int32} {p2 : Int32} {pad : VX5} {now : VX3} {fi : VX3} {se : VX3} {li : VX4} {so : VX4} {lo : VX1} {re : VX2} {ru : VX0} {ot : VX0} {le : Nat → Int32} {res : Int64 × VX4 × VX4 × VX0} (X : k_X D E cX6_seems RX6 3 4 102) (hret : ∀ (pc : Nat) (lv : List (Nat × Value)), decode cX6_seems pc = .ok (.lreturn, 1) → k_G D l E (pic_X6 D a pad now fi se res.2.1 res.2.2.1 lo re res.2.2.2 ot le) lv pc [.long res.1]) (hf : fX6_seems N now lo p1 p2 li so ru = some res) : k_G D l E (pic_X6 D a pad now fi se li so lo re ru ot le) [(0, .ref (a 0)), (1, .int p1), (2, .int p2)] 0 [] := by
  unfold fX6_seems at hf
  refine g_iload_n X dX6_seems_0 1 rfl rfl (n := 1) rfl ?_
  obtain ⟨x_1, g_2, hf⟩ := k_b1s hf
  refine g_callS0 X (mX6_isGatherer (D := D) (l := l)  g_2) lk_X6_isGatherer mlX6_211 dX6_seems_1 (n := 4) rfl (st := []) rfl (st2 := [.int (bI x_1)]) rfl rfl ⟨Nat.le_of_ble_eq_true rfl, Nat.le_of_ble_eq_true rfl⟩ (Nat.le_of_ble_eq_true rfl) ?_
  refine g_if_neB X dX6_seems_4 (t := 11) (by decide) (n := 7) rfl (fun c_3 => ?_) (fun c_3 => ?_)
  · replace hf := k_pos c_3 hf
    refine g_iload_n X dX6_seems_11 2 rfl rfl (n := 12) rfl ?_
    obtain ⟨x_4, g_5, hf⟩ := k_b1s hf
    refine g_callS0 X (mX6_isPart (D := D) (l := l)  g_5) lk_X6_isPart mlX6_147 dX6_seems_12 (n := 15) rfl (st := []) rfl (st2 := [.int (bI x_4)]) rfl rfl ⟨Nat.le_of_ble_eq_true rfl, Nat.le_of_ble_eq_true rfl⟩ (Nat.le_of_ble_eq_true rfl) ?_
    refine g_if_neB X dX6_seems_15 (t := 22) (by decide) (n := 18) rfl (fun c_6 => ?_) (fun c_6 => ?_)
    · replace hf := k_pos c_6 hf
      refine g_aload_n X dX6_seems_22 0 rfl rfl (n := 23) rfl ?_
      obtain ⟨li_7, g_8, hf⟩ := k_b1s hf
      refine g_callV0 X (mX6_readList (D := D) (l := l) (a := a) (pad := pad) (fi := fi) (se := se) (so := so) (lo := lo) (re := re) (ru := ru) (ot := ot) (le := le) g_8) lk_X6_readList mlX6_115 dX6_seems_23 (n := 26) rfl (st := []) rfl (st2 := []) rfl rfl rfl rfl (ws2 := pic_X6 D a pad now fi se li_7 so lo re ru ot le) (ad_X6 _ _ _ _ _ _ _ _ _ _ _ _ _ _ _ _ _ _ _ _ _ _ _ _) rfl ⟨Nat.le_of_ble_eq_true rfl, Nat.le_of_ble_eq_true rfl⟩ (Nat.le_of_ble_eq_true rfl) ?_
      refine g_aload_n X dX6_seems_26 0 rfl rfl (n := 27) rfl ?_
      refine g_iload_n X dX6_seems_27 1 rfl rfl (n := 28) rfl ?_
      refine g_aload_n X dX6_seems_28 0 rfl rfl (n := 29) rfl ?_
      refine g_get X dX6_seems_29 flX6_58 0 rfl (v := .ref (a 31)) rfl (n := 32) rfl ?_
      obtain ⟨so_9, ru_10, g_11, hf⟩ := k_b2s hf
      refine g_callV0 X (mX6_oddsByLot_ru (D := D) (l := l) (a := a) (pad := pad) (fi := fi) (se := se) (re := re) (ot := ot) (le := le) g_11) lk_X6_oddsByLot mlX6_223 dX6_seems_32 (n := 35) rfl (st := []) rfl (st2 := []) rfl rfl rfl rfl (ws2 := pic_X6 D a pad now fi se li_7 so_9 lo re ru_10 ot le) (ad_X6 _ _ _ _ _ _ _ _ _ _ _ _ _ _ _ _ _ _ _ _ _ _ _ _) rfl ⟨Nat.le_of_ble_eq_true rfl, Nat.le_of_ble_eq_true rfl⟩ (Nat.le_of_ble_eq_true rfl) ?_
      refine g_aload_n X dX6_seems_35 0 rfl rfl (n := 36) rfl ?_
      refine g_get X dX6_seems_36 flX6_58 0 rfl (v := .ref (a 31)) rfl (n := 39) rfl ?_
      refine g_iload_n X dX6_seems_39 2 rfl rfl (n := 40) rfl ?_
      obtain ⟨x_12, g_13, hf⟩ := k_b1s hf
      refine g_callV X (mX0_half (D := D) (l := l) (a0 := (a 31)) g_13) lk_X0_half mlX6_168 dX6_seems_40 (n := 43) rfl (st := []) rfl (st2 := [.long x_12]) rfl [31] rfl rfl rfl rfl rfl rfl (ws2 := pic_X6 D a pad now fi se li_7 so_9 lo re ru_10 ot le) rfl rfl rfl ⟨Nat.le_of_ble_eq_true rfl, Nat.le_of_ble_eq_true rfl⟩ (Nat.le_of_ble_eq_true rfl) ?_
      obtain rfl := Option.some.inj hf
      exact hret _ _ dX6_seems_43
    · replace hf := k_neg c_6 hf
      refine g_ldc2 X dX6_seems_18 kcX6_150 (n := 21) rfl ?_
      obtain rfl := Option.some.inj hf
      exact hret _ _ dX6_seems_21
  · replace hf := k_neg c_3 hf
    refine g_ldc2 X dX6_seems_7 kcX6_221 (n := 10) rfl ?_
    obtain rfl := Option.some.inj hf
    exact hret _ _ dX6_seems_10
set_option maxRecDepth 100000 in
set_option maxHeartbeats 4000000 in
theorem mX6_seems {l : Launch} {D : va_G} {N : Nat} {a : Nat → Nat} {p1 : Int32} {p2 : Int32} {pad : VX5} {now : VX3} {fi : VX3} {se : VX3} {li : VX4} {so : VX4} {lo : VX1} {re : VX2} {ru : VX0} {ot : VX0} {le : Nat → Int32} {res : Int64 × VX4 × VX4 × VX0} (hf : fX6_seems N now lo p1 p2 li so ru = some res) : k_Met l yX6_seems cX6_seems 3 (some .long) 4 102 D [.ref (a 0), .int p1, .int p2] (pic_X6 D a pad now fi se li so lo re ru ot le) (some (.long res.1)) (pic_X6 D a pad now fi se res.2.1 res.2.2.1 lo re res.2.2.2 ot le) :=
  k_of_l (by decide) (Nat.le_of_ble_eq_true rfl) (fun E X hret => wX6_seems X hret hf)
set_option maxRecDepth 100000 in
set_option maxHeartbeats 4000000 in
theorem wX6_hasNames {D : va_G} {l : Launch} {E : k_E} {N : Nat} {a : Nat → Nat} {p1 : Int32} {pad : VX5} {now : VX3} {fi : VX3} {se : VX3} {li : VX4} {so : VX4} {lo : VX1} {re : VX2} {ru : VX0} {ot : VX0} {le : Nat → Int32} {res : Bool × VX4} (X : k_X D E cX6_hasNames RX6 2 3 69) (hret : ∀ (pc : Nat) (lv : List (Nat × Value)), decode cX6_hasNames pc = .ok (.ireturn, 1) → k_G D l E (pic_X6 D a pad now fi se li res.2 lo re ru ot le) lv pc [.int (bI res.1)]) (hf : fX6_hasNames N now p1 so = some res) : k_G D l E (pic_X6 D a pad now fi se li so lo re ru ot le) [(0, .ref (a 0)), (1, .int p1)] 0 [] := by
  unfold fX6_hasNames at hf
  refine g_aload_n X dX6_hasNames_0 0 rfl rfl (n := 1) rfl ?_
  refine g_get X dX6_hasNames_1 flX6_38 0 rfl (v := .ref (a 23)) rfl (n := 4) rfl ?_
  refine g_aload_n X dX6_hasNames_4 0 rfl rfl (n := 5) rfl ?_
  refine g_get X dX6_hasNames_5 flX6_21 0 rfl (v := .ref (a 3)) rfl (n := 8) rfl ?_
  refine g_aload_n X dX6_hasNames_8 0 rfl rfl (n := 9) rfl ?_
  refine g_iload_n X dX6_hasNames_9 1 rfl rfl (n := 10) rfl ?_
  obtain ⟨x_1, g_2, hf⟩ := k_b1s hf
  refine g_callV0 X (mX6_sheetsOf (D := D) (l := l) (a := a) (pad := pad) (fi := fi) (se := se) (li := li) (so := so) (lo := lo) (re := re) (ru := ru) (ot := ot) (le := le) g_2) lk_X6_sheetsOf mlX6_214 dX6_hasNames_10 (n := 13) rfl (st := [.ref (a 3), .ref (a 23)]) rfl (st2 := [.int x_1, .ref (a 3), .ref (a 23)]) rfl rfl rfl rfl (ws2 := pic_X6 D a pad now fi se li so lo re ru ot le) (ad_X6 _ _ _ _ _ _ _ _ _ _ _ _ _ _ _ _ _ _ _ _ _ _ _ _) rfl ⟨Nat.le_of_ble_eq_true rfl, Nat.le_of_ble_eq_true rfl⟩ (Nat.le_of_ble_eq_true rfl) ?_
  obtain ⟨so_3, g_4, hf⟩ := k_b1s hf
  refine g_callV X (mX4_readSheets (D := D) (l := l) (a0 := (a 23)) (a1 := (a 24)) (b0 := (a 3)) (b1 := (a 4)) (b2 := (a 5)) (b3 := (a 6)) (b4 := (a 7)) (b5 := (a 8)) g_4) lk_X4_readSheets mlX6_217 dX6_hasNames_13 (n := 16) rfl (st := []) rfl (st2 := []) rfl [23, 24, 3, 4, 5, 6, 7, 8] rfl rfl rfl rfl rfl rfl (ws2 := pic_X6 D a pad now fi se li so_3 lo re ru ot le) rfl rfl rfl ⟨Nat.le_of_ble_eq_true rfl, Nat.le_of_ble_eq_true rfl⟩ (Nat.le_of_ble_eq_true rfl) ?_
  refine g_aload_n X dX6_hasNames_16 0 rfl rfl (n := 17) rfl ?_
  refine g_get X dX6_hasNames_17 flX6_38 0 rfl (v := .ref (a 23)) rfl (n := 20) rfl ?_
  refine g_getN X dX6_hasNames_20 flX6_118 23 rfl (v := .int so_3.2.1) rfl (n := 23) rfl ?_
  refine g_if_le X dX6_hasNames_23 (t := 30) (by decide) (n := 26) rfl (fun c_5 => ?_) (fun c_5 => ?_)
  · replace hf := k_pos c_5 hf
    refine g_iconst X dX6_hasNames_30 (v := 0) (by decide) (n := 31) rfl ?_
    obtain rfl := Option.some.inj hf
    exact hret _ _ dX6_hasNames_31
  · replace hf := k_neg c_5 hf
    refine g_iconst X dX6_hasNames_26 (v := 1) (by decide) (n := 27) rfl ?_
    refine g_goto X dX6_hasNames_27 (n := 31) (by decide) ?_
    obtain rfl := Option.some.inj hf
    exact hret _ _ dX6_hasNames_31
set_option maxRecDepth 100000 in
set_option maxHeartbeats 4000000 in
theorem mX6_hasNames {l : Launch} {D : va_G} {N : Nat} {a : Nat → Nat} {p1 : Int32} {pad : VX5} {now : VX3} {fi : VX3} {se : VX3} {li : VX4} {so : VX4} {lo : VX1} {re : VX2} {ru : VX0} {ot : VX0} {le : Nat → Int32} {res : Bool × VX4} (hf : fX6_hasNames N now p1 so = some res) : k_Met l yX6_hasNames cX6_hasNames 2 (some .boolean) 3 69 D [.ref (a 0), .int p1] (pic_X6 D a pad now fi se li so lo re ru ot le) (some (.int (bI res.1))) (pic_X6 D a pad now fi se li res.2 lo re ru ot le) :=
  k_of_z (by decide) (Nat.le_of_ble_eq_true rfl) (fun E X hret => wX6_hasNames X hret hf)
set_option maxRecDepth 100000 in
set_option maxHeartbeats 4000000 in
theorem wX6_suspect_b77 {D : va_G} {l : Launch} {E : k_E} {N : Nat} {a : Nat → Nat} {k9 : Int32 → Int32 → VX4 → VX4 → VX0 → VX0 → Option (Int32 × VX4 × VX4 × VX0 × VX0)} {v1 : Int32} {v2 : Int32} {pad : VX5} {now : VX3} {fi : VX3} {se : VX3} {li : VX4} {so : VX4} {lo : VX1} {re : VX2} {ru : VX0} {ot : VX0} {le : Nat → Int32} {res : Int32 × VX4 × VX4 × VX0 × VX0} (X : k_X D E cX6_suspect RX6 3 4 102) (hk9 : ∀ (v1 : Int32) (v2 : Int32) (li : VX4) (so : VX4) (ru : VX0) (ot : VX0), k9 v1 v2 li so ru ot = some res → k_G D l E (pic_X6 D a pad now fi se li so lo re ru ot le) [(0, .ref (a 0)), (1, .int v1), (2, .int v2)] 9 []) (hret : ∀ (pc : Nat) (lv : List (Nat × Value)), decode cX6_suspect pc = .ok (.ireturn, 1) → k_G D l E (pic_X6 D a pad now fi se res.2.1 res.2.2.1 lo re res.2.2.2.1 res.2.2.2.2 le) lv pc [.int res.1]) (hf : fX6_suspect_b77 N now lo k9 v1 v2 li so ru ot = some res) : k_G D l E (pic_X6 D a pad now fi se li so lo re ru ot le) [(0, .ref (a 0)), (1, .int v1), (2, .int v2)] 77 [] := by
  unfold fX6_suspect_b77 at hf
  refine g_iinc X dX6_suspect_77 2 rfl (v := v2 + 1) rfl (by decide) (lv2 := [(2, .int (v2 + 1)), (0, .ref (a 0)), (1, .int v1)]) rfl (n := 80) rfl ?_
  refine g_goto X dX6_suspect_80 (n := 9) (by decide) ?_
  refine g_sub [1, 2, 0] (lv' := [(0, .ref (a 0)), (1, .int v1), (2, .int (v2 + 1))]) rfl ?_
  exact hk9 _ _ _ _ _ _ hf
set_option maxRecDepth 100000 in
set_option maxHeartbeats 4000000 in
theorem wX6_suspect_b54 {D : va_G} {l : Launch} {E : k_E} {N : Nat} {a : Nat → Nat} {k9 : Int32 → Int32 → VX4 → VX4 → VX0 → VX0 → Option (Int32 × VX4 × VX4 × VX0 × VX0)} {v2 : Int32} {pad : VX5} {now : VX3} {fi : VX3} {se : VX3} {li : VX4} {so : VX4} {lo : VX1} {re : VX2} {ru : VX0} {ot : VX0} {le : Nat → Int32} {res : Int32 × VX4 × VX4 × VX0 × VX0} (X : k_X D E cX6_suspect RX6 3 4 102) (hk9 : ∀ (v1 : Int32) (v2 : Int32) (li : VX4) (so : VX4) (ru : VX0) (ot : VX0), k9 v1 v2 li so ru ot = some res → k_G D l E (pic_X6 D a pad now fi se li so lo re ru ot le) [(0, .ref (a 0)), (1, .int v1), (2, .int v2)] 9 []) (hret : ∀ (pc : Nat) (lv : List (Nat × Value)), decode cX6_suspect pc = .ok (.ireturn, 1) → k_G D l E (pic_X6 D a pad now fi se res.2.1 res.2.2.1 lo re res.2.2.2.1 res.2.2.2.2 le) lv pc [.int res.1]) (hf : fX6_suspect_b54 N now lo k9 v2 li so ru ot = some res) : k_G D l E (pic_X6 D a pad now fi se li so lo re ru ot le) [(0, .ref (a 0)), (2, .int v2)] 54 [] := by
  unfold fX6_suspect_b54 at hf
  refine g_iload_n X dX6_suspect_54 1 rfl rfl (n := 55) rfl ?_
  refine g_istore_n X dX6_suspect_55 rfl (by decide) (lv2 := [(1, .int v2), (0, .ref (a 0)), (2, .int v2)]) rfl (n := 56) rfl ?_
  refine g_aload_n X dX6_suspect_56 1 rfl rfl (n := 57) rfl ?_
  refine g_get X dX6_suspect_57 flX6_58 0 rfl (v := .ref (a 31)) rfl (n := 60) rfl ?_
  refine g_aload_n X dX6_suspect_60 1 rfl rfl (n := 61) rfl ?_
  refine g_get X dX6_suspect_61 flX6_62 0 rfl (v := .ref (a 32)) rfl (n := 64) rfl ?_
  refine g_getN X dX6_suspect_64 flX6_234 32 rfl (v := .long ot.1) rfl (n := 67) rfl ?_
  refine g_aload_n X dX6_suspect_67 1 rfl rfl (n := 68) rfl ?_
  refine g_get X dX6_suspect_68 flX6_62 0 rfl (v := .ref (a 32)) rfl (n := 71) rfl ?_
  refine g_getN X dX6_suspect_71 flX6_237 32 rfl (v := .long ot.2) rfl (n := 74) rfl ?_
  obtain ⟨ru_1, g_2, hf⟩ := k_b1s hf
  refine g_callV X (mX0_become (D := D) (l := l) (a0 := (a 31)) g_2) lk_X0_become mlX6_165 dX6_suspect_74 (n := 77) rfl (st := []) rfl (st2 := []) rfl [31] rfl rfl rfl rfl rfl rfl (ws2 := pic_X6 D a pad now fi se li so lo re ru_1 ot le) rfl rfl rfl ⟨Nat.le_of_ble_eq_true rfl, Nat.le_of_ble_eq_true rfl⟩ (Nat.le_of_ble_eq_true rfl) ?_
  refine g_sub [1, 0, 2] (lv' := [(0, .ref (a 0)), (1, .int v2), (2, .int v2)]) rfl ?_
  exact wX6_suspect_b77 X hk9 hret hf
set_option maxRecDepth 100000 in
set_option maxHeartbeats 4000000 in
theorem wX6_suspect_b9 {D : va_G} {l : Launch} {E : k_E} {N : Nat} {a : Nat → Nat} {k9 : Int32 → Int32 → VX4 → VX4 → VX0 → VX0 → Option (Int32 × VX4 × VX4 × VX0 × VX0)} {v1 : Int32} {v2 : Int32} {pad : VX5} {now : VX3} {fi : VX3} {se : VX3} {li : VX4} {so : VX4} {lo : VX1} {re : VX2} {ru : VX0} {ot : VX0} {le : Nat → Int32} {res : Int32 × VX4 × VX4 × VX0 × VX0} (X : k_X D E cX6_suspect RX6 3 4 102) (hk9 : ∀ (v1 : Int32) (v2 : Int32) (li : VX4) (so : VX4) (ru : VX0) (ot : VX0), k9 v1 v2 li so ru ot = some res → k_G D l E (pic_X6 D a pad now fi se li so lo re ru ot le) [(0, .ref (a 0)), (1, .int v1), (2, .int v2)] 9 []) (hret : ∀ (pc : Nat) (lv : List (Nat × Value)), decode cX6_suspect pc = .ok (.ireturn, 1) → k_G D l E (pic_X6 D a pad now fi se res.2.1 res.2.2.1 lo re res.2.2.2.1 res.2.2.2.2 le) lv pc [.int res.1]) (hf : fX6_suspect_b9 N now lo k9 v1 v2 li so ru ot = some res) : k_G D l E (pic_X6 D a pad now fi se li so lo re ru ot le) [(0, .ref (a 0)), (1, .int v1), (2, .int v2)] 9 [] := by
  unfold fX6_suspect_b9 at hf
  refine g_iload_n X dX6_suspect_9 2 rfl rfl (n := 10) rfl ?_
  refine g_iconst X dX6_suspect_10 (v := 5) (by decide) (n := 11) rfl ?_
  refine g_icmp_ge X dX6_suspect_11 (t := 83) (by decide) (n := 14) rfl (fun c_1 => ?_) (fun c_1 => ?_)
  · replace hf := k_pos c_1 hf
    refine g_iload_n X dX6_suspect_83 1 rfl rfl (n := 84) rfl ?_
    obtain rfl := Option.some.inj hf
    exact hret _ _ dX6_suspect_84
  · replace hf := k_neg c_1 hf
    refine g_aload_n X dX6_suspect_14 0 rfl rfl (n := 15) rfl ?_
    refine g_iload_n X dX6_suspect_15 2 rfl rfl (n := 16) rfl ?_
    obtain ⟨x_2, so_3, g_4, hf⟩ := k_b2s hf
    refine g_callV0 X (mX6_hasNames (D := D) (l := l) (a := a) (pad := pad) (fi := fi) (se := se) (li := li) (lo := lo) (re := re) (ru := ru) (ot := ot) (le := le) g_4) lk_X6_hasNames mlX6_227 dX6_suspect_16 (n := 19) rfl (st := []) rfl (st2 := [.int (bI x_2)]) rfl rfl rfl rfl (ws2 := pic_X6 D a pad now fi se li so_3 lo re ru ot le) (ad_X6 _ _ _ _ _ _ _ _ _ _ _ _ _ _ _ _ _ _ _ _ _ _ _ _) rfl ⟨Nat.le_of_ble_eq_true rfl, Nat.le_of_ble_eq_true rfl⟩ (Nat.le_of_ble_eq_true rfl) ?_
    refine g_if_neB X dX6_suspect_19 (t := 25) (by decide) (n := 22) rfl (fun c_5 => ?_) (fun c_5 => ?_)
    · replace hf := k_pos c_5 hf
      refine g_aload_n X dX6_suspect_25 0 rfl rfl (n := 26) rfl ?_
      refine g_iload_n X dX6_suspect_26 2 rfl rfl (n := 27) rfl ?_
      refine g_aload_n X dX6_suspect_27 0 rfl rfl (n := 28) rfl ?_
      refine g_get X dX6_suspect_28 flX6_62 0 rfl (v := .ref (a 32)) rfl (n := 31) rfl ?_
      obtain ⟨so_6, ot_7, g_8, hf⟩ := k_b2s hf
      refine g_callV0 X (mX6_oddsByLot_ot (D := D) (l := l) (a := a) (pad := pad) (fi := fi) (se := se) (re := re) (ru := ru) (le := le) g_8) lk_X6_oddsByLot mlX6_223 dX6_suspect_31 (n := 34) rfl (st := []) rfl (st2 := []) rfl rfl rfl rfl (ws2 := pic_X6 D a pad now fi se li so_6 lo re ru ot_7 le) (ad_X6 _ _ _ _ _ _ _ _ _ _ _ _ _ _ _ _ _ _ _ _ _ _ _ _) rfl ⟨Nat.le_of_ble_eq_true rfl, Nat.le_of_ble_eq_true rfl⟩ (Nat.le_of_ble_eq_true rfl) ?_
      refine g_iload_n X dX6_suspect_34 1 rfl rfl (n := 35) rfl ?_
      refine g_bipush X dX6_suspect_35 (v := (-6)) (by decide) (n := 37) rfl ?_
      refine g_icmp_eq X dX6_suspect_37 (t := 54) (by decide) (n := 40) rfl (fun c_9 => ?_) (fun c_9 => ?_)
      · replace hf := k_pos c_9 hf
        refine g_sub [0, 2] (lv' := [(0, .ref (a 0)), (2, .int v2)]) rfl ?_
        exact wX6_suspect_b54 X hk9 hret hf
      · replace hf := k_neg c_9 hf
        refine g_aload_n X dX6_suspect_40 0 rfl rfl (n := 41) rfl ?_
        refine g_get X dX6_suspect_41 flX6_62 0 rfl (v := .ref (a 32)) rfl (n := 44) rfl ?_
        refine g_aload_n X dX6_suspect_44 0 rfl rfl (n := 45) rfl ?_
        refine g_get X dX6_suspect_45 flX6_58 0 rfl (v := .ref (a 31)) rfl (n := 48) rfl ?_
        obtain ⟨x_10, g_11, hf⟩ := k_b1s hf
        refine g_callV X (mX0_isLessThan (D := D) (l := l) (a0 := (a 32)) (b0 := (a 31)) g_11) lk_X0_isLessThan mlX6_230 dX6_suspect_48 (n := 51) rfl (st := []) rfl (st2 := [.int (bI x_10)]) rfl [32, 31] rfl rfl rfl rfl rfl rfl (ws2 := pic_X6 D a pad now fi se li so_6 lo re ru ot_7 le) rfl rfl rfl ⟨Nat.le_of_ble_eq_true rfl, Nat.le_of_ble_eq_true rfl⟩ (Nat.le_of_ble_eq_true rfl) ?_
        refine g_if_eqB X dX6_suspect_51 (t := 77) (by decide) (n := 54) rfl (fun c_12 => ?_) (fun c_12 => ?_)
        · replace hf := k_neg c_12 hf
          refine g_sub [0, 1, 2] (lv' := [(0, .ref (a 0)), (1, .int v1), (2, .int v2)]) rfl ?_
          exact wX6_suspect_b77 X hk9 hret hf
        · replace hf := k_pos c_12 hf
          refine g_sub [0, 2] (lv' := [(0, .ref (a 0)), (2, .int v2)]) rfl ?_
          exact wX6_suspect_b54 X hk9 hret hf
    · replace hf := k_neg c_5 hf
      refine g_goto X dX6_suspect_22 (n := 77) (by decide) ?_
      refine g_sub [0, 1, 2] (lv' := [(0, .ref (a 0)), (1, .int v1), (2, .int v2)]) rfl ?_
      exact wX6_suspect_b77 X hk9 hret hf
set_option maxRecDepth 100000 in
set_option maxHeartbeats 4000000 in
theorem wX6_suspect_l9 {D : va_G} {l : Launch} {E : k_E} {N : Nat} {a : Nat → Nat} {pad : VX5} {now : VX3} {fi : VX3} {se : VX3} {lo : VX1} {re : VX2} {le : Nat → Int32} {res : Int32 × VX4 × VX4 × VX0 × VX0} (X : k_X D E cX6_suspect RX6 3 4 102) (hret : ∀ (pc : Nat) (lv : List (Nat × Value)), decode cX6_suspect pc = .ok (.ireturn, 1) → k_G D l E (pic_X6 D a pad now fi se res.2.1 res.2.2.1 lo re res.2.2.2.1 res.2.2.2.2 le) lv pc [.int res.1]) : ∀ (n0 : Nat) (v1 : Int32) (v2 : Int32) (li : VX4) (so : VX4) (ru : VX0) (ot : VX0), fX6_suspect_l9 N now lo n0 v1 v2 li so ru ot = some res → k_G D l E (pic_X6 D a pad now fi se li so lo re ru ot le) [(0, .ref (a 0)), (1, .int v1), (2, .int v2)] 9 [] := by
  intro n0
  induction n0 with
  | zero => intro v1 v2 li so ru ot hf; cases hf
  | succ n0 ih => intro v1 v2 li so ru ot hf; exact wX6_suspect_b9 (N := N) (k9 := fX6_suspect_l9 N now lo n0) X  ih hret hf
set_option maxRecDepth 100000 in
set_option maxHeartbeats 4000000 in
theorem wX6_suspect {D : va_G} {l : Launch} {E : k_E} {N : Nat} {a : Nat → Nat} {pad : VX5} {now : VX3} {fi : VX3} {se : VX3} {li : VX4} {so : VX4} {lo : VX1} {re : VX2} {ru : VX0} {ot : VX0} {le : Nat → Int32} {res : Int32 × VX4 × VX4 × VX0 × VX0} (X : k_X D E cX6_suspect RX6 3 4 102) (hret : ∀ (pc : Nat) (lv : List (Nat × Value)), decode cX6_suspect pc = .ok (.ireturn, 1) → k_G D l E (pic_X6 D a pad now fi se res.2.1 res.2.2.1 lo re res.2.2.2.1 res.2.2.2.2 le) lv pc [.int res.1]) (hf : fX6_suspect N now lo li so ru ot = some res) : k_G D l E (pic_X6 D a pad now fi se li so lo re ru ot le) [(0, .ref (a 0))] 0 [] := by
  unfold fX6_suspect at hf
  refine g_aload_n X dX6_suspect_0 0 rfl rfl (n := 1) rfl ?_
  obtain ⟨li_1, g_2, hf⟩ := k_b1s hf
  refine g_callV0 X (mX6_readList (D := D) (l := l) (a := a) (pad := pad) (fi := fi) (se := se) (so := so) (lo := lo) (re := re) (ru := ru) (ot := ot) (le := le) g_2) lk_X6_readList mlX6_115 dX6_suspect_1 (n := 4) rfl (st := []) rfl (st2 := []) rfl rfl rfl rfl (ws2 := pic_X6 D a pad now fi se li_1 so lo re ru ot le) (ad_X6 _ _ _ _ _ _ _ _ _ _ _ _ _ _ _ _ _ _ _ _ _ _ _ _) rfl ⟨Nat.le_of_ble_eq_true rfl, Nat.le_of_ble_eq_true rfl⟩ (Nat.le_of_ble_eq_true rfl) ?_
  refine g_bipush X dX6_suspect_4 (v := (-6)) (by decide) (n := 6) rfl ?_
  refine g_istore_n X dX6_suspect_6 rfl (by decide) (lv2 := [(1, .int (-6)), (0, .ref (a 0))]) rfl (n := 7) rfl ?_
  refine g_iconst X dX6_suspect_7 (v := 0) (by decide) (n := 8) rfl ?_
  refine g_istore_n X dX6_suspect_8 rfl (by decide) (lv2 := [(2, .int 0), (1, .int (-6)), (0, .ref (a 0))]) rfl (n := 9) rfl ?_
  refine g_sub [2, 1, 0] (lv' := [(0, .ref (a 0)), (1, .int (-6)), (2, .int 0)]) rfl ?_
  exact wX6_suspect_l9 X  hret _ _ _ _ _ _ _ hf
set_option maxRecDepth 100000 in
set_option maxHeartbeats 4000000 in
theorem mX6_suspect {l : Launch} {D : va_G} {N : Nat} {a : Nat → Nat} {pad : VX5} {now : VX3} {fi : VX3} {se : VX3} {li : VX4} {so : VX4} {lo : VX1} {re : VX2} {ru : VX0} {ot : VX0} {le : Nat → Int32} {res : Int32 × VX4 × VX4 × VX0 × VX0} (hf : fX6_suspect N now lo li so ru ot = some res) : k_Met l yX6_suspect cX6_suspect 3 (some .int) 4 102 D [.ref (a 0)] (pic_X6 D a pad now fi se li so lo re ru ot le) (some (.int res.1)) (pic_X6 D a pad now fi se res.2.1 res.2.2.1 lo re res.2.2.2.1 res.2.2.2.2 le) :=
  k_of_i (by decide) (Nat.le_of_ble_eq_true rfl) (fun E X hret => wX6_suspect X hret hf)
