/-! walks: X7_heap -/
set_option maxRecDepth 100000 in
set_option maxHeartbeats 4000000 in
theorem wX7_heap_b290 {D : va_G} {l : Launch} {E : k_E} {N : Nat} {a : Nat → Nat} {k155 : Int32 → Int32 → Int32 → Int32 → Int32 → Int32 → Int32 → Int32 → VMl → VMq → (Nat → Int32) → Option (Int32 × VMl × VMq × (Nat → Int32))} {v2 : Int32} {v3 : Int32} {v5 : Int32} {v6 : Int32} {v7 : Int32} {v8 : Int32} {v9 : Int32} {v10 : Int32} {mp : VMp} {mg : VMg} {mc : Nat → Int64} {ml : VMl} {mq : VMq} {mh : VMh} {ms : VMs} {mr : Nat → Int32} {mi : VMi} {res : Int32 × VMl × VMq × (Nat → Int32)} (X : k_X D E cX7_heap RX7 14 4 94) (hk155 : ∀ (v2 : Int32) (v3 : Int32) (v5 : Int32) (v6 : Int32) (v7 : Int32) (v8 : Int32) (v9 : Int32) (v10 : Int32) (ml : VMl) (mq : VMq) (mr : Nat → Int32), k155 v2 v3 v5 v6 v7 v8 v9 v10 ml mq mr = some res → k_G D l E (pic_X7 D a mp mg mc ml mq mh ms mr mi) [(0, .ref (a 0)), (2, .int v2), (3, .int v3), (5, .int v5), (6, .int v6), (7, .int v7), (8, .int v8), (9, .int v9), (10, .int v10)] 155 []) (hret : ∀ (pc : Nat) (lv : List (Nat × Value)), decode cX7_heap pc = .ok (.ireturn, 1) → k_G D l E (pic_X7 D a mp mg mc res.2.1 res.2.2.1 mh ms res.2.2.2 mi) lv pc [.int res.1]) (hf : fX7_heap_b290 N mg k155 v2 v3 v5 v6 v7 v8 v9 v10 ml mq mr = some res) : k_G D l E (pic_X7 D a mp mg mc ml mq mh ms mr mi) [(0, .ref (a 0)), (2, .int v2), (3, .int v3), (5, .int v5), (6, .int v6), (7, .int v7), (8, .int v8), (9, .int v9), (10, .int v10)] 290 [] := by
  unfold fX7_heap_b290 at hf
  refine g_iinc X dX7_heap_290 8 rfl (v := v10 + 1) rfl (by decide) (lv2 := [(10, .int (v10 + 1)), (0, .ref (a 0)), (2, .int v2), (3, .int v3), (5, .int v5), (6, .int v6), (7, .int v7), (8, .int v8), (9, .int v9)]) rfl (n := 293) rfl ?_
  refine g_goto X dX7_heap_293 (n := 155) (by decide) ?_
  refine g_sub [1, 2, 3, 4, 5, 6, 7, 8, 0] (lv' := [(0, .ref (a 0)), (2, .int v2), (3, .int v3), (5, .int v5), (6, .int v6), (7, .int v7), (8, .int v8), (9, .int v9), (10, .int (v10 + 1))]) rfl ?_
  exact hk155 _ _ _ _ _ _ _ _ _ _ _ hf
set_option maxRecDepth 100000 in
set_option maxHeartbeats 4000000 in
theorem wX7_heap_b287 {D : va_G} {l : Launch} {E : k_E} {N : Nat} {a : Nat → Nat} {k155 : Int32 → Int32 → Int32 → Int32 → Int32 → Int32 → Int32 → Int32 → VMl → VMq → (Nat → Int32) → Option (Int32 × VMl × VMq × (Nat → Int32))} {v2 : Int32} {v3 : Int32} {v5 : Int32} {v6 : Int32} {v7 : Int32} {v8 : Int32} {v10 : Int32} {s0 : Int32} {s1 : Bool} {mp : VMp} {mg : VMg} {mc : Nat → Int64} {ml : VMl} {mq : VMq} {mh : VMh} {ms : VMs} {mr : Nat → Int32} {mi : VMi} {res : Int32 × VMl × VMq × (Nat → Int32)} (X : k_X D E cX7_heap RX7 14 4 94) (hk155 : ∀ (v2 : Int32) (v3 : Int32) (v5 : Int32) (v6 : Int32) (v7 : Int32) (v8 : Int32) (v9 : Int32) (v10 : Int32) (ml : VMl) (mq : VMq) (mr : Nat → Int32), k155 v2 v3 v5 v6 v7 v8 v9 v10 ml mq mr = some res → k_G D l E (pic_X7 D a mp mg mc ml mq mh ms mr mi) [(0, .ref (a 0)), (2, .int v2), (3, .int v3), (5, .int v5), (6, .int v6), (7, .int v7), (8, .int v8), (9, .int v9), (10, .int v10)] 155 []) (hret : ∀ (pc : Nat) (lv : List (Nat × Value)), decode cX7_heap pc = .ok (.ireturn, 1) → k_G D l E (pic_X7 D a mp mg mc res.2.1 res.2.2.1 mh ms res.2.2.2 mi) lv pc [.int res.1]) (hf : fX7_heap_b287 N mg k155 v2 v3 v5 v6 v7 v8 v10 s0 s1 ml mq mr = some res) : k_G D l E (pic_X7 D a mp mg mc ml mq mh ms mr mi) [(0, .ref (a 0)), (2, .int v2), (3, .int v3), (5, .int v5), (6, .int v6), (7, .int v7), (8, .int v8), (10, .int v10)] 287 [.int (bI s1), .int s0] := by
  unfold fX7_heap_b287 at hf
  refine g_iadd X dX7_heap_287 (n := 288) rfl ?_
  refine g_istore X dX7_heap_288 (by decide) (lv2 := [(9, .int (s0 + (bI s1))), (0, .ref (a 0)), (2, .int v2), (3, .int v3), (5, .int v5), (6, .int v6), (7, .int v7), (8, .int v8), (10, .int v10)]) rfl (n := 290) rfl ?_
  refine g_sub [1, 2, 3, 4, 5, 6, 7, 0, 8] (lv' := [(0, .ref (a 0)), (2, .int v2), (3, .int v3), (5, .int v5), (6, .int v6), (7, .int v7), (8, .int v8), (9, .int (s0 + (bI s1))), (10, .int v10)]) rfl ?_
  exact wX7_heap_b290 X hk155 hret hf
set_option maxRecDepth 100000 in
set_option maxHeartbeats 4000000 in
theorem wX7_heap_b241 {D : va_G} {l : Launch} {E : k_E} {N : Nat} {a : Nat → Nat} {k155 : Int32 → Int32 → Int32 → Int32 → Int32 → Int32 → Int32 → Int32 → VMl → VMq → (Nat → Int32) → Option (Int32 × VMl × VMq × (Nat → Int32))} {v2 : Int32} {v3 : Int32} {v5 : Int32} {v6 : Int32} {v7 : Int32} {v9 : Int32} {v10 : Int32} {v12 : Int32} {s0 : Int32} {s1 : Bool} {mp : VMp} {mg : VMg} {mc : Nat → Int64} {ml : VMl} {mq : VMq} {mh : VMh} {ms : VMs} {mr : Nat → Int32} {mi : VMi} {res : Int32 × VMl × VMq × (Nat → Int32)} (X : k_X D E cX7_heap RX7 14 4 94) (hk155 : ∀ (v2 : Int32) (v3 : Int32) (v5 : Int32) (v6 : Int32) (v7 : Int32) (v8 : Int32) (v9 : Int32) (v10 : Int32) (ml : VMl) (mq : VMq) (mr : Nat → Int32), k155 v2 v3 v5 v6 v7 v8 v9 v10 ml mq mr = some res → k_G D l E (pic_X7 D a mp mg mc ml mq mh ms mr mi) [(0, .ref (a 0)), (2, .int v2), (3, .int v3), (5, .int v5), (6, .int v6), (7, .int v7), (8, .int v8), (9, .int v9), (10, .int v10)] 155 []) (hret : ∀ (pc : Nat) (lv : List (Nat × Value)), decode cX7_heap pc = .ok (.ireturn, 1) → k_G D l E (pic_X7 D a mp mg mc res.2.1 res.2.2.1 mh ms res.2.2.2 mi) lv pc [.int res.1]) (hf : fX7_heap_b241 N mg k155 v2 v3 v5 v6 v7 v9 v10 v12 s0 s1 ml mq mr = some res) : k_G D l E (pic_X7 D a mp mg mc ml mq mh ms mr mi) [(0, .ref (a 0)), (2, .int v2), (3, .int v3), (5, .int v5), (6, .int v6), (7, .int v7), (9, .int v9), (10, .int v10), (12, .int v12)] 241 [.int (bI s1), .int s0] := by
  unfold fX7_heap_b241 at hf
  refine g_iadd X dX7_heap_241 (n := 242) rfl ?_
  refine g_istore X dX7_heap_242 (by decide) (lv2 := [(8, .int (s0 + (bI s1))), (0, .ref (a 0)), (2, .int v2), (3, .int v3), (5, .int v5), (6, .int v6), (7, .int v7), (9, .int v9), (10, .int v10), (12, .int v12)]) rfl (n := 244) rfl ?_
  refine g_iload X dX7_heap_244 9 rfl (n := 246) rfl ?_
  obtain ⟨x_1, g_2, hf⟩ := k_b1s hf
  refine g_callS0 X (mX7_isPerson (D := D) (l := l)  g_2) lk_X7_isPerson mlX7_73 dX7_heap_246 (n := 249) rfl (st := []) rfl (st2 := [.int (bI x_1)]) rfl rfl ⟨Nat.le_of_ble_eq_true rfl, Nat.le_of_ble_eq_true rfl⟩ (Nat.le_of_ble_eq_true rfl) ?_
  refine g_if_eqB X dX7_heap_249 (t := 290) (by decide) (n := 252) rfl (fun c_3 => ?_) (fun c_3 => ?_)
  · replace hf := k_neg c_3 hf
    refine g_sub [1, 2, 3, 4, 5, 6, 0, 7, 8] (lv' := [(0, .ref (a 0)), (2, .int v2), (3, .int v3), (5, .int v5), (6, .int v6), (7, .int v7), (8, .int (s0 + (bI s1))), (9, .int v9), (10, .int v10)]) rfl ?_
    exact wX7_heap_b290 X hk155 hret hf
  · replace hf := k_pos c_3 hf
    refine g_aload_n X dX7_heap_252 1 rfl rfl (n := 253) rfl ?_
    refine g_get X dX7_heap_253 flX7_39 0 rfl (v := .ref (a 8)) rfl (n := 256) rfl ?_
    refine g_iload X dX7_heap_256 9 rfl (n := 258) rfl ?_
    refine g_bipush X dX7_heap_258 (v := 65) (by decide) (n := 260) rfl ?_
    refine g_isub X dX7_heap_260 (n := 261) rfl ?_
    refine g_dup2 X dX7_heap_261 rfl rfl (n := 262) rfl ?_
    obtain ⟨h_4, hf⟩ := k_guard hf
    refine g_iaload X dX7_heap_262 8 (f := ml.1) rfl rfl h_4 (n := 263) rfl ?_
    refine g_iconst X dX7_heap_263 (v := 1) (by decide) (n := 264) rfl ?_
    refine g_iadd X dX7_heap_264 (n := 265) rfl ?_
    obtain ⟨h_5, hf⟩ := k_guard hf
    refine g_iastore X dX7_heap_265 8 (f := ml.1) rfl rfl h_5 (ws2 := pic_X7 D a mp mg mc (upd ml.1 ((v12 - 65)).toNatClampNeg ((ml.1 (v12 - 65).toNatClampNeg) + 1), ml.2.1, ml.2.2.1, ml.2.2.2.1, ml.2.2.2.2.1, ml.2.2.2.2.2.1, ml.2.2.2.2.2.2) mq mh ms mr mi) rfl (n := 266) rfl ?_
    refine g_iload X dX7_heap_266 7 rfl (n := 268) rfl ?_
    refine g_aload_n X dX7_heap_268 1 rfl rfl (n := 269) rfl ?_
    refine g_get X dX7_heap_269 flX7_39 0 rfl (v := .ref (a 8)) rfl (n := 272) rfl ?_
    refine g_iload X dX7_heap_272 9 rfl (n := 274) rfl ?_
    refine g_bipush X dX7_heap_274 (v := 65) (by decide) (n := 276) rfl ?_
    refine g_isub X dX7_heap_276 (n := 277) rfl ?_
    obtain ⟨h_6, hf⟩ := k_guard hf
    refine g_iaload X dX7_heap_277 8 (f := upd ml.1 ((v12 - 65)).toNatClampNeg ((ml.1 (v12 - 65).toNatClampNeg) + 1)) rfl rfl h_6 (n := 278) rfl ?_
    refine g_iconst X dX7_heap_278 (v := 2) (by decide) (n := 279) rfl ?_
    refine g_icmp_ne X dX7_heap_279 (t := 286) (by decide) (n := 282) rfl (fun c_7 => ?_) (fun c_7 => ?_)
    · replace hf := k_neg c_7 hf
      refine g_iconst X dX7_heap_286 (v := 0) (by decide) (n := 287) rfl ?_
      refine g_sub [1, 2, 3, 4, 5, 6, 0, 8] (lv' := [(0, .ref (a 0)), (2, .int v2), (3, .int v3), (5, .int v5), (6, .int v6), (7, .int v7), (8, .int (s0 + (bI s1))), (10, .int v10)]) rfl ?_
      exact wX7_heap_b287 X hk155 hret hf
    · replace hf := k_pos c_7 hf
      refine g_iconst X dX7_heap_282 (v := 1) (by decide) (n := 283) rfl ?_
      refine g_goto X dX7_heap_283 (n := 287) (by decide) ?_
      refine g_sub [1, 2, 3, 4, 5, 6, 0, 8] (lv' := [(0, .ref (a 0)), (2, .int v2), (3, .int v3), (5, .int v5), (6, .int v6), (7, .int v7), (8, .int (s0 + (bI s1))), (10, .int v10)]) rfl ?_
      exact wX7_heap_b287 X hk155 hret hf
set_option maxRecDepth 100000 in
set_option maxHeartbeats 4000000 in
theorem wX7_heap_b197 {D : va_G} {l : Launch} {E : k_E} {N : Nat} {a : Nat → Nat} {k155 : Int32 → Int32 → Int32 → Int32 → Int32 → Int32 → Int32 → Int32 → VMl → VMq → (Nat → Int32) → Option (Int32 × VMl × VMq × (Nat → Int32))} {k197 : Int32 → Int32 → Int32 → Int32 → Int32 → Int32 → Int32 → Int32 → Int32 → Int32 → VMl → VMq → (Nat → Int32) → Option (Int32 × VMl × VMq × (Nat → Int32))} {v2 : Int32} {v3 : Int32} {v5 : Int32} {v6 : Int32} {v7 : Int32} {v8 : Int32} {v9 : Int32} {v10 : Int32} {v12 : Int32} {v13 : Int32} {mp : VMp} {mg : VMg} {mc : Nat → Int64} {ml : VMl} {mq : VMq} {mh : VMh} {ms : VMs} {mr : Nat → Int32} {mi : VMi} {res : Int32 × VMl × VMq × (Nat → Int32)} (X : k_X D E cX7_heap RX7 14 4 94) (hk155 : ∀ (v2 : Int32) (v3 : Int32) (v5 : Int32) (v6 : Int32) (v7 : Int32) (v8 : Int32) (v9 : Int32) (v10 : Int32) (ml : VMl) (mq : VMq) (mr : Nat → Int32), k155 v2 v3 v5 v6 v7 v8 v9 v10 ml mq mr = some res → k_G D l E (pic_X7 D a mp mg mc ml mq mh ms mr mi) [(0, .ref (a 0)), (2, .int v2), (3, .int v3), (5, .int v5), (6, .int v6), (7, .int v7), (8, .int v8), (9, .int v9), (10, .int v10)] 155 []) (hk197 : ∀ (v2 : Int32) (v3 : Int32) (v5 : Int32) (v6 : Int32) (v7 : Int32) (v8 : Int32) (v9 : Int32) (v10 : Int32) (v12 : Int32) (v13 : Int32) (ml : VMl) (mq : VMq) (mr : Nat → Int32), k197 v2 v3 v5 v6 v7 v8 v9 v10 v12 v13 ml mq mr = some res → k_G D l E (pic_X7 D a mp mg mc ml mq mh ms mr mi) [(0, .ref (a 0)), (2, .int v2), (3, .int v3), (5, .int v5), (6, .int v6), (7, .int v7), (8, .int v8), (9, .int v9), (10, .int v10), (12, .int v12), (13, .int v13)] 197 []) (hret : ∀ (pc : Nat) (lv : List (Nat × Value)), decode cX7_heap pc = .ok (.ireturn, 1) → k_G D l E (pic_X7 D a mp mg mc res.2.1 res.2.2.1 mh ms res.2.2.2 mi) lv pc [.int res.1]) (hf : fX7_heap_b197 N mg k155 k197 v2 v3 v5 v6 v7 v8 v9 v10 v12 v13 ml mq mr = some res) : k_G D l E (pic_X7 D a mp mg mc ml mq mh ms mr mi) [(0, .ref (a 0)), (2, .int v2), (3, .int v3), (5, .int v5), (6, .int v6), (7, .int v7), (8, .int v8), (9, .int v9), (10, .int v10), (12, .int v12), (13, .int v13)] 197 [] := by
  unfold fX7_heap_b197 at hf
  refine g_iload X dX7_heap_197 10 rfl (n := 199) rfl ?_
  refine g_iload X dX7_heap_199 4 rfl (n := 201) rfl ?_
  refine g_icmp_ge X dX7_heap_201 (t := 226) (by decide) (n := 204) rfl (fun c_1 => ?_) (fun c_1 => ?_)
  · replace hf := k_pos c_1 hf
    refine g_iload X dX7_heap_226 6 rfl (n := 228) rfl ?_
    refine g_iload X dX7_heap_228 9 rfl (n := 230) rfl ?_
    obtain ⟨x_2, g_3, hf⟩ := k_b1s hf
    refine g_callS0 X (mX7_isBad (D := D) (l := l)  g_3) lk_X7_isBad mlX7_69 dX7_heap_230 (n := 233) rfl (st := [.int v8]) rfl (st2 := [.int (bI x_2), .int v8]) rfl rfl ⟨Nat.le_of_ble_eq_true rfl, Nat.le_of_ble_eq_true rfl⟩ (Nat.le_of_ble_eq_true rfl) ?_
    refine g_if_eqB X dX7_heap_233 (t := 240) (by decide) (n := 236) rfl (fun c_4 => ?_) (fun c_4 => ?_)
    · replace hf := k_neg c_4 hf
      refine g_iconst X dX7_heap_240 (v := 1) (by decide) (n := 241) rfl ?_
      refine g_sub [0, 1, 2, 3, 4, 5, 7, 8, 9] (lv' := [(0, .ref (a 0)), (2, .int v2), (3, .int v3), (5, .int v5), (6, .int v6), (7, .int v7), (9, .int v9), (10, .int v10), (12, .int v12)]) rfl ?_
      exact wX7_heap_b241 X hk155 hret hf
    · replace hf := k_pos c_4 hf
      refine g_iconst X dX7_heap_236 (v := 0) (by decide) (n := 237) rfl ?_
      refine g_goto X dX7_heap_237 (n := 241) (by decide) ?_
      refine g_sub [0, 1, 2, 3, 4, 5, 7, 8, 9] (lv' := [(0, .ref (a 0)), (2, .int v2), (3, .int v3), (5, .int v5), (6, .int v6), (7, .int v7), (9, .int v9), (10, .int v10), (12, .int v12)]) rfl ?_
      exact wX7_heap_b241 X hk155 hret hf
  · replace hf := k_neg c_1 hf
    refine g_aload_n X dX7_heap_204 0 rfl rfl (n := 205) rfl ?_
    refine g_get X dX7_heap_205 flX7_48 0 rfl (v := .ref (a 11)) rfl (n := 208) rfl ?_
    refine g_iload X dX7_heap_208 10 rfl (n := 210) rfl ?_
    refine g_aload_n X dX7_heap_210 0 rfl rfl (n := 211) rfl ?_
    refine g_get X dX7_heap_211 flX7_48 0 rfl (v := .ref (a 11)) rfl (n := 214) rfl ?_
    refine g_iload X dX7_heap_214 10 rfl (n := 216) rfl ?_
    refine g_iconst X dX7_heap_216 (v := 1) (by decide) (n := 217) rfl ?_
    refine g_iadd X dX7_heap_217 (n := 218) rfl ?_
    obtain ⟨h_5, hf⟩ := k_guard hf
    refine g_iaload X dX7_heap_218 11 (f := mr) rfl rfl h_5 (n := 219) rfl ?_
    obtain ⟨h_6, hf⟩ := k_guard hf
    refine g_iastore X dX7_heap_219 11 (f := mr) rfl rfl h_6 (ws2 := pic_X7 D a mp mg mc ml mq mh ms (upd mr (v13).toNatClampNeg (mr (v13 + 1).toNatClampNeg)) mi) rfl (n := 220) rfl ?_
    refine g_iinc X dX7_heap_220 10 rfl (v := v13 + 1) rfl (by decide) (lv2 := [(13, .int (v13 + 1)), (0, .ref (a 0)), (2, .int v2), (3, .int v3), (5, .int v5), (6, .int v6), (7, .int v7), (8, .int v8), (9, .int v9), (10, .int v10), (12, .int v12)]) rfl (n := 223) rfl ?_
    refine g_goto X dX7_heap_223 (n := 197) (by decide) ?_
    refine g_sub [1, 2, 3, 4, 5, 6, 7, 8, 9, 10, 0] (lv' := [(0, .ref (a 0)), (2, .int v2), (3, .int v3), (5, .int v5), (6, .int v6), (7, .int v7), (8, .int v8), (9, .int v9), (10, .int v10), (12, .int v12), (13, .int (v13 + 1))]) rfl ?_
    exact hk197 _ _ _ _ _ _ _ _ _ _ _ _ _ hf
set_option maxRecDepth 100000 in
set_option maxHeartbeats 4000000 in
theorem wX7_heap_l197 {D : va_G} {l : Launch} {E : k_E} {N : Nat} {a : Nat → Nat} {k155 : Int32 → Int32 → Int32 → Int32 → Int32 → Int32 → Int32 → Int32 → VMl → VMq → (Nat → Int32) → Option (Int32 × VMl × VMq × (Nat → Int32))} {mp : VMp} {mg : VMg} {mc : Nat → Int64} {mh : VMh} {ms : VMs} {mi : VMi} {res : Int32 × VMl × VMq × (Nat → Int32)} (X : k_X D E cX7_heap RX7 14 4 94) (hk155 : ∀ (v2 : Int32) (v3 : Int32) (v5 : Int32) (v6 : Int32) (v7 : Int32) (v8 : Int32) (v9 : Int32) (v10 : Int32) (ml : VMl) (mq : VMq) (mr : Nat → Int32), k155 v2 v3 v5 v6 v7 v8 v9 v10 ml mq mr = some res → k_G D l E (pic_X7 D a mp mg mc ml mq mh ms mr mi) [(0, .ref (a 0)), (2, .int v2), (3, .int v3), (5, .int v5), (6, .int v6), (7, .int v7), (8, .int v8), (9, .int v9), (10, .int v10)] 155 []) (hret : ∀ (pc : Nat) (lv : List (Nat × Value)), decode cX7_heap pc = .ok (.ireturn, 1) → k_G D l E (pic_X7 D a mp mg mc res.2.1 res.2.2.1 mh ms res.2.2.2 mi) lv pc [.int res.1]) : ∀ (n0 : Nat) (v2 : Int32) (v3 : Int32) (v5 : Int32) (v6 : Int32) (v7 : Int32) (v8 : Int32) (v9 : Int32) (v10 : Int32) (v12 : Int32) (v13 : Int32) (ml : VMl) (mq : VMq) (mr : Nat → Int32), fX7_heap_l197 N mg k155 n0 v2 v3 v5 v6 v7 v8 v9 v10 v12 v13 ml mq mr = some res → k_G D l E (pic_X7 D a mp mg mc ml mq mh ms mr mi) [(0, .ref (a 0)), (2, .int v2), (3, .int v3), (5, .int v5), (6, .int v6), (7, .int v7), (8, .int v8), (9, .int v9), (10, .int v10), (12, .int v12), (13, .int v13)] 197 [] := by
  intro n0
  induction n0 with
  | zero => intro v2 v3 v5 v6 v7 v8 v9 v10 v12 v13 ml mq mr hf; cases hf
  | succ n0 ih => intro v2 v3 v5 v6 v7 v8 v9 v10 v12 v13 ml mq mr hf; exact wX7_heap_b197 (N := N) (k197 := fX7_heap_l197 N mg k155 n0) X hk155 ih hret hf
set_option maxRecDepth 100000 in
set_option maxHeartbeats 4000000 in
theorem wX7_heap_b155 {D : va_G} {l : Launch} {E : k_E} {N : Nat} {a : Nat → Nat} {k155 : Int32 → Int32 → Int32 → Int32 → Int32 → Int32 → Int32 → Int32 → VMl → VMq → (Nat → Int32) → Option (Int32 × VMl × VMq × (Nat → Int32))} {v2 : Int32} {v3 : Int32} {v5 : Int32} {v6 : Int32} {v7 : Int32} {v8 : Int32} {v9 : Int32} {v10 : Int32} {mp : VMp} {mg : VMg} {mc : Nat → Int64} {ml : VMl} {mq : VMq} {mh : VMh} {ms : VMs} {mr : Nat → Int32} {mi : VMi} {res : Int32 × VMl × VMq × (Nat → Int32)} (X : k_X D E cX7_heap RX7 14 4 94) (hk155 : ∀ (v2 : Int32) (v3 : Int32) (v5 : Int32) (v6 : Int32) (v7 : Int32) (v8 : Int32) (v9 : Int32) (v10 : Int32) (ml : VMl) (mq : VMq) (mr : Nat → Int32), k155 v2 v3 v5 v6 v7 v8 v9 v10 ml mq mr = some res → k_G D l E (pic_X7 D a mp mg mc ml mq mh ms mr mi) [(0, .ref (a 0)), (2, .int v2), (3, .int v3), (5, .int v5), (6, .int v6), (7, .int v7), (8, .int v8), (9, .int v9), (10, .int v10)] 155 []) (hret : ∀ (pc : Nat) (lv : List (Nat × Value)), decode cX7_heap pc = .ok (.ireturn, 1) → k_G D l E (pic_X7 D a mp mg mc res.2.1 res.2.2.1 mh ms res.2.2.2 mi) lv pc [.int res.1]) (hf : fX7_heap_b155 N mg k155 v2 v3 v5 v6 v7 v8 v9 v10 ml mq mr = some res) : k_G D l E (pic_X7 D a mp mg mc ml mq mh ms mr mi) [(0, .ref (a 0)), (2, .int v2), (3, .int v3), (5, .int v5), (6, .int v6), (7, .int v7), (8, .int v8), (9, .int v9), (10, .int v10)] 155 [] := by
  unfold fX7_heap_b155 at hf
  refine g_iload X dX7_heap_155 8 rfl (n := 157) rfl ?_
  refine g_iload_n X dX7_heap_157 1 rfl rfl (n := 158) rfl ?_
  refine g_icmp_ge X dX7_heap_158 (t := 296) (by decide) (n := 161) rfl (fun c_1 => ?_) (fun c_1 => ?_)
  · replace hf := k_pos c_1 hf
    refine g_iload_n X dX7_heap_296 2 rfl rfl (n := 297) rfl ?_
    refine g_if_ne X dX7_heap_297 (t := 305) (by decide) (n := 300) rfl (fun c_2 => ?_) (fun c_2 => ?_)
    · replace hf := k_neg c_2 hf
      refine g_iload_n X dX7_heap_305 2 rfl rfl (n := 306) rfl ?_
      refine g_iconst X dX7_heap_306 (v := 1) (by decide) (n := 307) rfl ?_
      refine g_icmp_ne X dX7_heap_307 (t := 315) (by decide) (n := 310) rfl (fun c_3 => ?_) (fun c_3 => ?_)
      · replace hf := k_neg c_3 hf
        refine g_aload_n X dX7_heap_315 0 rfl rfl (n := 316) rfl ?_
        refine g_iload X dX7_heap_316 3 rfl (n := 318) rfl ?_
        refine g_iload_n X dX7_heap_318 1 rfl rfl (n := 319) rfl ?_
        refine g_iload X dX7_heap_319 6 rfl (n := 321) rfl ?_
        refine g_iload X dX7_heap_321 7 rfl (n := 323) rfl ?_
        obtain ⟨x_4, mq_5, g_6, hf⟩ := k_b2s hf
        refine g_callV0 X (mX7_saysYes (D := D) (l := l) (a := a) (mp := mp) (mc := mc) (ml := ml) (mh := mh) (ms := ms) (mr := mr) (mi := mi) g_6) lk_X7_saysYes mlX7_144 dX7_heap_323 (n := 326) rfl (st := []) rfl (st2 := [.int (bI x_4)]) rfl rfl rfl rfl (ws2 := pic_X7 D a mp mg mc ml mq_5 mh ms mr mi) (ad_X7 _ _ _ _ _ _ _ _ _ _ _ _ _ _ _ _ _ _ _ _) rfl ⟨Nat.le_of_ble_eq_true rfl, Nat.le_of_ble_eq_true rfl⟩ (Nat.le_of_ble_eq_true rfl) ?_
        refine g_if_eqB X dX7_heap_326 (t := 333) (by decide) (n := 329) rfl (fun c_7 => ?_) (fun c_7 => ?_)
        · replace hf := k_neg c_7 hf
          refine g_iconst X dX7_heap_333 (v := 0) (by decide) (n := 334) rfl ?_
          obtain rfl := Option.some.inj hf
          exact hret _ _ dX7_heap_334
        · replace hf := k_pos c_7 hf
          refine g_iconst X dX7_heap_329 (v := 1) (by decide) (n := 330) rfl ?_
          refine g_goto X dX7_heap_330 (n := 334) (by decide) ?_
          obtain rfl := Option.some.inj hf
          exact hret _ _ dX7_heap_334
      · replace hf := k_pos c_3 hf
        refine g_iload X dX7_heap_310 7 rfl (n := 312) rfl ?_
        refine g_goto X dX7_heap_312 (n := 334) (by decide) ?_
        obtain rfl := Option.some.inj hf
        exact hret _ _ dX7_heap_334
    · replace hf := k_pos c_2 hf
      refine g_iload X dX7_heap_300 6 rfl (n := 302) rfl ?_
      refine g_goto X dX7_heap_302 (n := 334) (by decide) ?_
      obtain rfl := Option.some.inj hf
      exact hret _ _ dX7_heap_334
  · replace hf := k_neg c_1 hf
    refine g_iload X dX7_heap_161 5 rfl (n := 163) rfl ?_
    refine g_bipush X dX7_heap_163 (v := 75) (by decide) (n := 165) rfl ?_
    refine g_imul X dX7_heap_165 (n := 166) rfl ?_
    refine g_bipush X dX7_heap_166 (v := 74) (by decide) (n := 168) rfl ?_
    refine g_iadd X dX7_heap_168 (n := 169) rfl ?_
    refine g_ldc X dX7_heap_169 kcX7_211 (n := 171) rfl ?_
    obtain ⟨h_8, hf⟩ := k_guardN hf
    refine g_irem X dX7_heap_171 h_8 (n := 172) rfl ?_
    obtain ⟨x_9, e_10, hf⟩ := k_b1s hf
    replace e_10 := Option.some.inj e_10
    refine g_eq (st' := [.int x_9]) rfl rfl (by rw [← e_10]) ?_
    refine g_istore X dX7_heap_172 (by decide) (lv2 := [(7, .int x_9), (0, .ref (a 0)), (2, .int v2), (3, .int v3), (5, .int v5), (6, .int v6), (8, .int v8), (9, .int v9), (10, .int v10)]) rfl (n := 174) rfl ?_
    refine g_iload X dX7_heap_174 0 rfl (n := 176) rfl ?_
    refine g_iload X dX7_heap_176 5 rfl (n := 178) rfl ?_
    obtain ⟨h_11, hf⟩ := k_guardN hf
    refine g_irem X dX7_heap_178 h_11 (n := 179) rfl ?_
    refine g_istore X dX7_heap_179 (by decide) (lv2 := [(11, .int (x_9 - x_9 / v6 * v6)), (7, .int x_9), (0, .ref (a 0)), (2, .int v2), (3, .int v3), (5, .int v5), (6, .int v6), (8, .int v8), (9, .int v9), (10, .int v10)]) rfl (n := 181) rfl ?_
    refine g_aload_n X dX7_heap_181 2 rfl rfl (n := 182) rfl ?_
    refine g_get X dX7_heap_182 flX7_48 0 rfl (v := .ref (a 11)) rfl (n := 185) rfl ?_
    refine g_iload X dX7_heap_185 0 rfl (n := 187) rfl ?_
    obtain ⟨h_12, hf⟩ := k_guard hf
    refine g_iaload X dX7_heap_187 11 (f := mr) rfl rfl h_12 (n := 188) rfl ?_
    obtain ⟨x_13, e_14, hf⟩ := k_b1s hf
    replace e_14 := Option.some.inj e_14
    refine g_eq (st' := [.int x_13]) rfl rfl (by rw [← e_14]) ?_
    refine g_istore X dX7_heap_188 (by decide) (lv2 := [(12, .int x_13), (11, .int (x_9 - x_9 / v6 * v6)), (7, .int x_9), (0, .ref (a 0)), (2, .int v2), (3, .int v3), (5, .int v5), (6, .int v6), (8, .int v8), (9, .int v9), (10, .int v10)]) rfl (n := 190) rfl ?_
    refine g_iinc X dX7_heap_190 7 rfl (v := v6 + (-1)) rfl (by decide) (lv2 := [(6, .int (v6 + (-1))), (12, .int x_13), (11, .int (x_9 - x_9 / v6 * v6)), (7, .int x_9), (0, .ref (a 0)), (2, .int v2), (3, .int v3), (5, .int v5), (8, .int v8), (9, .int v9), (10, .int v10)]) rfl (n := 193) rfl ?_
    refine g_iload X dX7_heap_193 2 rfl (n := 195) rfl ?_
    refine g_istore X dX7_heap_195 (by decide) (lv2 := [(13, .int (x_9 - x_9 / v6 * v6)), (6, .int (v6 + (-1))), (12, .int x_13), (11, .int (x_9 - x_9 / v6 * v6)), (7, .int x_9), (0, .ref (a 0)), (2, .int v2), (3, .int v3), (5, .int v5), (8, .int v8), (9, .int v9), (10, .int v10)]) rfl (n := 197) rfl ?_
    refine g_sub [5, 6, 7, 8, 1, 4, 9, 10, 11, 2, 0] (lv' := [(0, .ref (a 0)), (2, .int v2), (3, .int v3), (5, .int v5), (6, .int (v6 + (-1))), (7, .int x_9), (8, .int v8), (9, .int v9), (10, .int v10), (12, .int x_13), (13, .int (x_9 - x_9 / v6 * v6))]) rfl ?_
    exact wX7_heap_l197 X hk155 hret _ _ _ _ _ _ _ _ _ _ _ _ _ _ hf
set_option maxRecDepth 100000 in
set_option maxHeartbeats 4000000 in
theorem wX7_heap_l155 {D : va_G} {l : Launch} {E : k_E} {N : Nat} {a : Nat → Nat} {mp : VMp} {mg : VMg} {mc : Nat → Int64} {mh : VMh} {ms : VMs} {mi : VMi} {res : Int32 × VMl × VMq × (Nat → Int32)} (X : k_X D E cX7_heap RX7 14 4 94) (hret : ∀ (pc : Nat) (lv : List (Nat × Value)), decode cX7_heap pc = .ok (.ireturn, 1) → k_G D l E (pic_X7 D a mp mg mc res.2.1 res.2.2.1 mh ms res.2.2.2 mi) lv pc [.int res.1]) : ∀ (n0 : Nat) (v2 : Int32) (v3 : Int32) (v5 : Int32) (v6 : Int32) (v7 : Int32) (v8 : Int32) (v9 : Int32) (v10 : Int32) (ml : VMl) (mq : VMq) (mr : Nat → Int32), fX7_heap_l155 N mg n0 v2 v3 v5 v6 v7 v8 v9 v10 ml mq mr = some res → k_G D l E (pic_X7 D a mp mg mc ml mq mh ms mr mi) [(0, .ref (a 0)), (2, .int v2), (3, .int v3), (5, .int v5), (6, .int v6), (7, .int v7), (8, .int v8), (9, .int v9), (10, .int v10)] 155 [] := by
  intro n0
  induction n0 with
  | zero => intro v2 v3 v5 v6 v7 v8 v9 v10 ml mq mr hf; cases hf
  | succ n0 ih => intro v2 v3 v5 v6 v7 v8 v9 v10 ml mq mr hf; exact wX7_heap_b155 (N := N) (k155 := fX7_heap_l155 N mg n0) X  ih hret hf
set_option maxRecDepth 100000 in
set_option maxHeartbeats 4000000 in
theorem wX7_heap_b122 {D : va_G} {l : Launch} {E : k_E} {N : Nat} {a : Nat → Nat} {k122 : Int32 → Int32 → Int32 → Int32 → Int32 → Int32 → VMl → VMq → (Nat → Int32) → Option (Int32 × VMl × VMq × (Nat → Int32))} {v1 : Int32} {v2 : Int32} {v3 : Int32} {v5 : Int32} {v6 : Int32} {v7 : Int32} {mp : VMp} {mg : VMg} {mc : Nat → Int64} {ml : VMl} {mq : VMq} {mh : VMh} {ms : VMs} {mr : Nat → Int32} {mi : VMi} {res : Int32 × VMl × VMq × (Nat → Int32)} (X : k_X D E cX7_heap RX7 14 4 94) (hk122 : ∀ (v1 : Int32) (v2 : Int32) (v3 : Int32) (v5 : Int32) (v6 : Int32) (v7 : Int32) (ml : VMl) (mq : VMq) (mr : Nat → Int32), k122 v1 v2 v3 v5 v6 v7 ml mq mr = some res → k_G D l E (pic_X7 D a mp mg mc ml mq mh ms mr mi) [(0, .ref (a 0)), (1, .int v1), (2, .int v2), (3, .int v3), (5, .int v5), (6, .int v6), (7, .int v7)] 122 []) (hret : ∀ (pc : Nat) (lv : List (Nat × Value)), decode cX7_heap pc = .ok (.ireturn, 1) → k_G D l E (pic_X7 D a mp mg mc res.2.1 res.2.2.1 mh ms res.2.2.2 mi) lv pc [.int res.1]) (hf : fX7_heap_b122 N mg k122 v1 v2 v3 v5 v6 v7 ml mq mr = some res) : k_G D l E (pic_X7 D a mp mg mc ml mq mh ms mr mi) [(0, .ref (a 0)), (1, .int v1), (2, .int v2), (3, .int v3), (5, .int v5), (6, .int v6), (7, .int v7)] 122 [] := by
  unfold fX7_heap_b122 at hf
  refine g_iload X dX7_heap_122 6 rfl (n := 124) rfl ?_
  refine g_bipush X dX7_heap_124 (v := 26) (by decide) (n := 126) rfl ?_
  refine g_icmp_ge X dX7_heap_126 (t := 143) (by decide) (n := 129) rfl (fun c_1 => ?_) (fun c_1 => ?_)
  · replace hf := k_pos c_1 hf
    refine g_iload_n X dX7_heap_143 1 rfl rfl (n := 144) rfl ?_
    refine g_istore X dX7_heap_144 (by decide) (lv2 := [(7, .int v1), (0, .ref (a 0)), (1, .int v1), (2, .int v2), (3, .int v3), (5, .int v5), (6, .int v6)]) rfl (n := 146) rfl ?_
    refine g_iconst X dX7_heap_146 (v := 0) (by decide) (n := 147) rfl ?_
    refine g_istore X dX7_heap_147 (by decide) (lv2 := [(8, .int 0), (7, .int v1), (0, .ref (a 0)), (1, .int v1), (2, .int v2), (3, .int v3), (5, .int v5), (6, .int v6)]) rfl (n := 149) rfl ?_
    refine g_iconst X dX7_heap_149 (v := 0) (by decide) (n := 150) rfl ?_
    refine g_istore X dX7_heap_150 (by decide) (lv2 := [(9, .int 0), (8, .int 0), (7, .int v1), (0, .ref (a 0)), (1, .int v1), (2, .int v2), (3, .int v3), (5, .int v5), (6, .int v6)]) rfl (n := 152) rfl ?_
    refine g_iconst X dX7_heap_152 (v := 0) (by decide) (n := 153) rfl ?_
    refine g_istore X dX7_heap_153 (by decide) (lv2 := [(10, .int 0), (9, .int 0), (8, .int 0), (7, .int v1), (0, .ref (a 0)), (1, .int v1), (2, .int v2), (3, .int v3), (5, .int v5), (6, .int v6)]) rfl (n := 155) rfl ?_
    refine g_sub [4, 6, 7, 8, 9, 3, 2, 1, 0] (lv' := [(0, .ref (a 0)), (2, .int v2), (3, .int v3), (5, .int v5), (6, .int v6), (7, .int v1), (8, .int 0), (9, .int 0), (10, .int 0)]) rfl ?_
    exact wX7_heap_l155 X  hret _ _ _ _ _ _ _ _ _ _ _ _ hf
  · replace hf := k_neg c_1 hf
    refine g_aload_n X dX7_heap_129 0 rfl rfl (n := 130) rfl ?_
    refine g_get X dX7_heap_130 flX7_39 0 rfl (v := .ref (a 8)) rfl (n := 133) rfl ?_
    refine g_iload X dX7_heap_133 6 rfl (n := 135) rfl ?_
    refine g_iconst X dX7_heap_135 (v := 0) (by decide) (n := 136) rfl ?_
    obtain ⟨h_2, hf⟩ := k_guard hf
    refine g_iastore X dX7_heap_136 8 (f := ml.1) rfl rfl h_2 (ws2 := pic_X7 D a mp mg mc (upd ml.1 (v7).toNatClampNeg 0, ml.2.1, ml.2.2.1, ml.2.2.2.1, ml.2.2.2.2.1, ml.2.2.2.2.2.1, ml.2.2.2.2.2.2) mq mh ms mr mi) rfl (n := 137) rfl ?_
    refine g_iinc X dX7_heap_137 6 rfl (v := v7 + 1) rfl (by decide) (lv2 := [(7, .int (v7 + 1)), (0, .ref (a 0)), (1, .int v1), (2, .int v2), (3, .int v3), (5, .int v5), (6, .int v6)]) rfl (n := 140) rfl ?_
    refine g_goto X dX7_heap_140 (n := 122) (by decide) ?_
    refine g_sub [1, 2, 3, 4, 5, 6, 0] (lv' := [(0, .ref (a 0)), (1, .int v1), (2, .int v2), (3, .int v3), (5, .int v5), (6, .int v6), (7, .int (v7 + 1))]) rfl ?_
    exact hk122 _ _ _ _ _ _ _ _ _ hf
set_option maxRecDepth 100000 in
set_option maxHeartbeats 4000000 in
theorem wX7_heap_l122 {D : va_G} {l : Launch} {E : k_E} {N : Nat} {a : Nat → Nat} {mp : VMp} {mg : VMg} {mc : Nat → Int64} {mh : VMh} {ms : VMs} {mi : VMi} {res : Int32 × VMl × VMq × (Nat → Int32)} (X : k_X D E cX7_heap RX7 14 4 94) (hret : ∀ (pc : Nat) (lv : List (Nat × Value)), decode cX7_heap pc = .ok (.ireturn, 1) → k_G D l E (pic_X7 D a mp mg mc res.2.1 res.2.2.1 mh ms res.2.2.2 mi) lv pc [.int res.1]) : ∀ (n0 : Nat) (v1 : Int32) (v2 : Int32) (v3 : Int32) (v5 : Int32) (v6 : Int32) (v7 : Int32) (ml : VMl) (mq : VMq) (mr : Nat → Int32), fX7_heap_l122 N mg n0 v1 v2 v3 v5 v6 v7 ml mq mr = some res → k_G D l E (pic_X7 D a mp mg mc ml mq mh ms mr mi) [(0, .ref (a 0)), (1, .int v1), (2, .int v2), (3, .int v3), (5, .int v5), (6, .int v6), (7, .int v7)] 122 [] := by
  intro n0
  induction n0 with
  | zero => intro v1 v2 v3 v5 v6 v7 ml mq mr hf; cases hf
  | succ n0 ih => intro v1 v2 v3 v5 v6 v7 ml mq mr hf; exact wX7_heap_b122 (N := N) (k122 := fX7_heap_l122 N mg n0) X  ih hret hf
set_option maxRecDepth 100000 in
set_option maxHeartbeats 4000000 in
theorem wX7_heap_b113 {D : va_G} {l : Launch} {E : k_E} {N : Nat} {a : Nat → Nat} {k52 : Int32 → Int32 → Int32 → Int32 → Int32 → Int32 → VMl → VMq → (Nat → Int32) → Option (Int32 × VMl × VMq × (Nat → Int32))} {v1 : Int32} {v2 : Int32} {v3 : Int32} {v5 : Int32} {v6 : Int32} {v7 : Int32} {mp : VMp} {mg : VMg} {mc : Nat → Int64} {ml : VMl} {mq : VMq} {mh : VMh} {ms : VMs} {mr : Nat → Int32} {mi : VMi} {res : Int32 × VMl × VMq × (Nat → Int32)} (X : k_X D E cX7_heap RX7 14 4 94) (hk52 : ∀ (v1 : Int32) (v2 : Int32) (v3 : Int32) (v5 : Int32) (v6 : Int32) (v7 : Int32) (ml : VMl) (mq : VMq) (mr : Nat → Int32), k52 v1 v2 v3 v5 v6 v7 ml mq mr = some res → k_G D l E (pic_X7 D a mp mg mc ml mq mh ms mr mi) [(0, .ref (a 0)), (1, .int v1), (2, .int v2), (3, .int v3), (5, .int v5), (6, .int v6), (7, .int v7)] 52 []) (hret : ∀ (pc : Nat) (lv : List (Nat × Value)), decode cX7_heap pc = .ok (.ireturn, 1) → k_G D l E (pic_X7 D a mp mg mc res.2.1 res.2.2.1 mh ms res.2.2.2 mi) lv pc [.int res.1]) (hf : fX7_heap_b113 N mg k52 v1 v2 v3 v5 v6 v7 ml mq mr = some res) : k_G D l E (pic_X7 D a mp mg mc ml mq mh ms mr mi) [(0, .ref (a 0)), (1, .int v1), (2, .int v2), (3, .int v3), (5, .int v5), (6, .int v6), (7, .int v7)] 113 [] := by
  unfold fX7_heap_b113 at hf
  refine g_iinc X dX7_heap_113 6 rfl (v := v7 + 1) rfl (by decide) (lv2 := [(7, .int (v7 + 1)), (0, .ref (a 0)), (1, .int v1), (2, .int v2), (3, .int v3), (5, .int v5), (6, .int v6)]) rfl (n := 116) rfl ?_
  refine g_goto X dX7_heap_116 (n := 52) (by decide) ?_
  refine g_sub [1, 2, 3, 4, 5, 6, 0] (lv' := [(0, .ref (a 0)), (1, .int v1), (2, .int v2), (3, .int v3), (5, .int v5), (6, .int v6), (7, .int (v7 + 1))]) rfl ?_
  exact hk52 _ _ _ _ _ _ _ _ _ hf
set_option maxRecDepth 100000 in
set_option maxHeartbeats 4000000 in
theorem wX7_heap_b62 {D : va_G} {l : Launch} {E : k_E} {N : Nat} {a : Nat → Nat} {k52 : Int32 → Int32 → Int32 → Int32 → Int32 → Int32 → VMl → VMq → (Nat → Int32) → Option (Int32 × VMl × VMq × (Nat → Int32))} {k62 : Int32 → Int32 → Int32 → Int32 → Int32 → Int32 → Int32 → VMl → VMq → (Nat → Int32) → Option (Int32 × VMl × VMq × (Nat → Int32))} {v1 : Int32} {v2 : Int32} {v3 : Int32} {v5 : Int32} {v6 : Int32} {v7 : Int32} {v8 : Int32} {mp : VMp} {mg : VMg} {mc : Nat → Int64} {ml : VMl} {mq : VMq} {mh : VMh} {ms : VMs} {mr : Nat → Int32} {mi : VMi} {res : Int32 × VMl × VMq × (Nat → Int32)} (X : k_X D E cX7_heap RX7 14 4 94) (hk52 : ∀ (v1 : Int32) (v2 : Int32) (v3 : Int32) (v5 : Int32) (v6 : Int32) (v7 : Int32) (ml : VMl) (mq : VMq) (mr : Nat → Int32), k52 v1 v2 v3 v5 v6 v7 ml mq mr = some res → k_G D l E (pic_X7 D a mp mg mc ml mq mh ms mr mi) [(0, .ref (a 0)), (1, .int v1), (2, .int v2), (3, .int v3), (5, .int v5), (6, .int v6), (7, .int v7)] 52 []) (hk62 : ∀ (v1 : Int32) (v2 : Int32) (v3 : Int32) (v5 : Int32) (v6 : Int32) (v7 : Int32) (v8 : Int32) (ml : VMl) (mq : VMq) (mr : Nat → Int32), k62 v1 v2 v3 v5 v6 v7 v8 ml mq mr = some res → k_G D l E (pic_X7 D a mp mg mc ml mq mh ms mr mi) [(0, .ref (a 0)), (1, .int v1), (2, .int v2), (3, .int v3), (5, .int v5), (6, .int v6), (7, .int v7), (8, .int v8)] 62 []) (hret : ∀ (pc : Nat) (lv : List (Nat × Value)), decode cX7_heap pc = .ok (.ireturn, 1) → k_G D l E (pic_X7 D a mp mg mc res.2.1 res.2.2.1 mh ms res.2.2.2 mi) lv pc [.int res.1]) (hf : fX7_heap_b62 N mg k52 k62 v1 v2 v3 v5 v6 v7 v8 ml mq mr = some res) : k_G D l E (pic_X7 D a mp mg mc ml mq mh ms mr mi) [(0, .ref (a 0)), (1, .int v1), (2, .int v2), (3, .int v3), (5, .int v5), (6, .int v6), (7, .int v7), (8, .int v8)] 62 [] := by
  unfold fX7_heap_b62 at hf
  refine g_iload X dX7_heap_62 7 rfl (n := 64) rfl ?_
  refine g_aload_n X dX7_heap_64 0 rfl rfl (n := 65) rfl ?_
  refine g_get X dX7_heap_65 flX7_19 0 rfl (v := .ref (a 4)) rfl (n := 68) rfl ?_
  refine g_iload X dX7_heap_68 6 rfl (n := 70) rfl ?_
  obtain ⟨h_1, hf⟩ := k_guard hf
  refine g_iaload X dX7_heap_70 4 (f := mg.2.2.1) rfl rfl h_1 (n := 71) rfl ?_
  refine g_icmp_ge X dX7_heap_71 (t := 113) (by decide) (n := 74) rfl (fun c_2 => ?_) (fun c_2 => ?_)
  · replace hf := k_pos c_2 hf
    refine g_sub [0, 1, 2, 3, 4, 5, 6] (lv' := [(0, .ref (a 0)), (1, .int v1), (2, .int v2), (3, .int v3), (5, .int v5), (6, .int v6), (7, .int v7)]) rfl ?_
    exact wX7_heap_b113 X hk52 hret hf
  · replace hf := k_neg c_2 hf
    refine g_aload_n X dX7_heap_74 0 rfl rfl (n := 75) rfl ?_
    refine g_get X dX7_heap_75 flX7_16 0 rfl (v := .ref (a 3)) rfl (n := 78) rfl ?_
    refine g_iload X dX7_heap_78 6 rfl (n := 80) rfl ?_
    obtain ⟨h_3, hf⟩ := k_guard hf
    refine g_iaload X dX7_heap_80 3 (f := mg.2.1) rfl rfl h_3 (n := 81) rfl ?_
    refine g_if_ne X dX7_heap_81 (t := 113) (by decide) (n := 84) rfl (fun c_4 => ?_) (fun c_4 => ?_)
    · replace hf := k_neg c_4 hf
      refine g_sub [0, 1, 2, 3, 4, 5, 6] (lv' := [(0, .ref (a 0)), (1, .int v1), (2, .int v2), (3, .int v3), (5, .int v5), (6, .int v6), (7, .int v7)]) rfl ?_
      exact wX7_heap_b113 X hk52 hret hf
    · replace hf := k_pos c_4 hf
      refine g_aload_n X dX7_heap_84 0 rfl rfl (n := 85) rfl ?_
      refine g_get X dX7_heap_85 flX7_48 0 rfl (v := .ref (a 11)) rfl (n := 88) rfl ?_
      refine g_iload X dX7_heap_88 5 rfl (n := 90) rfl ?_
      refine g_aload_n X dX7_heap_90 0 rfl rfl (n := 91) rfl ?_
      refine g_get X dX7_heap_91 flX7_22 0 rfl (v := .ref (a 5)) rfl (n := 94) rfl ?_
      refine g_bipush X dX7_heap_94 (v := 10) (by decide) (n := 96) rfl ?_
      refine g_iload X dX7_heap_96 6 rfl (n := 98) rfl ?_
      refine g_imul X dX7_heap_98 (n := 99) rfl ?_
      refine g_iload X dX7_heap_99 7 rfl (n := 101) rfl ?_
      refine g_iadd X dX7_heap_101 (n := 102) rfl ?_
      obtain ⟨h_5, hf⟩ := k_guard hf
      refine g_iaload X dX7_heap_102 5 (f := mg.2.2.2.1) rfl rfl h_5 (n := 103) rfl ?_
      obtain ⟨h_6, hf⟩ := k_guard hf
      refine g_iastore X dX7_heap_103 11 (f := mr) rfl rfl h_6 (ws2 := pic_X7 D a mp mg mc ml mq mh ms (upd mr (v6).toNatClampNeg (mg.2.2.2.1 (((10 : Int32) * v7) + v8).toNatClampNeg)) mi) rfl (n := 104) rfl ?_
      refine g_iinc X dX7_heap_104 5 rfl (v := v6 + 1) rfl (by decide) (lv2 := [(6, .int (v6 + 1)), (0, .ref (a 0)), (1, .int v1), (2, .int v2), (3, .int v3), (5, .int v5), (7, .int v7), (8, .int v8)]) rfl (n := 107) rfl ?_
      refine g_iinc X dX7_heap_107 7 rfl (v := v8 + 1) rfl (by decide) (lv2 := [(8, .int (v8 + 1)), (6, .int (v6 + 1)), (0, .ref (a 0)), (1, .int v1), (2, .int v2), (3, .int v3), (5, .int v5), (7, .int v7)]) rfl (n := 110) rfl ?_
      refine g_goto X dX7_heap_110 (n := 62) (by decide) ?_
      refine g_sub [2, 3, 4, 5, 6, 1, 7, 0] (lv' := [(0, .ref (a 0)), (1, .int v1), (2, .int v2), (3, .int v3), (5, .int v5), (6, .int (v6 + 1)), (7, .int v7), (8, .int (v8 + 1))]) rfl ?_
      exact hk62 _ _ _ _ _ _ _ _ _ _ hf
set_option maxRecDepth 100000 in
set_option maxHeartbeats 4000000 in
theorem wX7_heap_l62 {D : va_G} {l : Launch} {E : k_E} {N : Nat} {a : Nat → Nat} {k52 : Int32 → Int32 → Int32 → Int32 → Int32 → Int32 → VMl → VMq → (Nat → Int32) → Option (Int32 × VMl × VMq × (Nat → Int32))} {mp : VMp} {mg : VMg} {mc : Nat → Int64} {mh : VMh} {ms : VMs} {mi : VMi} {res : Int32 × VMl × VMq × (Nat → Int32)} (X : k_X D E cX7_heap RX7 14 4 94) (hk52 : ∀ (v1 : Int32) (v2 : Int32) (v3 : Int32) (v5 : Int32) (v6 : Int32) (v7 : Int32) (ml : VMl) (mq : VMq) (mr : Nat → Int32), k52 v1 v2 v3 v5 v6 v7 ml mq mr = some res → k_G D l E (pic_X7 D a mp mg mc ml mq mh ms mr mi) [(0, .ref (a 0)), (1, .int v1), (2, .int v2), (3, .int v3), (5, .int v5), (6, .int v6), (7, .int v7)] 52 []) (hret : ∀ (pc : Nat) (lv : List (Nat × Value)), decode cX7_heap pc = .ok (.ireturn, 1) → k_G D l E (pic_X7 D a mp mg mc res.2.1 res.2.2.1 mh ms res.2.2.2 mi) lv pc [.int res.1]) : ∀ (n0 : Nat) (v1 : Int32) (v2 : Int32) (v3 : Int32) (v5 : Int32) (v6 : Int32) (v7 : Int32) (v8 : Int32) (ml : VMl) (mq : VMq) (mr : Nat → Int32), fX7_heap_l62 N mg k52 n0 v1 v2 v3 v5 v6 v7 v8 ml mq mr = some res → k_G D l E (pic_X7 D a mp mg mc ml mq mh ms mr mi) [(0, .ref (a 0)), (1, .int v1), (2, .int v2), (3, .int v3), (5, .int v5), (6, .int v6), (7, .int v7), (8, .int v8)] 62 [] := by
  intro n0
  induction n0 with
  | zero => intro v1 v2 v3 v5 v6 v7 v8 ml mq mr hf; cases hf
  | succ n0 ih => intro v1 v2 v3 v5 v6 v7 v8 ml mq mr hf; exact wX7_heap_b62 (N := N) (k62 := fX7_heap_l62 N mg k52 n0) X hk52 ih hret hf
set_option maxRecDepth 100000 in
set_option maxHeartbeats 4000000 in
theorem wX7_heap_b52 {D : va_G} {l : Launch} {E : k_E} {N : Nat} {a : Nat → Nat} {k52 : Int32 → Int32 → Int32 → Int32 → Int32 → Int32 → VMl → VMq → (Nat → Int32) → Option (Int32 × VMl × VMq × (Nat → Int32))} {v1 : Int32} {v2 : Int32} {v3 : Int32} {v5 : Int32} {v6 : Int32} {v7 : Int32} {mp : VMp} {mg : VMg} {mc : Nat → Int64} {ml : VMl} {mq : VMq} {mh : VMh} {ms : VMs} {mr : Nat → Int32} {mi : VMi} {res : Int32 × VMl × VMq × (Nat → Int32)} (X : k_X D E cX7_heap RX7 14 4 94) (hk52 : ∀ (v1 : Int32) (v2 : Int32) (v3 : Int32) (v5 : Int32) (v6 : Int32) (v7 : Int32) (ml : VMl) (mq : VMq) (mr : Nat → Int32), k52 v1 v2 v3 v5 v6 v7 ml mq mr = some res → k_G D l E (pic_X7 D a mp mg mc ml mq mh ms mr mi) [(0, .ref (a 0)), (1, .int v1), (2, .int v2), (3, .int v3), (5, .int v5), (6, .int v6), (7, .int v7)] 52 []) (hret : ∀ (pc : Nat) (lv : List (Nat × Value)), decode cX7_heap pc = .ok (.ireturn, 1) → k_G D l E (pic_X7 D a mp mg mc res.2.1 res.2.2.1 mh ms res.2.2.2 mi) lv pc [.int res.1]) (hf : fX7_heap_b52 N mg k52 v1 v2 v3 v5 v6 v7 ml mq mr = some res) : k_G D l E (pic_X7 D a mp mg mc ml mq mh ms mr mi) [(0, .ref (a 0)), (1, .int v1), (2, .int v2), (3, .int v3), (5, .int v5), (6, .int v6), (7, .int v7)] 52 [] := by
  unfold fX7_heap_b52 at hf
  refine g_iload X dX7_heap_52 6 rfl (n := 54) rfl ?_
  refine g_bipush X dX7_heap_54 (v := 6) (by decide) (n := 56) rfl ?_
  refine g_icmp_ge X dX7_heap_56 (t := 119) (by decide) (n := 59) rfl (fun c_1 => ?_) (fun c_1 => ?_)
  · replace hf := k_pos c_1 hf
    refine g_iconst X dX7_heap_119 (v := 0) (by decide) (n := 120) rfl ?_
    refine g_istore X dX7_heap_120 (by decide) (lv2 := [(7, .int 0), (0, .ref (a 0)), (1, .int v1), (2, .int v2), (3, .int v3), (5, .int v5), (6, .int v6)]) rfl (n := 122) rfl ?_
    refine g_sub [1, 2, 3, 4, 5, 6, 0] (lv' := [(0, .ref (a 0)), (1, .int v1), (2, .int v2), (3, .int v3), (5, .int v5), (6, .int v6), (7, .int 0)]) rfl ?_
    exact wX7_heap_l122 X  hret _ _ _ _ _ _ _ _ _ _ hf
  · replace hf := k_neg c_1 hf
    refine g_iconst X dX7_heap_59 (v := 0) (by decide) (n := 60) rfl ?_
    refine g_istore X dX7_heap_60 (by decide) (lv2 := [(8, .int 0), (0, .ref (a 0)), (1, .int v1), (2, .int v2), (3, .int v3), (5, .int v5), (6, .int v6), (7, .int v7)]) rfl (n := 62) rfl ?_
    refine g_sub [1, 2, 3, 4, 5, 6, 7, 0] (lv' := [(0, .ref (a 0)), (1, .int v1), (2, .int v2), (3, .int v3), (5, .int v5), (6, .int v6), (7, .int v7), (8, .int 0)]) rfl ?_
    exact wX7_heap_l62 X hk52 hret _ _ _ _ _ _ _ _ _ _ _ hf
set_option maxRecDepth 100000 in
set_option maxHeartbeats 4000000 in
theorem wX7_heap_l52 {D : va_G} {l : Launch} {E : k_E} {N : Nat} {a : Nat → Nat} {mp : VMp} {mg : VMg} {mc : Nat → Int64} {mh : VMh} {ms : VMs} {mi : VMi} {res : Int32 × VMl × VMq × (Nat → Int32)} (X : k_X D E cX7_heap RX7 14 4 94) (hret : ∀ (pc : Nat) (lv : List (Nat × Value)), decode cX7_heap pc = .ok (.ireturn, 1) → k_G D l E (pic_X7 D a mp mg mc res.2.1 res.2.2.1 mh ms res.2.2.2 mi) lv pc [.int res.1]) : ∀ (n0 : Nat) (v1 : Int32) (v2 : Int32) (v3 : Int32) (v5 : Int32) (v6 : Int32) (v7 : Int32) (ml : VMl) (mq : VMq) (mr : Nat → Int32), fX7_heap_l52 N mg n0 v1 v2 v3 v5 v6 v7 ml mq mr = some res → k_G D l E (pic_X7 D a mp mg mc ml mq mh ms mr mi) [(0, .ref (a 0)), (1, .int v1), (2, .int v2), (3, .int v3), (5, .int v5), (6, .int v6), (7, .int v7)] 52 [] := by
  intro n0
  induction n0 with
  | zero => intro v1 v2 v3 v5 v6 v7 ml mq mr hf; cases hf
  | succ n0 ih => intro v1 v2 v3 v5 v6 v7 ml mq mr hf; exact wX7_heap_b52 (N := N) (k52 := fX7_heap_l52 N mg n0) X  ih hret hf
set_option maxRecDepth 100000 in
set_option maxHeartbeats 4000000 in
theorem wX7_heap_b27 {D : va_G} {l : Launch} {E : k_E} {N : Nat} {a : Nat → Nat} {v1 : Int32} {v2 : Int32} {v3 : Int32} {s1 : Int32} {s2 : Bool} {mp : VMp} {mg : VMg} {mc : Nat → Int64} {ml : VMl} {mq : VMq} {mh : VMh} {ms : VMs} {mr : Nat → Int32} {mi : VMi} {res : Int32 × VMl × VMq × (Nat → Int32)} (X : k_X D E cX7_heap RX7 14 4 94) (hret : ∀ (pc : Nat) (lv : List (Nat × Value)), decode cX7_heap pc = .ok (.ireturn, 1) → k_G D l E (pic_X7 D a mp mg mc res.2.1 res.2.2.1 mh ms res.2.2.2 mi) lv pc [.int res.1]) (hf : fX7_heap_b27 N mg v1 v2 v3 s1 s2 ml mq mr = some res) : k_G D l E (pic_X7 D a mp mg mc ml mq mh ms mr mi) [(0, .ref (a 0)), (1, .int v1), (2, .int v2), (3, .int v3)] 27 [.int (bI s2), .int s1, .ref (a 0)] := by
  unfold fX7_heap_b27 at hf
  obtain ⟨x_1, ml_2, g_3, hf⟩ := k_b2s hf
  refine g_callV0 X (mX7_barOfLot (D := D) (l := l) (a := a) (mp := mp) (mc := mc) (mq := mq) (mh := mh) (ms := ms) (mr := mr) (mi := mi) g_3) lk_X7_barOfLot mlX7_150 dX7_heap_27 (n := 30) rfl (st := []) rfl (st2 := [.int x_1]) rfl rfl rfl rfl (ws2 := pic_X7 D a mp mg mc ml_2 mq mh ms mr mi) (ad_X7 _ _ _ _ _ _ _ _ _ _ _ _ _ _ _ _ _ _ _ _) rfl ⟨Nat.le_of_ble_eq_true rfl, Nat.le_of_ble_eq_true rfl⟩ (Nat.le_of_ble_eq_true rfl) ?_
  refine g_istore X dX7_heap_30 (by decide) (lv2 := [(4, .int x_1), (0, .ref (a 0)), (1, .int v1), (2, .int v2), (3, .int v3)]) rfl (n := 32) rfl ?_
  refine g_iload X dX7_heap_32 0 rfl (n := 34) rfl ?_
  refine g_if_ge X dX7_heap_34 (t := 40) (by decide) (n := 37) rfl (fun c_4 => ?_) (fun c_4 => ?_)
  · replace hf := k_pos c_4 hf
    refine g_aload_n X dX7_heap_40 1 rfl rfl (n := 41) rfl ?_
    refine g_get X dX7_heap_41 flX7_89 0 rfl (v := .int ml_2.2.1) rfl (n := 44) rfl ?_
    refine g_istore X dX7_heap_44 (by decide) (lv2 := [(5, .int ml_2.2.1), (4, .int x_1), (0, .ref (a 0)), (1, .int v1), (2, .int v2), (3, .int v3)]) rfl (n := 46) rfl ?_
    refine g_iconst X dX7_heap_46 (v := 0) (by decide) (n := 47) rfl ?_
    refine g_istore X dX7_heap_47 (by decide) (lv2 := [(6, .int 0), (5, .int ml_2.2.1), (4, .int x_1), (0, .ref (a 0)), (1, .int v1), (2, .int v2), (3, .int v3)]) rfl (n := 49) rfl ?_
    refine g_iconst X dX7_heap_49 (v := 0) (by decide) (n := 50) rfl ?_
    refine g_istore X dX7_heap_50 (by decide) (lv2 := [(7, .int 0), (6, .int 0), (5, .int ml_2.2.1), (4, .int x_1), (0, .ref (a 0)), (1, .int v1), (2, .int v2), (3, .int v3)]) rfl (n := 52) rfl ?_
    refine g_sub [4, 5, 6, 7, 2, 1, 0] (lv' := [(0, .ref (a 0)), (1, .int v1), (2, .int v2), (3, .int v3), (5, .int ml_2.2.1), (6, .int 0), (7, .int 0)]) rfl ?_
    exact wX7_heap_l52 X  hret _ _ _ _ _ _ _ _ _ _ hf
  · replace hf := k_neg c_4 hf
    refine g_iload X dX7_heap_37 0 rfl (n := 39) rfl ?_
    obtain rfl := Option.some.inj hf
    exact hret _ _ dX7_heap_39
set_option maxRecDepth 100000 in
set_option maxHeartbeats 4000000 in
theorem wX7_heap_b26 {D : va_G} {l : Launch} {E : k_E} {N : Nat} {a : Nat → Nat} {v1 : Int32} {v2 : Int32} {v3 : Int32} {s1 : Int32} {mp : VMp} {mg : VMg} {mc : Nat → Int64} {ml : VMl} {mq : VMq} {mh : VMh} {ms : VMs} {mr : Nat → Int32} {mi : VMi} {res : Int32 × VMl × VMq × (Nat → Int32)} (X : k_X D E cX7_heap RX7 14 4 94) (hret : ∀ (pc : Nat) (lv : List (Nat × Value)), decode cX7_heap pc = .ok (.ireturn, 1) → k_G D l E (pic_X7 D a mp mg mc res.2.1 res.2.2.1 mh ms res.2.2.2 mi) lv pc [.int res.1]) (hf : fX7_heap_b26 N mg v1 v2 v3 s1 ml mq mr = some res) : k_G D l E (pic_X7 D a mp mg mc ml mq mh ms mr mi) [(0, .ref (a 0)), (1, .int v1), (2, .int v2), (3, .int v3)] 26 [.int s1, .ref (a 0)] := by
  unfold fX7_heap_b26 at hf
  refine g_iconst X dX7_heap_26 (v := 0) (by decide) (n := 27) rfl ?_
  refine g_sub [0, 1, 2, 3] (lv' := [(0, .ref (a 0)), (1, .int v1), (2, .int v2), (3, .int v3)]) rfl ?_
  exact wX7_heap_b27 X  hret hf
set_option maxRecDepth 100000 in
set_option maxHeartbeats 4000000 in
theorem wX7_heap {D : va_G} {l : Launch} {E : k_E} {N : Nat} {a : Nat → Nat} {p1 : Int32} {p2 : Int32} {p3 : Int32} {mp : VMp} {mg : VMg} {mc : Nat → Int64} {ml : VMl} {mq : VMq} {mh : VMh} {ms : VMs} {mr : Nat → Int32} {mi : VMi} {res : Int32 × VMl × VMq × (Nat → Int32)} (X : k_X D E cX7_heap RX7 14 4 94) (hret : ∀ (pc : Nat) (lv : List (Nat × Value)), decode cX7_heap pc = .ok (.ireturn, 1) → k_G D l E (pic_X7 D a mp mg mc res.2.1 res.2.2.1 mh ms res.2.2.2 mi) lv pc [.int res.1]) (hf : fX7_heap N mg p1 p2 p3 ml mq mr = some res) : k_G D l E (pic_X7 D a mp mg mc ml mq mh ms mr mi) [(0, .ref (a 0)), (1, .int p1), (2, .int p2), (3, .int p3)] 0 [] := by
  unfold fX7_heap at hf
  refine g_aload_n X dX7_heap_0 0 rfl rfl (n := 1) rfl ?_
  refine g_iload_n X dX7_heap_1 2 rfl rfl (n := 2) rfl ?_
  refine g_iload_n X dX7_heap_2 1 rfl rfl (n := 3) rfl ?_
  refine g_iconst X dX7_heap_3 (v := 0) (by decide) (n := 4) rfl ?_
  refine g_sipush X dX7_heap_4 (v := 9999) (by decide) (n := 7) rfl ?_
  obtain ⟨x_1, g_2, hf⟩ := k_b1s hf
  refine g_callS0 X (mX7_in (D := D) (l := l)  g_2) lk_X7_in mlX7_58 dX7_heap_7 (n := 10) rfl (st := [.int p2, .ref (a 0)]) rfl (st2 := [.int (bI x_1), .int p2, .ref (a 0)]) rfl rfl ⟨Nat.le_of_ble_eq_true rfl, Nat.le_of_ble_eq_true rfl⟩ (Nat.le_of_ble_eq_true rfl) ?_
  refine g_if_eqB X dX7_heap_10 (t := 26) (by decide) (n := 13) rfl (fun c_3 => ?_) (fun c_3 => ?_)
  · replace hf := k_neg c_3 hf
    refine g_sub [0, 1, 2, 3] (lv' := [(0, .ref (a 0)), (1, .int p1), (2, .int p2), (3, .int p3)]) rfl ?_
    exact wX7_heap_b26 X  hret hf
  · replace hf := k_pos c_3 hf
    refine g_iload_n X dX7_heap_13 3 rfl rfl (n := 14) rfl ?_
    refine g_iconst X dX7_heap_14 (v := 0) (by decide) (n := 15) rfl ?_
    refine g_iconst X dX7_heap_15 (v := 2) (by decide) (n := 16) rfl ?_
    obtain ⟨x_4, g_5, hf⟩ := k_b1s hf
    refine g_callS0 X (mX7_in (D := D) (l := l)  g_5) lk_X7_in mlX7_58 dX7_heap_16 (n := 19) rfl (st := [.int p2, .ref (a 0)]) rfl (st2 := [.int (bI x_4), .int p2, .ref (a 0)]) rfl rfl ⟨Nat.le_of_ble_eq_true rfl, Nat.le_of_ble_eq_true rfl⟩ (Nat.le_of_ble_eq_true rfl) ?_
    refine g_if_eqB X dX7_heap_19 (t := 26) (by decide) (n := 22) rfl (fun c_6 => ?_) (fun c_6 => ?_)
    · replace hf := k_neg c_6 hf
      refine g_sub [0, 1, 2, 3] (lv' := [(0, .ref (a 0)), (1, .int p1), (2, .int p2), (3, .int p3)]) rfl ?_
      exact wX7_heap_b26 X  hret hf
    · replace hf := k_pos c_6 hf
      refine g_iconst X dX7_heap_22 (v := 1) (by decide) (n := 23) rfl ?_
      refine g_goto X dX7_heap_23 (n := 27) (by decide) ?_
      refine g_sub [0, 1, 2, 3] (lv' := [(0, .ref (a 0)), (1, .int p1), (2, .int p2), (3, .int p3)]) rfl ?_
      exact wX7_heap_b27 X  hret hf
set_option maxRecDepth 100000 in
set_option maxHeartbeats 4000000 in
theorem mX7_heap {l : Launch} {D : va_G} {N : Nat} {a : Nat → Nat} {p1 : Int32} {p2 : Int32} {p3 : Int32} {mp : VMp} {mg : VMg} {mc : Nat → Int64} {ml : VMl} {mq : VMq} {mh : VMh} {ms : VMs} {mr : Nat → Int32} {mi : VMi} {res : Int32 × VMl × VMq × (Nat → Int32)} (hf : fX7_heap N mg p1 p2 p3 ml mq mr = some res) : k_Met l yX7_heap cX7_heap 14 (some .int) 4 94 D [.ref (a 0), .int p1, .int p2, .int p3] (pic_X7 D a mp mg mc ml mq mh ms mr mi) (some (.int res.1)) (pic_X7 D a mp mg mc res.2.1 res.2.2.1 mh ms res.2.2.2 mi) :=
  k_of_i (by decide) (Nat.le_of_ble_eq_true rfl) (fun E X hret => wX7_heap X hret hf)
