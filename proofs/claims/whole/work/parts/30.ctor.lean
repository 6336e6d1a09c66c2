/-! constructors and text constants: contracts that make cells -/
def k_fr : List Int32 := [45, 47, 42, 78, 118, 107, 47, 42, 100, 78, 107]
def k_St (q v : Nat) (A : Nat → Prop) (U : State) (H : Heap) : Prop :=
  vk_R "NamesByLot$Register" 34 "-/*Nvk/*dNk" q U ∧ va_O "java/lang/String" q A U H ∧ va_OF "java/lang/String" "coder" "B" (.int 0) q A U H ∧ va_OF "java/lang/String" "value" "[B" (.ref v) q A U H ∧ va_T .byte v 11 (fun j => .int (k_fr.getD j 0)) A U H ∧ va_Z "java/lang/String" "COMPACT_STRINGS" "Z" (.int 1) A U H ∧ va_Zq "jdk/internal/util/Preconditions" "SIOOBE_FORMATTER" "Ljava/util/function/BiFunction;" A U H
theorem k_St.go {q v : Nat} {A B : Nat → Prop} {s U : State} {H1 : Heap} (h : k_St q v A s s.heap) (hW : s.WarmedH U.vm) (hk : ∀ a : Nat, a < s.heap.size → ¬ A a → H1[a]? = s.heap[a]?) (hAB : ∀ q, B q → A q) : k_St q v B U H1 := by
  obtain ⟨h1, h2, h3, h4, h5, h6, h7⟩ := h
  have hv := hW.alike
  exact ⟨h1.warm hW, va_O.moved hv ((h2.kept hk).narrow hAB), va_OF.moved hv ((h3.kept hk).narrow hAB), va_OF.moved hv ((h4.kept hk).narrow hAB), va_T.moved hv ((h5.kept hk).narrow hAB), va_Z.moved hv ((h6.kept hk).narrow hAB), va_Zq.moved hv ((h7.kept hk).narrow hAB)⟩
theorem k_St.same {q v : Nat} {A : Nat → Prop} {u U : State} {H : Heap} (hv : U.vm = u.vm) (h : k_St q v A u H) : k_St q v A U H := by
  obtain ⟨h1, h2, h3, h4, h5, h6, h7⟩ := h
  have ha : u.vm.Alike U.vm := by rw [hv]; exact Vm.Alike.refl _
  exact ⟨vk_R.same hv h1, va_O.moved ha h2, va_OF.moved ha h3, va_OF.moved ha h4, va_T.moved ha h5, va_Z.moved ha h6, va_Zq.moved ha h7⟩
def k_MetC (l : Launch) (y : MethodName) (cc : ByteArray) (mL : Nat) (ret : Option FieldType) (F Lc mc ms : Nat) (D : va_G) (As : List Value) (q v : Nat) (wc : va_W) (rv : Option Value) (w1 : (Nat → Nat) → va_W) : Prop :=
  ∀ sz : Nat, Met l y (.code y cc mL ret :: G_) { frames := F, cells := mc, slots := ms, locals := Lc } (va_Pc As (fun U => U.heap.size = sz ∧ va_P D vwCl wc U.heap ∧ va_K D vwCl (k_tys D) U ∧ va_D (fun _ => True) wc ∧ k_N U ∧ k_St q v (va_A wc sz) U U.heap)) (fun _ st oc t => (oc = .returned rv ∧ ∃ a : Nat → Nat, va_P D vwCl (w1 a) t.heap ∧ va_D (va_A wc sz) (w1 a)) ∧ va_F (va_A wc sz) st t) mc ms (va_A wc sz)
theorem k_blindC {D : va_G} {As : List Value} {wc : va_W} {sz q v : Nat} : FrameBlind (va_Pc As (fun U => U.heap.size = sz ∧ va_P D vwCl wc U.heap ∧ va_K D vwCl (k_tys D) U ∧ va_D (fun _ => True) wc ∧ k_N U ∧ k_St q v (va_A wc sz) U U.heap)) := fun a U g mk z => by
  obtain ⟨q0, q1, qP, qK, qD, qN, qS⟩ := z
  exact ⟨q0, q1, qP, va_K.moved (u := U) (U := U.calling g mk a) (Vm.Alike.refl U.vm) qK, qD, k_N.same (u := U) rfl qN, k_St.same (u := U) rfl qS⟩
def k_cs (E : k_E) (k n : Nat) : k_E := match E with
  | (p, e, R, s, m, args, below, meth, c, _, _, Q, A, nL) => (p, e, R, s, m, args, below, meth, c, k, n, Q, A, nL)
def k_XS (E : k_E) (q v : Nat) : Prop := match E with
  | (_, _, _, s, _, _, _, _, _, _, _, _, A, _) => k_St q v A s s.heap
theorem k_XS.cs {E : k_E} {q v k n : Nat} (h : k_XS E q v) : k_XS (k_cs E k n) q v := by
  obtain ⟨p, e, R, s, m, args, below, meth, c, cells, slots, Q, A, nL'⟩ := E
  exact h
def k_nm (E : k_E) : Prop := match E with
  | (_, _, _, _, _, _, _, meth, _, _, _, _, _, _) => meth.name = "<init>"
def k_XC (D : va_G) (E : k_E) (cc : ByteArray) (own : String) (nL F Lc mc ms : Nat) : Prop := ∀ k n : Nat, k ≤ mc → n ≤ ms → k_X D (k_cs E k n) cc own nL F Lc
theorem k_nm.cs {E : k_E} {k n : Nat} (h : k_nm E) : k_nm (k_cs E k n) := by
  obtain ⟨p, e, R, s, m, args, below, meth, c, cells, slots, Q, A, nL'⟩ := E
  exact h
section KSTR
variable {D : va_G} {l : Launch} {E : k_E} {cc cc2 : ByteArray} {own : String} {nL F Lc F2 L2 mL idx np : Nat} {ws ws2 : va_W} {lv : List (Nat × Value)} {pc n b q v : Nat} {st st2 stk As : List Value} {rv : Option Value} {y : MethodName} {ret : Option FieldType}
theorem g_ldcS (X : k_X D E cc "NamesByLot$Register" nL F Lc) (XS : k_XS E q v) (d : decode cc pc = .ok (.ldc 34, 2)) (hn : pc + 2 = n) (kk : k_G D l E ws lv n (.ref q :: st)) : k_G D l E ws lv pc st := by
  obtain ⟨p, e, R, s, m, args, below, meth, c, cells, slots, Q, A, nL'⟩ := E
  obtain ⟨⟨hx, hb, hml, hown, hts⟩, hK, hN, hc, hs, hF, hL, hnl, hA⟩ := X
  subst hn hnl
  intro H locs ls hP hD hS hv
  exact va_ldcS hx hb hown XS.1 d (kk H locs ls hP hD hS hv)
theorem g_getZ (X : k_X D E cc own nL F Lc) (XS : k_XS E q v) (hl : Cond.fieldLink own idx "java/lang/String" "COMPACT_STRINGS" "Z" ∈ G_) (d : decode cc pc = .ok (.getstatic idx, 3)) (hn : pc + 3 = n) (kk : k_G D l E ws lv n (.int 1 :: st)) : k_G D l E ws lv pc st := by
  obtain ⟨p, e, R, s, m, args, below, meth, c, cells, slots, Q, A, nL'⟩ := E
  obtain ⟨⟨hx, hb, hml, hown, hts⟩, hK, hN, hc, hs, hF, hL, hnl, hA⟩ := X
  subst hn hnl
  intro H locs ls hP hD hS hv
  exact va_gets hx hb XS.2.2.2.2.2.1 hS hown (hts _ hl) (fun _ z => z) d (kk H locs ls hP hD hS hv)
theorem g_getSI (X : k_X D E cc own nL F Lc) (XS : k_XS E q v) (hl : Cond.fieldLink own idx "jdk/internal/util/Preconditions" "SIOOBE_FORMATTER" "Ljava/util/function/BiFunction;" ∈ G_) (d : decode cc pc = .ok (.getstatic idx, 3)) (hn : pc + 3 = n) (kk : ∀ w : Value, w.category = 1 → k_G D l E ws lv n (w :: st)) : k_G D l E ws lv pc st := by
  obtain ⟨p, e, R, s, m, args, below, meth, c, cells, slots, Q, A, nL'⟩ := E
  obtain ⟨⟨hx, hb, hml, hown, hts⟩, hK, hN, hc, hs, hF, hL, hnl, hA⟩ := X
  subst hn hnl
  intro H locs ls hP hD hS hv
  rcases XS.2.2.2.2.2.2 with h | ⟨t, h⟩
  · exact va_gets hx hb h hS hown (hts _ hl) (fun _ z => z) d (kk .null rfl H locs ls hP hD hS hv)
  · exact va_gets hx hb h hS hown (hts _ hl) (fun _ z => z) d (kk (.ref t) rfl H locs ls hP hD hS hv)
theorem g_sval (X : k_X D E cc own nL F Lc) (XS : k_XS E q v) (hl : Cond.fieldLink own idx "java/lang/String" "value" "[B" ∈ G_) (d : decode cc pc = .ok (.getfield idx, 3)) (hn : pc + 3 = n) (kk : k_G D l E ws lv n (.ref v :: st)) : k_G D l E ws lv pc (.ref q :: st) := by
  obtain ⟨p, e, R, s, m, args, below, meth, c, cells, slots, Q, A, nL'⟩ := E
  obtain ⟨⟨hx, hb, hml, hown, hts⟩, hK, hN, hc, hs, hF, hL, hnl, hA⟩ := X
  subst hn hnl
  intro H locs ls hP hD hS hv
  exact vk_getf hx hb XS.2.2.2.1 hS hown (hts _ hl) (fun _ z => z) d (kk H locs ls hP hD hS hv)
theorem g_scod (X : k_X D E cc own nL F Lc) (XS : k_XS E q v) (hl : Cond.fieldLink own idx "java/lang/String" "coder" "B" ∈ G_) (d : decode cc pc = .ok (.getfield idx, 3)) (hn : pc + 3 = n) (kk : k_G D l E ws lv n (.int 0 :: st)) : k_G D l E ws lv pc (.ref q :: st) := by
  obtain ⟨p, e, R, s, m, args, below, meth, c, cells, slots, Q, A, nL'⟩ := E
  obtain ⟨⟨hx, hb, hml, hown, hts⟩, hK, hN, hc, hs, hF, hL, hnl, hA⟩ := X
  subst hn hnl
  intro H locs ls hP hD hS hv
  exact vk_getf hx hb XS.2.2.1 hS hown (hts _ hl) (fun _ z => z) d (kk H locs ls hP hD hS hv)
theorem g_sblen (X : k_X D E cc own nL F Lc) (XS : k_XS E q v) (d : decode cc pc = .ok (.arraylength, 1)) (hn : pc + 1 = n) (kk : k_G D l E ws lv n (.int 11 :: st)) : k_G D l E ws lv pc (.ref v :: st) := by
  obtain ⟨p, e, R, s, m, args, below, meth, c, cells, slots, Q, A, nL'⟩ := E
  obtain ⟨⟨hx, hb, hml, hown, hts⟩, hK, hN, hc, hs, hF, hL, hnl, hA⟩ := X
  subst hn hnl
  intro H locs ls hP hD hS hv
  exact va_tlen hx hb XS.2.2.2.2.1 hS rfl d (kk H locs ls hP hD hS hv)
theorem g_sbld {i : Int32} (X : k_X D E cc own nL F Lc) (XS : k_XS E q v) (d : decode cc pc = .ok (.baload, 1)) (hi : k_in i 11) (hn : pc + 1 = n) (kk : k_G D l E ws lv n (.int (k_fr.getD i.toNatClampNeg 0) :: st)) : k_G D l E ws lv pc (.int i :: .ref v :: st) := by
  obtain ⟨p, e, R, s, m, args, below, meth, c, cells, slots, Q, A, nL'⟩ := E
  obtain ⟨⟨hx, hb, hml, hown, hts⟩, hK, hN, hc, hs, hF, hL, hnl, hA⟩ := X
  subst hn hnl
  intro H locs ls hP hD hS hv
  exact va_tb hx hb XS.2.2.2.2.1 hS hi rfl d (kk H locs ls hP hD hS hv)
theorem g_i2c {x : Int32} (X : k_X D E cc own nL F Lc) (d : decode cc pc = .ok (.i2c, 1)) (hn : pc + 1 = n) (kk : k_G D l E ws lv n (.int (x.toUInt32 % 65536).toInt32 :: st)) : k_G D l E ws lv pc (.int x :: st) := by
  obtain ⟨p, e, R, s, m, args, below, meth, c, cells, slots, Q, A, nL'⟩ := E
  obtain ⟨⟨hx, hb, hml, hown, hts⟩, hK, hN, hc, hs, hF, hL, hnl, hA⟩ := X
  subst hn hnl
  intro H locs ls hP hD hS hv
  exact lv_i2c hx hb d rfl (kk H locs ls hP hD hS hv)
theorem k_afterC {p : Program} {l : Launch} {e : Env} {R : Room} {s : State} {m : MethodId} {args : Array Value} {below : List Frame} {meth : Method} {c : Code} {H : Heap} {locs : List Loc} {cells slots mc ms : Nat} {Q : State → Prop} {pc : Nat} {ls : Array Slot} {rest stk : List Value} {D : va_G} {A : Nat → Prop} {wr wc : va_W} {w1 : (Nat → Nat) → va_W} {rv : Option Value}
    (hr : va_Run p l e R s m args below meth c H locs cells slots mc ms (F0 m pc ls stk) rest (fun st oc t => (oc = .returned rv ∧ ∃ a : Nat → Nat, va_P D vwCl (w1 a) t.heap ∧ va_D (va_A wc H.size) (w1 a)) ∧ va_F (va_A wc H.size) st t) (va_A wc H.size))
    (hP : va_P D vwCl (wr ++ wc) H) (hD : va_D A (wr ++ wc)) (hS : va_S A s.heap H locs) (hA : ∀ q : Nat, s.heap.size ≤ q → A q)
    (kk : ∀ (a : Nat → Nat) (H : Heap) (locs : List Loc), va_P D vwCl (wr ++ w1 a) H → va_D A (wr ++ w1 a) → va_S A s.heap H locs → W p l e R s m args below meth c H locs (cells + mc) (slots + ms) Q (F0 m (pc + 3) ls (rv.toList ++ rest))) : W p l e R s m args below meth c H locs cells slots Q (F0 m pc ls stk) := by
  intro T hT X
  obtain ⟨v, st₀, t, T', L, h0, X', hL, e1, e2, ⟨⟨hv, a, hP1, hD1⟩, hz, hk⟩, st⟩ := hr T hT X
  cases hv
  rw [h0] at hz hk
  have hC : ((List.range wc.length).map (fun i => wr.length + i)).map (fun i => (wr ++ wc)[i]?) = wc.map some := by
    apply List.ext_getElem? ; intro i
    simp only [List.getElem?_map, List.map_map, Function.comp]
    by_cases hi : i < wc.length
    · simp [hi, List.getElem?_append_right]
    · simp [List.getElem?_eq_none (Nat.le_of_not_lt hi), hi]
  have hR : (List.range wr.length).map (fun i => (wr ++ wc)[i]?) = wr.map some := by
    apply List.ext_getElem? ; intro i
    simp only [List.getElem?_map]
    by_cases hi : i < wr.length
    · simp [hi, List.getElem?_append_left]
    · simp [List.getElem?_eq_none (Nat.le_of_not_lt hi), hi]
  have hnd : va_nd (List.range wr.length) = true := by
    have : ∀ l : List Nat, l.Nodup → va_nd l = true := by
      intro l; induction l with
      | nil => intro _; rfl
      | cons x l ih => intro h; simp only [va_nd, Bool.and_eq_true, decide_eq_true_eq]; exact ⟨(List.nodup_cons.mp h).1, ih (List.nodup_cons.mp h).2⟩
    exact this _ List.nodup_range
  have hF := va_free hD hS hA _ hC
  obtain ⟨hP2, hD2⟩ := va_join (H1 := T'.heap) hP hD _ _ hC hR hnd (by
    intro i hi hj
    obtain ⟨j, hj1, hj2⟩ := List.mem_map.mp hj
    have := List.mem_range.mp hi
    omega) (fun q h1 h2 => by rw [e1]; exact hk q h1 h2) hF (by rw [e1]; exact hP1) hD1
  obtain ⟨t2, a1, b1⟩ := kk a T'.heap (locs ++ L) hP2 hD2
    ⟨Nat.le_trans hS.1 (by rw [e1]; exact hz), fun q h1 h2 => by rw [e1, hk q (Nat.lt_of_lt_of_le h1 hS.1) (fun z => h2 (hF q z))]; exact hS.2.1 q h1 h2, fun q hq => by
      rcases List.mem_append.mp hq with h | h
      · exact hS.2.2 q h
      · exact hF _ (hL q h)⟩ T' rfl X'
  exact ⟨t2, st t2 a1, b1⟩
theorem g_callVS (X : k_X D E cc own nL F Lc) (XS : k_XS E q v) (hM : k_MetC l y cc2 mL ret F2 L2 0 0 D (.ref q :: As) q v [] rv (fun _ => [])) (hy : y.cls = "java/lang/String") (lk : k_lkV y cc2 mL ret np) (hlk : Cond.methodLink own idx y ∈ G_) (d : decode cc pc = .ok (.invokevirtual idx, 3)) (hn : pc + 3 = n) (hst : stk = As.reverse ++ .ref q :: st) (hst2 : rv.toList ++ st = st2) (hnp : As.length = np) (hR : F2 + 1 ≤ F ∧ 8 + (mL + 11) + L2 ≤ Lc) (hW : (st.map fun v => v.category).sum ≤ 8)
    (kk : k_G D l E ws lv n st2) : k_G D l E ws lv pc stk := by
  obtain ⟨p, e, R, s, m, args, below, meth, c, cells, slots, Q, A, nL'⟩ := E
  obtain ⟨S, hK, hN, hc, hs, hF, hL, hnl, hA⟩ := X
  subst hn hnl hst hst2
  intro H locs ls hP hD hS hv
  have hts := S.2.2.2.2
  obtain ⟨⟨hi, hco, hd⟩, hin, hse⟩ := lk
  have cb : CallB R s args own idx y cc2 mL ret (Cond.code y cc2 mL ret :: G_) { frames := F2, cells := 0, slots := 0, locals := L2 } 0 0 np := callB_of np hts (G_good hco) rfl rfl rfl (hts _ hi) (hts _ hlk) hd ⟨Nat.le_trans hR.1 hF, Nat.le_trans hR.2 hL⟩
  have hAB : ∀ z : Nat, va_A [] H.size z → A z := fun z h => by
    rcases h with ⟨k, ee, h⟩ | h
    · simp at h
    · exact hA z (Nat.le_trans hS.1 h)
  have hrec : ∃ cellB : Cell, H[q]? = some cellB ∧ cellB.vm.isStatics = false ∧ s.vm.findClass y.cls = some cellB.cls := by
    obtain ⟨cell, h1, h2, h3, -⟩ := XS.2.1.kept hS.2.1
    exact ⟨cell, h1, h2, by rw [hy]; exact h3⟩
  exact k_afterC (wr := ws) (wc := []) (va_runV (cc := cc) S (hM H.size) ⟨cb, hts _ hin, hts _ hse⟩ ⟨k_blindC, hrec, fun U hU hW => ⟨rfl, by rw [hU], fun k q h => by simp at h, va_K.moved hW.alike hK, ⟨fun i j p q h => by simp at h, fun k q h => by simp at h⟩, hN.warm hW, by rw [hU]; exact XS.go hW hS.2.1 hAB⟩⟩ rfl hnp hv.1 rfl (lv_room hW) d ⟨hc, hs⟩) (by rw [List.append_nil]; exact hP) (by rw [List.append_nil]; exact hD) hS hA (fun a H locs hP hD hS => by rw [List.append_nil] at hP hD; exact kk H locs ls hP hD hS hv)
theorem g_callSS (X : k_X D E cc own nL F Lc) (XS : k_XS E q v) (hM : k_MetC l y cc2 mL ret F2 L2 0 0 D As q v [] rv (fun _ => [])) (lk : k_lkS y cc2 mL ret np) (hlk : Cond.methodLink own idx y ∈ G_) (d : decode cc pc = .ok (.invokestatic idx, 3)) (hn : pc + 3 = n) (hst : stk = As.reverse ++ st) (hst2 : rv.toList ++ st = st2) (hnp : As.length = np) (hR : F2 + 1 ≤ F ∧ 8 + (mL + 11) + L2 ≤ Lc) (hW : (st.map fun v => v.category).sum ≤ 8)
    (kk : k_G D l E ws lv n st2) : k_G D l E ws lv pc stk := by
  obtain ⟨p, e, R, s, m, args, below, meth, c, cells, slots, Q, A, nL'⟩ := E
  obtain ⟨S, hK, hN, hc, hs, hF, hL, hnl, hA⟩ := X
  subst hn hnl hst hst2
  intro H locs ls hP hD hS hv
  have hts := S.2.2.2.2
  obtain ⟨⟨hi, hco, hd⟩, hstt⟩ := lk
  have cb : CallB R s args own idx y cc2 mL ret (Cond.code y cc2 mL ret :: G_) { frames := F2, cells := 0, slots := 0, locals := L2 } 0 0 np := callB_of np hts (G_good hco) rfl rfl rfl (hts _ hi) (hts _ hlk) hd ⟨Nat.le_trans hR.1 hF, Nat.le_trans hR.2 hL⟩
  have hAB : ∀ z : Nat, va_A [] H.size z → A z := fun z h => by
    rcases h with ⟨k, ee, h⟩ | h
    · simp at h
    · exact hA z (Nat.le_trans hS.1 h)
  exact k_afterC (wr := ws) (wc := []) (va_runS (cc := cc) S (hM H.size) ⟨cb, hts _ hstt⟩ ⟨k_blindC, fun U hU hW => ⟨rfl, by rw [hU], fun k q h => by simp at h, va_K.moved hW.alike hK, ⟨fun i j p q h => by simp at h, fun k q h => by simp at h⟩, hN.warm hW, by rw [hU]; exact XS.go hW hS.2.1 hAB⟩⟩ rfl hnp hv.1 rfl (lv_room hW) d ⟨hc, hs⟩) (by rw [List.append_nil]; exact hP) (by rw [List.append_nil]; exact hD) hS hA (fun a H locs hP hD hS => by rw [List.append_nil] at hP hD; exact kk H locs ls hP hD hS hv)
/-! making -/
theorem g_objInit (X : k_X D E cc own nL F Lc) (hl : Cond.methodLink own idx objectInit ∈ G_) (h2 : Cond.instanceMethod objectInit ∈ G_) (h3 : Cond.code objectInit ⟨#[0xb1]⟩ 1 none ∈ G_) (d : decode cc pc = .ok (.invokespecial idx, 3)) (hn : pc + 3 = n) (hR : 1 ≤ F ∧ 20 ≤ Lc) (hW : (st.map fun v => v.category).sum ≤ 8) (kk : k_G D l E ws lv n st) : k_G D l E ws lv pc (.ref b :: st) := by
  obtain ⟨p, e, R, s, m, args, below, meth, c, cells, slots, Q, A, nL'⟩ := E
  obtain ⟨⟨hx, hb, hml, hown, hts⟩, hK, hN, hc, hs, hF, hL, hnl, hA⟩ := X
  subst hn hnl
  intro H locs ls hP hD hS hv
  exact W.objInit hx hb hown (hts _ hl) (hts _ h2) (hts _ h3) (g := F0 m pc ls (.ref b :: st)) rfl (by rw [hml]; exact hv.1) rfl d (Nat.le_trans hR.1 hF) (by show 2 * 0 + _ + 12 ≤ _; omega) (W.eq rfl (kk H locs ls hP hD hS hv))
theorem g_putF {a ci k : Nat} {ty : FieldType} {fs : List Value} {w : Value} (X : k_X D E cc own nL F Lc) (hnm : k_nm E) (d : decode cc pc = .ok (.putfield idx, 3)) (fl : k_fl own idx ci k true ty) (hcl : (vwCl[ci]?).map (·.1) = some own) (q0 : Nat) (he : ws[q0]? = some (a, .inr (ci, fs))) (hna : narrow ty w = w) (hfi : fits ty w = true) (hle : k < fs.length) (hw : ws.set q0 (a, .inr (ci, fs.set k w)) = ws2) (hn : pc + 3 = n) (kk : k_G D l E ws2 lv n st) : k_G D l E ws lv pc (w :: .ref a :: st) := by
  obtain ⟨p, e, R, s, m, args, below, meth, c, cells, slots, Q, A, nL'⟩ := E
  obtain ⟨⟨hx, hb, hml, hown, hts⟩, hK, hN, hc, hs, hF, hL, hnl, hA⟩ := X
  subst hn hnl
  intro H locs ls hP hD hS hv
  obtain ⟨C, T, N, ⟨h1, h2, ⟨ty0, h3⟩, h4, h5, h6, h7⟩, h8, h9⟩ := fl
  have hdec : (T k).1 = own := by rw [h1] at hcl; exact h9.trans (Option.some.inj hcl)
  exact va_putF hx hb hts h2 ty0 h3 h4 hown hK hP hD hS q0 he h1 k h5 (hts _ h8) (fun _ z => z) h7 hnm hdec h6 hna hfi hle d (fun H locs hP hD hS => kk H locs ls (hw ▸ hP) (hw ▸ hD) hS hv)
theorem g_newa {atype : ArrayType} {ty : FieldType} {t0 c1 n1 c2 n2 N' : Nat} {z : Int32} {a0 : vp_A} {cA : ClassId} (X : k_X D (k_cs E c1 n1) cc own nL F Lc) (X2 : k_X D (k_cs E c2 n2) cc own nL F Lc) (harr : Cond.arrayClass (newarray.typeOf atype) ∈ G_) (hty : newarray.typeOf atype = ty) (hob : ∀ nm, ty ≠ .object nm) (ht : (k_tys D)[t0]? = some (cA, ty)) (d : decode cc pc = .ok (.newarray atype, 2)) (ha : ∀ cA : ClassId, vp_cell cA a0 = arrV cA N' (fun _ => defaultValue ty)) (hz : ¬ z < 0) (hN : z.toNatClampNeg = N') (hby : N' * componentBytes ty ≤ 536870912) (hn : pc + 2 = n)
    (hE : c2 = c1 + 1 ∧ n2 = n1 + N') (kk : ∀ q : Nat, k_G D l (k_cs E c2 n2) (ws ++ [(q, .inl (cA, a0))]) lv n (.ref q :: st)) : k_G D l (k_cs E c1 n1) ws lv pc (.int z :: st) := by
  obtain ⟨rfl, rfl⟩ := hE
  obtain ⟨p, e, R, s, m, args, below, meth, c, cells, slots, Q, A, nL'⟩ := E
  obtain ⟨⟨hx, hb, hml, hown, hts⟩, hK, hN2, hc, hs, hF, hL, hnl, hA⟩ := X
  obtain ⟨-, -, -, hc2, hs2, -⟩ := X2
  subst hn hnl
  intro H locs ls hP hD hS hv
  refine va_newa hx hb (hts _ harr) hty hK hP hD hS hA ha hz hN hby hc2 hs2 d (fun q cB H1 hK1 hP1 hD1 hS1 => ?_)
  have e1 : va_RA s cB ty := (hK1.2 3 (cB, ty) (by simp [k_tys])).2
  have e2 : va_RA s cA ty := (hK.2 t0 (cA, ty) ht).2
  have : cB = cA := by
    cases ty with
    | object nm => exact absurd rfl (hob nm)
    | _ => exact Option.some.inj (e1.symm.trans e2)
  subst this
  exact kk q H1 locs ls hP1 hD1 hS1 hv
theorem g_new {C : String} {T : u_T} {N ci c1 n1 c2 n2 : Nat} {fs : List Value} {ty : Nat → FieldType} (X : k_X D (k_cs E c1 n1) cc own nL F Lc) (X2 : k_X D (k_cs E c2 n2) cc own nL F Lc) (hin : ∀ w ∈ u_ws C T N, w ∈ G_) (hty : ∀ k, k < N → parseFieldDescriptor (T k).2.2.1 = some (ty k)) (h1 : Cond.classLink own idx C ∈ G_) (h2 : Cond.instantiable C N ∈ G_) (h3 : Cond.initialized C ∈ G_) (hc0 : vwCl[ci]? = some (C, T, N)) (hfs : ∀ j, j < N → defaultValue (ty j) = vp_V fs j) (d : decode cc pc = .ok (.new idx, 3)) (hn : pc + 3 = n)
    (hE : c2 = c1 + 1 ∧ n2 = n1 + N) (kk : ∀ q : Nat, k_G D l (k_cs E c2 n2) (ws ++ [(q, .inr (ci, fs))]) lv n (.ref q :: st)) : k_G D l (k_cs E c1 n1) ws lv pc st := by
  obtain ⟨rfl, rfl⟩ := hE
  obtain ⟨p, e, R, s, m, args, below, meth, c, cells, slots, Q, A, nL'⟩ := E
  obtain ⟨⟨hx, hb, hml, hown, hts⟩, hK, hN2, hc, hs, hF, hL, hnl, hA⟩ := X
  obtain ⟨-, -, -, hc2, hs2, -⟩ := X2
  subst hn hnl
  intro H locs ls hP hD hS hv
  exact va_new hx hb hts hin ty hty hown (hts _ h1) (hts _ h2) (hts _ h3) hK hP hD hS hA hc0 hfs hc2 hs2 d (fun q H1 hP1 hD1 hS1 => kk q H1 locs ls hP1 hD1 hS1 hv)
theorem g_ctor {mc ms c1 n1 c2 n2 : Nat} {wr : va_W} {ee : va_E} {w1 : (Nat → Nat) → va_W} (X : k_X D (k_cs E c1 n1) cc own nL F Lc) (X2 : k_X D (k_cs E c2 n2) cc own nL F Lc) (XS : k_XS E q v) (hM : k_MetC l y cc2 mL none F2 L2 mc ms D (.ref b :: As) q v [(b, ee)] none w1) (hy1 : y.name = "<init>") (lk : k_lk0 y cc2 mL none np) (hin : Cond.instanceMethod y ∈ G_) (hlk : Cond.methodLink own idx y ∈ G_) (d : decode cc pc = .ok (.invokespecial idx, 3)) (hn : pc + 3 = n) (hst : stk = As.reverse ++ .ref b :: st) (hnp : As.length = np) (hws : ws = wr ++ [(b, ee)]) (hR : F2 + 1 ≤ F ∧ 8 + (mL + 11) + L2 ≤ Lc) (hW : (st.map fun v => v.category).sum ≤ 8)
    (hE : c2 = c1 + mc ∧ n2 = n1 + ms) (kk : ∀ a : Nat → Nat, k_G D l (k_cs E c2 n2) (wr ++ w1 a) lv n st) : k_G D l (k_cs E c1 n1) ws lv pc stk := by
  obtain ⟨rfl, rfl⟩ := hE
  obtain ⟨p, e, R, s, m, args, below, meth, c, cells, slots, Q, A, nL'⟩ := E
  obtain ⟨S, hK, hN, hc, hs, hF, hL, hnl, hA⟩ := X
  obtain ⟨-, -, -, hc2, hs2, -⟩ := X2
  subst hn hnl hst hws
  intro H locs ls hP hD hS hv
  have hts := S.2.2.2.2
  obtain ⟨hi, hco, hd⟩ := lk
  have cb : CallB R s args own idx y cc2 mL none (Cond.code y cc2 mL none :: G_) { frames := F2, cells := mc, slots := ms, locals := L2 } mc ms np := callB_of np hts (G_good hco) rfl rfl rfl (hts _ hi) (hts _ hlk) hd ⟨Nat.le_trans hR.1 hF, Nat.le_trans hR.2 hL⟩
  have hPc : va_P D vwCl [(b, ee)] H := by
    intro k q hk
    match k, hk with
    | 0, hk => cases hk; exact hP wr.length (b, ee) (by simp)
    | k + 1, hk => simp at hk
  have hDc : va_D (fun _ => True) [(b, ee)] := ⟨fun i j p q hi hj _ => by
    match i, j, hi, hj with
    | 0, 0, _, _ => rfl
    | i + 1, _, hi, _ => simp at hi
    | _, j + 1, _, hj => simp at hj, fun _ _ _ => trivial⟩
  have hAB : ∀ z : Nat, va_A [(b, ee)] H.size z → A z := fun z h => by
    rcases h with ⟨k, e2, h⟩ | h
    · match k, h with
      | 0, h => cases h; exact hD.2 wr.length (b, ee) (by simp)
      | k + 1, h => simp at h
    · exact hA z (Nat.le_trans hS.1 h)
  exact k_afterC (va_runI (cc := cc) S (hM H.size) ⟨cb, hy1, hts _ hin⟩ ⟨k_blindC, fun U hU hW => ⟨rfl, by rw [hU], by rw [hU]; exact hPc, va_K.moved hW.alike hK, hDc, hN.warm hW, by rw [hU]; exact XS.go hW hS.2.1 hAB⟩⟩ rfl hnp hv.1 rfl (lv_room hW) d ⟨hc2, hs2⟩) hP hD hS hA (fun a H locs hP hD hS => kk a H locs ls hP hD hS hv)
end KSTR
theorem k_ofC {l : Launch} {y : MethodName} {cc : ByteArray} {mL F Lc mc ms q v : Nat} {D : va_G} {As : List Value} {wc : va_W} {w1 : (Nat → Nat) → va_W} (hy : plainName y.cls = true) (hy1 : y.name = "<init>") (hAs : (lg_sl As).length ≤ mL) (body : ∀ E : k_E, k_XC D E cc y.cls mL F Lc mc ms → k_XS E q v → k_nm E → (∀ (a : Nat → Nat) (pc : Nat) (lv : List (Nat × Value)), decode cc pc = .ok (.return_, 1) → k_G D l (k_cs E mc ms) (w1 a) lv pc []) → k_G D l (k_cs E 0 0) wc (lv_args 0 As) 0 []) : k_MetC l y cc mL none F Lc mc ms D As q v wc none w1 := by
  intro sz
  refine Met.ofW (cc := cc) (maxL := mL) (ret := none) hy rfl ?_
  intro p e s m args below meth c s₁ B hml hv
  obtain ⟨rfl, hsz, hP, hK, hD0, hN, hSt⟩ := hv
  have hx := B.exec
  have hb := B.bytes
  have hr := B.returns
  have hlocks := B.notSynchronized
  have hts0 := atoms_spec (ws := .code y cc mL none :: G_) B.pre
  have hts : ∀ w ∈ G_, w.before As.toArray s = true := fun w hw => hts0 w (List.mem_cons_of_mem _ hw)
  have hown : s.vm.findClass y.cls = some m.cls := findClass_of_methodNamed B.named
  have hnm : meth.name = "<init>" := (name_of_methodNamed B.named B.method).1.trans hy1
  subst hsz
  have hD : va_D (va_A wc s.heap.size) wc := hD0.self (sz := s.heap.size)
  have hl := lv_entry As (n := mL) hAs
  rw [lg_entry_eq]
  refine body (p, e, { frames := F, cells := mc, slots := ms, locals := Lc }, s, m, As.toArray, below, meth, c, 0, 0, _, va_A wc s.heap.size, mL) (fun k n hk hn => ⟨⟨hx, hb, hml, hown, hts⟩, hK, hN, hk, hn, Nat.le_refl _, Nat.le_refl _, rfl, fun q h => Or.inr h⟩) hSt hnm ?_ s.heap [] _ hP hD va_S.rf hl
  intro a pc lv d H locs ls hP hD hS hv
  exact W.vret hx hb hr (fun t ht hW => ⟨⟨rfl, a, by rw [ht]; exact hP, hD⟩, hS.F ht⟩) hS.2.2 d
/-- of a method that makes nothing, with text constants at hand -/
theorem k_ofS {l : Launch} {y : MethodName} {cc : ByteArray} {mL F Lc q v : Nat} {D : va_G} {As : List Value} {r : Int32} {ty : FieldType} (hy : plainName y.cls = true) (hAs : (lg_sl As).length ≤ mL) (hn : narrow ty (.int r) = .int r) (body : ∀ E : k_E, k_X D E cc y.cls mL F Lc → k_XS E q v → (∀ (pc : Nat) (lv : List (Nat × Value)), decode cc pc = .ok (.ireturn, 1) → k_G D l E [] lv pc [.int r]) → k_G D l E [] (lv_args 0 As) 0 []) : k_MetC l y cc mL (some ty) F Lc 0 0 D As q v [] (some (.int r)) (fun _ => []) := by
  intro sz
  refine Met.ofW (cc := cc) (maxL := mL) (ret := some ty) hy rfl ?_
  intro p e s m args below meth c s₁ B hml hv
  obtain ⟨rfl, hsz, hP, hK, hD0, hN, hSt⟩ := hv
  have hx := B.exec
  have hb := B.bytes
  have hr := B.returns
  have hlocks := B.notSynchronized
  have hts0 := atoms_spec (ws := .code y cc mL (some ty) :: G_) B.pre
  have hts : ∀ w ∈ G_, w.before As.toArray s = true := fun w hw => hts0 w (List.mem_cons_of_mem _ hw)
  have hown : s.vm.findClass y.cls = some m.cls := findClass_of_methodNamed B.named
  subst hsz
  have hD : va_D (va_A [] s.heap.size) [] := hD0.self (sz := s.heap.size)
  have hl := lv_entry As (n := mL) hAs
  rw [lg_entry_eq]
  refine body (p, e, { frames := F, cells := 0, slots := 0, locals := Lc }, s, m, As.toArray, below, meth, c, 0, 0, _, va_A [] s.heap.size, mL) ⟨⟨hx, hb, hml, hown, hts⟩, hK, hN, Nat.le_refl _, Nat.le_refl _, Nat.le_refl _, Nat.le_refl _, rfl, fun q h => Or.inr h⟩ hSt ?_ s.heap [] _ hP hD va_S.rf hl
  intro pc lv d H locs ls hP hD hS hv
  exact W.zret hx hb hr hn (fun t ht hW => ⟨⟨rfl, fun _ => 0, by rw [ht]; exact hP, hD⟩, hS.F ht⟩) hS.2.2 d
theorem k_ofSv {l : Launch} {y : MethodName} {cc : ByteArray} {mL F Lc q v : Nat} {D : va_G} {As : List Value} (hy : plainName y.cls = true) (hAs : (lg_sl As).length ≤ mL) (body : ∀ E : k_E, k_X D E cc y.cls mL F Lc → k_XS E q v → (∀ (pc : Nat) (lv : List (Nat × Value)), decode cc pc = .ok (.return_, 1) → k_G D l E [] lv pc []) → k_G D l E [] (lv_args 0 As) 0 []) : k_MetC l y cc mL none F Lc 0 0 D As q v [] none (fun _ => []) := by
  intro sz
  refine Met.ofW (cc := cc) (maxL := mL) (ret := none) hy rfl ?_
  intro p e s m args below meth c s₁ B hml hv
  obtain ⟨rfl, hsz, hP, hK, hD0, hN, hSt⟩ := hv
  have hx := B.exec
  have hb := B.bytes
  have hr := B.returns
  have hlocks := B.notSynchronized
  have hts0 := atoms_spec (ws := .code y cc mL none :: G_) B.pre
  have hts : ∀ w ∈ G_, w.before As.toArray s = true := fun w hw => hts0 w (List.mem_cons_of_mem _ hw)
  have hown : s.vm.findClass y.cls = some m.cls := findClass_of_methodNamed B.named
  subst hsz
  have hD : va_D (va_A [] s.heap.size) [] := hD0.self (sz := s.heap.size)
  have hl := lv_entry As (n := mL) hAs
  rw [lg_entry_eq]
  refine body (p, e, { frames := F, cells := 0, slots := 0, locals := Lc }, s, m, As.toArray, below, meth, c, 0, 0, _, va_A [] s.heap.size, mL) ⟨⟨hx, hb, hml, hown, hts⟩, hK, hN, Nat.le_refl _, Nat.le_refl _, Nat.le_refl _, Nat.le_refl _, rfl, fun q h => Or.inr h⟩ hSt ?_ s.heap [] _ hP hD va_S.rf hl
  intro pc lv d H locs ls hP hD hS hv
  exact W.vret hx hb hr (fun t ht hW => ⟨⟨rfl, fun _ => 0, by rw [ht]; exact hP, hD⟩, hS.F ht⟩) hS.2.2 d
