/-! the law: its script, its loop -/
def k_XL (E : k_E) (b L : Nat) (xs : Nat → Int32) : Prop := match E with
  | (_, _, _, s, _, _, _, _, _, _, _, _, A, _) => va_X b L xs s s.heap ∧ b < s.heap.size ∧ ¬ A b
theorem g_slen {D : va_G} {l : Launch} {E : k_E} {cc : ByteArray} {own : String} {nL F Lc b L : Nat} {xs : Nat → Int32} {ws : va_W} {lv : List (Nat × Value)} {pc n : Nat} {st : List Value} (X : k_X D E cc own nL F Lc) (XL : k_XL E b L xs) (d : decode cc pc = .ok (.arraylength, 1)) (hn : pc + 1 = n) (kk : k_G D l E ws lv n (.int (nI L) :: st)) : k_G D l E ws lv pc (.ref b :: st) := by
  obtain ⟨p, e, R, s, m, args, below, meth, c, cells, slots, Q, A, nL'⟩ := E
  obtain ⟨⟨hx, hb, hml, hown, hts⟩, hK, hN, hc, hs, hF, hL, hnl, hA⟩ := X
  subst hn hnl
  intro H locs ls hP hD hS hv
  exact va_slen hx hb XL.1 XL.2.1 XL.2.2 hS d (kk H locs ls hP hD hS hv)
theorem g_sld {D : va_G} {l : Launch} {E : k_E} {cc : ByteArray} {own : String} {nL F Lc b L : Nat} {xs : Nat → Int32} {ws : va_W} {lv : List (Nat × Value)} {pc n : Nat} {st : List Value} {i : Int32} (X : k_X D E cc own nL F Lc) (XL : k_XL E b L xs) (d : decode cc pc = .ok (.iaload, 1)) (hi : k_in i L) (hn : pc + 1 = n) (kk : k_G D l E ws lv n (.int (xs i.toNatClampNeg) :: st)) : k_G D l E ws lv pc (.int i :: .ref b :: st) := by
  obtain ⟨p, e, R, s, m, args, below, meth, c, cells, slots, Q, A, nL'⟩ := E
  obtain ⟨⟨hx, hb, hml, hown, hts⟩, hK, hN, hc, hs, hF, hL, hnl, hA⟩ := X
  subst hn hnl
  intro H locs ls hP hD hS hv
  exact va_sld hx hb XL.1 XL.2.1 XL.2.2 hS hi d (kk H locs ls hP hD hS hv)
theorem k_swapP {D : va_G} {x y : va_W} {H : Heap} (h : va_P D vwCl (x ++ y) H) : va_P D vwCl (y ++ x) H := by
  intro k q hk
  have hm := List.mem_of_getElem? hk
  have hm2 : q ∈ x ++ y := by
    rcases List.mem_append.mp hm with z | z
    · exact List.mem_append.mpr (Or.inr z)
    · exact List.mem_append.mpr (Or.inl z)
  obtain ⟨i, hi⟩ := List.getElem?_of_mem hm2
  exact h i q hi
theorem k_swapD {A : Nat → Prop} {x y : va_W} (h : va_D A (x ++ y)) : va_D A (y ++ x) := by
  have hx : ∀ (k : Nat) (q : Nat × va_E), x[k]? = some q → (x ++ y)[k]? = some q := fun k q hk => by
    rw [List.getElem?_append_left (List.getElem?_eq_some_iff.mp hk).1]; exact hk
  have hy : ∀ (k : Nat) (q : Nat × va_E), y[k]? = some q → (x ++ y)[x.length + k]? = some q := fun k q hk => by
    rw [List.getElem?_append_right (by omega), Nat.add_sub_cancel_left]; exact hk
  refine va_D.app ⟨fun i j p q hi hj e => ?_, fun k q hk => h.2 _ q (hy k q hk)⟩ ⟨fun i j p q hi hj e => ?_, fun k q hk => h.2 _ q (hx k q hk)⟩ (fun i j p q hi hj e => ?_)
  · have := h.1 _ _ p q (hy i p hi) (hy j q hj) e; omega
  · exact h.1 _ _ p q (hx i p hi) (hx j q hj) e
  · have h1 := h.1 _ _ p q (hy i p hi) (hx j q hj) e
    have h2 := (List.getElem?_eq_some_iff.mp hj).1
    omega
section KLAW
variable {D : va_G} {l : Launch} {E : k_E} {cc cc2 : ByteArray} {own : String} {nL F Lc F2 L2 mL idx np : Nat} {wr wc w1 : va_W} {lv : List (Nat × Value)} {pc n b : Nat} {st st2 stk As : List Value} {rv : Option Value} {y : MethodName} {ret : Option FieldType}
theorem g_callVR {ci : Nat} {fs : List Value} {q : vw_C} (X : k_X D E cc own nL F Lc) (hM : k_Met l y cc2 mL ret F2 L2 D (.ref b :: As) wc rv w1) (lk : k_lkV y cc2 mL ret np) (hlk : Cond.methodLink own idx y ∈ G_) (d : decode cc pc = .ok (.invokevirtual idx, 3)) (hn : pc + 3 = n) (hst : stk = As.reverse ++ .ref b :: st) (hst2 : rv.toList ++ st = st2) (hrc : wc[0]? = some (b, .inr (ci, fs))) (hcl : vwCl[ci]? = some q) (hq : q.1 = y.cls) (ha : w1.map (·.1) = wc.map (·.1)) (hnp : As.length = np) (hR : F2 + 1 ≤ F ∧ 8 + (mL + 11) + L2 ≤ Lc) (hW : (st.map fun v => v.category).sum ≤ 8)
    (kk : k_G D l E (wr ++ w1) lv n st2) : k_G D l E (wr ++ wc) lv pc stk := by
  obtain ⟨p, e, R, s, m, args, below, meth, c, cells, slots, Q, A, nL'⟩ := E
  obtain ⟨S, hK, hN, hc, hs, hF, hL, hnl, hA⟩ := X
  subst hn hnl hst hst2
  intro H locs ls hP hD hS hv
  have hts := S.2.2.2.2
  obtain ⟨⟨hi, hco, hd⟩, hin, hse⟩ := lk
  have cb : CallB R s args own idx y cc2 mL ret (Cond.code y cc2 mL ret :: G_) { frames := F2, cells := 0, slots := 0, locals := L2 } 0 0 np := callB_of np hts (G_good hco) rfl rfl rfl (hts _ hi) (hts _ hlk) hd ⟨Nat.le_trans hR.1 hF, Nat.le_trans hR.2 hL⟩
  have hPc : va_P D vwCl wc H := fun k q hk => (k_swapP hP) k q (by rw [List.getElem?_append_left (List.getElem?_eq_some_iff.mp hk).1]; exact hk)
  have hDs := k_swapD hD
  have hDc : va_D (fun _ => True) wc := ⟨fun i j p q hi hj e => hDs.1 i j p q (by rw [List.getElem?_append_left (List.getElem?_eq_some_iff.mp hi).1]; exact hi) (by rw [List.getElem?_append_left (List.getElem?_eq_some_iff.mp hj).1]; exact hj) e, fun _ _ _ => trivial⟩
  have hr := va_runV (H := H) (l := l) (e := e) (meth := meth) (below := below) (locs := locs) (cells := cells) (slots := slots) (cc := cc) S (hM H.size) ⟨cb, hts _ hin, hts _ hse⟩ ⟨k_blind (l := l), (by have := va_recv (q0 := 0) hK hPc hcl hrc; rw [hq] at this; exact this), fun U hU hW => ⟨rfl, by rw [hU], by rw [hU]; exact hPc, va_K.moved hW.alike hK, hDc, hN.warm hW⟩⟩ (g := F0 m pc ls (As.reverse ++ .ref b :: st)) rfl hnp hv.1 rfl (lv_room hW) d ⟨hc, hs⟩
  refine k_afterC (mc := 0) (ms := 0) (wr := wr) (wc := wc) (w1 := fun _ => w1) (rv := rv) (fun T hT X => ?_) hP hD hS hA (fun _ H locs hP hD hS => kk H locs ls hP hD hS hv)
  obtain ⟨v, st₀, t, T', L, h0, X', hL, e1, e2, ⟨⟨hv, hP1⟩, hF2⟩, stp⟩ := hr T hT X
  exact ⟨v, st₀, t, T', L, h0, X', hL, e1, e2, ⟨⟨hv, fun _ => 0, hP1, k_D_same ha hDc.self⟩, hF2⟩, stp⟩
theorem g_swap {x y : va_W} (kk : k_G D l E (x ++ y) lv pc st) : k_G D l E (y ++ x) lv pc st := by
  obtain ⟨p, e, R, s, m, args, below, meth, c, cells, slots, Q, A, nL'⟩ := E
  exact fun H locs ls hP hD hS hv => kk H locs ls (k_swapP hP) (k_swapD hD) hS hv
theorem g_callVL {ci : Nat} {fs : List Value} {q : vw_C} (X : k_X D E cc own nL F Lc) (hM : k_Met l y cc2 mL ret F2 L2 D (.ref b :: As) wc rv w1) (lk : k_lkV y cc2 mL ret np) (hlk : Cond.methodLink own idx y ∈ G_) (d : decode cc pc = .ok (.invokevirtual idx, 3)) (hn : pc + 3 = n) (hst : stk = As.reverse ++ .ref b :: st) (hst2 : rv.toList ++ st = st2) (hrc : wc[0]? = some (b, .inr (ci, fs))) (hcl : vwCl[ci]? = some q) (hq : q.1 = y.cls) (ha : w1.map (·.1) = wc.map (·.1)) (hnp : As.length = np) (hR : F2 + 1 ≤ F ∧ 8 + (mL + 11) + L2 ≤ Lc) (hW : (st.map fun v => v.category).sum ≤ 8)
    (kk : k_G D l E (w1 ++ wr) lv n st2) : k_G D l E (wc ++ wr) lv pc stk :=
  g_swap (g_callVR X hM lk hlk d hn hst hst2 hrc hcl hq ha hnp hR hW (g_swap kk))
end KLAW
def fL_law_b1002 (N : Nat) (L : Nat) (xs : Nat → Int32) (mc : Nat → Int64) (k18 : Int32 → VX5 → VX3 → VX3 → VX3 → VX4 → VX4 → VX1 → VX2 → VX0 → VX0 → (Nat → Int32) → VMp → VMg → VMl → VMq → VMh → VMs → (Nat → Int32) → VMi → Option (Bool)) (v3 : Int32) (pad : VX5) (now : VX3) (fi : VX3) (se : VX3) (li : VX4) (so : VX4) (lo : VX1) (re : VX2) (ru : VX0) (ot : VX0) (le : Nat → Int32) (mp : VMp) (mg : VMg) (ml : VMl) (mq : VMq) (mh : VMh) (ms : VMs) (mr : Nat → Int32) (mi : VMi) : Option (Bool) :=
  k18 (v3 + 6) pad now fi se li so lo re ru ot le mp mg ml mq mh ms mr mi
def fL_law_b160 (N : Nat) (L : Nat) (xs : Nat → Int32) (mc : Nat → Int64) (k18 : Int32 → VX5 → VX3 → VX3 → VX3 → VX4 → VX4 → VX1 → VX2 → VX0 → VX0 → (Nat → Int32) → VMp → VMg → VMl → VMq → VMh → VMs → (Nat → Int32) → VMi → Option (Bool)) (v3 : Int32) (pad : VX5) (now : VX3) (fi : VX3) (se : VX3) (li : VX4) (so : VX4) (lo : VX1) (re : VX2) (ru : VX0) (ot : VX0) (le : Nat → Int32) (mp : VMp) (mg : VMg) (ml : VMl) (mq : VMq) (mh : VMh) (ms : VMs) (mr : Nat → Int32) (mi : VMi) : Option (Bool) :=
  if k_in (v3 + 1) L then
  k_b2 (fX6_say (xs (v3 + 1).toNatClampNeg) pad) fun x_2 pad_3 =>
  if k_in (v3 + 1) L then
  k_b2 (fX7_say (xs (v3 + 1).toNatClampNeg) mp) fun x_6 mp_7 =>
  if x_2 = x_6 then
    fL_law_b1002 N L xs mc k18 v3 pad_3 now fi se li so lo re ru ot le mp_7 mg ml mq mh ms mr mi
  else
    some false else none else none
def fL_law_b183 (N : Nat) (L : Nat) (xs : Nat → Int32) (mc : Nat → Int64) (k18 : Int32 → VX5 → VX3 → VX3 → VX3 → VX4 → VX4 → VX1 → VX2 → VX0 → VX0 → (Nat → Int32) → VMp → VMg → VMl → VMq → VMh → VMs → (Nat → Int32) → VMi → Option (Bool)) (v3 : Int32) (pad : VX5) (now : VX3) (fi : VX3) (se : VX3) (li : VX4) (so : VX4) (lo : VX1) (re : VX2) (ru : VX0) (ot : VX0) (le : Nat → Int32) (mp : VMp) (mg : VMg) (ml : VMl) (mq : VMq) (mh : VMh) (ms : VMs) (mr : Nat → Int32) (mi : VMi) : Option (Bool) :=
  k_b2 (fX6_wipe pad) fun x_1 pad_2 =>
  k_b2 (fX7_wipe mp) fun x_4 mp_5 =>
  if x_1 = x_4 then
    fL_law_b1002 N L xs mc k18 v3 pad_2 now fi se li so lo re ru ot le mp_5 mg ml mq mh ms mr mi
  else
    some false
def fL_law_b196 (N : Nat) (L : Nat) (xs : Nat → Int32) (mc : Nat → Int64) (k18 : Int32 → VX5 → VX3 → VX3 → VX3 → VX4 → VX4 → VX1 → VX2 → VX0 → VX0 → (Nat → Int32) → VMp → VMg → VMl → VMq → VMh → VMs → (Nat → Int32) → VMi → Option (Bool)) (v3 : Int32) (pad : VX5) (now : VX3) (fi : VX3) (se : VX3) (li : VX4) (so : VX4) (lo : VX1) (re : VX2) (ru : VX0) (ot : VX0) (le : Nat → Int32) (mp : VMp) (mg : VMg) (ml : VMl) (mq : VMq) (mh : VMh) (ms : VMs) (mr : Nat → Int32) (mi : VMi) : Option (Bool) :=
  if k_in (v3 + 1) L then
  k_b1 (fX6_fault N pad (xs (v3 + 1).toNatClampNeg)) fun x_2 =>
  if k_in (v3 + 1) L then
  k_b1 (fX7_fault N mp (xs (v3 + 1).toNatClampNeg)) fun x_5 =>
  if x_2 = x_5 then
    fL_law_b1002 N L xs mc k18 v3 pad now fi se li so lo re ru ot le mp mg ml mq mh ms mr mi
  else
    some false else none else none
def fL_law_b219 (N : Nat) (L : Nat) (xs : Nat → Int32) (mc : Nat → Int64) (k18 : Int32 → VX5 → VX3 → VX3 → VX3 → VX4 → VX4 → VX1 → VX2 → VX0 → VX0 → (Nat → Int32) → VMp → VMg → VMl → VMq → VMh → VMs → (Nat → Int32) → VMi → Option (Bool)) (v3 : Int32) (pad : VX5) (now : VX3) (fi : VX3) (se : VX3) (li : VX4) (so : VX4) (lo : VX1) (re : VX2) (ru : VX0) (ot : VX0) (le : Nat → Int32) (mp : VMp) (mg : VMg) (ml : VMl) (mq : VMq) (mh : VMh) (ms : VMs) (mr : Nat → Int32) (mi : VMi) : Option (Bool) :=
  if k_in (v3 + 1) L then
  k_b3 (fX6_names N (xs (v3 + 1).toNatClampNeg) pad now) fun x_2 pad_3 now_4 =>
  if k_in (v3 + 1) L then
  k_b3 (fX7_names N (xs (v3 + 1).toNatClampNeg) mp mg) fun x_7 mp_8 mg_9 =>
  if x_2 = x_7 then
    fL_law_b1002 N L xs mc k18 v3 pad_3 now_4 fi se li so lo re ru ot le mp_8 mg_9 ml mq mh ms mr mi
  else
    some false else none else none
def fL_law_b242 (N : Nat) (L : Nat) (xs : Nat → Int32) (mc : Nat → Int64) (k18 : Int32 → VX5 → VX3 → VX3 → VX3 → VX4 → VX4 → VX1 → VX2 → VX0 → VX0 → (Nat → Int32) → VMp → VMg → VMl → VMq → VMh → VMs → (Nat → Int32) → VMi → Option (Bool)) (v3 : Int32) (pad : VX5) (now : VX3) (fi : VX3) (se : VX3) (li : VX4) (so : VX4) (lo : VX1) (re : VX2) (ru : VX0) (ot : VX0) (le : Nat → Int32) (mp : VMp) (mg : VMg) (ml : VMl) (mq : VMq) (mh : VMh) (ms : VMs) (mr : Nat → Int32) (mi : VMi) : Option (Bool) :=
  if k_in (v3 + 1) L then
  if k_in (v3 + 2) L then
  if k_in (v3 + 3) L then
  k_b2 (fX6_set (xs (v3 + 1).toNatClampNeg) (xs (v3 + 2).toNatClampNeg) (xs (v3 + 3).toNatClampNeg) now) fun x_4 now_5 =>
  if k_in (v3 + 1) L then
  if k_in (v3 + 2) L then
  if k_in (v3 + 3) L then
  k_b2 (fX7_set (xs (v3 + 1).toNatClampNeg) (xs (v3 + 2).toNatClampNeg) (xs (v3 + 3).toNatClampNeg) mg) fun x_10 mg_11 =>
  if x_4 = x_10 then
    fL_law_b1002 N L xs mc k18 v3 pad now_5 fi se li so lo re ru ot le mp mg_11 ml mq mh ms mr mi
  else
    some false else none else none else none else none else none else none
def fL_law_b285 (N : Nat) (L : Nat) (xs : Nat → Int32) (mc : Nat → Int64) (k18 : Int32 → VX5 → VX3 → VX3 → VX3 → VX4 → VX4 → VX1 → VX2 → VX0 → VX0 → (Nat → Int32) → VMp → VMg → VMl → VMq → VMh → VMs → (Nat → Int32) → VMi → Option (Bool)) (v3 : Int32) (pad : VX5) (now : VX3) (fi : VX3) (se : VX3) (li : VX4) (so : VX4) (lo : VX1) (re : VX2) (ru : VX0) (ot : VX0) (le : Nat → Int32) (mp : VMp) (mg : VMg) (ml : VMl) (mq : VMq) (mh : VMh) (ms : VMs) (mr : Nat → Int32) (mi : VMi) : Option (Bool) :=
  if k_in (v3 + 1) L then
  if k_in (v3 + 2) L then
  k_b1 (fX6_sheet now (xs (v3 + 1).toNatClampNeg) (xs (v3 + 2).toNatClampNeg)) fun x_3 =>
  if k_in (v3 + 1) L then
  if k_in (v3 + 2) L then
  k_b1 (fX7_sheet mg (xs (v3 + 1).toNatClampNeg) (xs (v3 + 2).toNatClampNeg)) fun x_7 =>
  if x_3 = x_7 then
    fL_law_b1002 N L xs mc k18 v3 pad now fi se li so lo re ru ot le mp mg ml mq mh ms mr mi
  else
    some false else none else none else none else none
def fL_law_b318 (N : Nat) (L : Nat) (xs : Nat → Int32) (mc : Nat → Int64) (k18 : Int32 → VX5 → VX3 → VX3 → VX3 → VX4 → VX4 → VX1 → VX2 → VX0 → VX0 → (Nat → Int32) → VMp → VMg → VMl → VMq → VMh → VMs → (Nat → Int32) → VMi → Option (Bool)) (v3 : Int32) (pad : VX5) (now : VX3) (fi : VX3) (se : VX3) (li : VX4) (so : VX4) (lo : VX1) (re : VX2) (ru : VX0) (ot : VX0) (le : Nat → Int32) (mp : VMp) (mg : VMg) (ml : VMl) (mq : VMq) (mh : VMh) (ms : VMs) (mr : Nat → Int32) (mi : VMi) : Option (Bool) :=
  if k_in (v3 + 1) L then
  k_b2 (fX6_count N now (xs (v3 + 1).toNatClampNeg) li) fun x_2 li_3 =>
  if k_in (v3 + 1) L then
  k_b2 (fX7_count N mg (xs (v3 + 1).toNatClampNeg) ml) fun x_6 ml_7 =>
  if x_2 = x_6 then
    fL_law_b1002 N L xs mc k18 v3 pad now fi se li_3 so lo re ru ot le mp mg ml_7 mq mh ms mr mi
  else
    some false else none else none
def fL_law_b341 (N : Nat) (L : Nat) (xs : Nat → Int32) (mc : Nat → Int64) (k18 : Int32 → VX5 → VX3 → VX3 → VX3 → VX4 → VX4 → VX1 → VX2 → VX0 → VX0 → (Nat → Int32) → VMp → VMg → VMl → VMq → VMh → VMs → (Nat → Int32) → VMi → Option (Bool)) (v3 : Int32) (pad : VX5) (now : VX3) (fi : VX3) (se : VX3) (li : VX4) (so : VX4) (lo : VX1) (re : VX2) (ru : VX0) (ot : VX0) (le : Nat → Int32) (mp : VMp) (mg : VMg) (ml : VMl) (mq : VMq) (mh : VMh) (ms : VMs) (mr : Nat → Int32) (mi : VMi) : Option (Bool) :=
  if k_in (v3 + 1) L then
  k_b2 (fX6_need (xs (v3 + 1).toNatClampNeg) now) fun x_2 now_3 =>
  if k_in (v3 + 1) L then
  k_b2 (fX7_need (xs (v3 + 1).toNatClampNeg) mg) fun x_6 mg_7 =>
  if x_2 = x_6 then
    fL_law_b1002 N L xs mc k18 v3 pad now_3 fi se li so lo re ru ot le mp mg_7 ml mq mh ms mr mi
  else
    some false else none else none
def fL_law_b364 (N : Nat) (L : Nat) (xs : Nat → Int32) (mc : Nat → Int64) (k18 : Int32 → VX5 → VX3 → VX3 → VX3 → VX4 → VX4 → VX1 → VX2 → VX0 → VX0 → (Nat → Int32) → VMp → VMg → VMl → VMq → VMh → VMs → (Nat → Int32) → VMi → Option (Bool)) (v3 : Int32) (pad : VX5) (now : VX3) (fi : VX3) (se : VX3) (li : VX4) (so : VX4) (lo : VX1) (re : VX2) (ru : VX0) (ot : VX0) (le : Nat → Int32) (mp : VMp) (mg : VMg) (ml : VMl) (mq : VMq) (mh : VMh) (ms : VMs) (mr : Nat → Int32) (mi : VMi) : Option (Bool) :=
  k_b3 (fX6_rule N pad now) fun x_1 pad_2 now_3 =>
  k_b3 (fX7_rule N mp mg) fun x_5 mp_6 mg_7 =>
  if x_1 = x_5 then
    fL_law_b1002 N L xs mc k18 v3 pad_2 now_3 fi se li so lo re ru ot le mp_6 mg_7 ml mq mh ms mr mi
  else
    some false
def fL_law_b377 (N : Nat) (L : Nat) (xs : Nat → Int32) (mc : Nat → Int64) (k18 : Int32 → VX5 → VX3 → VX3 → VX3 → VX4 → VX4 → VX1 → VX2 → VX0 → VX0 → (Nat → Int32) → VMp → VMg → VMl → VMq → VMh → VMs → (Nat → Int32) → VMi → Option (Bool)) (v3 : Int32) (pad : VX5) (now : VX3) (fi : VX3) (se : VX3) (li : VX4) (so : VX4) (lo : VX1) (re : VX2) (ru : VX0) (ot : VX0) (le : Nat → Int32) (mp : VMp) (mg : VMg) (ml : VMl) (mq : VMq) (mh : VMh) (ms : VMs) (mr : Nat → Int32) (mi : VMi) : Option (Bool) :=
  if k_in (v3 + 1) L then
  if k_in (v3 + 2) L then
  if k_in (v3 + 3) L then
  if k_in (v3 + 4) L then
  if k_in (v3 + 5) L then
  k_b3 (fX6_comes N now (xs (v3 + 1).toNatClampNeg) (xs (v3 + 2).toNatClampNeg) (xs (v3 + 3).toNatClampNeg) (xs (v3 + 4).toNatClampNeg) (xs (v3 + 5).toNatClampNeg) re ru) fun x_6 re_7 ru_8 =>
  if k_in (v3 + 1) L then
  if k_in (v3 + 2) L then
  if k_in (v3 + 3) L then
  if k_in (v3 + 4) L then
  if k_in (v3 + 5) L then
  k_b2 (fX7_comes N mg (xs (v3 + 1).toNatClampNeg) (xs (v3 + 2).toNatClampNeg) (xs (v3 + 3).toNatClampNeg) (xs (v3 + 4).toNatClampNeg) (xs (v3 + 5).toNatClampNeg) mq) fun x_15 mq_16 =>
  if x_6 = x_15 then
    fL_law_b1002 N L xs mc k18 v3 pad now fi se li so lo re_7 ru_8 ot le mp mg ml mq_16 mh ms mr mi
  else
    some false else none else none else none else none else none else none else none else none else none else none
def fL_law_b441 (N : Nat) (L : Nat) (xs : Nat → Int32) (mc : Nat → Int64) (k18 : Int32 → VX5 → VX3 → VX3 → VX3 → VX4 → VX4 → VX1 → VX2 → VX0 → VX0 → (Nat → Int32) → VMp → VMg → VMl → VMq → VMh → VMs → (Nat → Int32) → VMi → Option (Bool)) (v3 : Int32) (pad : VX5) (now : VX3) (fi : VX3) (se : VX3) (li : VX4) (so : VX4) (lo : VX1) (re : VX2) (ru : VX0) (ot : VX0) (le : Nat → Int32) (mp : VMp) (mg : VMg) (ml : VMl) (mq : VMq) (mh : VMh) (ms : VMs) (mr : Nat → Int32) (mi : VMi) : Option (Bool) :=
  if k_in (v3 + 1) L then
  if k_in (v3 + 2) L then
  k_b5 (fX6_yes N now (xs (v3 + 1).toNatClampNeg) (xs (v3 + 2).toNatClampNeg) li lo re ru) fun x_3 li_4 lo_5 re_6 ru_7 =>
  if k_in (v3 + 1) L then
  if k_in (v3 + 2) L then
  k_b3 (fX7_yes N mg mc (xs (v3 + 1).toNatClampNeg) (xs (v3 + 2).toNatClampNeg) ml mq) fun x_11 ml_12 mq_13 =>
  if x_3 = x_11 then
    fL_law_b1002 N L xs mc k18 v3 pad now fi se li_4 so lo_5 re_6 ru_7 ot le mp mg ml_12 mq_13 mh ms mr mi
  else
    some false else none else none else none else none
def fL_law_b475 (N : Nat) (L : Nat) (xs : Nat → Int32) (mc : Nat → Int64) (k18 : Int32 → VX5 → VX3 → VX3 → VX3 → VX4 → VX4 → VX1 → VX2 → VX0 → VX0 → (Nat → Int32) → VMp → VMg → VMl → VMq → VMh → VMs → (Nat → Int32) → VMi → Option (Bool)) (v3 : Int32) (pad : VX5) (now : VX3) (fi : VX3) (se : VX3) (li : VX4) (so : VX4) (lo : VX1) (re : VX2) (ru : VX0) (ot : VX0) (le : Nat → Int32) (mp : VMp) (mg : VMg) (ml : VMl) (mq : VMq) (mh : VMh) (ms : VMs) (mr : Nat → Int32) (mi : VMi) : Option (Bool) :=
  if k_in (v3 + 1) L then
  if k_in (v3 + 2) L then
  k_b5 (fX6_bySheets N now lo (xs (v3 + 1).toNatClampNeg) (xs (v3 + 2).toNatClampNeg) li so re ru) fun x_3 li_4 so_5 re_6 ru_7 =>
  if k_in (v3 + 1) L then
  if k_in (v3 + 2) L then
  k_b3 (fX7_bySheets N mg (xs (v3 + 1).toNatClampNeg) (xs (v3 + 2).toNatClampNeg) ml mq) fun x_11 ml_12 mq_13 =>
  if x_3 = x_11 then
    fL_law_b1002 N L xs mc k18 v3 pad now fi se li_4 so_5 lo re_6 ru_7 ot le mp mg ml_12 mq_13 mh ms mr mi
  else
    some false else none else none else none else none
def fL_law_b509 (N : Nat) (L : Nat) (xs : Nat → Int32) (mc : Nat → Int64) (k18 : Int32 → VX5 → VX3 → VX3 → VX3 → VX4 → VX4 → VX1 → VX2 → VX0 → VX0 → (Nat → Int32) → VMp → VMg → VMl → VMq → VMh → VMs → (Nat → Int32) → VMi → Option (Bool)) (v3 : Int32) (pad : VX5) (now : VX3) (fi : VX3) (se : VX3) (li : VX4) (so : VX4) (lo : VX1) (re : VX2) (ru : VX0) (ot : VX0) (le : Nat → Int32) (mp : VMp) (mg : VMg) (ml : VMl) (mq : VMq) (mh : VMh) (ms : VMs) (mr : Nat → Int32) (mi : VMi) : Option (Bool) :=
  if k_in (v3 + 1) L then
  if k_in (v3 + 2) L then
  k_b5 (fX6_wrong N now (xs (v3 + 1).toNatClampNeg) (xs (v3 + 2).toNatClampNeg) li lo re ru) fun x_3 li_4 lo_5 re_6 ru_7 =>
  if k_in (v3 + 1) L then
  if k_in (v3 + 2) L then
  k_b3 (fX7_wrong N mg mc (xs (v3 + 1).toNatClampNeg) (xs (v3 + 2).toNatClampNeg) ml mq) fun x_11 ml_12 mq_13 =>
  if x_3 = x_11 then
    fL_law_b1002 N L xs mc k18 v3 pad now fi se li_4 so lo_5 re_6 ru_7 ot le mp mg ml_12 mq_13 mh ms mr mi
  else
    some false else none else none else none else none
def fL_law_b543 (N : Nat) (L : Nat) (xs : Nat → Int32) (mc : Nat → Int64) (k18 : Int32 → VX5 → VX3 → VX3 → VX3 → VX4 → VX4 → VX1 → VX2 → VX0 → VX0 → (Nat → Int32) → VMp → VMg → VMl → VMq → VMh → VMs → (Nat → Int32) → VMi → Option (Bool)) (v3 : Int32) (pad : VX5) (now : VX3) (fi : VX3) (se : VX3) (li : VX4) (so : VX4) (lo : VX1) (re : VX2) (ru : VX0) (ot : VX0) (le : Nat → Int32) (mp : VMp) (mg : VMg) (ml : VMl) (mq : VMq) (mh : VMh) (ms : VMs) (mr : Nat → Int32) (mi : VMi) : Option (Bool) :=
  if k_in (v3 + 1) L then
  k_b4 (fX6_enough N now (xs (v3 + 1).toNatClampNeg) li lo re) fun x_2 li_3 lo_4 re_5 =>
  if k_in (v3 + 1) L then
  k_b3 (fX7_enough N mg mc (xs (v3 + 1).toNatClampNeg) ml mq) fun x_8 ml_9 mq_10 =>
  if x_2 = x_8 then
    fL_law_b1002 N L xs mc k18 v3 pad now fi se li_3 so lo_4 re_5 ru ot le mp mg ml_9 mq_10 mh ms mr mi
  else
    some false else none else none
def fL_law_b566 (N : Nat) (L : Nat) (xs : Nat → Int32) (mc : Nat → Int64) (k18 : Int32 → VX5 → VX3 → VX3 → VX3 → VX4 → VX4 → VX1 → VX2 → VX0 → VX0 → (Nat → Int32) → VMp → VMg → VMl → VMq → VMh → VMs → (Nat → Int32) → VMi → Option (Bool)) (v3 : Int32) (pad : VX5) (now : VX3) (fi : VX3) (se : VX3) (li : VX4) (so : VX4) (lo : VX1) (re : VX2) (ru : VX0) (ot : VX0) (le : Nat → Int32) (mp : VMp) (mg : VMg) (ml : VMl) (mq : VMq) (mh : VMh) (ms : VMs) (mr : Nat → Int32) (mi : VMi) : Option (Bool) :=
  if k_in (v3 + 1) L then
  if k_in (v3 + 2) L then
  if k_in (v3 + 3) L then
  if k_in (v3 + 4) L then
  k_b5 (fX6_worth N now (xs (v3 + 1).toNatClampNeg) (xs (v3 + 2).toNatClampNeg) (xs (v3 + 3).toNatClampNeg) (xs (v3 + 4).toNatClampNeg) li re ru ot) fun x_5 li_6 re_7 ru_8 ot_9 =>
  if k_in (v3 + 1) L then
  if k_in (v3 + 2) L then
  if k_in (v3 + 3) L then
  if k_in (v3 + 4) L then
  k_b3 (fX7_worth N mg (xs (v3 + 1).toNatClampNeg) (xs (v3 + 2).toNatClampNeg) (xs (v3 + 3).toNatClampNeg) (xs (v3 + 4).toNatClampNeg) ml mq) fun x_15 ml_16 mq_17 =>
  if x_5 = x_15 then
    fL_law_b1002 N L xs mc k18 v3 pad now fi se li_6 so lo re_7 ru_8 ot_9 le mp mg ml_16 mq_17 mh ms mr mi
  else
    some false else none else none else none else none else none else none else none else none
def fL_law_b620 (N : Nat) (L : Nat) (xs : Nat → Int32) (mc : Nat → Int64) (k18 : Int32 → VX5 → VX3 → VX3 → VX3 → VX4 → VX4 → VX1 → VX2 → VX0 → VX0 → (Nat → Int32) → VMp → VMg → VMl → VMq → VMh → VMs → (Nat → Int32) → VMi → Option (Bool)) (v3 : Int32) (pad : VX5) (now : VX3) (fi : VX3) (se : VX3) (li : VX4) (so : VX4) (lo : VX1) (re : VX2) (ru : VX0) (ot : VX0) (le : Nat → Int32) (mp : VMp) (mg : VMg) (ml : VMl) (mq : VMq) (mh : VMh) (ms : VMs) (mr : Nat → Int32) (mi : VMi) : Option (Bool) :=
  if k_in (v3 + 1) L then
  if k_in (v3 + 2) L then
  k_b2 (fX6_gatherer N now (xs (v3 + 1).toNatClampNeg) (xs (v3 + 2).toNatClampNeg) so) fun x_3 so_4 =>
  if k_in (v3 + 1) L then
  if k_in (v3 + 2) L then
  k_b2 (fX7_gatherer N mg (xs (v3 + 1).toNatClampNeg) (xs (v3 + 2).toNatClampNeg) mh) fun x_8 mh_9 =>
  if x_3 = x_8 then
    fL_law_b1002 N L xs mc k18 v3 pad now fi se li so_4 lo re ru ot le mp mg ml mq mh_9 ms mr mi
  else
    some false else none else none else none else none
def fL_law_b653 (N : Nat) (L : Nat) (xs : Nat → Int32) (mc : Nat → Int64) (k18 : Int32 → VX5 → VX3 → VX3 → VX3 → VX4 → VX4 → VX1 → VX2 → VX0 → VX0 → (Nat → Int32) → VMp → VMg → VMl → VMq → VMh → VMs → (Nat → Int32) → VMi → Option (Bool)) (v3 : Int32) (pad : VX5) (now : VX3) (fi : VX3) (se : VX3) (li : VX4) (so : VX4) (lo : VX1) (re : VX2) (ru : VX0) (ot : VX0) (le : Nat → Int32) (mp : VMp) (mg : VMg) (ml : VMl) (mq : VMq) (mh : VMh) (ms : VMs) (mr : Nat → Int32) (mi : VMi) : Option (Bool) :=
  if k_in (v3 + 1) L then
  if k_in (v3 + 2) L then
  k_b4 (fX6_seems N now lo (xs (v3 + 1).toNatClampNeg) (xs (v3 + 2).toNatClampNeg) li so ru) fun x_3 li_4 so_5 ru_6 =>
  if k_in (v3 + 1) L then
  if k_in (v3 + 2) L then
  k_b4 (fX7_seems N mg mc (xs (v3 + 1).toNatClampNeg) (xs (v3 + 2).toNatClampNeg) ml mh ms) fun x_10 ml_11 mh_12 ms_13 =>
  if x_3 = x_10 then
    fL_law_b1002 N L xs mc k18 v3 pad now fi se li_4 so_5 lo re ru_6 ot le mp mg ml_11 mq mh_12 ms_13 mr mi
  else
    some false else none else none else none else none
def fL_law_b687 (N : Nat) (L : Nat) (xs : Nat → Int32) (mc : Nat → Int64) (k18 : Int32 → VX5 → VX3 → VX3 → VX3 → VX4 → VX4 → VX1 → VX2 → VX0 → VX0 → (Nat → Int32) → VMp → VMg → VMl → VMq → VMh → VMs → (Nat → Int32) → VMi → Option (Bool)) (v3 : Int32) (pad : VX5) (now : VX3) (fi : VX3) (se : VX3) (li : VX4) (so : VX4) (lo : VX1) (re : VX2) (ru : VX0) (ot : VX0) (le : Nat → Int32) (mp : VMp) (mg : VMg) (ml : VMl) (mq : VMq) (mh : VMh) (ms : VMs) (mr : Nat → Int32) (mi : VMi) : Option (Bool) :=
  k_b5 (fX6_suspect N now lo li so ru ot) fun x_1 li_2 so_3 ru_4 ot_5 =>
  k_b4 (fX7_suspect N mg mc ml mh ms) fun x_7 ml_8 mh_9 ms_10 =>
  if x_1 = x_7 then
    fL_law_b1002 N L xs mc k18 v3 pad now fi se li_2 so_3 lo re ru_4 ot_5 le mp mg ml_8 mq mh_9 ms_10 mr mi
  else
    some false
def fL_law_b700 (N : Nat) (L : Nat) (xs : Nat → Int32) (mc : Nat → Int64) (k18 : Int32 → VX5 → VX3 → VX3 → VX3 → VX4 → VX4 → VX1 → VX2 → VX0 → VX0 → (Nat → Int32) → VMp → VMg → VMl → VMq → VMh → VMs → (Nat → Int32) → VMi → Option (Bool)) (v3 : Int32) (pad : VX5) (now : VX3) (fi : VX3) (se : VX3) (li : VX4) (so : VX4) (lo : VX1) (re : VX2) (ru : VX0) (ot : VX0) (le : Nat → Int32) (mp : VMp) (mg : VMg) (ml : VMl) (mq : VMq) (mh : VMh) (ms : VMs) (mr : Nat → Int32) (mi : VMi) : Option (Bool) :=
  if k_in (v3 + 1) L then
  if k_in (v3 + 2) L then
  k_b4 (fX6_shared N now lo (xs (v3 + 1).toNatClampNeg) (xs (v3 + 2).toNatClampNeg) li so ru) fun x_3 li_4 so_5 ru_6 =>
  if k_in (v3 + 1) L then
  if k_in (v3 + 2) L then
  k_b4 (fX7_shared N mg mc (xs (v3 + 1).toNatClampNeg) (xs (v3 + 2).toNatClampNeg) ml mh ms) fun x_10 ml_11 mh_12 ms_13 =>
  if x_3 = x_10 then
    fL_law_b1002 N L xs mc k18 v3 pad now fi se li_4 so_5 lo re ru_6 ot le mp mg ml_11 mq mh_12 ms_13 mr mi
  else
    some false else none else none else none else none
def fL_law_b734 (N : Nat) (L : Nat) (xs : Nat → Int32) (mc : Nat → Int64) (k18 : Int32 → VX5 → VX3 → VX3 → VX3 → VX4 → VX4 → VX1 → VX2 → VX0 → VX0 → (Nat → Int32) → VMp → VMg → VMl → VMq → VMh → VMs → (Nat → Int32) → VMi → Option (Bool)) (v3 : Int32) (pad : VX5) (now : VX3) (fi : VX3) (se : VX3) (li : VX4) (so : VX4) (lo : VX1) (re : VX2) (ru : VX0) (ot : VX0) (le : Nat → Int32) (mp : VMp) (mg : VMg) (ml : VMl) (mq : VMq) (mh : VMh) (ms : VMs) (mr : Nat → Int32) (mi : VMi) : Option (Bool) :=
  if k_in (v3 + 1) L then
  if k_in (v3 + 2) L then
  if k_in (v3 + 3) L then
  k_b1 (fX6_fine (xs (v3 + 1).toNatClampNeg) (xs (v3 + 2).toNatClampNeg) (xs (v3 + 3).toNatClampNeg)) fun x_4 =>
  if k_in (v3 + 1) L then
  if k_in (v3 + 2) L then
  if k_in (v3 + 3) L then
  k_b1 (fX7_fine N (xs (v3 + 1).toNatClampNeg) (xs (v3 + 2).toNatClampNeg) (xs (v3 + 3).toNatClampNeg)) fun x_9 =>
  if x_4 = x_9 then
    fL_law_b1002 N L xs mc k18 v3 pad now fi se li so lo re ru ot le mp mg ml mq mh ms mr mi
  else
    some false else none else none else none else none else none else none
def fL_law_b777 (N : Nat) (L : Nat) (xs : Nat → Int32) (mc : Nat → Int64) (k18 : Int32 → VX5 → VX3 → VX3 → VX3 → VX4 → VX4 → VX1 → VX2 → VX0 → VX0 → (Nat → Int32) → VMp → VMg → VMl → VMq → VMh → VMs → (Nat → Int32) → VMi → Option (Bool)) (v3 : Int32) (pad : VX5) (now : VX3) (fi : VX3) (se : VX3) (li : VX4) (so : VX4) (lo : VX1) (re : VX2) (ru : VX0) (ot : VX0) (le : Nat → Int32) (mp : VMp) (mg : VMg) (ml : VMl) (mq : VMq) (mh : VMh) (ms : VMs) (mr : Nat → Int32) (mi : VMi) : Option (Bool) :=
  if k_in (v3 + 1) L then
  if k_in (v3 + 2) L then
  if k_in (v3 + 3) L then
  k_b3 (fX6_word N now (xs (v3 + 1).toNatClampNeg) (xs (v3 + 2).toNatClampNeg) (xs (v3 + 3).toNatClampNeg) li ru) fun x_4 li_5 ru_6 =>
  if k_in (v3 + 1) L then
  if k_in (v3 + 2) L then
  if k_in (v3 + 3) L then
  k_b2 (fX7_word N mg (xs (v3 + 1).toNatClampNeg) (xs (v3 + 2).toNatClampNeg) (xs (v3 + 3).toNatClampNeg) ml) fun x_11 ml_12 =>
  if x_4 = x_11 then
    fL_law_b1002 N L xs mc k18 v3 pad now fi se li_5 so lo re ru_6 ot le mp mg ml_12 mq mh ms mr mi
  else
    some false else none else none else none else none else none else none
def fL_law_b821 (N : Nat) (L : Nat) (xs : Nat → Int32) (mc : Nat → Int64) (k18 : Int32 → VX5 → VX3 → VX3 → VX3 → VX4 → VX4 → VX1 → VX2 → VX0 → VX0 → (Nat → Int32) → VMp → VMg → VMl → VMq → VMh → VMs → (Nat → Int32) → VMi → Option (Bool)) (v3 : Int32) (pad : VX5) (now : VX3) (fi : VX3) (se : VX3) (li : VX4) (so : VX4) (lo : VX1) (re : VX2) (ru : VX0) (ot : VX0) (le : Nat → Int32) (mp : VMp) (mg : VMg) (ml : VMl) (mq : VMq) (mh : VMh) (ms : VMs) (mr : Nat → Int32) (mi : VMi) : Option (Bool) :=
  if k_in (v3 + 1) L then
  k_b3 (fX6_strike N now (xs (v3 + 1).toNatClampNeg) li so) fun x_2 li_3 so_4 =>
  if k_in (v3 + 1) L then
  k_b2 (fX7_strike N mg (xs (v3 + 1).toNatClampNeg) ml) fun x_7 ml_8 =>
  if x_2 = x_7 then
    fL_law_b1002 N L xs mc k18 v3 pad now fi se li_3 so_4 lo re ru ot le mp mg ml_8 mq mh ms mr mi
  else
    some false else none else none
def fL_law_b844 (N : Nat) (L : Nat) (xs : Nat → Int32) (mc : Nat → Int64) (k18 : Int32 → VX5 → VX3 → VX3 → VX3 → VX4 → VX4 → VX1 → VX2 → VX0 → VX0 → (Nat → Int32) → VMp → VMg → VMl → VMq → VMh → VMs → (Nat → Int32) → VMi → Option (Bool)) (v3 : Int32) (pad : VX5) (now : VX3) (fi : VX3) (se : VX3) (li : VX4) (so : VX4) (lo : VX1) (re : VX2) (ru : VX0) (ot : VX0) (le : Nat → Int32) (mp : VMp) (mg : VMg) (ml : VMl) (mq : VMq) (mh : VMh) (ms : VMs) (mr : Nat → Int32) (mi : VMi) : Option (Bool) :=
  k_b3 (fX6_worst N now li so) fun x_1 li_2 so_3 =>
  k_b2 (fX7_worst N mg ml) fun x_5 ml_6 =>
  if x_1 = x_5 then
    fL_law_b1002 N L xs mc k18 v3 pad now fi se li_2 so_3 lo re ru ot le mp mg ml_6 mq mh ms mr mi
  else
    some false
def fL_law_b857 (N : Nat) (L : Nat) (xs : Nat → Int32) (mc : Nat → Int64) (k18 : Int32 → VX5 → VX3 → VX3 → VX3 → VX4 → VX4 → VX1 → VX2 → VX0 → VX0 → (Nat → Int32) → VMp → VMg → VMl → VMq → VMh → VMs → (Nat → Int32) → VMi → Option (Bool)) (v3 : Int32) (pad : VX5) (now : VX3) (fi : VX3) (se : VX3) (li : VX4) (so : VX4) (lo : VX1) (re : VX2) (ru : VX0) (ot : VX0) (le : Nat → Int32) (mp : VMp) (mg : VMg) (ml : VMl) (mq : VMq) (mh : VMh) (ms : VMs) (mr : Nat → Int32) (mi : VMi) : Option (Bool) :=
  if k_in (v3 + 1) L then
  if k_in (v3 + 2) L then
  k_b4 (fX6_against N now (xs (v3 + 1).toNatClampNeg) (xs (v3 + 2).toNatClampNeg) li lo re) fun x_3 li_4 lo_5 re_6 =>
  if k_in (v3 + 1) L then
  if k_in (v3 + 2) L then
  k_b3 (fX7_against N mg mc (xs (v3 + 1).toNatClampNeg) (xs (v3 + 2).toNatClampNeg) ml mq) fun x_10 ml_11 mq_12 =>
  if x_3 = x_10 then
    fL_law_b1002 N L xs mc k18 v3 pad now fi se li_4 so lo_5 re_6 ru ot le mp mg ml_11 mq_12 mh ms mr mi
  else
    some false else none else none else none else none
def fL_law_b890 (N : Nat) (L : Nat) (xs : Nat → Int32) (mc : Nat → Int64) (k18 : Int32 → VX5 → VX3 → VX3 → VX3 → VX4 → VX4 → VX1 → VX2 → VX0 → VX0 → (Nat → Int32) → VMp → VMg → VMl → VMq → VMh → VMs → (Nat → Int32) → VMi → Option (Bool)) (v3 : Int32) (pad : VX5) (now : VX3) (fi : VX3) (se : VX3) (li : VX4) (so : VX4) (lo : VX1) (re : VX2) (ru : VX0) (ot : VX0) (le : Nat → Int32) (mp : VMp) (mg : VMg) (ml : VMl) (mq : VMq) (mh : VMh) (ms : VMs) (mr : Nat → Int32) (mi : VMi) : Option (Bool) :=
  if k_in (v3 + 1) L then
  if k_in (v3 + 2) L then
  if k_in (v3 + 3) L then
  k_b5 (fX6_heap N now (xs (v3 + 1).toNatClampNeg) (xs (v3 + 2).toNatClampNeg) (xs (v3 + 3).toNatClampNeg) li so re le) fun x_4 li_5 so_6 re_7 le_8 =>
  if k_in (v3 + 1) L then
  if k_in (v3 + 2) L then
  if k_in (v3 + 3) L then
  k_b4 (fX7_heap N mg (xs (v3 + 1).toNatClampNeg) (xs (v3 + 2).toNatClampNeg) (xs (v3 + 3).toNatClampNeg) ml mq mr) fun x_13 ml_14 mq_15 mr_16 =>
  if x_4 = x_13 then
    fL_law_b1002 N L xs mc k18 v3 pad now fi se li_5 so_6 lo re_7 ru ot le_8 mp mg ml_14 mq_15 mh ms mr_16 mi
  else
    some false else none else none else none else none else none else none
def fL_law_b933 (N : Nat) (L : Nat) (xs : Nat → Int32) (mc : Nat → Int64) (k18 : Int32 → VX5 → VX3 → VX3 → VX3 → VX4 → VX4 → VX1 → VX2 → VX0 → VX0 → (Nat → Int32) → VMp → VMg → VMl → VMq → VMh → VMs → (Nat → Int32) → VMi → Option (Bool)) (v3 : Int32) (pad : VX5) (now : VX3) (fi : VX3) (se : VX3) (li : VX4) (so : VX4) (lo : VX1) (re : VX2) (ru : VX0) (ot : VX0) (le : Nat → Int32) (mp : VMp) (mg : VMg) (ml : VMl) (mq : VMq) (mh : VMh) (ms : VMs) (mr : Nat → Int32) (mi : VMi) : Option (Bool) :=
  if k_in (v3 + 1) L then
  k_b3 (fX6_image N now (xs (v3 + 1).toNatClampNeg) fi se) fun x_2 fi_3 se_4 =>
  if k_in (v3 + 1) L then
  k_b2 (fX7_image N mg (xs (v3 + 1).toNatClampNeg) mi) fun x_7 mi_8 =>
  if x_2 = x_7 then
    fL_law_b1002 N L xs mc k18 v3 pad now fi_3 se_4 li so lo re ru ot le mp mg ml mq mh ms mr mi_8
  else
    some false else none else none
def fL_law_b956 (N : Nat) (L : Nat) (xs : Nat → Int32) (mc : Nat → Int64) (k18 : Int32 → VX5 → VX3 → VX3 → VX3 → VX4 → VX4 → VX1 → VX2 → VX0 → VX0 → (Nat → Int32) → VMp → VMg → VMl → VMq → VMh → VMs → (Nat → Int32) → VMi → Option (Bool)) (v3 : Int32) (pad : VX5) (now : VX3) (fi : VX3) (se : VX3) (li : VX4) (so : VX4) (lo : VX1) (re : VX2) (ru : VX0) (ot : VX0) (le : Nat → Int32) (mp : VMp) (mg : VMg) (ml : VMl) (mq : VMq) (mh : VMh) (ms : VMs) (mr : Nat → Int32) (mi : VMi) : Option (Bool) :=
  if k_in (v3 + 1) L then
  k_b2 (fX6_restore N fi se (xs (v3 + 1).toNatClampNeg) now) fun x_2 now_3 =>
  if k_in (v3 + 1) L then
  k_b2 (fX7_restore N mi (xs (v3 + 1).toNatClampNeg) mg) fun x_6 mg_7 =>
  if x_2 = x_6 then
    fL_law_b1002 N L xs mc k18 v3 pad now_3 fi se li so lo re ru ot le mp mg_7 ml mq mh ms mr mi
  else
    some false else none else none
def fL_law_b979 (N : Nat) (L : Nat) (xs : Nat → Int32) (mc : Nat → Int64) (k18 : Int32 → VX5 → VX3 → VX3 → VX3 → VX4 → VX4 → VX1 → VX2 → VX0 → VX0 → (Nat → Int32) → VMp → VMg → VMl → VMq → VMh → VMs → (Nat → Int32) → VMi → Option (Bool)) (v3 : Int32) (pad : VX5) (now : VX3) (fi : VX3) (se : VX3) (li : VX4) (so : VX4) (lo : VX1) (re : VX2) (ru : VX0) (ot : VX0) (le : Nat → Int32) (mp : VMp) (mg : VMg) (ml : VMl) (mq : VMq) (mh : VMh) (ms : VMs) (mr : Nat → Int32) (mi : VMi) : Option (Bool) :=
  if k_in (v3 + 1) L then
  k_b1 (fX6_told pad now (xs (v3 + 1).toNatClampNeg)) fun x_2 =>
  if k_in (v3 + 1) L then
  k_b1 (fX7_told N mp mg (xs (v3 + 1).toNatClampNeg)) fun x_5 =>
  if x_2 = x_5 then
    fL_law_b1002 N L xs mc k18 v3 pad now fi se li so lo re ru ot le mp mg ml mq mh ms mr mi
  else
    some false else none else none
def fL_law (N : Nat) (L : Nat) (xs : Nat → Int32) (mc : Nat → Int64) (k18 : Int32 → VX5 → VX3 → VX3 → VX3 → VX4 → VX4 → VX1 → VX2 → VX0 → VX0 → (Nat → Int32) → VMp → VMg → VMl → VMq → VMh → VMs → (Nat → Int32) → VMi → Option (Bool)) (p3 : Int32) (pad : VX5) (now : VX3) (fi : VX3) (se : VX3) (li : VX4) (so : VX4) (lo : VX1) (re : VX2) (ru : VX0) (ot : VX0) (le : Nat → Int32) (mp : VMp) (mg : VMg) (ml : VMl) (mq : VMq) (mh : VMh) (ms : VMs) (mr : Nat → Int32) (mi : VMi) : Option (Bool) :=
  if ((nI L) - 6) < p3 then
    some true
  else
    if k_in p3 L then
    if ((xs p3.toNatClampNeg) &&& 31) = 0 then
      fL_law_b160 N L xs mc k18 p3 pad now fi se li so lo re ru ot le mp mg ml mq mh ms mr mi
    else
    if ((xs p3.toNatClampNeg) &&& 31) = 1 then
      fL_law_b183 N L xs mc k18 p3 pad now fi se li so lo re ru ot le mp mg ml mq mh ms mr mi
    else
    if ((xs p3.toNatClampNeg) &&& 31) = 2 then
      fL_law_b196 N L xs mc k18 p3 pad now fi se li so lo re ru ot le mp mg ml mq mh ms mr mi
    else
    if ((xs p3.toNatClampNeg) &&& 31) = 3 then
      fL_law_b219 N L xs mc k18 p3 pad now fi se li so lo re ru ot le mp mg ml mq mh ms mr mi
    else
    if ((xs p3.toNatClampNeg) &&& 31) = 4 then
      fL_law_b242 N L xs mc k18 p3 pad now fi se li so lo re ru ot le mp mg ml mq mh ms mr mi
    else
    if ((xs p3.toNatClampNeg) &&& 31) = 5 then
      fL_law_b285 N L xs mc k18 p3 pad now fi se li so lo re ru ot le mp mg ml mq mh ms mr mi
    else
    if ((xs p3.toNatClampNeg) &&& 31) = 6 then
      fL_law_b318 N L xs mc k18 p3 pad now fi se li so lo re ru ot le mp mg ml mq mh ms mr mi
    else
    if ((xs p3.toNatClampNeg) &&& 31) = 7 then
      fL_law_b341 N L xs mc k18 p3 pad now fi se li so lo re ru ot le mp mg ml mq mh ms mr mi
    else
    if ((xs p3.toNatClampNeg) &&& 31) = 8 then
      fL_law_b364 N L xs mc k18 p3 pad now fi se li so lo re ru ot le mp mg ml mq mh ms mr mi
    else
    if ((xs p3.toNatClampNeg) &&& 31) = 9 then
      fL_law_b377 N L xs mc k18 p3 pad now fi se li so lo re ru ot le mp mg ml mq mh ms mr mi
    else
    if ((xs p3.toNatClampNeg) &&& 31) = 10 then
      fL_law_b441 N L xs mc k18 p3 pad now fi se li so lo re ru ot le mp mg ml mq mh ms mr mi
    else
    if ((xs p3.toNatClampNeg) &&& 31) = 11 then
      fL_law_b475 N L xs mc k18 p3 pad now fi se li so lo re ru ot le mp mg ml mq mh ms mr mi
    else
    if ((xs p3.toNatClampNeg) &&& 31) = 12 then
      fL_law_b509 N L xs mc k18 p3 pad now fi se li so lo re ru ot le mp mg ml mq mh ms mr mi
    else
    if ((xs p3.toNatClampNeg) &&& 31) = 13 then
      fL_law_b543 N L xs mc k18 p3 pad now fi se li so lo re ru ot le mp mg ml mq mh ms mr mi
    else
    if ((xs p3.toNatClampNeg) &&& 31) = 14 then
      fL_law_b566 N L xs mc k18 p3 pad now fi se li so lo re ru ot le mp mg ml mq mh ms mr mi
    else
    if ((xs p3.toNatClampNeg) &&& 31) = 15 then
      fL_law_b620 N L xs mc k18 p3 pad now fi se li so lo re ru ot le mp mg ml mq mh ms mr mi
    else
    if ((xs p3.toNatClampNeg) &&& 31) = 16 then
      fL_law_b653 N L xs mc k18 p3 pad now fi se li so lo re ru ot le mp mg ml mq mh ms mr mi
    else
    if ((xs p3.toNatClampNeg) &&& 31) = 17 then
      fL_law_b687 N L xs mc k18 p3 pad now fi se li so lo re ru ot le mp mg ml mq mh ms mr mi
    else
    if ((xs p3.toNatClampNeg) &&& 31) = 18 then
      fL_law_b700 N L xs mc k18 p3 pad now fi se li so lo re ru ot le mp mg ml mq mh ms mr mi
    else
    if ((xs p3.toNatClampNeg) &&& 31) = 19 then
      fL_law_b734 N L xs mc k18 p3 pad now fi se li so lo re ru ot le mp mg ml mq mh ms mr mi
    else
    if ((xs p3.toNatClampNeg) &&& 31) = 20 then
      fL_law_b777 N L xs mc k18 p3 pad now fi se li so lo re ru ot le mp mg ml mq mh ms mr mi
    else
    if ((xs p3.toNatClampNeg) &&& 31) = 21 then
      fL_law_b821 N L xs mc k18 p3 pad now fi se li so lo re ru ot le mp mg ml mq mh ms mr mi
    else
    if ((xs p3.toNatClampNeg) &&& 31) = 22 then
      fL_law_b844 N L xs mc k18 p3 pad now fi se li so lo re ru ot le mp mg ml mq mh ms mr mi
    else
    if ((xs p3.toNatClampNeg) &&& 31) = 23 then
      fL_law_b857 N L xs mc k18 p3 pad now fi se li so lo re ru ot le mp mg ml mq mh ms mr mi
    else
    if ((xs p3.toNatClampNeg) &&& 31) = 24 then
      fL_law_b890 N L xs mc k18 p3 pad now fi se li so lo re ru ot le mp mg ml mq mh ms mr mi
    else
    if ((xs p3.toNatClampNeg) &&& 31) = 25 then
      fL_law_b933 N L xs mc k18 p3 pad now fi se li so lo re ru ot le mp mg ml mq mh ms mr mi
    else
    if ((xs p3.toNatClampNeg) &&& 31) = 26 then
      fL_law_b956 N L xs mc k18 p3 pad now fi se li so lo re ru ot le mp mg ml mq mh ms mr mi
    else
    if ((xs p3.toNatClampNeg) &&& 31) = 27 then
      fL_law_b979 N L xs mc k18 p3 pad now fi se li so lo re ru ot le mp mg ml mq mh ms mr mi
    else
      fL_law_b1002 N L xs mc k18 p3 pad now fi se li so lo re ru ot le mp mg ml mq mh ms mr mi else none
def fL_law_l18 (N : Nat) (L : Nat) (xs : Nat → Int32) (mc : Nat → Int64) : Nat → Int32 → VX5 → VX3 → VX3 → VX3 → VX4 → VX4 → VX1 → VX2 → VX0 → VX0 → (Nat → Int32) → VMp → VMg → VMl → VMq → VMh → VMs → (Nat → Int32) → VMi → Option (Bool)
  | 0, _, _, _, _, _, _, _, _, _, _, _, _, _, _, _, _, _, _, _, _ => none
  | n0 + 1, p3, pad, now, fi, se, li, so, lo, re, ru, ot, le, mp, mg, ml, mq, mh, ms, mr, mi => fL_law N L xs mc (fL_law_l18 N L xs mc n0) p3 pad now fi se li so lo re ru ot le mp mg ml mq mh ms mr mi
theorem mlL_13 : Cond.methodLink RL 13 yX6_say ∈ G_ := G_mem (i := 260) (by decide +kernel) rfl
theorem mlL_17 : Cond.methodLink RL 17 yX7_say ∈ G_ := G_mem (i := 781) (by decide +kernel) rfl
theorem mlL_18 : Cond.methodLink RL 18 yX6_wipe ∈ G_ := G_mem (i := 268) (by decide +kernel) rfl
theorem mlL_22 : Cond.methodLink RL 22 yX7_wipe ∈ G_ := G_mem (i := 788) (by decide +kernel) rfl
theorem mlL_23 : Cond.methodLink RL 23 yX6_fault ∈ G_ := G_mem (i := 276) (by decide +kernel) rfl
theorem mlL_26 : Cond.methodLink RL 26 yX7_fault ∈ G_ := G_mem (i := 792) (by decide +kernel) rfl
theorem mlL_27 : Cond.methodLink RL 27 yX6_names ∈ G_ := G_mem (i := 304) (by decide +kernel) rfl
theorem mlL_30 : Cond.methodLink RL 30 yX7_names ∈ G_ := G_mem (i := 813) (by decide +kernel) rfl
theorem mlL_31 : Cond.methodLink RL 31 yX6_set ∈ G_ := G_mem (i := 317) (by decide +kernel) rfl
theorem mlL_35 : Cond.methodLink RL 35 yX7_set ∈ G_ := G_mem (i := 820) (by decide +kernel) rfl
theorem mlL_36 : Cond.methodLink RL 36 yX6_sheet ∈ G_ := G_mem (i := 333) (by decide +kernel) rfl
theorem mlL_40 : Cond.methodLink RL 40 yX7_sheet ∈ G_ := G_mem (i := 824) (by decide +kernel) rfl
theorem mlL_41 : Cond.methodLink RL 41 yX6_count ∈ G_ := G_mem (i := 346) (by decide +kernel) rfl
theorem mlL_44 : Cond.methodLink RL 44 yX7_count ∈ G_ := G_mem (i := 828) (by decide +kernel) rfl
theorem mlL_45 : Cond.methodLink RL 45 yX6_need ∈ G_ := G_mem (i := 377) (by decide +kernel) rfl
theorem mlL_48 : Cond.methodLink RL 48 yX7_need ∈ G_ := G_mem (i := 844) (by decide +kernel) rfl
theorem mlL_49 : Cond.methodLink RL 49 yX6_rule ∈ G_ := G_mem (i := 381) (by decide +kernel) rfl
theorem mlL_52 : Cond.methodLink RL 52 yX7_rule ∈ G_ := G_mem (i := 848) (by decide +kernel) rfl
theorem mlL_53 : Cond.methodLink RL 53 yX6_comes ∈ G_ := G_mem (i := 392) (by decide +kernel) rfl
theorem mlL_57 : Cond.methodLink RL 57 yX7_comes ∈ G_ := G_mem (i := 852) (by decide +kernel) rfl
theorem mlL_58 : Cond.methodLink RL 58 yX6_yes ∈ G_ := G_mem (i := 448) (by decide +kernel) rfl
theorem mlL_62 : Cond.methodLink RL 62 yX7_yes ∈ G_ := G_mem (i := 868) (by decide +kernel) rfl
theorem mlL_63 : Cond.methodLink RL 63 yX6_bySheets ∈ G_ := G_mem (i := 517) (by decide +kernel) rfl
theorem mlL_66 : Cond.methodLink RL 66 yX7_bySheets ∈ G_ := G_mem (i := 900) (by decide +kernel) rfl
theorem mlL_67 : Cond.methodLink RL 67 yX6_wrong ∈ G_ := G_mem (i := 548) (by decide +kernel) rfl
theorem mlL_70 : Cond.methodLink RL 70 yX7_wrong ∈ G_ := G_mem (i := 908) (by decide +kernel) rfl
theorem mlL_71 : Cond.methodLink RL 71 yX6_enough ∈ G_ := G_mem (i := 556) (by decide +kernel) rfl
theorem mlL_74 : Cond.methodLink RL 74 yX7_enough ∈ G_ := G_mem (i := 916) (by decide +kernel) rfl
theorem mlL_75 : Cond.methodLink RL 75 yX6_worth ∈ G_ := G_mem (i := 564) (by decide +kernel) rfl
theorem mlL_79 : Cond.methodLink RL 79 yX7_worth ∈ G_ := G_mem (i := 921) (by decide +kernel) rfl
theorem mlL_80 : Cond.methodLink RL 80 yX6_gatherer ∈ G_ := G_mem (i := 573) (by decide +kernel) rfl
theorem mlL_83 : Cond.methodLink RL 83 yX7_gatherer ∈ G_ := G_mem (i := 925) (by decide +kernel) rfl
theorem mlL_84 : Cond.methodLink RL 84 yX6_seems ∈ G_ := G_mem (i := 585) (by decide +kernel) rfl
theorem mlL_87 : Cond.methodLink RL 87 yX7_seems ∈ G_ := G_mem (i := 936) (by decide +kernel) rfl
theorem mlL_88 : Cond.methodLink RL 88 yX6_suspect ∈ G_ := G_mem (i := 594) (by decide +kernel) rfl
theorem mlL_91 : Cond.methodLink RL 91 yX7_suspect ∈ G_ := G_mem (i := 945) (by decide +kernel) rfl
theorem mlL_92 : Cond.methodLink RL 92 yX6_shared ∈ G_ := G_mem (i := 606) (by decide +kernel) rfl
theorem mlL_95 : Cond.methodLink RL 95 yX7_shared ∈ G_ := G_mem (i := 952) (by decide +kernel) rfl
theorem mlL_96 : Cond.methodLink RL 96 yX6_fine ∈ G_ := G_mem (i := 617) (by decide +kernel) rfl
theorem mlL_99 : Cond.methodLink RL 99 yX7_fine ∈ G_ := G_mem (i := 956) (by decide +kernel) rfl
theorem mlL_100 : Cond.methodLink RL 100 yX6_word ∈ G_ := G_mem (i := 621) (by decide +kernel) rfl
theorem mlL_104 : Cond.methodLink RL 104 yX7_word ∈ G_ := G_mem (i := 960) (by decide +kernel) rfl
theorem mlL_105 : Cond.methodLink RL 105 yX6_strike ∈ G_ := G_mem (i := 625) (by decide +kernel) rfl
theorem mlL_108 : Cond.methodLink RL 108 yX7_strike ∈ G_ := G_mem (i := 964) (by decide +kernel) rfl
theorem mlL_109 : Cond.methodLink RL 109 yX6_worst ∈ G_ := G_mem (i := 633) (by decide +kernel) rfl
theorem mlL_112 : Cond.methodLink RL 112 yX7_worst ∈ G_ := G_mem (i := 976) (by decide +kernel) rfl
theorem mlL_113 : Cond.methodLink RL 113 yX6_against ∈ G_ := G_mem (i := 637) (by decide +kernel) rfl
theorem mlL_116 : Cond.methodLink RL 116 yX7_against ∈ G_ := G_mem (i := 980) (by decide +kernel) rfl
theorem mlL_117 : Cond.methodLink RL 117 yX6_heap ∈ G_ := G_mem (i := 642) (by decide +kernel) rfl
theorem mlL_120 : Cond.methodLink RL 120 yX7_heap ∈ G_ := G_mem (i := 985) (by decide +kernel) rfl
theorem mlL_121 : Cond.methodLink RL 121 yX6_image ∈ G_ := G_mem (i := 661) (by decide +kernel) rfl
theorem mlL_124 : Cond.methodLink RL 124 yX7_image ∈ G_ := G_mem (i := 990) (by decide +kernel) rfl
theorem mlL_125 : Cond.methodLink RL 125 yX6_restore ∈ G_ := G_mem (i := 681) (by decide +kernel) rfl
theorem mlL_128 : Cond.methodLink RL 128 yX7_restore ∈ G_ := G_mem (i := 994) (by decide +kernel) rfl
theorem mlL_129 : Cond.methodLink RL 129 yX6_told ∈ G_ := G_mem (i := 685) (by decide +kernel) rfl
theorem mlL_132 : Cond.methodLink RL 132 yX7_told ∈ G_ := G_mem (i := 998) (by decide +kernel) rfl
theorem lk_X6_against : k_lkV yX6_against cX6_against 6 (some .int) 2 := ⟨⟨G_mem (i := 1) (by decide +kernel) rfl, G_mem (i := 640) (by decide +kernel) rfl, by decide, by decide, by decide +kernel⟩, G_mem (i := 638) (by decide +kernel) rfl, G_mem (i := 639) (by decide +kernel) rfl⟩
theorem lk_X6_bySheets : k_lkV yX6_bySheets cX6_bySheets 5 (some .long) 2 := ⟨⟨G_mem (i := 1) (by decide +kernel) rfl, G_mem (i := 520) (by decide +kernel) rfl, by decide, by decide, by decide +kernel⟩, G_mem (i := 518) (by decide +kernel) rfl, G_mem (i := 519) (by decide +kernel) rfl⟩
theorem lk_X6_comes : k_lkV yX6_comes cX6_comes 6 (some .long) 5 := ⟨⟨G_mem (i := 1) (by decide +kernel) rfl, G_mem (i := 395) (by decide +kernel) rfl, by decide, by decide, by decide +kernel⟩, G_mem (i := 393) (by decide +kernel) rfl, G_mem (i := 394) (by decide +kernel) rfl⟩
theorem lk_X6_count : k_lkV yX6_count cX6_count 2 (some .int) 1 := ⟨⟨G_mem (i := 1) (by decide +kernel) rfl, G_mem (i := 349) (by decide +kernel) rfl, by decide, by decide, by decide +kernel⟩, G_mem (i := 347) (by decide +kernel) rfl, G_mem (i := 348) (by decide +kernel) rfl⟩
theorem lk_X6_enough : k_lkV yX6_enough cX6_enough 3 (some .int) 1 := ⟨⟨G_mem (i := 1) (by decide +kernel) rfl, G_mem (i := 559) (by decide +kernel) rfl, by decide, by decide, by decide +kernel⟩, G_mem (i := 557) (by decide +kernel) rfl, G_mem (i := 558) (by decide +kernel) rfl⟩
theorem lk_X6_fault : k_lkV yX6_fault cX6_fault 2 (some .int) 1 := ⟨⟨G_mem (i := 1) (by decide +kernel) rfl, G_mem (i := 279) (by decide +kernel) rfl, by decide, by decide, by decide +kernel⟩, G_mem (i := 277) (by decide +kernel) rfl, G_mem (i := 278) (by decide +kernel) rfl⟩
theorem lk_X6_fine : k_lkV yX6_fine cX6_fine 5 (some .int) 3 := ⟨⟨G_mem (i := 1) (by decide +kernel) rfl, G_mem (i := 620) (by decide +kernel) rfl, by decide, by decide, by decide +kernel⟩, G_mem (i := 618) (by decide +kernel) rfl, G_mem (i := 619) (by decide +kernel) rfl⟩
theorem lk_X6_gatherer : k_lkV yX6_gatherer cX6_gatherer 3 (some .int) 2 := ⟨⟨G_mem (i := 1) (by decide +kernel) rfl, G_mem (i := 576) (by decide +kernel) rfl, by decide, by decide, by decide +kernel⟩, G_mem (i := 574) (by decide +kernel) rfl, G_mem (i := 575) (by decide +kernel) rfl⟩
theorem lk_X6_heap : k_lkV yX6_heap cX6_heap 4 (some .int) 3 := ⟨⟨G_mem (i := 1) (by decide +kernel) rfl, G_mem (i := 645) (by decide +kernel) rfl, by decide, by decide, by decide +kernel⟩, G_mem (i := 643) (by decide +kernel) rfl, G_mem (i := 644) (by decide +kernel) rfl⟩
theorem lk_X6_image : k_lkV yX6_image cX6_image 3 (some .int) 1 := ⟨⟨G_mem (i := 1) (by decide +kernel) rfl, G_mem (i := 664) (by decide +kernel) rfl, by decide, by decide, by decide +kernel⟩, G_mem (i := 662) (by decide +kernel) rfl, G_mem (i := 663) (by decide +kernel) rfl⟩
theorem lk_X6_names : k_lkV yX6_names cX6_names 2 (some .int) 1 := ⟨⟨G_mem (i := 1) (by decide +kernel) rfl, G_mem (i := 307) (by decide +kernel) rfl, by decide, by decide, by decide +kernel⟩, G_mem (i := 305) (by decide +kernel) rfl, G_mem (i := 306) (by decide +kernel) rfl⟩
theorem lk_X6_need : k_lkV yX6_need cX6_need 3 (some .int) 1 := ⟨⟨G_mem (i := 1) (by decide +kernel) rfl, G_mem (i := 380) (by decide +kernel) rfl, by decide, by decide, by decide +kernel⟩, G_mem (i := 378) (by decide +kernel) rfl, G_mem (i := 379) (by decide +kernel) rfl⟩
theorem lk_X6_restore : k_lkV yX6_restore cX6_restore 3 (some .int) 1 := ⟨⟨G_mem (i := 1) (by decide +kernel) rfl, G_mem (i := 684) (by decide +kernel) rfl, by decide, by decide, by decide +kernel⟩, G_mem (i := 682) (by decide +kernel) rfl, G_mem (i := 683) (by decide +kernel) rfl⟩
theorem lk_X6_rule : k_lkV yX6_rule cX6_rule 1 (some .int) 0 := ⟨⟨G_mem (i := 1) (by decide +kernel) rfl, G_mem (i := 384) (by decide +kernel) rfl, by decide, by decide, by decide +kernel⟩, G_mem (i := 382) (by decide +kernel) rfl, G_mem (i := 383) (by decide +kernel) rfl⟩
theorem lk_X6_say : k_lkV yX6_say cX6_say 2 (some .int) 1 := ⟨⟨G_mem (i := 1) (by decide +kernel) rfl, G_mem (i := 263) (by decide +kernel) rfl, by decide, by decide, by decide +kernel⟩, G_mem (i := 261) (by decide +kernel) rfl, G_mem (i := 262) (by decide +kernel) rfl⟩
theorem lk_X6_seems : k_lkV yX6_seems cX6_seems 3 (some .long) 2 := ⟨⟨G_mem (i := 1) (by decide +kernel) rfl, G_mem (i := 588) (by decide +kernel) rfl, by decide, by decide, by decide +kernel⟩, G_mem (i := 586) (by decide +kernel) rfl, G_mem (i := 587) (by decide +kernel) rfl⟩
theorem lk_X6_set : k_lkV yX6_set cX6_set 4 (some .int) 3 := ⟨⟨G_mem (i := 1) (by decide +kernel) rfl, G_mem (i := 320) (by decide +kernel) rfl, by decide, by decide, by decide +kernel⟩, G_mem (i := 318) (by decide +kernel) rfl, G_mem (i := 319) (by decide +kernel) rfl⟩
theorem lk_X6_shared : k_lkV yX6_shared cX6_shared 5 (some .long) 2 := ⟨⟨G_mem (i := 1) (by decide +kernel) rfl, G_mem (i := 609) (by decide +kernel) rfl, by decide, by decide, by decide +kernel⟩, G_mem (i := 607) (by decide +kernel) rfl, G_mem (i := 608) (by decide +kernel) rfl⟩
theorem lk_X6_sheet : k_lkV yX6_sheet cX6_sheet 3 (some .int) 2 := ⟨⟨G_mem (i := 1) (by decide +kernel) rfl, G_mem (i := 336) (by decide +kernel) rfl, by decide, by decide, by decide +kernel⟩, G_mem (i := 334) (by decide +kernel) rfl, G_mem (i := 335) (by decide +kernel) rfl⟩
theorem lk_X6_strike : k_lkV yX6_strike cX6_strike 2 (some .int) 1 := ⟨⟨G_mem (i := 1) (by decide +kernel) rfl, G_mem (i := 628) (by decide +kernel) rfl, by decide, by decide, by decide +kernel⟩, G_mem (i := 626) (by decide +kernel) rfl, G_mem (i := 627) (by decide +kernel) rfl⟩
theorem lk_X6_suspect : k_lkV yX6_suspect cX6_suspect 3 (some .int) 0 := ⟨⟨G_mem (i := 1) (by decide +kernel) rfl, G_mem (i := 597) (by decide +kernel) rfl, by decide, by decide, by decide +kernel⟩, G_mem (i := 595) (by decide +kernel) rfl, G_mem (i := 596) (by decide +kernel) rfl⟩
theorem lk_X6_told : k_lkV yX6_told cX6_told 2 (some .int) 1 := ⟨⟨G_mem (i := 1) (by decide +kernel) rfl, G_mem (i := 688) (by decide +kernel) rfl, by decide, by decide, by decide +kernel⟩, G_mem (i := 686) (by decide +kernel) rfl, G_mem (i := 687) (by decide +kernel) rfl⟩
theorem lk_X6_word : k_lkV yX6_word cX6_word 6 (some .long) 3 := ⟨⟨G_mem (i := 1) (by decide +kernel) rfl, G_mem (i := 624) (by decide +kernel) rfl, by decide, by decide, by decide +kernel⟩, G_mem (i := 622) (by decide +kernel) rfl, G_mem (i := 623) (by decide +kernel) rfl⟩
theorem lk_X6_worst : k_lkV yX6_worst cX6_worst 5 (some .int) 0 := ⟨⟨G_mem (i := 1) (by decide +kernel) rfl, G_mem (i := 636) (by decide +kernel) rfl, by decide, by decide, by decide +kernel⟩, G_mem (i := 634) (by decide +kernel) rfl, G_mem (i := 635) (by decide +kernel) rfl⟩
theorem lk_X6_worth : k_lkV yX6_worth cX6_worth 5 (some .long) 4 := ⟨⟨G_mem (i := 1) (by decide +kernel) rfl, G_mem (i := 567) (by decide +kernel) rfl, by decide, by decide, by decide +kernel⟩, G_mem (i := 565) (by decide +kernel) rfl, G_mem (i := 566) (by decide +kernel) rfl⟩
theorem lk_X6_wrong : k_lkV yX6_wrong cX6_wrong 4 (some .long) 2 := ⟨⟨G_mem (i := 1) (by decide +kernel) rfl, G_mem (i := 551) (by decide +kernel) rfl, by decide, by decide, by decide +kernel⟩, G_mem (i := 549) (by decide +kernel) rfl, G_mem (i := 550) (by decide +kernel) rfl⟩
theorem lk_X6_yes : k_lkV yX6_yes cX6_yes 4 (some .long) 2 := ⟨⟨G_mem (i := 1) (by decide +kernel) rfl, G_mem (i := 451) (by decide +kernel) rfl, by decide, by decide, by decide +kernel⟩, G_mem (i := 449) (by decide +kernel) rfl, G_mem (i := 450) (by decide +kernel) rfl⟩
theorem lk_X7_against : k_lkV yX7_against cX7_against 8 (some .int) 2 := ⟨⟨G_mem (i := 13) (by decide +kernel) rfl, G_mem (i := 983) (by decide +kernel) rfl, by decide, by decide, by decide +kernel⟩, G_mem (i := 981) (by decide +kernel) rfl, G_mem (i := 982) (by decide +kernel) rfl⟩
theorem lk_X7_bySheets : k_lkV yX7_bySheets cX7_bySheets 10 (some .long) 2 := ⟨⟨G_mem (i := 13) (by decide +kernel) rfl, G_mem (i := 903) (by decide +kernel) rfl, by decide, by decide, by decide +kernel⟩, G_mem (i := 901) (by decide +kernel) rfl, G_mem (i := 902) (by decide +kernel) rfl⟩
theorem lk_X7_comes : k_lkV yX7_comes cX7_comes 6 (some .long) 5 := ⟨⟨G_mem (i := 13) (by decide +kernel) rfl, G_mem (i := 855) (by decide +kernel) rfl, by decide, by decide, by decide +kernel⟩, G_mem (i := 853) (by decide +kernel) rfl, G_mem (i := 854) (by decide +kernel) rfl⟩
theorem lk_X7_count : k_lkV yX7_count cX7_count 2 (some .int) 1 := ⟨⟨G_mem (i := 13) (by decide +kernel) rfl, G_mem (i := 831) (by decide +kernel) rfl, by decide, by decide, by decide +kernel⟩, G_mem (i := 829) (by decide +kernel) rfl, G_mem (i := 830) (by decide +kernel) rfl⟩
theorem lk_X7_enough : k_lkV yX7_enough cX7_enough 5 (some .int) 1 := ⟨⟨G_mem (i := 13) (by decide +kernel) rfl, G_mem (i := 919) (by decide +kernel) rfl, by decide, by decide, by decide +kernel⟩, G_mem (i := 917) (by decide +kernel) rfl, G_mem (i := 918) (by decide +kernel) rfl⟩
theorem lk_X7_fault : k_lkV yX7_fault cX7_fault 2 (some .int) 1 := ⟨⟨G_mem (i := 13) (by decide +kernel) rfl, G_mem (i := 795) (by decide +kernel) rfl, by decide, by decide, by decide +kernel⟩, G_mem (i := 793) (by decide +kernel) rfl, G_mem (i := 794) (by decide +kernel) rfl⟩
theorem lk_X7_fine : k_lkV yX7_fine cX7_fine 5 (some .int) 3 := ⟨⟨G_mem (i := 13) (by decide +kernel) rfl, G_mem (i := 959) (by decide +kernel) rfl, by decide, by decide, by decide +kernel⟩, G_mem (i := 957) (by decide +kernel) rfl, G_mem (i := 958) (by decide +kernel) rfl⟩
theorem lk_X7_gatherer : k_lkV yX7_gatherer cX7_gatherer 3 (some .int) 2 := ⟨⟨G_mem (i := 13) (by decide +kernel) rfl, G_mem (i := 928) (by decide +kernel) rfl, by decide, by decide, by decide +kernel⟩, G_mem (i := 926) (by decide +kernel) rfl, G_mem (i := 927) (by decide +kernel) rfl⟩
theorem lk_X7_heap : k_lkV yX7_heap cX7_heap 14 (some .int) 3 := ⟨⟨G_mem (i := 13) (by decide +kernel) rfl, G_mem (i := 988) (by decide +kernel) rfl, by decide, by decide, by decide +kernel⟩, G_mem (i := 986) (by decide +kernel) rfl, G_mem (i := 987) (by decide +kernel) rfl⟩
theorem lk_X7_image : k_lkV yX7_image cX7_image 4 (some .int) 1 := ⟨⟨G_mem (i := 13) (by decide +kernel) rfl, G_mem (i := 993) (by decide +kernel) rfl, by decide, by decide, by decide +kernel⟩, G_mem (i := 991) (by decide +kernel) rfl, G_mem (i := 992) (by decide +kernel) rfl⟩
theorem lk_X7_names : k_lkV yX7_names cX7_names 3 (some .int) 1 := ⟨⟨G_mem (i := 13) (by decide +kernel) rfl, G_mem (i := 816) (by decide +kernel) rfl, by decide, by decide, by decide +kernel⟩, G_mem (i := 814) (by decide +kernel) rfl, G_mem (i := 815) (by decide +kernel) rfl⟩
theorem lk_X7_need : k_lkV yX7_need cX7_need 3 (some .int) 1 := ⟨⟨G_mem (i := 13) (by decide +kernel) rfl, G_mem (i := 847) (by decide +kernel) rfl, by decide, by decide, by decide +kernel⟩, G_mem (i := 845) (by decide +kernel) rfl, G_mem (i := 846) (by decide +kernel) rfl⟩
theorem lk_X7_restore : k_lkV yX7_restore cX7_restore 4 (some .int) 1 := ⟨⟨G_mem (i := 13) (by decide +kernel) rfl, G_mem (i := 997) (by decide +kernel) rfl, by decide, by decide, by decide +kernel⟩, G_mem (i := 995) (by decide +kernel) rfl, G_mem (i := 996) (by decide +kernel) rfl⟩
theorem lk_X7_rule : k_lkV yX7_rule cX7_rule 2 (some .int) 0 := ⟨⟨G_mem (i := 13) (by decide +kernel) rfl, G_mem (i := 851) (by decide +kernel) rfl, by decide, by decide, by decide +kernel⟩, G_mem (i := 849) (by decide +kernel) rfl, G_mem (i := 850) (by decide +kernel) rfl⟩
theorem lk_X7_say : k_lkV yX7_say cX7_say 2 (some .int) 1 := ⟨⟨G_mem (i := 13) (by decide +kernel) rfl, G_mem (i := 784) (by decide +kernel) rfl, by decide, by decide, by decide +kernel⟩, G_mem (i := 782) (by decide +kernel) rfl, G_mem (i := 783) (by decide +kernel) rfl⟩
theorem lk_X7_seems : k_lkV yX7_seems cX7_seems 3 (some .long) 2 := ⟨⟨G_mem (i := 13) (by decide +kernel) rfl, G_mem (i := 939) (by decide +kernel) rfl, by decide, by decide, by decide +kernel⟩, G_mem (i := 937) (by decide +kernel) rfl, G_mem (i := 938) (by decide +kernel) rfl⟩
theorem lk_X7_set : k_lkV yX7_set cX7_set 5 (some .int) 3 := ⟨⟨G_mem (i := 13) (by decide +kernel) rfl, G_mem (i := 823) (by decide +kernel) rfl, by decide, by decide, by decide +kernel⟩, G_mem (i := 821) (by decide +kernel) rfl, G_mem (i := 822) (by decide +kernel) rfl⟩
theorem lk_X7_shared : k_lkV yX7_shared cX7_shared 6 (some .long) 2 := ⟨⟨G_mem (i := 13) (by decide +kernel) rfl, G_mem (i := 955) (by decide +kernel) rfl, by decide, by decide, by decide +kernel⟩, G_mem (i := 953) (by decide +kernel) rfl, G_mem (i := 954) (by decide +kernel) rfl⟩
theorem lk_X7_sheet : k_lkV yX7_sheet cX7_sheet 3 (some .int) 2 := ⟨⟨G_mem (i := 13) (by decide +kernel) rfl, G_mem (i := 827) (by decide +kernel) rfl, by decide, by decide, by decide +kernel⟩, G_mem (i := 825) (by decide +kernel) rfl, G_mem (i := 826) (by decide +kernel) rfl⟩
theorem lk_X7_strike : k_lkV yX7_strike cX7_strike 2 (some .int) 1 := ⟨⟨G_mem (i := 13) (by decide +kernel) rfl, G_mem (i := 967) (by decide +kernel) rfl, by decide, by decide, by decide +kernel⟩, G_mem (i := 965) (by decide +kernel) rfl, G_mem (i := 966) (by decide +kernel) rfl⟩
theorem lk_X7_suspect : k_lkV yX7_suspect cX7_suspect 7 (some .int) 0 := ⟨⟨G_mem (i := 13) (by decide +kernel) rfl, G_mem (i := 948) (by decide +kernel) rfl, by decide, by decide, by decide +kernel⟩, G_mem (i := 946) (by decide +kernel) rfl, G_mem (i := 947) (by decide +kernel) rfl⟩
theorem lk_X7_told : k_lkV yX7_told cX7_told 2 (some .int) 1 := ⟨⟨G_mem (i := 13) (by decide +kernel) rfl, G_mem (i := 1001) (by decide +kernel) rfl, by decide, by decide, by decide +kernel⟩, G_mem (i := 999) (by decide +kernel) rfl, G_mem (i := 1000) (by decide +kernel) rfl⟩
theorem lk_X7_wipe : k_lkV yX7_wipe cX7_wipe 2 (some .int) 0 := ⟨⟨G_mem (i := 13) (by decide +kernel) rfl, G_mem (i := 791) (by decide +kernel) rfl, by decide, by decide, by decide +kernel⟩, G_mem (i := 789) (by decide +kernel) rfl, G_mem (i := 790) (by decide +kernel) rfl⟩
theorem lk_X7_word : k_lkV yX7_word cX7_word 8 (some .long) 3 := ⟨⟨G_mem (i := 13) (by decide +kernel) rfl, G_mem (i := 963) (by decide +kernel) rfl, by decide, by decide, by decide +kernel⟩, G_mem (i := 961) (by decide +kernel) rfl, G_mem (i := 962) (by decide +kernel) rfl⟩
theorem lk_X7_worst : k_lkV yX7_worst cX7_worst 6 (some .int) 0 := ⟨⟨G_mem (i := 13) (by decide +kernel) rfl, G_mem (i := 979) (by decide +kernel) rfl, by decide, by decide, by decide +kernel⟩, G_mem (i := 977) (by decide +kernel) rfl, G_mem (i := 978) (by decide +kernel) rfl⟩
theorem lk_X7_worth : k_lkV yX7_worth cX7_worth 10 (some .long) 4 := ⟨⟨G_mem (i := 13) (by decide +kernel) rfl, G_mem (i := 924) (by decide +kernel) rfl, by decide, by decide, by decide +kernel⟩, G_mem (i := 922) (by decide +kernel) rfl, G_mem (i := 923) (by decide +kernel) rfl⟩
theorem lk_X7_wrong : k_lkV yX7_wrong cX7_wrong 4 (some .long) 2 := ⟨⟨G_mem (i := 13) (by decide +kernel) rfl, G_mem (i := 911) (by decide +kernel) rfl, by decide, by decide, by decide +kernel⟩, G_mem (i := 909) (by decide +kernel) rfl, G_mem (i := 910) (by decide +kernel) rfl⟩
theorem lk_X7_yes : k_lkV yX7_yes cX7_yes 4 (some .long) 2 := ⟨⟨G_mem (i := 13) (by decide +kernel) rfl, G_mem (i := 871) (by decide +kernel) rfl, by decide, by decide, by decide +kernel⟩, G_mem (i := 869) (by decide +kernel) rfl, G_mem (i := 870) (by decide +kernel) rfl⟩
set_option maxRecDepth 100000 in
set_option maxHeartbeats 4000000 in
theorem wL_law_b1002 {D : va_G} {l : Launch} {E : k_E} {N : Nat} {b L : Nat} {xs : Nat → Int32} {a : Nat → Nat} {am : Nat → Nat} {k18 : Int32 → VX5 → VX3 → VX3 → VX3 → VX4 → VX4 → VX1 → VX2 → VX0 → VX0 → (Nat → Int32) → VMp → VMg → VMl → VMq → VMh → VMs → (Nat → Int32) → VMi → Option (Bool)} {v3 : Int32} {pad : VX5} {now : VX3} {fi : VX3} {se : VX3} {li : VX4} {so : VX4} {lo : VX1} {re : VX2} {ru : VX0} {ot : VX0} {le : Nat → Int32} {mp : VMp} {mg : VMg} {mc : Nat → Int64} {ml : VMl} {mq : VMq} {mh : VMh} {ms : VMs} {mr : Nat → Int32} {mi : VMi} {res : Bool} (X : k_X D E cL_law RL 4 7 193) (XL : k_XL E b L xs) (hk18 : ∀ (p3 : Int32) (pad : VX5) (now : VX3) (fi : VX3) (se : VX3) (li : VX4) (so : VX4) (lo : VX1) (re : VX2) (ru : VX0) (ot : VX0) (le : Nat → Int32) (mp : VMp) (mg : VMg) (ml : VMl) (mq : VMq) (mh : VMh) (ms : VMs) (mr : Nat → Int32) (mi : VMi), k18 p3 pad now fi se li so lo re ru ot le mp mg ml mq mh ms mr mi = some res → k_G D l E (pic_X6 D a pad now fi se li so lo re ru ot le ++ pic_X7 D am mp mg mc ml mq mh ms mr mi) [(0, .ref b), (1, .ref (a 0)), (2, .ref (am 0)), (3, .int p3)] 18 []) (hret : ∀ (pad : VX5) (now : VX3) (fi : VX3) (se : VX3) (li : VX4) (so : VX4) (lo : VX1) (re : VX2) (ru : VX0) (ot : VX0) (le : Nat → Int32) (mp : VMp) (mg : VMg) (mc : Nat → Int64) (ml : VMl) (mq : VMq) (mh : VMh) (ms : VMs) (mr : Nat → Int32) (mi : VMi) (pc : Nat) (lv : List (Nat × Value)), decode cL_law pc = .ok (.ireturn, 1) → k_G D l E (pic_X6 D a pad now fi se li so lo re ru ot le ++ pic_X7 D am mp mg mc ml mq mh ms mr mi) lv pc [.int (bI res)]) (hf : fL_law_b1002 N L xs mc k18 v3 pad now fi se li so lo re ru ot le mp mg ml mq mh ms mr mi = some res) : k_G D l E (pic_X6 D a pad now fi se li so lo re ru ot le ++ pic_X7 D am mp mg mc ml mq mh ms mr mi) [(0, .ref b), (1, .ref (a 0)), (2, .ref (am 0)), (3, .int v3)] 1002 [] := by
  unfold fL_law_b1002 at hf
  refine g_iinc X dL_law_1002 3 rfl (v := v3 + 6) rfl (by decide) (lv2 := [(3, .int (v3 + 6)), (0, .ref b), (1, .ref (a 0)), (2, .ref (am 0))]) rfl (n := 1005) rfl ?_
  refine g_goto X dL_law_1005 (n := 18) (by decide) ?_
  refine g_sub [1, 2, 3, 0] (lv' := [(0, .ref b), (1, .ref (a 0)), (2, .ref (am 0)), (3, .int (v3 + 6))]) rfl ?_
  exact hk18 _ _ _ _ _ _ _ _ _ _ _ _ _ _ _ _ _ _ _ _ hf
set_option maxRecDepth 100000 in
set_option maxHeartbeats 4000000 in
theorem wL_law_b160 {D : va_G} {l : Launch} {E : k_E} {N : Nat} {b L : Nat} {xs : Nat → Int32} {a : Nat → Nat} {am : Nat → Nat} {k18 : Int32 → VX5 → VX3 → VX3 → VX3 → VX4 → VX4 → VX1 → VX2 → VX0 → VX0 → (Nat → Int32) → VMp → VMg → VMl → VMq → VMh → VMs → (Nat → Int32) → VMi → Option (Bool)} {v3 : Int32} {pad : VX5} {now : VX3} {fi : VX3} {se : VX3} {li : VX4} {so : VX4} {lo : VX1} {re : VX2} {ru : VX0} {ot : VX0} {le : Nat → Int32} {mp : VMp} {mg : VMg} {mc : Nat → Int64} {ml : VMl} {mq : VMq} {mh : VMh} {ms : VMs} {mr : Nat → Int32} {mi : VMi} {res : Bool} (X : k_X D E cL_law RL 4 7 193) (XL : k_XL E b L xs) (hk18 : ∀ (p3 : Int32) (pad : VX5) (now : VX3) (fi : VX3) (se : VX3) (li : VX4) (so : VX4) (lo : VX1) (re : VX2) (ru : VX0) (ot : VX0) (le : Nat → Int32) (mp : VMp) (mg : VMg) (ml : VMl) (mq : VMq) (mh : VMh) (ms : VMs) (mr : Nat → Int32) (mi : VMi), k18 p3 pad now fi se li so lo re ru ot le mp mg ml mq mh ms mr mi = some res → k_G D l E (pic_X6 D a pad now fi se li so lo re ru ot le ++ pic_X7 D am mp mg mc ml mq mh ms mr mi) [(0, .ref b), (1, .ref (a 0)), (2, .ref (am 0)), (3, .int p3)] 18 []) (hret : ∀ (pad : VX5) (now : VX3) (fi : VX3) (se : VX3) (li : VX4) (so : VX4) (lo : VX1) (re : VX2) (ru : VX0) (ot : VX0) (le : Nat → Int32) (mp : VMp) (mg : VMg) (mc : Nat → Int64) (ml : VMl) (mq : VMq) (mh : VMh) (ms : VMs) (mr : Nat → Int32) (mi : VMi) (pc : Nat) (lv : List (Nat × Value)), decode cL_law pc = .ok (.ireturn, 1) → k_G D l E (pic_X6 D a pad now fi se li so lo re ru ot le ++ pic_X7 D am mp mg mc ml mq mh ms mr mi) lv pc [.int (bI res)]) (hf : fL_law_b160 N L xs mc k18 v3 pad now fi se li so lo re ru ot le mp mg ml mq mh ms mr mi = some res) : k_G D l E (pic_X6 D a pad now fi se li so lo re ru ot le ++ pic_X7 D am mp mg mc ml mq mh ms mr mi) [(0, .ref b), (1, .ref (a 0)), (2, .ref (am 0)), (3, .int v3)] 160 [] := by
  unfold fL_law_b160 at hf
  refine g_aload_n X dL_law_160 1 rfl rfl (n := 161) rfl ?_
  refine g_aload_n X dL_law_161 0 rfl rfl (n := 162) rfl ?_
  refine g_iload_n X dL_law_162 3 rfl rfl (n := 163) rfl ?_
  refine g_iconst X dL_law_163 (v := 1) (by decide) (n := 164) rfl ?_
  refine g_iadd X dL_law_164 (n := 165) rfl ?_
  obtain ⟨h_1, hf⟩ := k_guard hf
  refine g_sld X XL dL_law_165 h_1 (n := 166) rfl ?_
  obtain ⟨x_2, pad_3, g_4, hf⟩ := k_b2s hf
  refine g_callVL X (mX6_say (D := D) (l := l) (a := a) (now := now) (fi := fi) (se := se) (li := li) (so := so) (lo := lo) (re := re) (ru := ru) (ot := ot) (le := le) g_4) lk_X6_say mlL_13 dL_law_166 (n := 169) rfl (st := []) rfl (st2 := [.int x_2]) rfl rfl rfl rfl (ad_X6 _ _ _ _ _ _ _ _ _ _ _ _ _ _ _ _ _ _ _ _ _ _ _ _) rfl ⟨Nat.le_of_ble_eq_true rfl, Nat.le_of_ble_eq_true rfl⟩ (Nat.le_of_ble_eq_true rfl) ?_
  refine g_aload_n X dL_law_169 2 rfl rfl (n := 170) rfl ?_
  refine g_aload_n X dL_law_170 0 rfl rfl (n := 171) rfl ?_
  refine g_iload_n X dL_law_171 3 rfl rfl (n := 172) rfl ?_
  refine g_iconst X dL_law_172 (v := 1) (by decide) (n := 173) rfl ?_
  refine g_iadd X dL_law_173 (n := 174) rfl ?_
  obtain ⟨h_5, hf⟩ := k_guard hf
  refine g_sld X XL dL_law_174 h_5 (n := 175) rfl ?_
  obtain ⟨x_6, mp_7, g_8, hf⟩ := k_b2s hf
  refine g_callVR X (mX7_say (D := D) (l := l) (a := am) (mg := mg) (mc := mc) (ml := ml) (mq := mq) (mh := mh) (ms := ms) (mr := mr) (mi := mi) g_8) lk_X7_say mlL_17 dL_law_175 (n := 178) rfl (st := [.int x_2]) rfl (st2 := [.int x_6, .int x_2]) rfl rfl rfl rfl (ad_X7 _ _ _ _ _ _ _ _ _ _ _ _ _ _ _ _ _ _ _ _) rfl ⟨Nat.le_of_ble_eq_true rfl, Nat.le_of_ble_eq_true rfl⟩ (Nat.le_of_ble_eq_true rfl) ?_
  refine g_icmp_eq X dL_law_178 (t := 1002) (by decide) (n := 181) rfl (fun c_9 => ?_) (fun c_9 => ?_)
  · replace hf := k_pos c_9 hf
    refine g_sub [0, 1, 2, 3] (lv' := [(0, .ref b), (1, .ref (a 0)), (2, .ref (am 0)), (3, .int v3)]) rfl ?_
    exact wL_law_b1002 X XL hk18 hret hf
  · replace hf := k_neg c_9 hf
    refine g_iconst X dL_law_181 (v := 0) (by decide) (n := 182) rfl ?_
    obtain rfl := Option.some.inj hf
    exact hret _ _ _ _ _ _ _ _ _ _ _ _ _ _ _ _ _ _ _ _ _ _ dL_law_182
set_option maxRecDepth 100000 in
set_option maxHeartbeats 4000000 in
theorem wL_law_b183 {D : va_G} {l : Launch} {E : k_E} {N : Nat} {b L : Nat} {xs : Nat → Int32} {a : Nat → Nat} {am : Nat → Nat} {k18 : Int32 → VX5 → VX3 → VX3 → VX3 → VX4 → VX4 → VX1 → VX2 → VX0 → VX0 → (Nat → Int32) → VMp → VMg → VMl → VMq → VMh → VMs → (Nat → Int32) → VMi → Option (Bool)} {v3 : Int32} {pad : VX5} {now : VX3} {fi : VX3} {se : VX3} {li : VX4} {so : VX4} {lo : VX1} {re : VX2} {ru : VX0} {ot : VX0} {le : Nat → Int32} {mp : VMp} {mg : VMg} {mc : Nat → Int64} {ml : VMl} {mq : VMq} {mh : VMh} {ms : VMs} {mr : Nat → Int32} {mi : VMi} {res : Bool} (X : k_X D E cL_law RL 4 7 193) (XL : k_XL E b L xs) (hk18 : ∀ (p3 : Int32) (pad : VX5) (now : VX3) (fi : VX3) (se : VX3) (li : VX4) (so : VX4) (lo : VX1) (re : VX2) (ru : VX0) (ot : VX0) (le : Nat → Int32) (mp : VMp) (mg : VMg) (ml : VMl) (mq : VMq) (mh : VMh) (ms : VMs) (mr : Nat → Int32) (mi : VMi), k18 p3 pad now fi se li so lo re ru ot le mp mg ml mq mh ms mr mi = some res → k_G D l E (pic_X6 D a pad now fi se li so lo re ru ot le ++ pic_X7 D am mp mg mc ml mq mh ms mr mi) [(0, .ref b), (1, .ref (a 0)), (2, .ref (am 0)), (3, .int p3)] 18 []) (hret : ∀ (pad : VX5) (now : VX3) (fi : VX3) (se : VX3) (li : VX4) (so : VX4) (lo : VX1) (re : VX2) (ru : VX0) (ot : VX0) (le : Nat → Int32) (mp : VMp) (mg : VMg) (mc : Nat → Int64) (ml : VMl) (mq : VMq) (mh : VMh) (ms : VMs) (mr : Nat → Int32) (mi : VMi) (pc : Nat) (lv : List (Nat × Value)), decode cL_law pc = .ok (.ireturn, 1) → k_G D l E (pic_X6 D a pad now fi se li so lo re ru ot le ++ pic_X7 D am mp mg mc ml mq mh ms mr mi) lv pc [.int (bI res)]) (hf : fL_law_b183 N L xs mc k18 v3 pad now fi se li so lo re ru ot le mp mg ml mq mh ms mr mi = some res) : k_G D l E (pic_X6 D a pad now fi se li so lo re ru ot le ++ pic_X7 D am mp mg mc ml mq mh ms mr mi) [(0, .ref b), (1, .ref (a 0)), (2, .ref (am 0)), (3, .int v3)] 183 [] := by
  unfold fL_law_b183 at hf
  refine g_aload_n X dL_law_183 1 rfl rfl (n := 184) rfl ?_
  obtain ⟨x_1, pad_2, g_3, hf⟩ := k_b2s hf
  refine g_callVL X (mX6_wipe (D := D) (l := l) (a := a) (now := now) (fi := fi) (se := se) (li := li) (so := so) (lo := lo) (re := re) (ru := ru) (ot := ot) (le := le) g_3) lk_X6_wipe mlL_18 dL_law_184 (n := 187) rfl (st := []) rfl (st2 := [.int x_1]) rfl rfl rfl rfl (ad_X6 _ _ _ _ _ _ _ _ _ _ _ _ _ _ _ _ _ _ _ _ _ _ _ _) rfl ⟨Nat.le_of_ble_eq_true rfl, Nat.le_of_ble_eq_true rfl⟩ (Nat.le_of_ble_eq_true rfl) ?_
  refine g_aload_n X dL_law_187 2 rfl rfl (n := 188) rfl ?_
  obtain ⟨x_4, mp_5, g_6, hf⟩ := k_b2s hf
  refine g_callVR X (mX7_wipe (D := D) (l := l) (a := am) (mg := mg) (mc := mc) (ml := ml) (mq := mq) (mh := mh) (ms := ms) (mr := mr) (mi := mi) g_6) lk_X7_wipe mlL_22 dL_law_188 (n := 191) rfl (st := [.int x_1]) rfl (st2 := [.int x_4, .int x_1]) rfl rfl rfl rfl (ad_X7 _ _ _ _ _ _ _ _ _ _ _ _ _ _ _ _ _ _ _ _) rfl ⟨Nat.le_of_ble_eq_true rfl, Nat.le_of_ble_eq_true rfl⟩ (Nat.le_of_ble_eq_true rfl) ?_
  refine g_icmp_eq X dL_law_191 (t := 1002) (by decide) (n := 194) rfl (fun c_7 => ?_) (fun c_7 => ?_)
  · replace hf := k_pos c_7 hf
    refine g_sub [0, 1, 2, 3] (lv' := [(0, .ref b), (1, .ref (a 0)), (2, .ref (am 0)), (3, .int v3)]) rfl ?_
    exact wL_law_b1002 X XL hk18 hret hf
  · replace hf := k_neg c_7 hf
    refine g_iconst X dL_law_194 (v := 0) (by decide) (n := 195) rfl ?_
    obtain rfl := Option.some.inj hf
    exact hret _ _ _ _ _ _ _ _ _ _ _ _ _ _ _ _ _ _ _ _ _ _ dL_law_195
set_option maxRecDepth 100000 in
set_option maxHeartbeats 4000000 in
theorem wL_law_b196 {D : va_G} {l : Launch} {E : k_E} {N : Nat} {b L : Nat} {xs : Nat → Int32} {a : Nat → Nat} {am : Nat → Nat} {k18 : Int32 → VX5 → VX3 → VX3 → VX3 → VX4 → VX4 → VX1 → VX2 → VX0 → VX0 → (Nat → Int32) → VMp → VMg → VMl → VMq → VMh → VMs → (Nat → Int32) → VMi → Option (Bool)} {v3 : Int32} {pad : VX5} {now : VX3} {fi : VX3} {se : VX3} {li : VX4} {so : VX4} {lo : VX1} {re : VX2} {ru : VX0} {ot : VX0} {le : Nat → Int32} {mp : VMp} {mg : VMg} {mc : Nat → Int64} {ml : VMl} {mq : VMq} {mh : VMh} {ms : VMs} {mr : Nat → Int32} {mi : VMi} {res : Bool} (X : k_X D E cL_law RL 4 7 193) (XL : k_XL E b L xs) (hk18 : ∀ (p3 : Int32) (pad : VX5) (now : VX3) (fi : VX3) (se : VX3) (li : VX4) (so : VX4) (lo : VX1) (re : VX2) (ru : VX0) (ot : VX0) (le : Nat → Int32) (mp : VMp) (mg : VMg) (ml : VMl) (mq : VMq) (mh : VMh) (ms : VMs) (mr : Nat → Int32) (mi : VMi), k18 p3 pad now fi se li so lo re ru ot le mp mg ml mq mh ms mr mi = some res → k_G D l E (pic_X6 D a pad now fi se li so lo re ru ot le ++ pic_X7 D am mp mg mc ml mq mh ms mr mi) [(0, .ref b), (1, .ref (a 0)), (2, .ref (am 0)), (3, .int p3)] 18 []) (hret : ∀ (pad : VX5) (now : VX3) (fi : VX3) (se : VX3) (li : VX4) (so : VX4) (lo : VX1) (re : VX2) (ru : VX0) (ot : VX0) (le : Nat → Int32) (mp : VMp) (mg : VMg) (mc : Nat → Int64) (ml : VMl) (mq : VMq) (mh : VMh) (ms : VMs) (mr : Nat → Int32) (mi : VMi) (pc : Nat) (lv : List (Nat × Value)), decode cL_law pc = .ok (.ireturn, 1) → k_G D l E (pic_X6 D a pad now fi se li so lo re ru ot le ++ pic_X7 D am mp mg mc ml mq mh ms mr mi) lv pc [.int (bI res)]) (hf : fL_law_b196 N L xs mc k18 v3 pad now fi se li so lo re ru ot le mp mg ml mq mh ms mr mi = some res) : k_G D l E (pic_X6 D a pad now fi se li so lo re ru ot le ++ pic_X7 D am mp mg mc ml mq mh ms mr mi) [(0, .ref b), (1, .ref (a 0)), (2, .ref (am 0)), (3, .int v3)] 196 [] := by
  unfold fL_law_b196 at hf
  refine g_aload_n X dL_law_196 1 rfl rfl (n := 197) rfl ?_
  refine g_aload_n X dL_law_197 0 rfl rfl (n := 198) rfl ?_
  refine g_iload_n X dL_law_198 3 rfl rfl (n := 199) rfl ?_
  refine g_iconst X dL_law_199 (v := 1) (by decide) (n := 200) rfl ?_
  refine g_iadd X dL_law_200 (n := 201) rfl ?_
  obtain ⟨h_1, hf⟩ := k_guard hf
  refine g_sld X XL dL_law_201 h_1 (n := 202) rfl ?_
  obtain ⟨x_2, g_3, hf⟩ := k_b1s hf
  refine g_callVL X (mX6_fault (D := D) (l := l) (a := a) (now := now) (fi := fi) (se := se) (li := li) (so := so) (lo := lo) (re := re) (ru := ru) (ot := ot) (le := le) g_3) lk_X6_fault mlL_23 dL_law_202 (n := 205) rfl (st := []) rfl (st2 := [.int x_2]) rfl rfl rfl rfl (ad_X6 _ _ _ _ _ _ _ _ _ _ _ _ _ _ _ _ _ _ _ _ _ _ _ _) rfl ⟨Nat.le_of_ble_eq_true rfl, Nat.le_of_ble_eq_true rfl⟩ (Nat.le_of_ble_eq_true rfl) ?_
  refine g_aload_n X dL_law_205 2 rfl rfl (n := 206) rfl ?_
  refine g_aload_n X dL_law_206 0 rfl rfl (n := 207) rfl ?_
  refine g_iload_n X dL_law_207 3 rfl rfl (n := 208) rfl ?_
  refine g_iconst X dL_law_208 (v := 1) (by decide) (n := 209) rfl ?_
  refine g_iadd X dL_law_209 (n := 210) rfl ?_
  obtain ⟨h_4, hf⟩ := k_guard hf
  refine g_sld X XL dL_law_210 h_4 (n := 211) rfl ?_
  obtain ⟨x_5, g_6, hf⟩ := k_b1s hf
  refine g_callVR X (mX7_fault (D := D) (l := l) (a := am) (mg := mg) (mc := mc) (ml := ml) (mq := mq) (mh := mh) (ms := ms) (mr := mr) (mi := mi) g_6) lk_X7_fault mlL_26 dL_law_211 (n := 214) rfl (st := [.int x_2]) rfl (st2 := [.int x_5, .int x_2]) rfl rfl rfl rfl (ad_X7 _ _ _ _ _ _ _ _ _ _ _ _ _ _ _ _ _ _ _ _) rfl ⟨Nat.le_of_ble_eq_true rfl, Nat.le_of_ble_eq_true rfl⟩ (Nat.le_of_ble_eq_true rfl) ?_
  refine g_icmp_eq X dL_law_214 (t := 1002) (by decide) (n := 217) rfl (fun c_7 => ?_) (fun c_7 => ?_)
  · replace hf := k_pos c_7 hf
    refine g_sub [0, 1, 2, 3] (lv' := [(0, .ref b), (1, .ref (a 0)), (2, .ref (am 0)), (3, .int v3)]) rfl ?_
    exact wL_law_b1002 X XL hk18 hret hf
  · replace hf := k_neg c_7 hf
    refine g_iconst X dL_law_217 (v := 0) (by decide) (n := 218) rfl ?_
    obtain rfl := Option.some.inj hf
    exact hret _ _ _ _ _ _ _ _ _ _ _ _ _ _ _ _ _ _ _ _ _ _ dL_law_218
set_option maxRecDepth 100000 in
set_option maxHeartbeats 4000000 in
theorem wL_law_b219 {D : va_G} {l : Launch} {E : k_E} {N : Nat} {b L : Nat} {xs : Nat → Int32} {a : Nat → Nat} {am : Nat → Nat} {k18 : Int32 → VX5 → VX3 → VX3 → VX3 → VX4 → VX4 → VX1 → VX2 → VX0 → VX0 → (Nat → Int32) → VMp → VMg → VMl → VMq → VMh → VMs → (Nat → Int32) → VMi → Option (Bool)} {v3 : Int32} {pad : VX5} {now : VX3} {fi : VX3} {se : VX3} {li : VX4} {so : VX4} {lo : VX1} {re : VX2} {ru : VX0} {ot : VX0} {le : Nat → Int32} {mp : VMp} {mg : VMg} {mc : Nat → Int64} {ml : VMl} {mq : VMq} {mh : VMh} {ms : VMs} {mr : Nat → Int32} {mi : VMi} {res : Bool} (X : k_X D E cL_law RL 4 7 193) (XL : k_XL E b L xs) (hk18 : ∀ (p3 : Int32) (pad : VX5) (now : VX3) (fi : VX3) (se : VX3) (li : VX4) (so : VX4) (lo : VX1) (re : VX2) (ru : VX0) (ot : VX0) (le : Nat → Int32) (mp : VMp) (mg : VMg) (ml : VMl) (mq : VMq) (mh : VMh) (ms : VMs) (mr : Nat → Int32) (mi : VMi), k18 p3 pad now fi se li so lo re ru ot le mp mg ml mq mh ms mr mi = some res → k_G D l E (pic_X6 D a pad now fi se li so lo re ru ot le ++ pic_X7 D am mp mg mc ml mq mh ms mr mi) [(0, .ref b), (1, .ref (a 0)), (2, .ref (am 0)), (3, .int p3)] 18 []) (hret : ∀ (pad : VX5) (now : VX3) (fi : VX3) (se : VX3) (li : VX4) (so : VX4) (lo : VX1) (re : VX2) (ru : VX0) (ot : VX0) (le : Nat → Int32) (mp : VMp) (mg : VMg) (mc : Nat → Int64) (ml : VMl) (mq : VMq) (mh : VMh) (ms : VMs) (mr : Nat → Int32) (mi : VMi) (pc : Nat) (lv : List (Nat × Value)), decode cL_law pc = .ok (.ireturn, 1) → k_G D l E (pic_X6 D a pad now fi se li so lo re ru ot le ++ pic_X7 D am mp mg mc ml mq mh ms mr mi) lv pc [.int (bI res)]) (hf : fL_law_b219 N L xs mc k18 v3 pad now fi se li so lo re ru ot le mp mg ml mq mh ms mr mi = some res) : k_G D l E (pic_X6 D a pad now fi se li so lo re ru ot le ++ pic_X7 D am mp mg mc ml mq mh ms mr mi) [(0, .ref b), (1, .ref (a 0)), (2, .ref (am 0)), (3, .int v3)] 219 [] := by
  unfold fL_law_b219 at hf
  refine g_aload_n X dL_law_219 1 rfl rfl (n := 220) rfl ?_
  refine g_aload_n X dL_law_220 0 rfl rfl (n := 221) rfl ?_
  refine g_iload_n X dL_law_221 3 rfl rfl (n := 222) rfl ?_
  refine g_iconst X dL_law_222 (v := 1) (by decide) (n := 223) rfl ?_
  refine g_iadd X dL_law_223 (n := 224) rfl ?_
  obtain ⟨h_1, hf⟩ := k_guard hf
  refine g_sld X XL dL_law_224 h_1 (n := 225) rfl ?_
  obtain ⟨x_2, pad_3, now_4, g_5, hf⟩ := k_b3s hf
  refine g_callVL X (mX6_names (D := D) (l := l) (a := a) (fi := fi) (se := se) (li := li) (so := so) (lo := lo) (re := re) (ru := ru) (ot := ot) (le := le) g_5) lk_X6_names mlL_27 dL_law_225 (n := 228) rfl (st := []) rfl (st2 := [.int x_2]) rfl rfl rfl rfl (ad_X6 _ _ _ _ _ _ _ _ _ _ _ _ _ _ _ _ _ _ _ _ _ _ _ _) rfl ⟨Nat.le_of_ble_eq_true rfl, Nat.le_of_ble_eq_true rfl⟩ (Nat.le_of_ble_eq_true rfl) ?_
  refine g_aload_n X dL_law_228 2 rfl rfl (n := 229) rfl ?_
  refine g_aload_n X dL_law_229 0 rfl rfl (n := 230) rfl ?_
  refine g_iload_n X dL_law_230 3 rfl rfl (n := 231) rfl ?_
  refine g_iconst X dL_law_231 (v := 1) (by decide) (n := 232) rfl ?_
  refine g_iadd X dL_law_232 (n := 233) rfl ?_
  obtain ⟨h_6, hf⟩ := k_guard hf
  refine g_sld X XL dL_law_233 h_6 (n := 234) rfl ?_
  obtain ⟨x_7, mp_8, mg_9, g_10, hf⟩ := k_b3s hf
  refine g_callVR X (mX7_names (D := D) (l := l) (a := am) (mc := mc) (ml := ml) (mq := mq) (mh := mh) (ms := ms) (mr := mr) (mi := mi) g_10) lk_X7_names mlL_30 dL_law_234 (n := 237) rfl (st := [.int x_2]) rfl (st2 := [.int x_7, .int x_2]) rfl rfl rfl rfl (ad_X7 _ _ _ _ _ _ _ _ _ _ _ _ _ _ _ _ _ _ _ _) rfl ⟨Nat.le_of_ble_eq_true rfl, Nat.le_of_ble_eq_true rfl⟩ (Nat.le_of_ble_eq_true rfl) ?_
  refine g_icmp_eq X dL_law_237 (t := 1002) (by decide) (n := 240) rfl (fun c_11 => ?_) (fun c_11 => ?_)
  · replace hf := k_pos c_11 hf
    refine g_sub [0, 1, 2, 3] (lv' := [(0, .ref b), (1, .ref (a 0)), (2, .ref (am 0)), (3, .int v3)]) rfl ?_
    exact wL_law_b1002 X XL hk18 hret hf
  · replace hf := k_neg c_11 hf
    refine g_iconst X dL_law_240 (v := 0) (by decide) (n := 241) rfl ?_
    obtain rfl := Option.some.inj hf
    exact hret _ _ _ _ _ _ _ _ _ _ _ _ _ _ _ _ _ _ _ _ _ _ dL_law_241
set_option maxRecDepth 100000 in
set_option maxHeartbeats 4000000 in
theorem wL_law_b242 {D : va_G} {l : Launch} {E : k_E} {N : Nat} {b L : Nat} {xs : Nat → Int32} {a : Nat → Nat} {am : Nat → Nat} {k18 : Int32 → VX5 → VX3 → VX3 → VX3 → VX4 → VX4 → VX1 → VX2 → VX0 → VX0 → (Nat → Int32) → VMp → VMg → VMl → VMq → VMh → VMs → (Nat → Int32) → VMi → Option (Bool)} {v3 : Int32} {pad : VX5} {now : VX3} {fi : VX3} {se : VX3} {li : VX4} {so : VX4} {lo : VX1} {re : VX2} {ru : VX0} {ot : VX0} {le : Nat → Int32} {mp : VMp} {mg : VMg} {mc : Nat → Int64} {ml : VMl} {mq : VMq} {mh : VMh} {ms : VMs} {mr : Nat → Int32} {mi : VMi} {res : Bool} (X : k_X D E cL_law RL 4 7 193) (XL : k_XL E b L xs) (hk18 : ∀ (p3 : Int32) (pad : VX5) (now : VX3) (fi : VX3) (se : VX3) (li : VX4) (so : VX4) (lo : VX1) (re : VX2) (ru : VX0) (ot : VX0) (le : Nat → Int32) (mp : VMp) (mg : VMg) (ml : VMl) (mq : VMq) (mh : VMh) (ms : VMs) (mr : Nat → Int32) (mi : VMi), k18 p3 pad now fi se li so lo re ru ot le mp mg ml mq mh ms mr mi = some res → k_G D l E (pic_X6 D a pad now fi se li so lo re ru ot le ++ pic_X7 D am mp mg mc ml mq mh ms mr mi) [(0, .ref b), (1, .ref (a 0)), (2, .ref (am 0)), (3, .int p3)] 18 []) (hret : ∀ (pad : VX5) (now : VX3) (fi : VX3) (se : VX3) (li : VX4) (so : VX4) (lo : VX1) (re : VX2) (ru : VX0) (ot : VX0) (le : Nat → Int32) (mp : VMp) (mg : VMg) (mc : Nat → Int64) (ml : VMl) (mq : VMq) (mh : VMh) (ms : VMs) (mr : Nat → Int32) (mi : VMi) (pc : Nat) (lv : List (Nat × Value)), decode cL_law pc = .ok (.ireturn, 1) → k_G D l E (pic_X6 D a pad now fi se li so lo re ru ot le ++ pic_X7 D am mp mg mc ml mq mh ms mr mi) lv pc [.int (bI res)]) (hf : fL_law_b242 N L xs mc k18 v3 pad now fi se li so lo re ru ot le mp mg ml mq mh ms mr mi = some res) : k_G D l E (pic_X6 D a pad now fi se li so lo re ru ot le ++ pic_X7 D am mp mg mc ml mq mh ms mr mi) [(0, .ref b), (1, .ref (a 0)), (2, .ref (am 0)), (3, .int v3)] 242 [] := by
  unfold fL_law_b242 at hf
  refine g_aload_n X dL_law_242 1 rfl rfl (n := 243) rfl ?_
  refine g_aload_n X dL_law_243 0 rfl rfl (n := 244) rfl ?_
  refine g_iload_n X dL_law_244 3 rfl rfl (n := 245) rfl ?_
  refine g_iconst X dL_law_245 (v := 1) (by decide) (n := 246) rfl ?_
  refine g_iadd X dL_law_246 (n := 247) rfl ?_
  obtain ⟨h_1, hf⟩ := k_guard hf
  refine g_sld X XL dL_law_247 h_1 (n := 248) rfl ?_
  refine g_aload_n X dL_law_248 0 rfl rfl (n := 249) rfl ?_
  refine g_iload_n X dL_law_249 3 rfl rfl (n := 250) rfl ?_
  refine g_iconst X dL_law_250 (v := 2) (by decide) (n := 251) rfl ?_
  refine g_iadd X dL_law_251 (n := 252) rfl ?_
  obtain ⟨h_2, hf⟩ := k_guard hf
  refine g_sld X XL dL_law_252 h_2 (n := 253) rfl ?_
  refine g_aload_n X dL_law_253 0 rfl rfl (n := 254) rfl ?_
  refine g_iload_n X dL_law_254 3 rfl rfl (n := 255) rfl ?_
  refine g_iconst X dL_law_255 (v := 3) (by decide) (n := 256) rfl ?_
  refine g_iadd X dL_law_256 (n := 257) rfl ?_
  obtain ⟨h_3, hf⟩ := k_guard hf
  refine g_sld X XL dL_law_257 h_3 (n := 258) rfl ?_
  obtain ⟨x_4, now_5, g_6, hf⟩ := k_b2s hf
  refine g_callVL X (mX6_set (D := D) (l := l) (a := a) (pad := pad) (fi := fi) (se := se) (li := li) (so := so) (lo := lo) (re := re) (ru := ru) (ot := ot) (le := le) g_6) lk_X6_set mlL_31 dL_law_258 (n := 261) rfl (st := []) rfl (st2 := [.int x_4]) rfl rfl rfl rfl (ad_X6 _ _ _ _ _ _ _ _ _ _ _ _ _ _ _ _ _ _ _ _ _ _ _ _) rfl ⟨Nat.le_of_ble_eq_true rfl, Nat.le_of_ble_eq_true rfl⟩ (Nat.le_of_ble_eq_true rfl) ?_
  refine g_aload_n X dL_law_261 2 rfl rfl (n := 262) rfl ?_
  refine g_aload_n X dL_law_262 0 rfl rfl (n := 263) rfl ?_
  refine g_iload_n X dL_law_263 3 rfl rfl (n := 264) rfl ?_
  refine g_iconst X dL_law_264 (v := 1) (by decide) (n := 265) rfl ?_
  refine g_iadd X dL_law_265 (n := 266) rfl ?_
  obtain ⟨h_7, hf⟩ := k_guard hf
  refine g_sld X XL dL_law_266 h_7 (n := 267) rfl ?_
  refine g_aload_n X dL_law_267 0 rfl rfl (n := 268) rfl ?_
  refine g_iload_n X dL_law_268 3 rfl rfl (n := 269) rfl ?_
  refine g_iconst X dL_law_269 (v := 2) (by decide) (n := 270) rfl ?_
  refine g_iadd X dL_law_270 (n := 271) rfl ?_
  obtain ⟨h_8, hf⟩ := k_guard hf
  refine g_sld X XL dL_law_271 h_8 (n := 272) rfl ?_
  refine g_aload_n X dL_law_272 0 rfl rfl (n := 273) rfl ?_
  refine g_iload_n X dL_law_273 3 rfl rfl (n := 274) rfl ?_
  refine g_iconst X dL_law_274 (v := 3) (by decide) (n := 275) rfl ?_
  refine g_iadd X dL_law_275 (n := 276) rfl ?_
  obtain ⟨h_9, hf⟩ := k_guard hf
  refine g_sld X XL dL_law_276 h_9 (n := 277) rfl ?_
  obtain ⟨x_10, mg_11, g_12, hf⟩ := k_b2s hf
  refine g_callVR X (mX7_set (D := D) (l := l) (a := am) (mp := mp) (mc := mc) (ml := ml) (mq := mq) (mh := mh) (ms := ms) (mr := mr) (mi := mi) g_12) lk_X7_set mlL_35 dL_law_277 (n := 280) rfl (st := [.int x_4]) rfl (st2 := [.int x_10, .int x_4]) rfl rfl rfl rfl (ad_X7 _ _ _ _ _ _ _ _ _ _ _ _ _ _ _ _ _ _ _ _) rfl ⟨Nat.le_of_ble_eq_true rfl, Nat.le_of_ble_eq_true rfl⟩ (Nat.le_of_ble_eq_true rfl) ?_
  refine g_icmp_eq X dL_law_280 (t := 1002) (by decide) (n := 283) rfl (fun c_13 => ?_) (fun c_13 => ?_)
  · replace hf := k_pos c_13 hf
    refine g_sub [0, 1, 2, 3] (lv' := [(0, .ref b), (1, .ref (a 0)), (2, .ref (am 0)), (3, .int v3)]) rfl ?_
    exact wL_law_b1002 X XL hk18 hret hf
  · replace hf := k_neg c_13 hf
    refine g_iconst X dL_law_283 (v := 0) (by decide) (n := 284) rfl ?_
    obtain rfl := Option.some.inj hf
    exact hret _ _ _ _ _ _ _ _ _ _ _ _ _ _ _ _ _ _ _ _ _ _ dL_law_284
set_option maxRecDepth 100000 in
set_option maxHeartbeats 4000000 in
theorem wL_law_b285 {D : va_G} {l : Launch} {E : k_E} {N : Nat} {b L : Nat} {xs : Nat → Int32} {a : Nat → Nat} {am : Nat → Nat} {k18 : Int32 → VX5 → VX3 → VX3 → VX3 → VX4 → VX4 → VX1 → VX2 → VX0 → VX0 → (Nat → Int32) → VMp → VMg → VMl → VMq → VMh → VMs → (Nat → Int32) → VMi → Option (Bool)} {v3 : Int32} {pad : VX5} {now : VX3} {fi : VX3} {se : VX3} {li : VX4} {so : VX4} {lo : VX1} {re : VX2} {ru : VX0} {ot : VX0} {le : Nat → Int32} {mp : VMp} {mg : VMg} {mc : Nat → Int64} {ml : VMl} {mq : VMq} {mh : VMh} {ms : VMs} {mr : Nat → Int32} {mi : VMi} {res : Bool} (X : k_X D E cL_law RL 4 7 193) (XL : k_XL E b L xs) (hk18 : ∀ (p3 : Int32) (pad : VX5) (now : VX3) (fi : VX3) (se : VX3) (li : VX4) (so : VX4) (lo : VX1) (re : VX2) (ru : VX0) (ot : VX0) (le : Nat → Int32) (mp : VMp) (mg : VMg) (ml : VMl) (mq : VMq) (mh : VMh) (ms : VMs) (mr : Nat → Int32) (mi : VMi), k18 p3 pad now fi se li so lo re ru ot le mp mg ml mq mh ms mr mi = some res → k_G D l E (pic_X6 D a pad now fi se li so lo re ru ot le ++ pic_X7 D am mp mg mc ml mq mh ms mr mi) [(0, .ref b), (1, .ref (a 0)), (2, .ref (am 0)), (3, .int p3)] 18 []) (hret : ∀ (pad : VX5) (now : VX3) (fi : VX3) (se : VX3) (li : VX4) (so : VX4) (lo : VX1) (re : VX2) (ru : VX0) (ot : VX0) (le : Nat → Int32) (mp : VMp) (mg : VMg) (mc : Nat → Int64) (ml : VMl) (mq : VMq) (mh : VMh) (ms : VMs) (mr : Nat → Int32) (mi : VMi) (pc : Nat) (lv : List (Nat × Value)), decode cL_law pc = .ok (.ireturn, 1) → k_G D l E (pic_X6 D a pad now fi se li so lo re ru ot le ++ pic_X7 D am mp mg mc ml mq mh ms mr mi) lv pc [.int (bI res)]) (hf : fL_law_b285 N L xs mc k18 v3 pad now fi se li so lo re ru ot le mp mg ml mq mh ms mr mi = some res) : k_G D l E (pic_X6 D a pad now fi se li so lo re ru ot le ++ pic_X7 D am mp mg mc ml mq mh ms mr mi) [(0, .ref b), (1, .ref (a 0)), (2, .ref (am 0)), (3, .int v3)] 285 [] := by
  unfold fL_law_b285 at hf
  refine g_aload_n X dL_law_285 1 rfl rfl (n := 286) rfl ?_
  refine g_aload_n X dL_law_286 0 rfl rfl (n := 287) rfl ?_
  refine g_iload_n X dL_law_287 3 rfl rfl (n := 288) rfl ?_
  refine g_iconst X dL_law_288 (v := 1) (by decide) (n := 289) rfl ?_
  refine g_iadd X dL_law_289 (n := 290) rfl ?_
  obtain ⟨h_1, hf⟩ := k_guard hf
  refine g_sld X XL dL_law_290 h_1 (n := 291) rfl ?_
  refine g_aload_n X dL_law_291 0 rfl rfl (n := 292) rfl ?_
  refine g_iload_n X dL_law_292 3 rfl rfl (n := 293) rfl ?_
  refine g_iconst X dL_law_293 (v := 2) (by decide) (n := 294) rfl ?_
  refine g_iadd X dL_law_294 (n := 295) rfl ?_
  obtain ⟨h_2, hf⟩ := k_guard hf
  refine g_sld X XL dL_law_295 h_2 (n := 296) rfl ?_
  obtain ⟨x_3, g_4, hf⟩ := k_b1s hf
  refine g_callVL X (mX6_sheet (D := D) (l := l) (a := a) (pad := pad) (fi := fi) (se := se) (li := li) (so := so) (lo := lo) (re := re) (ru := ru) (ot := ot) (le := le) g_4) lk_X6_sheet mlL_36 dL_law_296 (n := 299) rfl (st := []) rfl (st2 := [.int x_3]) rfl rfl rfl rfl (ad_X6 _ _ _ _ _ _ _ _ _ _ _ _ _ _ _ _ _ _ _ _ _ _ _ _) rfl ⟨Nat.le_of_ble_eq_true rfl, Nat.le_of_ble_eq_true rfl⟩ (Nat.le_of_ble_eq_true rfl) ?_
  refine g_aload_n X dL_law_299 2 rfl rfl (n := 300) rfl ?_
  refine g_aload_n X dL_law_300 0 rfl rfl (n := 301) rfl ?_
  refine g_iload_n X dL_law_301 3 rfl rfl (n := 302) rfl ?_
  refine g_iconst X dL_law_302 (v := 1) (by decide) (n := 303) rfl ?_
  refine g_iadd X dL_law_303 (n := 304) rfl ?_
  obtain ⟨h_5, hf⟩ := k_guard hf
  refine g_sld X XL dL_law_304 h_5 (n := 305) rfl ?_
  refine g_aload_n X dL_law_305 0 rfl rfl (n := 306) rfl ?_
  refine g_iload_n X dL_law_306 3 rfl rfl (n := 307) rfl ?_
  refine g_iconst X dL_law_307 (v := 2) (by decide) (n := 308) rfl ?_
  refine g_iadd X dL_law_308 (n := 309) rfl ?_
  obtain ⟨h_6, hf⟩ := k_guard hf
  refine g_sld X XL dL_law_309 h_6 (n := 310) rfl ?_
  obtain ⟨x_7, g_8, hf⟩ := k_b1s hf
  refine g_callVR X (mX7_sheet (D := D) (l := l) (a := am) (mp := mp) (mc := mc) (ml := ml) (mq := mq) (mh := mh) (ms := ms) (mr := mr) (mi := mi) g_8) lk_X7_sheet mlL_40 dL_law_310 (n := 313) rfl (st := [.int x_3]) rfl (st2 := [.int x_7, .int x_3]) rfl rfl rfl rfl (ad_X7 _ _ _ _ _ _ _ _ _ _ _ _ _ _ _ _ _ _ _ _) rfl ⟨Nat.le_of_ble_eq_true rfl, Nat.le_of_ble_eq_true rfl⟩ (Nat.le_of_ble_eq_true rfl) ?_
  refine g_icmp_eq X dL_law_313 (t := 1002) (by decide) (n := 316) rfl (fun c_9 => ?_) (fun c_9 => ?_)
  · replace hf := k_pos c_9 hf
    refine g_sub [0, 1, 2, 3] (lv' := [(0, .ref b), (1, .ref (a 0)), (2, .ref (am 0)), (3, .int v3)]) rfl ?_
    exact wL_law_b1002 X XL hk18 hret hf
  · replace hf := k_neg c_9 hf
    refine g_iconst X dL_law_316 (v := 0) (by decide) (n := 317) rfl ?_
    obtain rfl := Option.some.inj hf
    exact hret _ _ _ _ _ _ _ _ _ _ _ _ _ _ _ _ _ _ _ _ _ _ dL_law_317
set_option maxRecDepth 100000 in
set_option maxHeartbeats 4000000 in
theorem wL_law_b318 {D : va_G} {l : Launch} {E : k_E} {N : Nat} {b L : Nat} {xs : Nat → Int32} {a : Nat → Nat} {am : Nat → Nat} {k18 : Int32 → VX5 → VX3 → VX3 → VX3 → VX4 → VX4 → VX1 → VX2 → VX0 → VX0 → (Nat → Int32) → VMp → VMg → VMl → VMq → VMh → VMs → (Nat → Int32) → VMi → Option (Bool)} {v3 : Int32} {pad : VX5} {now : VX3} {fi : VX3} {se : VX3} {li : VX4} {so : VX4} {lo : VX1} {re : VX2} {ru : VX0} {ot : VX0} {le : Nat → Int32} {mp : VMp} {mg : VMg} {mc : Nat → Int64} {ml : VMl} {mq : VMq} {mh : VMh} {ms : VMs} {mr : Nat → Int32} {mi : VMi} {res : Bool} (X : k_X D E cL_law RL 4 7 193) (XL : k_XL E b L xs) (hk18 : ∀ (p3 : Int32) (pad : VX5) (now : VX3) (fi : VX3) (se : VX3) (li : VX4) (so : VX4) (lo : VX1) (re : VX2) (ru : VX0) (ot : VX0) (le : Nat → Int32) (mp : VMp) (mg : VMg) (ml : VMl) (mq : VMq) (mh : VMh) (ms : VMs) (mr : Nat → Int32) (mi : VMi), k18 p3 pad now fi se li so lo re ru ot le mp mg ml mq mh ms mr mi = some res → k_G D l E (pic_X6 D a pad now fi se li so lo re ru ot le ++ pic_X7 D am mp mg mc ml mq mh ms mr mi) [(0, .ref b), (1, .ref (a 0)), (2, .ref (am 0)), (3, .int p3)] 18 []) (hret : ∀ (pad : VX5) (now : VX3) (fi : VX3) (se : VX3) (li : VX4) (so : VX4) (lo : VX1) (re : VX2) (ru : VX0) (ot : VX0) (le : Nat → Int32) (mp : VMp) (mg : VMg) (mc : Nat → Int64) (ml : VMl) (mq : VMq) (mh : VMh) (ms : VMs) (mr : Nat → Int32) (mi : VMi) (pc : Nat) (lv : List (Nat × Value)), decode cL_law pc = .ok (.ireturn, 1) → k_G D l E (pic_X6 D a pad now fi se li so lo re ru ot le ++ pic_X7 D am mp mg mc ml mq mh ms mr mi) lv pc [.int (bI res)]) (hf : fL_law_b318 N L xs mc k18 v3 pad now fi se li so lo re ru ot le mp mg ml mq mh ms mr mi = some res) : k_G D l E (pic_X6 D a pad now fi se li so lo re ru ot le ++ pic_X7 D am mp mg mc ml mq mh ms mr mi) [(0, .ref b), (1, .ref (a 0)), (2, .ref (am 0)), (3, .int v3)] 318 [] := by
  unfold fL_law_b318 at hf
  refine g_aload_n X dL_law_318 1 rfl rfl (n := 319) rfl ?_
  refine g_aload_n X dL_law_319 0 rfl rfl (n := 320) rfl ?_
  refine g_iload_n X dL_law_320 3 rfl rfl (n := 321) rfl ?_
  refine g_iconst X dL_law_321 (v := 1) (by decide) (n := 322) rfl ?_
  refine g_iadd X dL_law_322 (n := 323) rfl ?_
  obtain ⟨h_1, hf⟩ := k_guard hf
  refine g_sld X XL dL_law_323 h_1 (n := 324) rfl ?_
  obtain ⟨x_2, li_3, g_4, hf⟩ := k_b2s hf
  refine g_callVL X (mX6_count (D := D) (l := l) (a := a) (pad := pad) (fi := fi) (se := se) (so := so) (lo := lo) (re := re) (ru := ru) (ot := ot) (le := le) g_4) lk_X6_count mlL_41 dL_law_324 (n := 327) rfl (st := []) rfl (st2 := [.int x_2]) rfl rfl rfl rfl (ad_X6 _ _ _ _ _ _ _ _ _ _ _ _ _ _ _ _ _ _ _ _ _ _ _ _) rfl ⟨Nat.le_of_ble_eq_true rfl, Nat.le_of_ble_eq_true rfl⟩ (Nat.le_of_ble_eq_true rfl) ?_
  refine g_aload_n X dL_law_327 2 rfl rfl (n := 328) rfl ?_
  refine g_aload_n X dL_law_328 0 rfl rfl (n := 329) rfl ?_
  refine g_iload_n X dL_law_329 3 rfl rfl (n := 330) rfl ?_
  refine g_iconst X dL_law_330 (v := 1) (by decide) (n := 331) rfl ?_
  refine g_iadd X dL_law_331 (n := 332) rfl ?_
  obtain ⟨h_5, hf⟩ := k_guard hf
  refine g_sld X XL dL_law_332 h_5 (n := 333) rfl ?_
  obtain ⟨x_6, ml_7, g_8, hf⟩ := k_b2s hf
  refine g_callVR X (mX7_count (D := D) (l := l) (a := am) (mp := mp) (mc := mc) (mq := mq) (mh := mh) (ms := ms) (mr := mr) (mi := mi) g_8) lk_X7_count mlL_44 dL_law_333 (n := 336) rfl (st := [.int x_2]) rfl (st2 := [.int x_6, .int x_2]) rfl rfl rfl rfl (ad_X7 _ _ _ _ _ _ _ _ _ _ _ _ _ _ _ _ _ _ _ _) rfl ⟨Nat.le_of_ble_eq_true rfl, Nat.le_of_ble_eq_true rfl⟩ (Nat.le_of_ble_eq_true rfl) ?_
  refine g_icmp_eq X dL_law_336 (t := 1002) (by decide) (n := 339) rfl (fun c_9 => ?_) (fun c_9 => ?_)
  · replace hf := k_pos c_9 hf
    refine g_sub [0, 1, 2, 3] (lv' := [(0, .ref b), (1, .ref (a 0)), (2, .ref (am 0)), (3, .int v3)]) rfl ?_
    exact wL_law_b1002 X XL hk18 hret hf
  · replace hf := k_neg c_9 hf
    refine g_iconst X dL_law_339 (v := 0) (by decide) (n := 340) rfl ?_
    obtain rfl := Option.some.inj hf
    exact hret _ _ _ _ _ _ _ _ _ _ _ _ _ _ _ _ _ _ _ _ _ _ dL_law_340
set_option maxRecDepth 100000 in
set_option maxHeartbeats 4000000 in
theorem wL_law_b341 {D : va_G} {l : Launch} {E : k_E} {N : Nat} {b L : Nat} {xs : Nat → Int32} {a : Nat → Nat} {am : Nat → Nat} {k18 : Int32 → VX5 → VX3 → VX3 → VX3 → VX4 → VX4 → VX1 → VX2 → VX0 → VX0 → (Nat → Int32) → VMp → VMg → VMl → VMq → VMh → VMs → (Nat → Int32) → VMi → Option (Bool)} {v3 : Int32} {pad : VX5} {now : VX3} {fi : VX3} {se : VX3} {li : VX4} {so : VX4} {lo : VX1} {re : VX2} {ru : VX0} {ot : VX0} {le : Nat → Int32} {mp : VMp} {mg : VMg} {mc : Nat → Int64} {ml : VMl} {mq : VMq} {mh : VMh} {ms : VMs} {mr : Nat → Int32} {mi : VMi} {res : Bool} (X : k_X D E cL_law RL 4 7 193) (XL : k_XL E b L xs) (hk18 : ∀ (p3 : Int32) (pad : VX5) (now : VX3) (fi : VX3) (se : VX3) (li : VX4) (so : VX4) (lo : VX1) (re : VX2) (ru : VX0) (ot : VX0) (le : Nat → Int32) (mp : VMp) (mg : VMg) (ml : VMl) (mq : VMq) (mh : VMh) (ms : VMs) (mr : Nat → Int32) (mi : VMi), k18 p3 pad now fi se li so lo re ru ot le mp mg ml mq mh ms mr mi = some res → k_G D l E (pic_X6 D a pad now fi se li so lo re ru ot le ++ pic_X7 D am mp mg mc ml mq mh ms mr mi) [(0, .ref b), (1, .ref (a 0)), (2, .ref (am 0)), (3, .int p3)] 18 []) (hret : ∀ (pad : VX5) (now : VX3) (fi : VX3) (se : VX3) (li : VX4) (so : VX4) (lo : VX1) (re : VX2) (ru : VX0) (ot : VX0) (le : Nat → Int32) (mp : VMp) (mg : VMg) (mc : Nat → Int64) (ml : VMl) (mq : VMq) (mh : VMh) (ms : VMs) (mr : Nat → Int32) (mi : VMi) (pc : Nat) (lv : List (Nat × Value)), decode cL_law pc = .ok (.ireturn, 1) → k_G D l E (pic_X6 D a pad now fi se li so lo re ru ot le ++ pic_X7 D am mp mg mc ml mq mh ms mr mi) lv pc [.int (bI res)]) (hf : fL_law_b341 N L xs mc k18 v3 pad now fi se li so lo re ru ot le mp mg ml mq mh ms mr mi = some res) : k_G D l E (pic_X6 D a pad now fi se li so lo re ru ot le ++ pic_X7 D am mp mg mc ml mq mh ms mr mi) [(0, .ref b), (1, .ref (a 0)), (2, .ref (am 0)), (3, .int v3)] 341 [] := by
  unfold fL_law_b341 at hf
  refine g_aload_n X dL_law_341 1 rfl rfl (n := 342) rfl ?_
  refine g_aload_n X dL_law_342 0 rfl rfl (n := 343) rfl ?_
  refine g_iload_n X dL_law_343 3 rfl rfl (n := 344) rfl ?_
  refine g_iconst X dL_law_344 (v := 1) (by decide) (n := 345) rfl ?_
  refine g_iadd X dL_law_345 (n := 346) rfl ?_
  obtain ⟨h_1, hf⟩ := k_guard hf
  refine g_sld X XL dL_law_346 h_1 (n := 347) rfl ?_
  obtain ⟨x_2, now_3, g_4, hf⟩ := k_b2s hf
  refine g_callVL X (mX6_need (D := D) (l := l) (a := a) (pad := pad) (fi := fi) (se := se) (li := li) (so := so) (lo := lo) (re := re) (ru := ru) (ot := ot) (le := le) g_4) lk_X6_need mlL_45 dL_law_347 (n := 350) rfl (st := []) rfl (st2 := [.int x_2]) rfl rfl rfl rfl (ad_X6 _ _ _ _ _ _ _ _ _ _ _ _ _ _ _ _ _ _ _ _ _ _ _ _) rfl ⟨Nat.le_of_ble_eq_true rfl, Nat.le_of_ble_eq_true rfl⟩ (Nat.le_of_ble_eq_true rfl) ?_
  refine g_aload_n X dL_law_350 2 rfl rfl (n := 351) rfl ?_
  refine g_aload_n X dL_law_351 0 rfl rfl (n := 352) rfl ?_
  refine g_iload_n X dL_law_352 3 rfl rfl (n := 353) rfl ?_
  refine g_iconst X dL_law_353 (v := 1) (by decide) (n := 354) rfl ?_
  refine g_iadd X dL_law_354 (n := 355) rfl ?_
  obtain ⟨h_5, hf⟩ := k_guard hf
  refine g_sld X XL dL_law_355 h_5 (n := 356) rfl ?_
  obtain ⟨x_6, mg_7, g_8, hf⟩ := k_b2s hf
  refine g_callVR X (mX7_need (D := D) (l := l) (a := am) (mp := mp) (mc := mc) (ml := ml) (mq := mq) (mh := mh) (ms := ms) (mr := mr) (mi := mi) g_8) lk_X7_need mlL_48 dL_law_356 (n := 359) rfl (st := [.int x_2]) rfl (st2 := [.int x_6, .int x_2]) rfl rfl rfl rfl (ad_X7 _ _ _ _ _ _ _ _ _ _ _ _ _ _ _ _ _ _ _ _) rfl ⟨Nat.le_of_ble_eq_true rfl, Nat.le_of_ble_eq_true rfl⟩ (Nat.le_of_ble_eq_true rfl) ?_
  refine g_icmp_eq X dL_law_359 (t := 1002) (by decide) (n := 362) rfl (fun c_9 => ?_) (fun c_9 => ?_)
  · replace hf := k_pos c_9 hf
    refine g_sub [0, 1, 2, 3] (lv' := [(0, .ref b), (1, .ref (a 0)), (2, .ref (am 0)), (3, .int v3)]) rfl ?_
    exact wL_law_b1002 X XL hk18 hret hf
  · replace hf := k_neg c_9 hf
    refine g_iconst X dL_law_362 (v := 0) (by decide) (n := 363) rfl ?_
    obtain rfl := Option.some.inj hf
    exact hret _ _ _ _ _ _ _ _ _ _ _ _ _ _ _ _ _ _ _ _ _ _ dL_law_363
set_option maxRecDepth 100000 in
set_option maxHeartbeats 4000000 in
theorem wL_law_b364 {D : va_G} {l : Launch} {E : k_E} {N : Nat} {b L : Nat} {xs : Nat → Int32} {a : Nat → Nat} {am : Nat → Nat} {k18 : Int32 → VX5 → VX3 → VX3 → VX3 → VX4 → VX4 → VX1 → VX2 → VX0 → VX0 → (Nat → Int32) → VMp → VMg → VMl → VMq → VMh → VMs → (Nat → Int32) → VMi → Option (Bool)} {v3 : Int32} {pad : VX5} {now : VX3} {fi : VX3} {se : VX3} {li : VX4} {so : VX4} {lo : VX1} {re : VX2} {ru : VX0} {ot : VX0} {le : Nat → Int32} {mp : VMp} {mg : VMg} {mc : Nat → Int64} {ml : VMl} {mq : VMq} {mh : VMh} {ms : VMs} {mr : Nat → Int32} {mi : VMi} {res : Bool} (X : k_X D E cL_law RL 4 7 193) (XL : k_XL E b L xs) (hk18 : ∀ (p3 : Int32) (pad : VX5) (now : VX3) (fi : VX3) (se : VX3) (li : VX4) (so : VX4) (lo : VX1) (re : VX2) (ru : VX0) (ot : VX0) (le : Nat → Int32) (mp : VMp) (mg : VMg) (ml : VMl) (mq : VMq) (mh : VMh) (ms : VMs) (mr : Nat → Int32) (mi : VMi), k18 p3 pad now fi se li so lo re ru ot le mp mg ml mq mh ms mr mi = some res → k_G D l E (pic_X6 D a pad now fi se li so lo re ru ot le ++ pic_X7 D am mp mg mc ml mq mh ms mr mi) [(0, .ref b), (1, .ref (a 0)), (2, .ref (am 0)), (3, .int p3)] 18 []) (hret : ∀ (pad : VX5) (now : VX3) (fi : VX3) (se : VX3) (li : VX4) (so : VX4) (lo : VX1) (re : VX2) (ru : VX0) (ot : VX0) (le : Nat → Int32) (mp : VMp) (mg : VMg) (mc : Nat → Int64) (ml : VMl) (mq : VMq) (mh : VMh) (ms : VMs) (mr : Nat → Int32) (mi : VMi) (pc : Nat) (lv : List (Nat × Value)), decode cL_law pc = .ok (.ireturn, 1) → k_G D l E (pic_X6 D a pad now fi se li so lo re ru ot le ++ pic_X7 D am mp mg mc ml mq mh ms mr mi) lv pc [.int (bI res)]) (hf : fL_law_b364 N L xs mc k18 v3 pad now fi se li so lo re ru ot le mp mg ml mq mh ms mr mi = some res) : k_G D l E (pic_X6 D a pad now fi se li so lo re ru ot le ++ pic_X7 D am mp mg mc ml mq mh ms mr mi) [(0, .ref b), (1, .ref (a 0)), (2, .ref (am 0)), (3, .int v3)] 364 [] := by
  unfold fL_law_b364 at hf
  refine g_aload_n X dL_law_364 1 rfl rfl (n := 365) rfl ?_
  obtain ⟨x_1, pad_2, now_3, g_4, hf⟩ := k_b3s hf
  refine g_callVL X (mX6_rule (D := D) (l := l) (a := a) (fi := fi) (se := se) (li := li) (so := so) (lo := lo) (re := re) (ru := ru) (ot := ot) (le := le) g_4) lk_X6_rule mlL_49 dL_law_365 (n := 368) rfl (st := []) rfl (st2 := [.int x_1]) rfl rfl rfl rfl (ad_X6 _ _ _ _ _ _ _ _ _ _ _ _ _ _ _ _ _ _ _ _ _ _ _ _) rfl ⟨Nat.le_of_ble_eq_true rfl, Nat.le_of_ble_eq_true rfl⟩ (Nat.le_of_ble_eq_true rfl) ?_
  refine g_aload_n X dL_law_368 2 rfl rfl (n := 369) rfl ?_
  obtain ⟨x_5, mp_6, mg_7, g_8, hf⟩ := k_b3s hf
  refine g_callVR X (mX7_rule (D := D) (l := l) (a := am) (mc := mc) (ml := ml) (mq := mq) (mh := mh) (ms := ms) (mr := mr) (mi := mi) g_8) lk_X7_rule mlL_52 dL_law_369 (n := 372) rfl (st := [.int x_1]) rfl (st2 := [.int x_5, .int x_1]) rfl rfl rfl rfl (ad_X7 _ _ _ _ _ _ _ _ _ _ _ _ _ _ _ _ _ _ _ _) rfl ⟨Nat.le_of_ble_eq_true rfl, Nat.le_of_ble_eq_true rfl⟩ (Nat.le_of_ble_eq_true rfl) ?_
  refine g_icmp_eq X dL_law_372 (t := 1002) (by decide) (n := 375) rfl (fun c_9 => ?_) (fun c_9 => ?_)
  · replace hf := k_pos c_9 hf
    refine g_sub [0, 1, 2, 3] (lv' := [(0, .ref b), (1, .ref (a 0)), (2, .ref (am 0)), (3, .int v3)]) rfl ?_
    exact wL_law_b1002 X XL hk18 hret hf
  · replace hf := k_neg c_9 hf
    refine g_iconst X dL_law_375 (v := 0) (by decide) (n := 376) rfl ?_
    obtain rfl := Option.some.inj hf
    exact hret _ _ _ _ _ _ _ _ _ _ _ _ _ _ _ _ _ _ _ _ _ _ dL_law_376
set_option maxRecDepth 100000 in
set_option maxHeartbeats 4000000 in
theorem wL_law_b377 {D : va_G} {l : Launch} {E : k_E} {N : Nat} {b L : Nat} {xs : Nat → Int32} {a : Nat → Nat} {am : Nat → Nat} {k18 : Int32 → VX5 → VX3 → VX3 → VX3 → VX4 → VX4 → VX1 → VX2 → VX0 → VX0 → (Nat → Int32) → VMp → VMg → VMl → VMq → VMh → VMs → (Nat → Int32) → VMi → Option (Bool)} {v3 : Int32} {pad : VX5} {now : VX3} {fi : VX3} {se : VX3} {li : VX4} {so : VX4} {lo : VX1} {re : VX2} {ru : VX0} {ot : VX0} {le : Nat → Int32} {mp : VMp} {mg : VMg} {mc : Nat → Int64} {ml : VMl} {mq : VMq} {mh : VMh} {ms : VMs} {mr : Nat → Int32} {mi : VMi} {res : Bool} (X : k_X D E cL_law RL 4 7 193) (XL : k_XL E b L xs) (hk18 : ∀ (p3 : Int32) (pad : VX5) (now : VX3) (fi : VX3) (se : VX3) (li : VX4) (so : VX4) (lo : VX1) (re : VX2) (ru : VX0) (ot : VX0) (le : Nat → Int32) (mp : VMp) (mg : VMg) (ml : VMl) (mq : VMq) (mh : VMh) (ms : VMs) (mr : Nat → Int32) (mi : VMi), k18 p3 pad now fi se li so lo re ru ot le mp mg ml mq mh ms mr mi = some res → k_G D l E (pic_X6 D a pad now fi se li so lo re ru ot le ++ pic_X7 D am mp mg mc ml mq mh ms mr mi) [(0, .ref b), (1, .ref (a 0)), (2, .ref (am 0)), (3, .int p3)] 18 []) (hret : ∀ (pad : VX5) (now : VX3) (fi : VX3) (se : VX3) (li : VX4) (so : VX4) (lo : VX1) (re : VX2) (ru : VX0) (ot : VX0) (le : Nat → Int32) (mp : VMp) (mg : VMg) (mc : Nat → Int64) (ml : VMl) (mq : VMq) (mh : VMh) (ms : VMs) (mr : Nat → Int32) (mi : VMi) (pc : Nat) (lv : List (Nat × Value)), decode cL_law pc = .ok (.ireturn, 1) → k_G D l E (pic_X6 D a pad now fi se li so lo re ru ot le ++ pic_X7 D am mp mg mc ml mq mh ms mr mi) lv pc [.int (bI res)]) (hf : fL_law_b377 N L xs mc k18 v3 pad now fi se li so lo re ru ot le mp mg ml mq mh ms mr mi = some res) : k_G D l E (pic_X6 D a pad now fi se li so lo re ru ot le ++ pic_X7 D am mp mg mc ml mq mh ms mr mi) [(0, .ref b), (1, .ref (a 0)), (2, .ref (am 0)), (3, .int v3)] 377 [] := by
  unfold fL_law_b377 at hf
  refine g_aload_n X dL_law_377 1 rfl rfl (n := 378) rfl ?_
  refine g_aload_n X dL_law_378 0 rfl rfl (n := 379) rfl ?_
  refine g_iload_n X dL_law_379 3 rfl rfl (n := 380) rfl ?_
  refine g_iconst X dL_law_380 (v := 1) (by decide) (n := 381) rfl ?_
  refine g_iadd X dL_law_381 (n := 382) rfl ?_
  obtain ⟨h_1, hf⟩ := k_guard hf
  refine g_sld X XL dL_law_382 h_1 (n := 383) rfl ?_
  refine g_aload_n X dL_law_383 0 rfl rfl (n := 384) rfl ?_
  refine g_iload_n X dL_law_384 3 rfl rfl (n := 385) rfl ?_
  refine g_iconst X dL_law_385 (v := 2) (by decide) (n := 386) rfl ?_
  refine g_iadd X dL_law_386 (n := 387) rfl ?_
  obtain ⟨h_2, hf⟩ := k_guard hf
  refine g_sld X XL dL_law_387 h_2 (n := 388) rfl ?_
  refine g_aload_n X dL_law_388 0 rfl rfl (n := 389) rfl ?_
  refine g_iload_n X dL_law_389 3 rfl rfl (n := 390) rfl ?_
  refine g_iconst X dL_law_390 (v := 3) (by decide) (n := 391) rfl ?_
  refine g_iadd X dL_law_391 (n := 392) rfl ?_
  obtain ⟨h_3, hf⟩ := k_guard hf
  refine g_sld X XL dL_law_392 h_3 (n := 393) rfl ?_
  refine g_aload_n X dL_law_393 0 rfl rfl (n := 394) rfl ?_
  refine g_iload_n X dL_law_394 3 rfl rfl (n := 395) rfl ?_
  refine g_iconst X dL_law_395 (v := 4) (by decide) (n := 396) rfl ?_
  refine g_iadd X dL_law_396 (n := 397) rfl ?_
  obtain ⟨h_4, hf⟩ := k_guard hf
  refine g_sld X XL dL_law_397 h_4 (n := 398) rfl ?_
  refine g_aload_n X dL_law_398 0 rfl rfl (n := 399) rfl ?_
  refine g_iload_n X dL_law_399 3 rfl rfl (n := 400) rfl ?_
  refine g_iconst X dL_law_400 (v := 5) (by decide) (n := 401) rfl ?_
  refine g_iadd X dL_law_401 (n := 402) rfl ?_
  obtain ⟨h_5, hf⟩ := k_guard hf
  refine g_sld X XL dL_law_402 h_5 (n := 403) rfl ?_
  obtain ⟨x_6, re_7, ru_8, g_9, hf⟩ := k_b3s hf
  refine g_callVL X (mX6_comes (D := D) (l := l) (a := a) (pad := pad) (fi := fi) (se := se) (li := li) (so := so) (lo := lo) (ot := ot) (le := le) g_9) lk_X6_comes mlL_53 dL_law_403 (n := 406) rfl (st := []) rfl (st2 := [.long x_6]) rfl rfl rfl rfl (ad_X6 _ _ _ _ _ _ _ _ _ _ _ _ _ _ _ _ _ _ _ _ _ _ _ _) rfl ⟨Nat.le_of_ble_eq_true rfl, Nat.le_of_ble_eq_true rfl⟩ (Nat.le_of_ble_eq_true rfl) ?_
  refine g_aload_n X dL_law_406 2 rfl rfl (n := 407) rfl ?_
  refine g_aload_n X dL_law_407 0 rfl rfl (n := 408) rfl ?_
  refine g_iload_n X dL_law_408 3 rfl rfl (n := 409) rfl ?_
  refine g_iconst X dL_law_409 (v := 1) (by decide) (n := 410) rfl ?_
  refine g_iadd X dL_law_410 (n := 411) rfl ?_
  obtain ⟨h_10, hf⟩ := k_guard hf
  refine g_sld X XL dL_law_411 h_10 (n := 412) rfl ?_
  refine g_aload_n X dL_law_412 0 rfl rfl (n := 413) rfl ?_
  refine g_iload_n X dL_law_413 3 rfl rfl (n := 414) rfl ?_
  refine g_iconst X dL_law_414 (v := 2) (by decide) (n := 415) rfl ?_
  refine g_iadd X dL_law_415 (n := 416) rfl ?_
  obtain ⟨h_11, hf⟩ := k_guard hf
  refine g_sld X XL dL_law_416 h_11 (n := 417) rfl ?_
  refine g_aload_n X dL_law_417 0 rfl rfl (n := 418) rfl ?_
  refine g_iload_n X dL_law_418 3 rfl rfl (n := 419) rfl ?_
  refine g_iconst X dL_law_419 (v := 3) (by decide) (n := 420) rfl ?_
  refine g_iadd X dL_law_420 (n := 421) rfl ?_
  obtain ⟨h_12, hf⟩ := k_guard hf
  refine g_sld X XL dL_law_421 h_12 (n := 422) rfl ?_
  refine g_aload_n X dL_law_422 0 rfl rfl (n := 423) rfl ?_
  refine g_iload_n X dL_law_423 3 rfl rfl (n := 424) rfl ?_
  refine g_iconst X dL_law_424 (v := 4) (by decide) (n := 425) rfl ?_
  refine g_iadd X dL_law_425 (n := 426) rfl ?_
  obtain ⟨h_13, hf⟩ := k_guard hf
  refine g_sld X XL dL_law_426 h_13 (n := 427) rfl ?_
  refine g_aload_n X dL_law_427 0 rfl rfl (n := 428) rfl ?_
  refine g_iload_n X dL_law_428 3 rfl rfl (n := 429) rfl ?_
  refine g_iconst X dL_law_429 (v := 5) (by decide) (n := 430) rfl ?_
  refine g_iadd X dL_law_430 (n := 431) rfl ?_
  obtain ⟨h_14, hf⟩ := k_guard hf
  refine g_sld X XL dL_law_431 h_14 (n := 432) rfl ?_
  obtain ⟨x_15, mq_16, g_17, hf⟩ := k_b2s hf
  refine g_callVR X (mX7_comes (D := D) (l := l) (a := am) (mp := mp) (mc := mc) (ml := ml) (mh := mh) (ms := ms) (mr := mr) (mi := mi) g_17) lk_X7_comes mlL_57 dL_law_432 (n := 435) rfl (st := [.long x_6]) rfl (st2 := [.long x_15, .long x_6]) rfl rfl rfl rfl (ad_X7 _ _ _ _ _ _ _ _ _ _ _ _ _ _ _ _ _ _ _ _) rfl ⟨Nat.le_of_ble_eq_true rfl, Nat.le_of_ble_eq_true rfl⟩ (Nat.le_of_ble_eq_true rfl) ?_
  refine g_lcmp_eq X dL_law_435 dL_law_436 (t := 1002) (by decide) (n := 439) rfl (fun c_18 => ?_) (fun c_18 => ?_)
  · replace hf := k_pos c_18 hf
    refine g_sub [0, 1, 2, 3] (lv' := [(0, .ref b), (1, .ref (a 0)), (2, .ref (am 0)), (3, .int v3)]) rfl ?_
    exact wL_law_b1002 X XL hk18 hret hf
  · replace hf := k_neg c_18 hf
    refine g_iconst X dL_law_439 (v := 0) (by decide) (n := 440) rfl ?_
    obtain rfl := Option.some.inj hf
    exact hret _ _ _ _ _ _ _ _ _ _ _ _ _ _ _ _ _ _ _ _ _ _ dL_law_440
set_option maxRecDepth 100000 in
set_option maxHeartbeats 4000000 in
theorem wL_law_b441 {D : va_G} {l : Launch} {E : k_E} {N : Nat} {b L : Nat} {xs : Nat → Int32} {a : Nat → Nat} {am : Nat → Nat} {k18 : Int32 → VX5 → VX3 → VX3 → VX3 → VX4 → VX4 → VX1 → VX2 → VX0 → VX0 → (Nat → Int32) → VMp → VMg → VMl → VMq → VMh → VMs → (Nat → Int32) → VMi → Option (Bool)} {v3 : Int32} {pad : VX5} {now : VX3} {fi : VX3} {se : VX3} {li : VX4} {so : VX4} {lo : VX1} {re : VX2} {ru : VX0} {ot : VX0} {le : Nat → Int32} {mp : VMp} {mg : VMg} {mc : Nat → Int64} {ml : VMl} {mq : VMq} {mh : VMh} {ms : VMs} {mr : Nat → Int32} {mi : VMi} {res : Bool} (X : k_X D E cL_law RL 4 7 193) (XL : k_XL E b L xs) (hk18 : ∀ (p3 : Int32) (pad : VX5) (now : VX3) (fi : VX3) (se : VX3) (li : VX4) (so : VX4) (lo : VX1) (re : VX2) (ru : VX0) (ot : VX0) (le : Nat → Int32) (mp : VMp) (mg : VMg) (ml : VMl) (mq : VMq) (mh : VMh) (ms : VMs) (mr : Nat → Int32) (mi : VMi), k18 p3 pad now fi se li so lo re ru ot le mp mg ml mq mh ms mr mi = some res → k_G D l E (pic_X6 D a pad now fi se li so lo re ru ot le ++ pic_X7 D am mp mg mc ml mq mh ms mr mi) [(0, .ref b), (1, .ref (a 0)), (2, .ref (am 0)), (3, .int p3)] 18 []) (hret : ∀ (pad : VX5) (now : VX3) (fi : VX3) (se : VX3) (li : VX4) (so : VX4) (lo : VX1) (re : VX2) (ru : VX0) (ot : VX0) (le : Nat → Int32) (mp : VMp) (mg : VMg) (mc : Nat → Int64) (ml : VMl) (mq : VMq) (mh : VMh) (ms : VMs) (mr : Nat → Int32) (mi : VMi) (pc : Nat) (lv : List (Nat × Value)), decode cL_law pc = .ok (.ireturn, 1) → k_G D l E (pic_X6 D a pad now fi se li so lo re ru ot le ++ pic_X7 D am mp mg mc ml mq mh ms mr mi) lv pc [.int (bI res)]) (hf : fL_law_b441 N L xs mc k18 v3 pad now fi se li so lo re ru ot le mp mg ml mq mh ms mr mi = some res) : k_G D l E (pic_X6 D a pad now fi se li so lo re ru ot le ++ pic_X7 D am mp mg mc ml mq mh ms mr mi) [(0, .ref b), (1, .ref (a 0)), (2, .ref (am 0)), (3, .int v3)] 441 [] := by
  unfold fL_law_b441 at hf
  refine g_aload_n X dL_law_441 1 rfl rfl (n := 442) rfl ?_
  refine g_aload_n X dL_law_442 0 rfl rfl (n := 443) rfl ?_
  refine g_iload_n X dL_law_443 3 rfl rfl (n := 444) rfl ?_
  refine g_iconst X dL_law_444 (v := 1) (by decide) (n := 445) rfl ?_
  refine g_iadd X dL_law_445 (n := 446) rfl ?_
  obtain ⟨h_1, hf⟩ := k_guard hf
  refine g_sld X XL dL_law_446 h_1 (n := 447) rfl ?_
  refine g_aload_n X dL_law_447 0 rfl rfl (n := 448) rfl ?_
  refine g_iload_n X dL_law_448 3 rfl rfl (n := 449) rfl ?_
  refine g_iconst X dL_law_449 (v := 2) (by decide) (n := 450) rfl ?_
  refine g_iadd X dL_law_450 (n := 451) rfl ?_
  obtain ⟨h_2, hf⟩ := k_guard hf
  refine g_sld X XL dL_law_451 h_2 (n := 452) rfl ?_
  obtain ⟨x_3, li_4, lo_5, re_6, ru_7, g_8, hf⟩ := k_b5s hf
  refine g_callVL X (mX6_yes (D := D) (l := l) (a := a) (pad := pad) (fi := fi) (se := se) (so := so) (ot := ot) (le := le) g_8) lk_X6_yes mlL_58 dL_law_452 (n := 455) rfl (st := []) rfl (st2 := [.long x_3]) rfl rfl rfl rfl (ad_X6 _ _ _ _ _ _ _ _ _ _ _ _ _ _ _ _ _ _ _ _ _ _ _ _) rfl ⟨Nat.le_of_ble_eq_true rfl, Nat.le_of_ble_eq_true rfl⟩ (Nat.le_of_ble_eq_true rfl) ?_
  refine g_aload_n X dL_law_455 2 rfl rfl (n := 456) rfl ?_
  refine g_aload_n X dL_law_456 0 rfl rfl (n := 457) rfl ?_
  refine g_iload_n X dL_law_457 3 rfl rfl (n := 458) rfl ?_
  refine g_iconst X dL_law_458 (v := 1) (by decide) (n := 459) rfl ?_
  refine g_iadd X dL_law_459 (n := 460) rfl ?_
  obtain ⟨h_9, hf⟩ := k_guard hf
  refine g_sld X XL dL_law_460 h_9 (n := 461) rfl ?_
  refine g_aload_n X dL_law_461 0 rfl rfl (n := 462) rfl ?_
  refine g_iload_n X dL_law_462 3 rfl rfl (n := 463) rfl ?_
  refine g_iconst X dL_law_463 (v := 2) (by decide) (n := 464) rfl ?_
  refine g_iadd X dL_law_464 (n := 465) rfl ?_
  obtain ⟨h_10, hf⟩ := k_guard hf
  refine g_sld X XL dL_law_465 h_10 (n := 466) rfl ?_
  obtain ⟨x_11, ml_12, mq_13, g_14, hf⟩ := k_b3s hf
  refine g_callVR X (mX7_yes (D := D) (l := l) (a := am) (mp := mp) (mh := mh) (ms := ms) (mr := mr) (mi := mi) g_14) lk_X7_yes mlL_62 dL_law_466 (n := 469) rfl (st := [.long x_3]) rfl (st2 := [.long x_11, .long x_3]) rfl rfl rfl rfl (ad_X7 _ _ _ _ _ _ _ _ _ _ _ _ _ _ _ _ _ _ _ _) rfl ⟨Nat.le_of_ble_eq_true rfl, Nat.le_of_ble_eq_true rfl⟩ (Nat.le_of_ble_eq_true rfl) ?_
  refine g_lcmp_eq X dL_law_469 dL_law_470 (t := 1002) (by decide) (n := 473) rfl (fun c_15 => ?_) (fun c_15 => ?_)
  · replace hf := k_pos c_15 hf
    refine g_sub [0, 1, 2, 3] (lv' := [(0, .ref b), (1, .ref (a 0)), (2, .ref (am 0)), (3, .int v3)]) rfl ?_
    exact wL_law_b1002 X XL hk18 hret hf
  · replace hf := k_neg c_15 hf
    refine g_iconst X dL_law_473 (v := 0) (by decide) (n := 474) rfl ?_
    obtain rfl := Option.some.inj hf
    exact hret _ _ _ _ _ _ _ _ _ _ _ _ _ _ _ _ _ _ _ _ _ _ dL_law_474
set_option maxRecDepth 100000 in
set_option maxHeartbeats 4000000 in
theorem wL_law_b475 {D : va_G} {l : Launch} {E : k_E} {N : Nat} {b L : Nat} {xs : Nat → Int32} {a : Nat → Nat} {am : Nat → Nat} {k18 : Int32 → VX5 → VX3 → VX3 → VX3 → VX4 → VX4 → VX1 → VX2 → VX0 → VX0 → (Nat → Int32) → VMp → VMg → VMl → VMq → VMh → VMs → (Nat → Int32) → VMi → Option (Bool)} {v3 : Int32} {pad : VX5} {now : VX3} {fi : VX3} {se : VX3} {li : VX4} {so : VX4} {lo : VX1} {re : VX2} {ru : VX0} {ot : VX0} {le : Nat → Int32} {mp : VMp} {mg : VMg} {mc : Nat → Int64} {ml : VMl} {mq : VMq} {mh : VMh} {ms : VMs} {mr : Nat → Int32} {mi : VMi} {res : Bool} (X : k_X D E cL_law RL 4 7 193) (XL : k_XL E b L xs) (hk18 : ∀ (p3 : Int32) (pad : VX5) (now : VX3) (fi : VX3) (se : VX3) (li : VX4) (so : VX4) (lo : VX1) (re : VX2) (ru : VX0) (ot : VX0) (le : Nat → Int32) (mp : VMp) (mg : VMg) (ml : VMl) (mq : VMq) (mh : VMh) (ms : VMs) (mr : Nat → Int32) (mi : VMi), k18 p3 pad now fi se li so lo re ru ot le mp mg ml mq mh ms mr mi = some res → k_G D l E (pic_X6 D a pad now fi se li so lo re ru ot le ++ pic_X7 D am mp mg mc ml mq mh ms mr mi) [(0, .ref b), (1, .ref (a 0)), (2, .ref (am 0)), (3, .int p3)] 18 []) (hret : ∀ (pad : VX5) (now : VX3) (fi : VX3) (se : VX3) (li : VX4) (so : VX4) (lo : VX1) (re : VX2) (ru : VX0) (ot : VX0) (le : Nat → Int32) (mp : VMp) (mg : VMg) (mc : Nat → Int64) (ml : VMl) (mq : VMq) (mh : VMh) (ms : VMs) (mr : Nat → Int32) (mi : VMi) (pc : Nat) (lv : List (Nat × Value)), decode cL_law pc = .ok (.ireturn, 1) → k_G D l E (pic_X6 D a pad now fi se li so lo re ru ot le ++ pic_X7 D am mp mg mc ml mq mh ms mr mi) lv pc [.int (bI res)]) (hf : fL_law_b475 N L xs mc k18 v3 pad now fi se li so lo re ru ot le mp mg ml mq mh ms mr mi = some res) : k_G D l E (pic_X6 D a pad now fi se li so lo re ru ot le ++ pic_X7 D am mp mg mc ml mq mh ms mr mi) [(0, .ref b), (1, .ref (a 0)), (2, .ref (am 0)), (3, .int v3)] 475 [] := by
  unfold fL_law_b475 at hf
  refine g_aload_n X dL_law_475 1 rfl rfl (n := 476) rfl ?_
  refine g_aload_n X dL_law_476 0 rfl rfl (n := 477) rfl ?_
  refine g_iload_n X dL_law_477 3 rfl rfl (n := 478) rfl ?_
  refine g_iconst X dL_law_478 (v := 1) (by decide) (n := 479) rfl ?_
  refine g_iadd X dL_law_479 (n := 480) rfl ?_
  obtain ⟨h_1, hf⟩ := k_guard hf
  refine g_sld X XL dL_law_480 h_1 (n := 481) rfl ?_
  refine g_aload_n X dL_law_481 0 rfl rfl (n := 482) rfl ?_
  refine g_iload_n X dL_law_482 3 rfl rfl (n := 483) rfl ?_
  refine g_iconst X dL_law_483 (v := 2) (by decide) (n := 484) rfl ?_
  refine g_iadd X dL_law_484 (n := 485) rfl ?_
  obtain ⟨h_2, hf⟩ := k_guard hf
  refine g_sld X XL dL_law_485 h_2 (n := 486) rfl ?_
  obtain ⟨x_3, li_4, so_5, re_6, ru_7, g_8, hf⟩ := k_b5s hf
  refine g_callVL X (mX6_bySheets (D := D) (l := l) (a := a) (pad := pad) (fi := fi) (se := se) (ot := ot) (le := le) g_8) lk_X6_bySheets mlL_63 dL_law_486 (n := 489) rfl (st := []) rfl (st2 := [.long x_3]) rfl rfl rfl rfl (ad_X6 _ _ _ _ _ _ _ _ _ _ _ _ _ _ _ _ _ _ _ _ _ _ _ _) rfl ⟨Nat.le_of_ble_eq_true rfl, Nat.le_of_ble_eq_true rfl⟩ (Nat.le_of_ble_eq_true rfl) ?_
  refine g_aload_n X dL_law_489 2 rfl rfl (n := 490) rfl ?_
  refine g_aload_n X dL_law_490 0 rfl rfl (n := 491) rfl ?_
  refine g_iload_n X dL_law_491 3 rfl rfl (n := 492) rfl ?_
  refine g_iconst X dL_law_492 (v := 1) (by decide) (n := 493) rfl ?_
  refine g_iadd X dL_law_493 (n := 494) rfl ?_
  obtain ⟨h_9, hf⟩ := k_guard hf
  refine g_sld X XL dL_law_494 h_9 (n := 495) rfl ?_
  refine g_aload_n X dL_law_495 0 rfl rfl (n := 496) rfl ?_
  refine g_iload_n X dL_law_496 3 rfl rfl (n := 497) rfl ?_
  refine g_iconst X dL_law_497 (v := 2) (by decide) (n := 498) rfl ?_
  refine g_iadd X dL_law_498 (n := 499) rfl ?_
  obtain ⟨h_10, hf⟩ := k_guard hf
  refine g_sld X XL dL_law_499 h_10 (n := 500) rfl ?_
  obtain ⟨x_11, ml_12, mq_13, g_14, hf⟩ := k_b3s hf
  refine g_callVR X (mX7_bySheets (D := D) (l := l) (a := am) (mp := mp) (mc := mc) (mh := mh) (ms := ms) (mr := mr) (mi := mi) g_14) lk_X7_bySheets mlL_66 dL_law_500 (n := 503) rfl (st := [.long x_3]) rfl (st2 := [.long x_11, .long x_3]) rfl rfl rfl rfl (ad_X7 _ _ _ _ _ _ _ _ _ _ _ _ _ _ _ _ _ _ _ _) rfl ⟨Nat.le_of_ble_eq_true rfl, Nat.le_of_ble_eq_true rfl⟩ (Nat.le_of_ble_eq_true rfl) ?_
  refine g_lcmp_eq X dL_law_503 dL_law_504 (t := 1002) (by decide) (n := 507) rfl (fun c_15 => ?_) (fun c_15 => ?_)
  · replace hf := k_pos c_15 hf
    refine g_sub [0, 1, 2, 3] (lv' := [(0, .ref b), (1, .ref (a 0)), (2, .ref (am 0)), (3, .int v3)]) rfl ?_
    exact wL_law_b1002 X XL hk18 hret hf
  · replace hf := k_neg c_15 hf
    refine g_iconst X dL_law_507 (v := 0) (by decide) (n := 508) rfl ?_
    obtain rfl := Option.some.inj hf
    exact hret _ _ _ _ _ _ _ _ _ _ _ _ _ _ _ _ _ _ _ _ _ _ dL_law_508
set_option maxRecDepth 100000 in
set_option maxHeartbeats 4000000 in
theorem wL_law_b509 {D : va_G} {l : Launch} {E : k_E} {N : Nat} {b L : Nat} {xs : Nat → Int32} {a : Nat → Nat} {am : Nat → Nat} {k18 : Int32 → VX5 → VX3 → VX3 → VX3 → VX4 → VX4 → VX1 → VX2 → VX0 → VX0 → (Nat → Int32) → VMp → VMg → VMl → VMq → VMh → VMs → (Nat → Int32) → VMi → Option (Bool)} {v3 : Int32} {pad : VX5} {now : VX3} {fi : VX3} {se : VX3} {li : VX4} {so : VX4} {lo : VX1} {re : VX2} {ru : VX0} {ot : VX0} {le : Nat → Int32} {mp : VMp} {mg : VMg} {mc : Nat → Int64} {ml : VMl} {mq : VMq} {mh : VMh} {ms : VMs} {mr : Nat → Int32} {mi : VMi} {res : Bool} (X : k_X D E cL_law RL 4 7 193) (XL : k_XL E b L xs) (hk18 : ∀ (p3 : Int32) (pad : VX5) (now : VX3) (fi : VX3) (se : VX3) (li : VX4) (so : VX4) (lo : VX1) (re : VX2) (ru : VX0) (ot : VX0) (le : Nat → Int32) (mp : VMp) (mg : VMg) (ml : VMl) (mq : VMq) (mh : VMh) (ms : VMs) (mr : Nat → Int32) (mi : VMi), k18 p3 pad now fi se li so lo re ru ot le mp mg ml mq mh ms mr mi = some res → k_G D l E (pic_X6 D a pad now fi se li so lo re ru ot le ++ pic_X7 D am mp mg mc ml mq mh ms mr mi) [(0, .ref b), (1, .ref (a 0)), (2, .ref (am 0)), (3, .int p3)] 18 []) (hret : ∀ (pad : VX5) (now : VX3) (fi : VX3) (se : VX3) (li : VX4) (so : VX4) (lo : VX1) (re : VX2) (ru : VX0) (ot : VX0) (le : Nat → Int32) (mp : VMp) (mg : VMg) (mc : Nat → Int64) (ml : VMl) (mq : VMq) (mh : VMh) (ms : VMs) (mr : Nat → Int32) (mi : VMi) (pc : Nat) (lv : List (Nat × Value)), decode cL_law pc = .ok (.ireturn, 1) → k_G D l E (pic_X6 D a pad now fi se li so lo re ru ot le ++ pic_X7 D am mp mg mc ml mq mh ms mr mi) lv pc [.int (bI res)]) (hf : fL_law_b509 N L xs mc k18 v3 pad now fi se li so lo re ru ot le mp mg ml mq mh ms mr mi = some res) : k_G D l E (pic_X6 D a pad now fi se li so lo re ru ot le ++ pic_X7 D am mp mg mc ml mq mh ms mr mi) [(0, .ref b), (1, .ref (a 0)), (2, .ref (am 0)), (3, .int v3)] 509 [] := by
  unfold fL_law_b509 at hf
  refine g_aload_n X dL_law_509 1 rfl rfl (n := 510) rfl ?_
  refine g_aload_n X dL_law_510 0 rfl rfl (n := 511) rfl ?_
  refine g_iload_n X dL_law_511 3 rfl rfl (n := 512) rfl ?_
  refine g_iconst X dL_law_512 (v := 1) (by decide) (n := 513) rfl ?_
  refine g_iadd X dL_law_513 (n := 514) rfl ?_
  obtain ⟨h_1, hf⟩ := k_guard hf
  refine g_sld X XL dL_law_514 h_1 (n := 515) rfl ?_
  refine g_aload_n X dL_law_515 0 rfl rfl (n := 516) rfl ?_
  refine g_iload_n X dL_law_516 3 rfl rfl (n := 517) rfl ?_
  refine g_iconst X dL_law_517 (v := 2) (by decide) (n := 518) rfl ?_
  refine g_iadd X dL_law_518 (n := 519) rfl ?_
  obtain ⟨h_2, hf⟩ := k_guard hf
  refine g_sld X XL dL_law_519 h_2 (n := 520) rfl ?_
  obtain ⟨x_3, li_4, lo_5, re_6, ru_7, g_8, hf⟩ := k_b5s hf
  refine g_callVL X (mX6_wrong (D := D) (l := l) (a := a) (pad := pad) (fi := fi) (se := se) (so := so) (ot := ot) (le := le) g_8) lk_X6_wrong mlL_67 dL_law_520 (n := 523) rfl (st := []) rfl (st2 := [.long x_3]) rfl rfl rfl rfl (ad_X6 _ _ _ _ _ _ _ _ _ _ _ _ _ _ _ _ _ _ _ _ _ _ _ _) rfl ⟨Nat.le_of_ble_eq_true rfl, Nat.le_of_ble_eq_true rfl⟩ (Nat.le_of_ble_eq_true rfl) ?_
  refine g_aload_n X dL_law_523 2 rfl rfl (n := 524) rfl ?_
  refine g_aload_n X dL_law_524 0 rfl rfl (n := 525) rfl ?_
  refine g_iload_n X dL_law_525 3 rfl rfl (n := 526) rfl ?_
  refine g_iconst X dL_law_526 (v := 1) (by decide) (n := 527) rfl ?_
  refine g_iadd X dL_law_527 (n := 528) rfl ?_
  obtain ⟨h_9, hf⟩ := k_guard hf
  refine g_sld X XL dL_law_528 h_9 (n := 529) rfl ?_
  refine g_aload_n X dL_law_529 0 rfl rfl (n := 530) rfl ?_
  refine g_iload_n X dL_law_530 3 rfl rfl (n := 531) rfl ?_
  refine g_iconst X dL_law_531 (v := 2) (by decide) (n := 532) rfl ?_
  refine g_iadd X dL_law_532 (n := 533) rfl ?_
  obtain ⟨h_10, hf⟩ := k_guard hf
  refine g_sld X XL dL_law_533 h_10 (n := 534) rfl ?_
  obtain ⟨x_11, ml_12, mq_13, g_14, hf⟩ := k_b3s hf
  refine g_callVR X (mX7_wrong (D := D) (l := l) (a := am) (mp := mp) (mh := mh) (ms := ms) (mr := mr) (mi := mi) g_14) lk_X7_wrong mlL_70 dL_law_534 (n := 537) rfl (st := [.long x_3]) rfl (st2 := [.long x_11, .long x_3]) rfl rfl rfl rfl (ad_X7 _ _ _ _ _ _ _ _ _ _ _ _ _ _ _ _ _ _ _ _) rfl ⟨Nat.le_of_ble_eq_true rfl, Nat.le_of_ble_eq_true rfl⟩ (Nat.le_of_ble_eq_true rfl) ?_
  refine g_lcmp_eq X dL_law_537 dL_law_538 (t := 1002) (by decide) (n := 541) rfl (fun c_15 => ?_) (fun c_15 => ?_)
  · replace hf := k_pos c_15 hf
    refine g_sub [0, 1, 2, 3] (lv' := [(0, .ref b), (1, .ref (a 0)), (2, .ref (am 0)), (3, .int v3)]) rfl ?_
    exact wL_law_b1002 X XL hk18 hret hf
  · replace hf := k_neg c_15 hf
    refine g_iconst X dL_law_541 (v := 0) (by decide) (n := 542) rfl ?_
    obtain rfl := Option.some.inj hf
    exact hret _ _ _ _ _ _ _ _ _ _ _ _ _ _ _ _ _ _ _ _ _ _ dL_law_542
set_option maxRecDepth 100000 in
set_option maxHeartbeats 4000000 in
theorem wL_law_b543 {D : va_G} {l : Launch} {E : k_E} {N : Nat} {b L : Nat} {xs : Nat → Int32} {a : Nat → Nat} {am : Nat → Nat} {k18 : Int32 → VX5 → VX3 → VX3 → VX3 → VX4 → VX4 → VX1 → VX2 → VX0 → VX0 → (Nat → Int32) → VMp → VMg → VMl → VMq → VMh → VMs → (Nat → Int32) → VMi → Option (Bool)} {v3 : Int32} {pad : VX5} {now : VX3} {fi : VX3} {se : VX3} {li : VX4} {so : VX4} {lo : VX1} {re : VX2} {ru : VX0} {ot : VX0} {le : Nat → Int32} {mp : VMp} {mg : VMg} {mc : Nat → Int64} {ml : VMl} {mq : VMq} {mh : VMh} {ms : VMs} {mr : Nat → Int32} {mi : VMi} {res : Bool} (X : k_X D E cL_law RL 4 7 193) (XL : k_XL E b L xs) (hk18 : ∀ (p3 : Int32) (pad : VX5) (now : VX3) (fi : VX3) (se : VX3) (li : VX4) (so : VX4) (lo : VX1) (re : VX2) (ru : VX0) (ot : VX0) (le : Nat → Int32) (mp : VMp) (mg : VMg) (ml : VMl) (mq : VMq) (mh : VMh) (ms : VMs) (mr : Nat → Int32) (mi : VMi), k18 p3 pad now fi se li so lo re ru ot le mp mg ml mq mh ms mr mi = some res → k_G D l E (pic_X6 D a pad now fi se li so lo re ru ot le ++ pic_X7 D am mp mg mc ml mq mh ms mr mi) [(0, .ref b), (1, .ref (a 0)), (2, .ref (am 0)), (3, .int p3)] 18 []) (hret : ∀ (pad : VX5) (now : VX3) (fi : VX3) (se : VX3) (li : VX4) (so : VX4) (lo : VX1) (re : VX2) (ru : VX0) (ot : VX0) (le : Nat → Int32) (mp : VMp) (mg : VMg) (mc : Nat → Int64) (ml : VMl) (mq : VMq) (mh : VMh) (ms : VMs) (mr : Nat → Int32) (mi : VMi) (pc : Nat) (lv : List (Nat × Value)), decode cL_law pc = .ok (.ireturn, 1) → k_G D l E (pic_X6 D a pad now fi se li so lo re ru ot le ++ pic_X7 D am mp mg mc ml mq mh ms mr mi) lv pc [.int (bI res)]) (hf : fL_law_b543 N L xs mc k18 v3 pad now fi se li so lo re ru ot le mp mg ml mq mh ms mr mi = some res) : k_G D l E (pic_X6 D a pad now fi se li so lo re ru ot le ++ pic_X7 D am mp mg mc ml mq mh ms mr mi) [(0, .ref b), (1, .ref (a 0)), (2, .ref (am 0)), (3, .int v3)] 543 [] := by
  unfold fL_law_b543 at hf
  refine g_aload_n X dL_law_543 1 rfl rfl (n := 544) rfl ?_
  refine g_aload_n X dL_law_544 0 rfl rfl (n := 545) rfl ?_
  refine g_iload_n X dL_law_545 3 rfl rfl (n := 546) rfl ?_
  refine g_iconst X dL_law_546 (v := 1) (by decide) (n := 547) rfl ?_
  refine g_iadd X dL_law_547 (n := 548) rfl ?_
  obtain ⟨h_1, hf⟩ := k_guard hf
  refine g_sld X XL dL_law_548 h_1 (n := 549) rfl ?_
  obtain ⟨x_2, li_3, lo_4, re_5, g_6, hf⟩ := k_b4s hf
  refine g_callVL X (mX6_enough (D := D) (l := l) (a := a) (pad := pad) (fi := fi) (se := se) (so := so) (ru := ru) (ot := ot) (le := le) g_6) lk_X6_enough mlL_71 dL_law_549 (n := 552) rfl (st := []) rfl (st2 := [.int x_2]) rfl rfl rfl rfl (ad_X6 _ _ _ _ _ _ _ _ _ _ _ _ _ _ _ _ _ _ _ _ _ _ _ _) rfl ⟨Nat.le_of_ble_eq_true rfl, Nat.le_of_ble_eq_true rfl⟩ (Nat.le_of_ble_eq_true rfl) ?_
  refine g_aload_n X dL_law_552 2 rfl rfl (n := 553) rfl ?_
  refine g_aload_n X dL_law_553 0 rfl rfl (n := 554) rfl ?_
  refine g_iload_n X dL_law_554 3 rfl rfl (n := 555) rfl ?_
  refine g_iconst X dL_law_555 (v := 1) (by decide) (n := 556) rfl ?_
  refine g_iadd X dL_law_556 (n := 557) rfl ?_
  obtain ⟨h_7, hf⟩ := k_guard hf
  refine g_sld X XL dL_law_557 h_7 (n := 558) rfl ?_
  obtain ⟨x_8, ml_9, mq_10, g_11, hf⟩ := k_b3s hf
  refine g_callVR X (mX7_enough (D := D) (l := l) (a := am) (mp := mp) (mh := mh) (ms := ms) (mr := mr) (mi := mi) g_11) lk_X7_enough mlL_74 dL_law_558 (n := 561) rfl (st := [.int x_2]) rfl (st2 := [.int x_8, .int x_2]) rfl rfl rfl rfl (ad_X7 _ _ _ _ _ _ _ _ _ _ _ _ _ _ _ _ _ _ _ _) rfl ⟨Nat.le_of_ble_eq_true rfl, Nat.le_of_ble_eq_true rfl⟩ (Nat.le_of_ble_eq_true rfl) ?_
  refine g_icmp_eq X dL_law_561 (t := 1002) (by decide) (n := 564) rfl (fun c_12 => ?_) (fun c_12 => ?_)
  · replace hf := k_pos c_12 hf
    refine g_sub [0, 1, 2, 3] (lv' := [(0, .ref b), (1, .ref (a 0)), (2, .ref (am 0)), (3, .int v3)]) rfl ?_
    exact wL_law_b1002 X XL hk18 hret hf
  · replace hf := k_neg c_12 hf
    refine g_iconst X dL_law_564 (v := 0) (by decide) (n := 565) rfl ?_
    obtain rfl := Option.some.inj hf
    exact hret _ _ _ _ _ _ _ _ _ _ _ _ _ _ _ _ _ _ _ _ _ _ dL_law_565
set_option maxRecDepth 100000 in
set_option maxHeartbeats 4000000 in
theorem wL_law_b566 {D : va_G} {l : Launch} {E : k_E} {N : Nat} {b L : Nat} {xs : Nat → Int32} {a : Nat → Nat} {am : Nat → Nat} {k18 : Int32 → VX5 → VX3 → VX3 → VX3 → VX4 → VX4 → VX1 → VX2 → VX0 → VX0 → (Nat → Int32) → VMp → VMg → VMl → VMq → VMh → VMs → (Nat → Int32) → VMi → Option (Bool)} {v3 : Int32} {pad : VX5} {now : VX3} {fi : VX3} {se : VX3} {li : VX4} {so : VX4} {lo : VX1} {re : VX2} {ru : VX0} {ot : VX0} {le : Nat → Int32} {mp : VMp} {mg : VMg} {mc : Nat → Int64} {ml : VMl} {mq : VMq} {mh : VMh} {ms : VMs} {mr : Nat → Int32} {mi : VMi} {res : Bool} (X : k_X D E cL_law RL 4 7 193) (XL : k_XL E b L xs) (hk18 : ∀ (p3 : Int32) (pad : VX5) (now : VX3) (fi : VX3) (se : VX3) (li : VX4) (so : VX4) (lo : VX1) (re : VX2) (ru : VX0) (ot : VX0) (le : Nat → Int32) (mp : VMp) (mg : VMg) (ml : VMl) (mq : VMq) (mh : VMh) (ms : VMs) (mr : Nat → Int32) (mi : VMi), k18 p3 pad now fi se li so lo re ru ot le mp mg ml mq mh ms mr mi = some res → k_G D l E (pic_X6 D a pad now fi se li so lo re ru ot le ++ pic_X7 D am mp mg mc ml mq mh ms mr mi) [(0, .ref b), (1, .ref (a 0)), (2, .ref (am 0)), (3, .int p3)] 18 []) (hret : ∀ (pad : VX5) (now : VX3) (fi : VX3) (se : VX3) (li : VX4) (so : VX4) (lo : VX1) (re : VX2) (ru : VX0) (ot : VX0) (le : Nat → Int32) (mp : VMp) (mg : VMg) (mc : Nat → Int64) (ml : VMl) (mq : VMq) (mh : VMh) (ms : VMs) (mr : Nat → Int32) (mi : VMi) (pc : Nat) (lv : List (Nat × Value)), decode cL_law pc = .ok (.ireturn, 1) → k_G D l E (pic_X6 D a pad now fi se li so lo re ru ot le ++ pic_X7 D am mp mg mc ml mq mh ms mr mi) lv pc [.int (bI res)]) (hf : fL_law_b566 N L xs mc k18 v3 pad now fi se li so lo re ru ot le mp mg ml mq mh ms mr mi = some res) : k_G D l E (pic_X6 D a pad now fi se li so lo re ru ot le ++ pic_X7 D am mp mg mc ml mq mh ms mr mi) [(0, .ref b), (1, .ref (a 0)), (2, .ref (am 0)), (3, .int v3)] 566 [] := by
  unfold fL_law_b566 at hf
  refine g_aload_n X dL_law_566 1 rfl rfl (n := 567) rfl ?_
  refine g_aload_n X dL_law_567 0 rfl rfl (n := 568) rfl ?_
  refine g_iload_n X dL_law_568 3 rfl rfl (n := 569) rfl ?_
  refine g_iconst X dL_law_569 (v := 1) (by decide) (n := 570) rfl ?_
  refine g_iadd X dL_law_570 (n := 571) rfl ?_
  obtain ⟨h_1, hf⟩ := k_guard hf
  refine g_sld X XL dL_law_571 h_1 (n := 572) rfl ?_
  refine g_aload_n X dL_law_572 0 rfl rfl (n := 573) rfl ?_
  refine g_iload_n X dL_law_573 3 rfl rfl (n := 574) rfl ?_
  refine g_iconst X dL_law_574 (v := 2) (by decide) (n := 575) rfl ?_
  refine g_iadd X dL_law_575 (n := 576) rfl ?_
  obtain ⟨h_2, hf⟩ := k_guard hf
  refine g_sld X XL dL_law_576 h_2 (n := 577) rfl ?_
  refine g_aload_n X dL_law_577 0 rfl rfl (n := 578) rfl ?_
  refine g_iload_n X dL_law_578 3 rfl rfl (n := 579) rfl ?_
  refine g_iconst X dL_law_579 (v := 3) (by decide) (n := 580) rfl ?_
  refine g_iadd X dL_law_580 (n := 581) rfl ?_
  obtain ⟨h_3, hf⟩ := k_guard hf
  refine g_sld X XL dL_law_581 h_3 (n := 582) rfl ?_
  refine g_aload_n X dL_law_582 0 rfl rfl (n := 583) rfl ?_
  refine g_iload_n X dL_law_583 3 rfl rfl (n := 584) rfl ?_
  refine g_iconst X dL_law_584 (v := 4) (by decide) (n := 585) rfl ?_
  refine g_iadd X dL_law_585 (n := 586) rfl ?_
  obtain ⟨h_4, hf⟩ := k_guard hf
  refine g_sld X XL dL_law_586 h_4 (n := 587) rfl ?_
  obtain ⟨x_5, li_6, re_7, ru_8, ot_9, g_10, hf⟩ := k_b5s hf
  refine g_callVL X (mX6_worth (D := D) (l := l) (a := a) (pad := pad) (fi := fi) (se := se) (so := so) (lo := lo) (le := le) g_10) lk_X6_worth mlL_75 dL_law_587 (n := 590) rfl (st := []) rfl (st2 := [.long x_5]) rfl rfl rfl rfl (ad_X6 _ _ _ _ _ _ _ _ _ _ _ _ _ _ _ _ _ _ _ _ _ _ _ _) rfl ⟨Nat.le_of_ble_eq_true rfl, Nat.le_of_ble_eq_true rfl⟩ (Nat.le_of_ble_eq_true rfl) ?_
  refine g_aload_n X dL_law_590 2 rfl rfl (n := 591) rfl ?_
  refine g_aload_n X dL_law_591 0 rfl rfl (n := 592) rfl ?_
  refine g_iload_n X dL_law_592 3 rfl rfl (n := 593) rfl ?_
  refine g_iconst X dL_law_593 (v := 1) (by decide) (n := 594) rfl ?_
  refine g_iadd X dL_law_594 (n := 595) rfl ?_
  obtain ⟨h_11, hf⟩ := k_guard hf
  refine g_sld X XL dL_law_595 h_11 (n := 596) rfl ?_
  refine g_aload_n X dL_law_596 0 rfl rfl (n := 597) rfl ?_
  refine g_iload_n X dL_law_597 3 rfl rfl (n := 598) rfl ?_
  refine g_iconst X dL_law_598 (v := 2) (by decide) (n := 599) rfl ?_
  refine g_iadd X dL_law_599 (n := 600) rfl ?_
  obtain ⟨h_12, hf⟩ := k_guard hf
  refine g_sld X XL dL_law_600 h_12 (n := 601) rfl ?_
  refine g_aload_n X dL_law_601 0 rfl rfl (n := 602) rfl ?_
  refine g_iload_n X dL_law_602 3 rfl rfl (n := 603) rfl ?_
  refine g_iconst X dL_law_603 (v := 3) (by decide) (n := 604) rfl ?_
  refine g_iadd X dL_law_604 (n := 605) rfl ?_
  obtain ⟨h_13, hf⟩ := k_guard hf
  refine g_sld X XL dL_law_605 h_13 (n := 606) rfl ?_
  refine g_aload_n X dL_law_606 0 rfl rfl (n := 607) rfl ?_
  refine g_iload_n X dL_law_607 3 rfl rfl (n := 608) rfl ?_
  refine g_iconst X dL_law_608 (v := 4) (by decide) (n := 609) rfl ?_
  refine g_iadd X dL_law_609 (n := 610) rfl ?_
  obtain ⟨h_14, hf⟩ := k_guard hf
  refine g_sld X XL dL_law_610 h_14 (n := 611) rfl ?_
  obtain ⟨x_15, ml_16, mq_17, g_18, hf⟩ := k_b3s hf
  refine g_callVR X (mX7_worth (D := D) (l := l) (a := am) (mp := mp) (mc := mc) (mh := mh) (ms := ms) (mr := mr) (mi := mi) g_18) lk_X7_worth mlL_79 dL_law_611 (n := 614) rfl (st := [.long x_5]) rfl (st2 := [.long x_15, .long x_5]) rfl rfl rfl rfl (ad_X7 _ _ _ _ _ _ _ _ _ _ _ _ _ _ _ _ _ _ _ _) rfl ⟨Nat.le_of_ble_eq_true rfl, Nat.le_of_ble_eq_true rfl⟩ (Nat.le_of_ble_eq_true rfl) ?_
  refine g_lcmp_eq X dL_law_614 dL_law_615 (t := 1002) (by decide) (n := 618) rfl (fun c_19 => ?_) (fun c_19 => ?_)
  · replace hf := k_pos c_19 hf
    refine g_sub [0, 1, 2, 3] (lv' := [(0, .ref b), (1, .ref (a 0)), (2, .ref (am 0)), (3, .int v3)]) rfl ?_
    exact wL_law_b1002 X XL hk18 hret hf
  · replace hf := k_neg c_19 hf
    refine g_iconst X dL_law_618 (v := 0) (by decide) (n := 619) rfl ?_
    obtain rfl := Option.some.inj hf
    exact hret _ _ _ _ _ _ _ _ _ _ _ _ _ _ _ _ _ _ _ _ _ _ dL_law_619
set_option maxRecDepth 100000 in
set_option maxHeartbeats 4000000 in
theorem wL_law_b620 {D : va_G} {l : Launch} {E : k_E} {N : Nat} {b L : Nat} {xs : Nat → Int32} {a : Nat → Nat} {am : Nat → Nat} {k18 : Int32 → VX5 → VX3 → VX3 → VX3 → VX4 → VX4 → VX1 → VX2 → VX0 → VX0 → (Nat → Int32) → VMp → VMg → VMl → VMq → VMh → VMs → (Nat → Int32) → VMi → Option (Bool)} {v3 : Int32} {pad : VX5} {now : VX3} {fi : VX3} {se : VX3} {li : VX4} {so : VX4} {lo : VX1} {re : VX2} {ru : VX0} {ot : VX0} {le : Nat → Int32} {mp : VMp} {mg : VMg} {mc : Nat → Int64} {ml : VMl} {mq : VMq} {mh : VMh} {ms : VMs} {mr : Nat → Int32} {mi : VMi} {res : Bool} (X : k_X D E cL_law RL 4 7 193) (XL : k_XL E b L xs) (hk18 : ∀ (p3 : Int32) (pad : VX5) (now : VX3) (fi : VX3) (se : VX3) (li : VX4) (so : VX4) (lo : VX1) (re : VX2) (ru : VX0) (ot : VX0) (le : Nat → Int32) (mp : VMp) (mg : VMg) (ml : VMl) (mq : VMq) (mh : VMh) (ms : VMs) (mr : Nat → Int32) (mi : VMi), k18 p3 pad now fi se li so lo re ru ot le mp mg ml mq mh ms mr mi = some res → k_G D l E (pic_X6 D a pad now fi se li so lo re ru ot le ++ pic_X7 D am mp mg mc ml mq mh ms mr mi) [(0, .ref b), (1, .ref (a 0)), (2, .ref (am 0)), (3, .int p3)] 18 []) (hret : ∀ (pad : VX5) (now : VX3) (fi : VX3) (se : VX3) (li : VX4) (so : VX4) (lo : VX1) (re : VX2) (ru : VX0) (ot : VX0) (le : Nat → Int32) (mp : VMp) (mg : VMg) (mc : Nat → Int64) (ml : VMl) (mq : VMq) (mh : VMh) (ms : VMs) (mr : Nat → Int32) (mi : VMi) (pc : Nat) (lv : List (Nat × Value)), decode cL_law pc = .ok (.ireturn, 1) → k_G D l E (pic_X6 D a pad now fi se li so lo re ru ot le ++ pic_X7 D am mp mg mc ml mq mh ms mr mi) lv pc [.int (bI res)]) (hf : fL_law_b620 N L xs mc k18 v3 pad now fi se li so lo re ru ot le mp mg ml mq mh ms mr mi = some res) : k_G D l E (pic_X6 D a pad now fi se li so lo re ru ot le ++ pic_X7 D am mp mg mc ml mq mh ms mr mi) [(0, .ref b), (1, .ref (a 0)), (2, .ref (am 0)), (3, .int v3)] 620 [] := by
  unfold fL_law_b620 at hf
  refine g_aload_n X dL_law_620 1 rfl rfl (n := 621) rfl ?_
  refine g_aload_n X dL_law_621 0 rfl rfl (n := 622) rfl ?_
  refine g_iload_n X dL_law_622 3 rfl rfl (n := 623) rfl ?_
  refine g_iconst X dL_law_623 (v := 1) (by decide) (n := 624) rfl ?_
  refine g_iadd X dL_law_624 (n := 625) rfl ?_
  obtain ⟨h_1, hf⟩ := k_guard hf
  refine g_sld X XL dL_law_625 h_1 (n := 626) rfl ?_
  refine g_aload_n X dL_law_626 0 rfl rfl (n := 627) rfl ?_
  refine g_iload_n X dL_law_627 3 rfl rfl (n := 628) rfl ?_
  refine g_iconst X dL_law_628 (v := 2) (by decide) (n := 629) rfl ?_
  refine g_iadd X dL_law_629 (n := 630) rfl ?_
  obtain ⟨h_2, hf⟩ := k_guard hf
  refine g_sld X XL dL_law_630 h_2 (n := 631) rfl ?_
  obtain ⟨x_3, so_4, g_5, hf⟩ := k_b2s hf
  refine g_callVL X (mX6_gatherer (D := D) (l := l) (a := a) (pad := pad) (fi := fi) (se := se) (li := li) (lo := lo) (re := re) (ru := ru) (ot := ot) (le := le) g_5) lk_X6_gatherer mlL_80 dL_law_631 (n := 634) rfl (st := []) rfl (st2 := [.int x_3]) rfl rfl rfl rfl (ad_X6 _ _ _ _ _ _ _ _ _ _ _ _ _ _ _ _ _ _ _ _ _ _ _ _) rfl ⟨Nat.le_of_ble_eq_true rfl, Nat.le_of_ble_eq_true rfl⟩ (Nat.le_of_ble_eq_true rfl) ?_
  refine g_aload_n X dL_law_634 2 rfl rfl (n := 635) rfl ?_
  refine g_aload_n X dL_law_635 0 rfl rfl (n := 636) rfl ?_
  refine g_iload_n X dL_law_636 3 rfl rfl (n := 637) rfl ?_
  refine g_iconst X dL_law_637 (v := 1) (by decide) (n := 638) rfl ?_
  refine g_iadd X dL_law_638 (n := 639) rfl ?_
  obtain ⟨h_6, hf⟩ := k_guard hf
  refine g_sld X XL dL_law_639 h_6 (n := 640) rfl ?_
  refine g_aload_n X dL_law_640 0 rfl rfl (n := 641) rfl ?_
  refine g_iload_n X dL_law_641 3 rfl rfl (n := 642) rfl ?_
  refine g_iconst X dL_law_642 (v := 2) (by decide) (n := 643) rfl ?_
  refine g_iadd X dL_law_643 (n := 644) rfl ?_
  obtain ⟨h_7, hf⟩ := k_guard hf
  refine g_sld X XL dL_law_644 h_7 (n := 645) rfl ?_
  obtain ⟨x_8, mh_9, g_10, hf⟩ := k_b2s hf
  refine g_callVR X (mX7_gatherer (D := D) (l := l) (a := am) (mp := mp) (mc := mc) (ml := ml) (mq := mq) (ms := ms) (mr := mr) (mi := mi) g_10) lk_X7_gatherer mlL_83 dL_law_645 (n := 648) rfl (st := [.int x_3]) rfl (st2 := [.int x_8, .int x_3]) rfl rfl rfl rfl (ad_X7 _ _ _ _ _ _ _ _ _ _ _ _ _ _ _ _ _ _ _ _) rfl ⟨Nat.le_of_ble_eq_true rfl, Nat.le_of_ble_eq_true rfl⟩ (Nat.le_of_ble_eq_true rfl) ?_
  refine g_icmp_eq X dL_law_648 (t := 1002) (by decide) (n := 651) rfl (fun c_11 => ?_) (fun c_11 => ?_)
  · replace hf := k_pos c_11 hf
    refine g_sub [0, 1, 2, 3] (lv' := [(0, .ref b), (1, .ref (a 0)), (2, .ref (am 0)), (3, .int v3)]) rfl ?_
    exact wL_law_b1002 X XL hk18 hret hf
  · replace hf := k_neg c_11 hf
    refine g_iconst X dL_law_651 (v := 0) (by decide) (n := 652) rfl ?_
    obtain rfl := Option.some.inj hf
    exact hret _ _ _ _ _ _ _ _ _ _ _ _ _ _ _ _ _ _ _ _ _ _ dL_law_652
set_option maxRecDepth 100000 in
set_option maxHeartbeats 4000000 in
theorem wL_law_b653 {D : va_G} {l : Launch} {E : k_E} {N : Nat} {b L : Nat} {xs : Nat → Int32} {a : Nat → Nat} {am : Nat → Nat} {k18 : Int32 → VX5 → VX3 → VX3 → VX3 → VX4 → VX4 → VX1 → VX2 → VX0 → VX0 → (Nat → Int32) → VMp → VMg → VMl → VMq → VMh → VMs → (Nat → Int32) → VMi → Option (Bool)} {v3 : Int32} {pad : VX5} {now : VX3} {fi : VX3} {se : VX3} {li : VX4} {so : VX4} {lo : VX1} {re : VX2} {ru : VX0} {ot : VX0} {le : Nat → Int32} {mp : VMp} {mg : VMg} {mc : Nat → Int64} {ml : VMl} {mq : VMq} {mh : VMh} {ms : VMs} {mr : Nat → Int32} {mi : VMi} {res : Bool} (X : k_X D E cL_law RL 4 7 193) (XL : k_XL E b L xs) (hk18 : ∀ (p3 : Int32) (pad : VX5) (now : VX3) (fi : VX3) (se : VX3) (li : VX4) (so : VX4) (lo : VX1) (re : VX2) (ru : VX0) (ot : VX0) (le : Nat → Int32) (mp : VMp) (mg : VMg) (ml : VMl) (mq : VMq) (mh : VMh) (ms : VMs) (mr : Nat → Int32) (mi : VMi), k18 p3 pad now fi se li so lo re ru ot le mp mg ml mq mh ms mr mi = some res → k_G D l E (pic_X6 D a pad now fi se li so lo re ru ot le ++ pic_X7 D am mp mg mc ml mq mh ms mr mi) [(0, .ref b), (1, .ref (a 0)), (2, .ref (am 0)), (3, .int p3)] 18 []) (hret : ∀ (pad : VX5) (now : VX3) (fi : VX3) (se : VX3) (li : VX4) (so : VX4) (lo : VX1) (re : VX2) (ru : VX0) (ot : VX0) (le : Nat → Int32) (mp : VMp) (mg : VMg) (mc : Nat → Int64) (ml : VMl) (mq : VMq) (mh : VMh) (ms : VMs) (mr : Nat → Int32) (mi : VMi) (pc : Nat) (lv : List (Nat × Value)), decode cL_law pc = .ok (.ireturn, 1) → k_G D l E (pic_X6 D a pad now fi se li so lo re ru ot le ++ pic_X7 D am mp mg mc ml mq mh ms mr mi) lv pc [.int (bI res)]) (hf : fL_law_b653 N L xs mc k18 v3 pad now fi se li so lo re ru ot le mp mg ml mq mh ms mr mi = some res) : k_G D l E (pic_X6 D a pad now fi se li so lo re ru ot le ++ pic_X7 D am mp mg mc ml mq mh ms mr mi) [(0, .ref b), (1, .ref (a 0)), (2, .ref (am 0)), (3, .int v3)] 653 [] := by
  unfold fL_law_b653 at hf
  refine g_aload_n X dL_law_653 1 rfl rfl (n := 654) rfl ?_
  refine g_aload_n X dL_law_654 0 rfl rfl (n := 655) rfl ?_
  refine g_iload_n X dL_law_655 3 rfl rfl (n := 656) rfl ?_
  refine g_iconst X dL_law_656 (v := 1) (by decide) (n := 657) rfl ?_
  refine g_iadd X dL_law_657 (n := 658) rfl ?_
  obtain ⟨h_1, hf⟩ := k_guard hf
  refine g_sld X XL dL_law_658 h_1 (n := 659) rfl ?_
  refine g_aload_n X dL_law_659 0 rfl rfl (n := 660) rfl ?_
  refine g_iload_n X dL_law_660 3 rfl rfl (n := 661) rfl ?_
  refine g_iconst X dL_law_661 (v := 2) (by decide) (n := 662) rfl ?_
  refine g_iadd X dL_law_662 (n := 663) rfl ?_
  obtain ⟨h_2, hf⟩ := k_guard hf
  refine g_sld X XL dL_law_663 h_2 (n := 664) rfl ?_
  obtain ⟨x_3, li_4, so_5, ru_6, g_7, hf⟩ := k_b4s hf
  refine g_callVL X (mX6_seems (D := D) (l := l) (a := a) (pad := pad) (fi := fi) (se := se) (re := re) (ot := ot) (le := le) g_7) lk_X6_seems mlL_84 dL_law_664 (n := 667) rfl (st := []) rfl (st2 := [.long x_3]) rfl rfl rfl rfl (ad_X6 _ _ _ _ _ _ _ _ _ _ _ _ _ _ _ _ _ _ _ _ _ _ _ _) rfl ⟨Nat.le_of_ble_eq_true rfl, Nat.le_of_ble_eq_true rfl⟩ (Nat.le_of_ble_eq_true rfl) ?_
  refine g_aload_n X dL_law_667 2 rfl rfl (n := 668) rfl ?_
  refine g_aload_n X dL_law_668 0 rfl rfl (n := 669) rfl ?_
  refine g_iload_n X dL_law_669 3 rfl rfl (n := 670) rfl ?_
  refine g_iconst X dL_law_670 (v := 1) (by decide) (n := 671) rfl ?_
  refine g_iadd X dL_law_671 (n := 672) rfl ?_
  obtain ⟨h_8, hf⟩ := k_guard hf
  refine g_sld X XL dL_law_672 h_8 (n := 673) rfl ?_
  refine g_aload_n X dL_law_673 0 rfl rfl (n := 674) rfl ?_
  refine g_iload_n X dL_law_674 3 rfl rfl (n := 675) rfl ?_
  refine g_iconst X dL_law_675 (v := 2) (by decide) (n := 676) rfl ?_
  refine g_iadd X dL_law_676 (n := 677) rfl ?_
  obtain ⟨h_9, hf⟩ := k_guard hf
  refine g_sld X XL dL_law_677 h_9 (n := 678) rfl ?_
  obtain ⟨x_10, ml_11, mh_12, ms_13, g_14, hf⟩ := k_b4s hf
  refine g_callVR X (mX7_seems (D := D) (l := l) (a := am) (mp := mp) (mq := mq) (mr := mr) (mi := mi) g_14) lk_X7_seems mlL_87 dL_law_678 (n := 681) rfl (st := [.long x_3]) rfl (st2 := [.long x_10, .long x_3]) rfl rfl rfl rfl (ad_X7 _ _ _ _ _ _ _ _ _ _ _ _ _ _ _ _ _ _ _ _) rfl ⟨Nat.le_of_ble_eq_true rfl, Nat.le_of_ble_eq_true rfl⟩ (Nat.le_of_ble_eq_true rfl) ?_
  refine g_lcmp_eq X dL_law_681 dL_law_682 (t := 1002) (by decide) (n := 685) rfl (fun c_15 => ?_) (fun c_15 => ?_)
  · replace hf := k_pos c_15 hf
    refine g_sub [0, 1, 2, 3] (lv' := [(0, .ref b), (1, .ref (a 0)), (2, .ref (am 0)), (3, .int v3)]) rfl ?_
    exact wL_law_b1002 X XL hk18 hret hf
  · replace hf := k_neg c_15 hf
    refine g_iconst X dL_law_685 (v := 0) (by decide) (n := 686) rfl ?_
    obtain rfl := Option.some.inj hf
    exact hret _ _ _ _ _ _ _ _ _ _ _ _ _ _ _ _ _ _ _ _ _ _ dL_law_686
set_option maxRecDepth 100000 in
set_option maxHeartbeats 4000000 in
theorem wL_law_b687 {D : va_G} {l : Launch} {E : k_E} {N : Nat} {b L : Nat} {xs : Nat → Int32} {a : Nat → Nat} {am : Nat → Nat} {k18 : Int32 → VX5 → VX3 → VX3 → VX3 → VX4 → VX4 → VX1 → VX2 → VX0 → VX0 → (Nat → Int32) → VMp → VMg → VMl → VMq → VMh → VMs → (Nat → Int32) → VMi → Option (Bool)} {v3 : Int32} {pad : VX5} {now : VX3} {fi : VX3} {se : VX3} {li : VX4} {so : VX4} {lo : VX1} {re : VX2} {ru : VX0} {ot : VX0} {le : Nat → Int32} {mp : VMp} {mg : VMg} {mc : Nat → Int64} {ml : VMl} {mq : VMq} {mh : VMh} {ms : VMs} {mr : Nat → Int32} {mi : VMi} {res : Bool} (X : k_X D E cL_law RL 4 7 193) (XL : k_XL E b L xs) (hk18 : ∀ (p3 : Int32) (pad : VX5) (now : VX3) (fi : VX3) (se : VX3) (li : VX4) (so : VX4) (lo : VX1) (re : VX2) (ru : VX0) (ot : VX0) (le : Nat → Int32) (mp : VMp) (mg : VMg) (ml : VMl) (mq : VMq) (mh : VMh) (ms : VMs) (mr : Nat → Int32) (mi : VMi), k18 p3 pad now fi se li so lo re ru ot le mp mg ml mq mh ms mr mi = some res → k_G D l E (pic_X6 D a pad now fi se li so lo re ru ot le ++ pic_X7 D am mp mg mc ml mq mh ms mr mi) [(0, .ref b), (1, .ref (a 0)), (2, .ref (am 0)), (3, .int p3)] 18 []) (hret : ∀ (pad : VX5) (now : VX3) (fi : VX3) (se : VX3) (li : VX4) (so : VX4) (lo : VX1) (re : VX2) (ru : VX0) (ot : VX0) (le : Nat → Int32) (mp : VMp) (mg : VMg) (mc : Nat → Int64) (ml : VMl) (mq : VMq) (mh : VMh) (ms : VMs) (mr : Nat → Int32) (mi : VMi) (pc : Nat) (lv : List (Nat × Value)), decode cL_law pc = .ok (.ireturn, 1) → k_G D l E (pic_X6 D a pad now fi se li so lo re ru ot le ++ pic_X7 D am mp mg mc ml mq mh ms mr mi) lv pc [.int (bI res)]) (hf : fL_law_b687 N L xs mc k18 v3 pad now fi se li so lo re ru ot le mp mg ml mq mh ms mr mi = some res) : k_G D l E (pic_X6 D a pad now fi se li so lo re ru ot le ++ pic_X7 D am mp mg mc ml mq mh ms mr mi) [(0, .ref b), (1, .ref (a 0)), (2, .ref (am 0)), (3, .int v3)] 687 [] := by
  unfold fL_law_b687 at hf
  refine g_aload_n X dL_law_687 1 rfl rfl (n := 688) rfl ?_
  obtain ⟨x_1, li_2, so_3, ru_4, ot_5, g_6, hf⟩ := k_b5s hf
  refine g_callVL X (mX6_suspect (D := D) (l := l) (a := a) (pad := pad) (fi := fi) (se := se) (re := re) (le := le) g_6) lk_X6_suspect mlL_88 dL_law_688 (n := 691) rfl (st := []) rfl (st2 := [.int x_1]) rfl rfl rfl rfl (ad_X6 _ _ _ _ _ _ _ _ _ _ _ _ _ _ _ _ _ _ _ _ _ _ _ _) rfl ⟨Nat.le_of_ble_eq_true rfl, Nat.le_of_ble_eq_true rfl⟩ (Nat.le_of_ble_eq_true rfl) ?_
  refine g_aload_n X dL_law_691 2 rfl rfl (n := 692) rfl ?_
  obtain ⟨x_7, ml_8, mh_9, ms_10, g_11, hf⟩ := k_b4s hf
  refine g_callVR X (mX7_suspect (D := D) (l := l) (a := am) (mp := mp) (mq := mq) (mr := mr) (mi := mi) g_11) lk_X7_suspect mlL_91 dL_law_692 (n := 695) rfl (st := [.int x_1]) rfl (st2 := [.int x_7, .int x_1]) rfl rfl rfl rfl (ad_X7 _ _ _ _ _ _ _ _ _ _ _ _ _ _ _ _ _ _ _ _) rfl ⟨Nat.le_of_ble_eq_true rfl, Nat.le_of_ble_eq_true rfl⟩ (Nat.le_of_ble_eq_true rfl) ?_
  refine g_icmp_eq X dL_law_695 (t := 1002) (by decide) (n := 698) rfl (fun c_12 => ?_) (fun c_12 => ?_)
  · replace hf := k_pos c_12 hf
    refine g_sub [0, 1, 2, 3] (lv' := [(0, .ref b), (1, .ref (a 0)), (2, .ref (am 0)), (3, .int v3)]) rfl ?_
    exact wL_law_b1002 X XL hk18 hret hf
  · replace hf := k_neg c_12 hf
    refine g_iconst X dL_law_698 (v := 0) (by decide) (n := 699) rfl ?_
    obtain rfl := Option.some.inj hf
    exact hret _ _ _ _ _ _ _ _ _ _ _ _ _ _ _ _ _ _ _ _ _ _ dL_law_699
set_option maxRecDepth 100000 in
set_option maxHeartbeats 4000000 in
theorem wL_law_b700 {D : va_G} {l : Launch} {E : k_E} {N : Nat} {b L : Nat} {xs : Nat → Int32} {a : Nat → Nat} {am : Nat → Nat} {k18 : Int32 → VX5 → VX3 → VX3 → VX3 → VX4 → VX4 → VX1 → VX2 → VX0 → VX0 → (Nat → Int32) → VMp → VMg → VMl → VMq → VMh → VMs → (Nat → Int32) → VMi → Option (Bool)} {v3 : Int32} {pad : VX5} {now : VX3} {fi : VX3} {se : VX3} {li : VX4} {so : VX4} {lo : VX1} {re : VX2} {ru : VX0} {ot : VX0} {le : Nat → Int32} {mp : VMp} {mg : VMg} {mc : Nat → Int64} {ml : VMl} {mq : VMq} {mh : VMh} {ms : VMs} {mr : Nat → Int32} {mi : VMi} {res : Bool} (X : k_X D E cL_law RL 4 7 193) (XL : k_XL E b L xs) (hk18 : ∀ (p3 : Int32) (pad : VX5) (now : VX3) (fi : VX3) (se : VX3) (li : VX4) (so : VX4) (lo : VX1) (re : VX2) (ru : VX0) (ot : VX0) (le : Nat → Int32) (mp : VMp) (mg : VMg) (ml : VMl) (mq : VMq) (mh : VMh) (ms : VMs) (mr : Nat → Int32) (mi : VMi), k18 p3 pad now fi se li so lo re ru ot le mp mg ml mq mh ms mr mi = some res → k_G D l E (pic_X6 D a pad now fi se li so lo re ru ot le ++ pic_X7 D am mp mg mc ml mq mh ms mr mi) [(0, .ref b), (1, .ref (a 0)), (2, .ref (am 0)), (3, .int p3)] 18 []) (hret : ∀ (pad : VX5) (now : VX3) (fi : VX3) (se : VX3) (li : VX4) (so : VX4) (lo : VX1) (re : VX2) (ru : VX0) (ot : VX0) (le : Nat → Int32) (mp : VMp) (mg : VMg) (mc : Nat → Int64) (ml : VMl) (mq : VMq) (mh : VMh) (ms : VMs) (mr : Nat → Int32) (mi : VMi) (pc : Nat) (lv : List (Nat × Value)), decode cL_law pc = .ok (.ireturn, 1) → k_G D l E (pic_X6 D a pad now fi se li so lo re ru ot le ++ pic_X7 D am mp mg mc ml mq mh ms mr mi) lv pc [.int (bI res)]) (hf : fL_law_b700 N L xs mc k18 v3 pad now fi se li so lo re ru ot le mp mg ml mq mh ms mr mi = some res) : k_G D l E (pic_X6 D a pad now fi se li so lo re ru ot le ++ pic_X7 D am mp mg mc ml mq mh ms mr mi) [(0, .ref b), (1, .ref (a 0)), (2, .ref (am 0)), (3, .int v3)] 700 [] := by
  unfold fL_law_b700 at hf
  refine g_aload_n X dL_law_700 1 rfl rfl (n := 701) rfl ?_
  refine g_aload_n X dL_law_701 0 rfl rfl (n := 702) rfl ?_
  refine g_iload_n X dL_law_702 3 rfl rfl (n := 703) rfl ?_
  refine g_iconst X dL_law_703 (v := 1) (by decide) (n := 704) rfl ?_
  refine g_iadd X dL_law_704 (n := 705) rfl ?_
  obtain ⟨h_1, hf⟩ := k_guard hf
  refine g_sld X XL dL_law_705 h_1 (n := 706) rfl ?_
  refine g_aload_n X dL_law_706 0 rfl rfl (n := 707) rfl ?_
  refine g_iload_n X dL_law_707 3 rfl rfl (n := 708) rfl ?_
  refine g_iconst X dL_law_708 (v := 2) (by decide) (n := 709) rfl ?_
  refine g_iadd X dL_law_709 (n := 710) rfl ?_
  obtain ⟨h_2, hf⟩ := k_guard hf
  refine g_sld X XL dL_law_710 h_2 (n := 711) rfl ?_
  obtain ⟨x_3, li_4, so_5, ru_6, g_7, hf⟩ := k_b4s hf
  refine g_callVL X (mX6_shared (D := D) (l := l) (a := a) (pad := pad) (fi := fi) (se := se) (re := re) (ot := ot) (le := le) g_7) lk_X6_shared mlL_92 dL_law_711 (n := 714) rfl (st := []) rfl (st2 := [.long x_3]) rfl rfl rfl rfl (ad_X6 _ _ _ _ _ _ _ _ _ _ _ _ _ _ _ _ _ _ _ _ _ _ _ _) rfl ⟨Nat.le_of_ble_eq_true rfl, Nat.le_of_ble_eq_true rfl⟩ (Nat.le_of_ble_eq_true rfl) ?_
  refine g_aload_n X dL_law_714 2 rfl rfl (n := 715) rfl ?_
  refine g_aload_n X dL_law_715 0 rfl rfl (n := 716) rfl ?_
  refine g_iload_n X dL_law_716 3 rfl rfl (n := 717) rfl ?_
  refine g_iconst X dL_law_717 (v := 1) (by decide) (n := 718) rfl ?_
  refine g_iadd X dL_law_718 (n := 719) rfl ?_
  obtain ⟨h_8, hf⟩ := k_guard hf
  refine g_sld X XL dL_law_719 h_8 (n := 720) rfl ?_
  refine g_aload_n X dL_law_720 0 rfl rfl (n := 721) rfl ?_
  refine g_iload_n X dL_law_721 3 rfl rfl (n := 722) rfl ?_
  refine g_iconst X dL_law_722 (v := 2) (by decide) (n := 723) rfl ?_
  refine g_iadd X dL_law_723 (n := 724) rfl ?_
  obtain ⟨h_9, hf⟩ := k_guard hf
  refine g_sld X XL dL_law_724 h_9 (n := 725) rfl ?_
  obtain ⟨x_10, ml_11, mh_12, ms_13, g_14, hf⟩ := k_b4s hf
  refine g_callVR X (mX7_shared (D := D) (l := l) (a := am) (mp := mp) (mq := mq) (mr := mr) (mi := mi) g_14) lk_X7_shared mlL_95 dL_law_725 (n := 728) rfl (st := [.long x_3]) rfl (st2 := [.long x_10, .long x_3]) rfl rfl rfl rfl (ad_X7 _ _ _ _ _ _ _ _ _ _ _ _ _ _ _ _ _ _ _ _) rfl ⟨Nat.le_of_ble_eq_true rfl, Nat.le_of_ble_eq_true rfl⟩ (Nat.le_of_ble_eq_true rfl) ?_
  refine g_lcmp_eq X dL_law_728 dL_law_729 (t := 1002) (by decide) (n := 732) rfl (fun c_15 => ?_) (fun c_15 => ?_)
  · replace hf := k_pos c_15 hf
    refine g_sub [0, 1, 2, 3] (lv' := [(0, .ref b), (1, .ref (a 0)), (2, .ref (am 0)), (3, .int v3)]) rfl ?_
    exact wL_law_b1002 X XL hk18 hret hf
  · replace hf := k_neg c_15 hf
    refine g_iconst X dL_law_732 (v := 0) (by decide) (n := 733) rfl ?_
    obtain rfl := Option.some.inj hf
    exact hret _ _ _ _ _ _ _ _ _ _ _ _ _ _ _ _ _ _ _ _ _ _ dL_law_733
set_option maxRecDepth 100000 in
set_option maxHeartbeats 4000000 in
theorem wL_law_b734 {D : va_G} {l : Launch} {E : k_E} {N : Nat} {b L : Nat} {xs : Nat → Int32} {a : Nat → Nat} {am : Nat → Nat} {k18 : Int32 → VX5 → VX3 → VX3 → VX3 → VX4 → VX4 → VX1 → VX2 → VX0 → VX0 → (Nat → Int32) → VMp → VMg → VMl → VMq → VMh → VMs → (Nat → Int32) → VMi → Option (Bool)} {v3 : Int32} {pad : VX5} {now : VX3} {fi : VX3} {se : VX3} {li : VX4} {so : VX4} {lo : VX1} {re : VX2} {ru : VX0} {ot : VX0} {le : Nat → Int32} {mp : VMp} {mg : VMg} {mc : Nat → Int64} {ml : VMl} {mq : VMq} {mh : VMh} {ms : VMs} {mr : Nat → Int32} {mi : VMi} {res : Bool} (X : k_X D E cL_law RL 4 7 193) (XL : k_XL E b L xs) (hk18 : ∀ (p3 : Int32) (pad : VX5) (now : VX3) (fi : VX3) (se : VX3) (li : VX4) (so : VX4) (lo : VX1) (re : VX2) (ru : VX0) (ot : VX0) (le : Nat → Int32) (mp : VMp) (mg : VMg) (ml : VMl) (mq : VMq) (mh : VMh) (ms : VMs) (mr : Nat → Int32) (mi : VMi), k18 p3 pad now fi se li so lo re ru ot le mp mg ml mq mh ms mr mi = some res → k_G D l E (pic_X6 D a pad now fi se li so lo re ru ot le ++ pic_X7 D am mp mg mc ml mq mh ms mr mi) [(0, .ref b), (1, .ref (a 0)), (2, .ref (am 0)), (3, .int p3)] 18 []) (hret : ∀ (pad : VX5) (now : VX3) (fi : VX3) (se : VX3) (li : VX4) (so : VX4) (lo : VX1) (re : VX2) (ru : VX0) (ot : VX0) (le : Nat → Int32) (mp : VMp) (mg : VMg) (mc : Nat → Int64) (ml : VMl) (mq : VMq) (mh : VMh) (ms : VMs) (mr : Nat → Int32) (mi : VMi) (pc : Nat) (lv : List (Nat × Value)), decode cL_law pc = .ok (.ireturn, 1) → k_G D l E (pic_X6 D a pad now fi se li so lo re ru ot le ++ pic_X7 D am mp mg mc ml mq mh ms mr mi) lv pc [.int (bI res)]) (hf : fL_law_b734 N L xs mc k18 v3 pad now fi se li so lo re ru ot le mp mg ml mq mh ms mr mi = some res) : k_G D l E (pic_X6 D a pad now fi se li so lo re ru ot le ++ pic_X7 D am mp mg mc ml mq mh ms mr mi) [(0, .ref b), (1, .ref (a 0)), (2, .ref (am 0)), (3, .int v3)] 734 [] := by
  unfold fL_law_b734 at hf
  refine g_aload_n X dL_law_734 1 rfl rfl (n := 735) rfl ?_
  refine g_aload_n X dL_law_735 0 rfl rfl (n := 736) rfl ?_
  refine g_iload_n X dL_law_736 3 rfl rfl (n := 737) rfl ?_
  refine g_iconst X dL_law_737 (v := 1) (by decide) (n := 738) rfl ?_
  refine g_iadd X dL_law_738 (n := 739) rfl ?_
  obtain ⟨h_1, hf⟩ := k_guard hf
  refine g_sld X XL dL_law_739 h_1 (n := 740) rfl ?_
  refine g_aload_n X dL_law_740 0 rfl rfl (n := 741) rfl ?_
  refine g_iload_n X dL_law_741 3 rfl rfl (n := 742) rfl ?_
  refine g_iconst X dL_law_742 (v := 2) (by decide) (n := 743) rfl ?_
  refine g_iadd X dL_law_743 (n := 744) rfl ?_
  obtain ⟨h_2, hf⟩ := k_guard hf
  refine g_sld X XL dL_law_744 h_2 (n := 745) rfl ?_
  refine g_aload_n X dL_law_745 0 rfl rfl (n := 746) rfl ?_
  refine g_iload_n X dL_law_746 3 rfl rfl (n := 747) rfl ?_
  refine g_iconst X dL_law_747 (v := 3) (by decide) (n := 748) rfl ?_
  refine g_iadd X dL_law_748 (n := 749) rfl ?_
  obtain ⟨h_3, hf⟩ := k_guard hf
  refine g_sld X XL dL_law_749 h_3 (n := 750) rfl ?_
  obtain ⟨x_4, g_5, hf⟩ := k_b1s hf
  refine g_callVL X (mX6_fine (D := D) (l := l) (a := a) (pad := pad) (now := now) (fi := fi) (se := se) (li := li) (so := so) (lo := lo) (re := re) (ru := ru) (ot := ot) (le := le) g_5) lk_X6_fine mlL_96 dL_law_750 (n := 753) rfl (st := []) rfl (st2 := [.int x_4]) rfl rfl rfl rfl (ad_X6 _ _ _ _ _ _ _ _ _ _ _ _ _ _ _ _ _ _ _ _ _ _ _ _) rfl ⟨Nat.le_of_ble_eq_true rfl, Nat.le_of_ble_eq_true rfl⟩ (Nat.le_of_ble_eq_true rfl) ?_
  refine g_aload_n X dL_law_753 2 rfl rfl (n := 754) rfl ?_
  refine g_aload_n X dL_law_754 0 rfl rfl (n := 755) rfl ?_
  refine g_iload_n X dL_law_755 3 rfl rfl (n := 756) rfl ?_
  refine g_iconst X dL_law_756 (v := 1) (by decide) (n := 757) rfl ?_
  refine g_iadd X dL_law_757 (n := 758) rfl ?_
  obtain ⟨h_6, hf⟩ := k_guard hf
  refine g_sld X XL dL_law_758 h_6 (n := 759) rfl ?_
  refine g_aload_n X dL_law_759 0 rfl rfl (n := 760) rfl ?_
  refine g_iload_n X dL_law_760 3 rfl rfl (n := 761) rfl ?_
  refine g_iconst X dL_law_761 (v := 2) (by decide) (n := 762) rfl ?_
  refine g_iadd X dL_law_762 (n := 763) rfl ?_
  obtain ⟨h_7, hf⟩ := k_guard hf
  refine g_sld X XL dL_law_763 h_7 (n := 764) rfl ?_
  refine g_aload_n X dL_law_764 0 rfl rfl (n := 765) rfl ?_
  refine g_iload_n X dL_law_765 3 rfl rfl (n := 766) rfl ?_
  refine g_iconst X dL_law_766 (v := 3) (by decide) (n := 767) rfl ?_
  refine g_iadd X dL_law_767 (n := 768) rfl ?_
  obtain ⟨h_8, hf⟩ := k_guard hf
  refine g_sld X XL dL_law_768 h_8 (n := 769) rfl ?_
  obtain ⟨x_9, g_10, hf⟩ := k_b1s hf
  refine g_callVR X (mX7_fine (D := D) (l := l) (a := am) (mp := mp) (mg := mg) (mc := mc) (ml := ml) (mq := mq) (mh := mh) (ms := ms) (mr := mr) (mi := mi) g_10) lk_X7_fine mlL_99 dL_law_769 (n := 772) rfl (st := [.int x_4]) rfl (st2 := [.int x_9, .int x_4]) rfl rfl rfl rfl (ad_X7 _ _ _ _ _ _ _ _ _ _ _ _ _ _ _ _ _ _ _ _) rfl ⟨Nat.le_of_ble_eq_true rfl, Nat.le_of_ble_eq_true rfl⟩ (Nat.le_of_ble_eq_true rfl) ?_
  refine g_icmp_eq X dL_law_772 (t := 1002) (by decide) (n := 775) rfl (fun c_11 => ?_) (fun c_11 => ?_)
  · replace hf := k_pos c_11 hf
    refine g_sub [0, 1, 2, 3] (lv' := [(0, .ref b), (1, .ref (a 0)), (2, .ref (am 0)), (3, .int v3)]) rfl ?_
    exact wL_law_b1002 X XL hk18 hret hf
  · replace hf := k_neg c_11 hf
    refine g_iconst X dL_law_775 (v := 0) (by decide) (n := 776) rfl ?_
    obtain rfl := Option.some.inj hf
    exact hret _ _ _ _ _ _ _ _ _ _ _ _ _ _ _ _ _ _ _ _ _ _ dL_law_776
set_option maxRecDepth 100000 in
set_option maxHeartbeats 4000000 in
theorem wL_law_b777 {D : va_G} {l : Launch} {E : k_E} {N : Nat} {b L : Nat} {xs : Nat → Int32} {a : Nat → Nat} {am : Nat → Nat} {k18 : Int32 → VX5 → VX3 → VX3 → VX3 → VX4 → VX4 → VX1 → VX2 → VX0 → VX0 → (Nat → Int32) → VMp → VMg → VMl → VMq → VMh → VMs → (Nat → Int32) → VMi → Option (Bool)} {v3 : Int32} {pad : VX5} {now : VX3} {fi : VX3} {se : VX3} {li : VX4} {so : VX4} {lo : VX1} {re : VX2} {ru : VX0} {ot : VX0} {le : Nat → Int32} {mp : VMp} {mg : VMg} {mc : Nat → Int64} {ml : VMl} {mq : VMq} {mh : VMh} {ms : VMs} {mr : Nat → Int32} {mi : VMi} {res : Bool} (X : k_X D E cL_law RL 4 7 193) (XL : k_XL E b L xs) (hk18 : ∀ (p3 : Int32) (pad : VX5) (now : VX3) (fi : VX3) (se : VX3) (li : VX4) (so : VX4) (lo : VX1) (re : VX2) (ru : VX0) (ot : VX0) (le : Nat → Int32) (mp : VMp) (mg : VMg) (ml : VMl) (mq : VMq) (mh : VMh) (ms : VMs) (mr : Nat → Int32) (mi : VMi), k18 p3 pad now fi se li so lo re ru ot le mp mg ml mq mh ms mr mi = some res → k_G D l E (pic_X6 D a pad now fi se li so lo re ru ot le ++ pic_X7 D am mp mg mc ml mq mh ms mr mi) [(0, .ref b), (1, .ref (a 0)), (2, .ref (am 0)), (3, .int p3)] 18 []) (hret : ∀ (pad : VX5) (now : VX3) (fi : VX3) (se : VX3) (li : VX4) (so : VX4) (lo : VX1) (re : VX2) (ru : VX0) (ot : VX0) (le : Nat → Int32) (mp : VMp) (mg : VMg) (mc : Nat → Int64) (ml : VMl) (mq : VMq) (mh : VMh) (ms : VMs) (mr : Nat → Int32) (mi : VMi) (pc : Nat) (lv : List (Nat × Value)), decode cL_law pc = .ok (.ireturn, 1) → k_G D l E (pic_X6 D a pad now fi se li so lo re ru ot le ++ pic_X7 D am mp mg mc ml mq mh ms mr mi) lv pc [.int (bI res)]) (hf : fL_law_b777 N L xs mc k18 v3 pad now fi se li so lo re ru ot le mp mg ml mq mh ms mr mi = some res) : k_G D l E (pic_X6 D a pad now fi se li so lo re ru ot le ++ pic_X7 D am mp mg mc ml mq mh ms mr mi) [(0, .ref b), (1, .ref (a 0)), (2, .ref (am 0)), (3, .int v3)] 777 [] := by
  unfold fL_law_b777 at hf
  refine g_aload_n X dL_law_777 1 rfl rfl (n := 778) rfl ?_
  refine g_aload_n X dL_law_778 0 rfl rfl (n := 779) rfl ?_
  refine g_iload_n X dL_law_779 3 rfl rfl (n := 780) rfl ?_
  refine g_iconst X dL_law_780 (v := 1) (by decide) (n := 781) rfl ?_
  refine g_iadd X dL_law_781 (n := 782) rfl ?_
  obtain ⟨h_1, hf⟩ := k_guard hf
  refine g_sld X XL dL_law_782 h_1 (n := 783) rfl ?_
  refine g_aload_n X dL_law_783 0 rfl rfl (n := 784) rfl ?_
  refine g_iload_n X dL_law_784 3 rfl rfl (n := 785) rfl ?_
  refine g_iconst X dL_law_785 (v := 2) (by decide) (n := 786) rfl ?_
  refine g_iadd X dL_law_786 (n := 787) rfl ?_
  obtain ⟨h_2, hf⟩ := k_guard hf
  refine g_sld X XL dL_law_787 h_2 (n := 788) rfl ?_
  refine g_aload_n X dL_law_788 0 rfl rfl (n := 789) rfl ?_
  refine g_iload_n X dL_law_789 3 rfl rfl (n := 790) rfl ?_
  refine g_iconst X dL_law_790 (v := 3) (by decide) (n := 791) rfl ?_
  refine g_iadd X dL_law_791 (n := 792) rfl ?_
  obtain ⟨h_3, hf⟩ := k_guard hf
  refine g_sld X XL dL_law_792 h_3 (n := 793) rfl ?_
  obtain ⟨x_4, li_5, ru_6, g_7, hf⟩ := k_b3s hf
  refine g_callVL X (mX6_word (D := D) (l := l) (a := a) (pad := pad) (fi := fi) (se := se) (so := so) (lo := lo) (re := re) (ot := ot) (le := le) g_7) lk_X6_word mlL_100 dL_law_793 (n := 796) rfl (st := []) rfl (st2 := [.long x_4]) rfl rfl rfl rfl (ad_X6 _ _ _ _ _ _ _ _ _ _ _ _ _ _ _ _ _ _ _ _ _ _ _ _) rfl ⟨Nat.le_of_ble_eq_true rfl, Nat.le_of_ble_eq_true rfl⟩ (Nat.le_of_ble_eq_true rfl) ?_
  refine g_aload_n X dL_law_796 2 rfl rfl (n := 797) rfl ?_
  refine g_aload_n X dL_law_797 0 rfl rfl (n := 798) rfl ?_
  refine g_iload_n X dL_law_798 3 rfl rfl (n := 799) rfl ?_
  refine g_iconst X dL_law_799 (v := 1) (by decide) (n := 800) rfl ?_
  refine g_iadd X dL_law_800 (n := 801) rfl ?_
  obtain ⟨h_8, hf⟩ := k_guard hf
  refine g_sld X XL dL_law_801 h_8 (n := 802) rfl ?_
  refine g_aload_n X dL_law_802 0 rfl rfl (n := 803) rfl ?_
  refine g_iload_n X dL_law_803 3 rfl rfl (n := 804) rfl ?_
  refine g_iconst X dL_law_804 (v := 2) (by decide) (n := 805) rfl ?_
  refine g_iadd X dL_law_805 (n := 806) rfl ?_
  obtain ⟨h_9, hf⟩ := k_guard hf
  refine g_sld X XL dL_law_806 h_9 (n := 807) rfl ?_
  refine g_aload_n X dL_law_807 0 rfl rfl (n := 808) rfl ?_
  refine g_iload_n X dL_law_808 3 rfl rfl (n := 809) rfl ?_
  refine g_iconst X dL_law_809 (v := 3) (by decide) (n := 810) rfl ?_
  refine g_iadd X dL_law_810 (n := 811) rfl ?_
  obtain ⟨h_10, hf⟩ := k_guard hf
  refine g_sld X XL dL_law_811 h_10 (n := 812) rfl ?_
  obtain ⟨x_11, ml_12, g_13, hf⟩ := k_b2s hf
  refine g_callVR X (mX7_word (D := D) (l := l) (a := am) (mp := mp) (mc := mc) (mq := mq) (mh := mh) (ms := ms) (mr := mr) (mi := mi) g_13) lk_X7_word mlL_104 dL_law_812 (n := 815) rfl (st := [.long x_4]) rfl (st2 := [.long x_11, .long x_4]) rfl rfl rfl rfl (ad_X7 _ _ _ _ _ _ _ _ _ _ _ _ _ _ _ _ _ _ _ _) rfl ⟨Nat.le_of_ble_eq_true rfl, Nat.le_of_ble_eq_true rfl⟩ (Nat.le_of_ble_eq_true rfl) ?_
  refine g_lcmp_eq X dL_law_815 dL_law_816 (t := 1002) (by decide) (n := 819) rfl (fun c_14 => ?_) (fun c_14 => ?_)
  · replace hf := k_pos c_14 hf
    refine g_sub [0, 1, 2, 3] (lv' := [(0, .ref b), (1, .ref (a 0)), (2, .ref (am 0)), (3, .int v3)]) rfl ?_
    exact wL_law_b1002 X XL hk18 hret hf
  · replace hf := k_neg c_14 hf
    refine g_iconst X dL_law_819 (v := 0) (by decide) (n := 820) rfl ?_
    obtain rfl := Option.some.inj hf
    exact hret _ _ _ _ _ _ _ _ _ _ _ _ _ _ _ _ _ _ _ _ _ _ dL_law_820
set_option maxRecDepth 100000 in
set_option maxHeartbeats 4000000 in
theorem wL_law_b821 {D : va_G} {l : Launch} {E : k_E} {N : Nat} {b L : Nat} {xs : Nat → Int32} {a : Nat → Nat} {am : Nat → Nat} {k18 : Int32 → VX5 → VX3 → VX3 → VX3 → VX4 → VX4 → VX1 → VX2 → VX0 → VX0 → (Nat → Int32) → VMp → VMg → VMl → VMq → VMh → VMs → (Nat → Int32) → VMi → Option (Bool)} {v3 : Int32} {pad : VX5} {now : VX3} {fi : VX3} {se : VX3} {li : VX4} {so : VX4} {lo : VX1} {re : VX2} {ru : VX0} {ot : VX0} {le : Nat → Int32} {mp : VMp} {mg : VMg} {mc : Nat → Int64} {ml : VMl} {mq : VMq} {mh : VMh} {ms : VMs} {mr : Nat → Int32} {mi : VMi} {res : Bool} (X : k_X D E cL_law RL 4 7 193) (XL : k_XL E b L xs) (hk18 : ∀ (p3 : Int32) (pad : VX5) (now : VX3) (fi : VX3) (se : VX3) (li : VX4) (so : VX4) (lo : VX1) (re : VX2) (ru : VX0) (ot : VX0) (le : Nat → Int32) (mp : VMp) (mg : VMg) (ml : VMl) (mq : VMq) (mh : VMh) (ms : VMs) (mr : Nat → Int32) (mi : VMi), k18 p3 pad now fi se li so lo re ru ot le mp mg ml mq mh ms mr mi = some res → k_G D l E (pic_X6 D a pad now fi se li so lo re ru ot le ++ pic_X7 D am mp mg mc ml mq mh ms mr mi) [(0, .ref b), (1, .ref (a 0)), (2, .ref (am 0)), (3, .int p3)] 18 []) (hret : ∀ (pad : VX5) (now : VX3) (fi : VX3) (se : VX3) (li : VX4) (so : VX4) (lo : VX1) (re : VX2) (ru : VX0) (ot : VX0) (le : Nat → Int32) (mp : VMp) (mg : VMg) (mc : Nat → Int64) (ml : VMl) (mq : VMq) (mh : VMh) (ms : VMs) (mr : Nat → Int32) (mi : VMi) (pc : Nat) (lv : List (Nat × Value)), decode cL_law pc = .ok (.ireturn, 1) → k_G D l E (pic_X6 D a pad now fi se li so lo re ru ot le ++ pic_X7 D am mp mg mc ml mq mh ms mr mi) lv pc [.int (bI res)]) (hf : fL_law_b821 N L xs mc k18 v3 pad now fi se li so lo re ru ot le mp mg ml mq mh ms mr mi = some res) : k_G D l E (pic_X6 D a pad now fi se li so lo re ru ot le ++ pic_X7 D am mp mg mc ml mq mh ms mr mi) [(0, .ref b), (1, .ref (a 0)), (2, .ref (am 0)), (3, .int v3)] 821 [] := by
  unfold fL_law_b821 at hf
  refine g_aload_n X dL_law_821 1 rfl rfl (n := 822) rfl ?_
  refine g_aload_n X dL_law_822 0 rfl rfl (n := 823) rfl ?_
  refine g_iload_n X dL_law_823 3 rfl rfl (n := 824) rfl ?_
  refine g_iconst X dL_law_824 (v := 1) (by decide) (n := 825) rfl ?_
  refine g_iadd X dL_law_825 (n := 826) rfl ?_
  obtain ⟨h_1, hf⟩ := k_guard hf
  refine g_sld X XL dL_law_826 h_1 (n := 827) rfl ?_
  obtain ⟨x_2, li_3, so_4, g_5, hf⟩ := k_b3s hf
  refine g_callVL X (mX6_strike (D := D) (l := l) (a := a) (pad := pad) (fi := fi) (se := se) (lo := lo) (re := re) (ru := ru) (ot := ot) (le := le) g_5) lk_X6_strike mlL_105 dL_law_827 (n := 830) rfl (st := []) rfl (st2 := [.int x_2]) rfl rfl rfl rfl (ad_X6 _ _ _ _ _ _ _ _ _ _ _ _ _ _ _ _ _ _ _ _ _ _ _ _) rfl ⟨Nat.le_of_ble_eq_true rfl, Nat.le_of_ble_eq_true rfl⟩ (Nat.le_of_ble_eq_true rfl) ?_
  refine g_aload_n X dL_law_830 2 rfl rfl (n := 831) rfl ?_
  refine g_aload_n X dL_law_831 0 rfl rfl (n := 832) rfl ?_
  refine g_iload_n X dL_law_832 3 rfl rfl (n := 833) rfl ?_
  refine g_iconst X dL_law_833 (v := 1) (by decide) (n := 834) rfl ?_
  refine g_iadd X dL_law_834 (n := 835) rfl ?_
  obtain ⟨h_6, hf⟩ := k_guard hf
  refine g_sld X XL dL_law_835 h_6 (n := 836) rfl ?_
  obtain ⟨x_7, ml_8, g_9, hf⟩ := k_b2s hf
  refine g_callVR X (mX7_strike (D := D) (l := l) (a := am) (mp := mp) (mc := mc) (mq := mq) (mh := mh) (ms := ms) (mr := mr) (mi := mi) g_9) lk_X7_strike mlL_108 dL_law_836 (n := 839) rfl (st := [.int x_2]) rfl (st2 := [.int x_7, .int x_2]) rfl rfl rfl rfl (ad_X7 _ _ _ _ _ _ _ _ _ _ _ _ _ _ _ _ _ _ _ _) rfl ⟨Nat.le_of_ble_eq_true rfl, Nat.le_of_ble_eq_true rfl⟩ (Nat.le_of_ble_eq_true rfl) ?_
  refine g_icmp_eq X dL_law_839 (t := 1002) (by decide) (n := 842) rfl (fun c_10 => ?_) (fun c_10 => ?_)
  · replace hf := k_pos c_10 hf
    refine g_sub [0, 1, 2, 3] (lv' := [(0, .ref b), (1, .ref (a 0)), (2, .ref (am 0)), (3, .int v3)]) rfl ?_
    exact wL_law_b1002 X XL hk18 hret hf
  · replace hf := k_neg c_10 hf
    refine g_iconst X dL_law_842 (v := 0) (by decide) (n := 843) rfl ?_
    obtain rfl := Option.some.inj hf
    exact hret _ _ _ _ _ _ _ _ _ _ _ _ _ _ _ _ _ _ _ _ _ _ dL_law_843
set_option maxRecDepth 100000 in
set_option maxHeartbeats 4000000 in
theorem wL_law_b844 {D : va_G} {l : Launch} {E : k_E} {N : Nat} {b L : Nat} {xs : Nat → Int32} {a : Nat → Nat} {am : Nat → Nat} {k18 : Int32 → VX5 → VX3 → VX3 → VX3 → VX4 → VX4 → VX1 → VX2 → VX0 → VX0 → (Nat → Int32) → VMp → VMg → VMl → VMq → VMh → VMs → (Nat → Int32) → VMi → Option (Bool)} {v3 : Int32} {pad : VX5} {now : VX3} {fi : VX3} {se : VX3} {li : VX4} {so : VX4} {lo : VX1} {re : VX2} {ru : VX0} {ot : VX0} {le : Nat → Int32} {mp : VMp} {mg : VMg} {mc : Nat → Int64} {ml : VMl} {mq : VMq} {mh : VMh} {ms : VMs} {mr : Nat → Int32} {mi : VMi} {res : Bool} (X : k_X D E cL_law RL 4 7 193) (XL : k_XL E b L xs) (hk18 : ∀ (p3 : Int32) (pad : VX5) (now : VX3) (fi : VX3) (se : VX3) (li : VX4) (so : VX4) (lo : VX1) (re : VX2) (ru : VX0) (ot : VX0) (le : Nat → Int32) (mp : VMp) (mg : VMg) (ml : VMl) (mq : VMq) (mh : VMh) (ms : VMs) (mr : Nat → Int32) (mi : VMi), k18 p3 pad now fi se li so lo re ru ot le mp mg ml mq mh ms mr mi = some res → k_G D l E (pic_X6 D a pad now fi se li so lo re ru ot le ++ pic_X7 D am mp mg mc ml mq mh ms mr mi) [(0, .ref b), (1, .ref (a 0)), (2, .ref (am 0)), (3, .int p3)] 18 []) (hret : ∀ (pad : VX5) (now : VX3) (fi : VX3) (se : VX3) (li : VX4) (so : VX4) (lo : VX1) (re : VX2) (ru : VX0) (ot : VX0) (le : Nat → Int32) (mp : VMp) (mg : VMg) (mc : Nat → Int64) (ml : VMl) (mq : VMq) (mh : VMh) (ms : VMs) (mr : Nat → Int32) (mi : VMi) (pc : Nat) (lv : List (Nat × Value)), decode cL_law pc = .ok (.ireturn, 1) → k_G D l E (pic_X6 D a pad now fi se li so lo re ru ot le ++ pic_X7 D am mp mg mc ml mq mh ms mr mi) lv pc [.int (bI res)]) (hf : fL_law_b844 N L xs mc k18 v3 pad now fi se li so lo re ru ot le mp mg ml mq mh ms mr mi = some res) : k_G D l E (pic_X6 D a pad now fi se li so lo re ru ot le ++ pic_X7 D am mp mg mc ml mq mh ms mr mi) [(0, .ref b), (1, .ref (a 0)), (2, .ref (am 0)), (3, .int v3)] 844 [] := by
  unfold fL_law_b844 at hf
  refine g_aload_n X dL_law_844 1 rfl rfl (n := 845) rfl ?_
  obtain ⟨x_1, li_2, so_3, g_4, hf⟩ := k_b3s hf
  refine g_callVL X (mX6_worst (D := D) (l := l) (a := a) (pad := pad) (fi := fi) (se := se) (lo := lo) (re := re) (ru := ru) (ot := ot) (le := le) g_4) lk_X6_worst mlL_109 dL_law_845 (n := 848) rfl (st := []) rfl (st2 := [.int x_1]) rfl rfl rfl rfl (ad_X6 _ _ _ _ _ _ _ _ _ _ _ _ _ _ _ _ _ _ _ _ _ _ _ _) rfl ⟨Nat.le_of_ble_eq_true rfl, Nat.le_of_ble_eq_true rfl⟩ (Nat.le_of_ble_eq_true rfl) ?_
  refine g_aload_n X dL_law_848 2 rfl rfl (n := 849) rfl ?_
  obtain ⟨x_5, ml_6, g_7, hf⟩ := k_b2s hf
  refine g_callVR X (mX7_worst (D := D) (l := l) (a := am) (mp := mp) (mc := mc) (mq := mq) (mh := mh) (ms := ms) (mr := mr) (mi := mi) g_7) lk_X7_worst mlL_112 dL_law_849 (n := 852) rfl (st := [.int x_1]) rfl (st2 := [.int x_5, .int x_1]) rfl rfl rfl rfl (ad_X7 _ _ _ _ _ _ _ _ _ _ _ _ _ _ _ _ _ _ _ _) rfl ⟨Nat.le_of_ble_eq_true rfl, Nat.le_of_ble_eq_true rfl⟩ (Nat.le_of_ble_eq_true rfl) ?_
  refine g_icmp_eq X dL_law_852 (t := 1002) (by decide) (n := 855) rfl (fun c_8 => ?_) (fun c_8 => ?_)
  · replace hf := k_pos c_8 hf
    refine g_sub [0, 1, 2, 3] (lv' := [(0, .ref b), (1, .ref (a 0)), (2, .ref (am 0)), (3, .int v3)]) rfl ?_
    exact wL_law_b1002 X XL hk18 hret hf
  · replace hf := k_neg c_8 hf
    refine g_iconst X dL_law_855 (v := 0) (by decide) (n := 856) rfl ?_
    obtain rfl := Option.some.inj hf
    exact hret _ _ _ _ _ _ _ _ _ _ _ _ _ _ _ _ _ _ _ _ _ _ dL_law_856
set_option maxRecDepth 100000 in
set_option maxHeartbeats 4000000 in
theorem wL_law_b857 {D : va_G} {l : Launch} {E : k_E} {N : Nat} {b L : Nat} {xs : Nat → Int32} {a : Nat → Nat} {am : Nat → Nat} {k18 : Int32 → VX5 → VX3 → VX3 → VX3 → VX4 → VX4 → VX1 → VX2 → VX0 → VX0 → (Nat → Int32) → VMp → VMg → VMl → VMq → VMh → VMs → (Nat → Int32) → VMi → Option (Bool)} {v3 : Int32} {pad : VX5} {now : VX3} {fi : VX3} {se : VX3} {li : VX4} {so : VX4} {lo : VX1} {re : VX2} {ru : VX0} {ot : VX0} {le : Nat → Int32} {mp : VMp} {mg : VMg} {mc : Nat → Int64} {ml : VMl} {mq : VMq} {mh : VMh} {ms : VMs} {mr : Nat → Int32} {mi : VMi} {res : Bool} (X : k_X D E cL_law RL 4 7 193) (XL : k_XL E b L xs) (hk18 : ∀ (p3 : Int32) (pad : VX5) (now : VX3) (fi : VX3) (se : VX3) (li : VX4) (so : VX4) (lo : VX1) (re : VX2) (ru : VX0) (ot : VX0) (le : Nat → Int32) (mp : VMp) (mg : VMg) (ml : VMl) (mq : VMq) (mh : VMh) (ms : VMs) (mr : Nat → Int32) (mi : VMi), k18 p3 pad now fi se li so lo re ru ot le mp mg ml mq mh ms mr mi = some res → k_G D l E (pic_X6 D a pad now fi se li so lo re ru ot le ++ pic_X7 D am mp mg mc ml mq mh ms mr mi) [(0, .ref b), (1, .ref (a 0)), (2, .ref (am 0)), (3, .int p3)] 18 []) (hret : ∀ (pad : VX5) (now : VX3) (fi : VX3) (se : VX3) (li : VX4) (so : VX4) (lo : VX1) (re : VX2) (ru : VX0) (ot : VX0) (le : Nat → Int32) (mp : VMp) (mg : VMg) (mc : Nat → Int64) (ml : VMl) (mq : VMq) (mh : VMh) (ms : VMs) (mr : Nat → Int32) (mi : VMi) (pc : Nat) (lv : List (Nat × Value)), decode cL_law pc = .ok (.ireturn, 1) → k_G D l E (pic_X6 D a pad now fi se li so lo re ru ot le ++ pic_X7 D am mp mg mc ml mq mh ms mr mi) lv pc [.int (bI res)]) (hf : fL_law_b857 N L xs mc k18 v3 pad now fi se li so lo re ru ot le mp mg ml mq mh ms mr mi = some res) : k_G D l E (pic_X6 D a pad now fi se li so lo re ru ot le ++ pic_X7 D am mp mg mc ml mq mh ms mr mi) [(0, .ref b), (1, .ref (a 0)), (2, .ref (am 0)), (3, .int v3)] 857 [] := by
  unfold fL_law_b857 at hf
  refine g_aload_n X dL_law_857 1 rfl rfl (n := 858) rfl ?_
  refine g_aload_n X dL_law_858 0 rfl rfl (n := 859) rfl ?_
  refine g_iload_n X dL_law_859 3 rfl rfl (n := 860) rfl ?_
  refine g_iconst X dL_law_860 (v := 1) (by decide) (n := 861) rfl ?_
  refine g_iadd X dL_law_861 (n := 862) rfl ?_
  obtain ⟨h_1, hf⟩ := k_guard hf
  refine g_sld X XL dL_law_862 h_1 (n := 863) rfl ?_
  refine g_aload_n X dL_law_863 0 rfl rfl (n := 864) rfl ?_
  refine g_iload_n X dL_law_864 3 rfl rfl (n := 865) rfl ?_
  refine g_iconst X dL_law_865 (v := 2) (by decide) (n := 866) rfl ?_
  refine g_iadd X dL_law_866 (n := 867) rfl ?_
  obtain ⟨h_2, hf⟩ := k_guard hf
  refine g_sld X XL dL_law_867 h_2 (n := 868) rfl ?_
  obtain ⟨x_3, li_4, lo_5, re_6, g_7, hf⟩ := k_b4s hf
  refine g_callVL X (mX6_against (D := D) (l := l) (a := a) (pad := pad) (fi := fi) (se := se) (so := so) (ru := ru) (ot := ot) (le := le) g_7) lk_X6_against mlL_113 dL_law_868 (n := 871) rfl (st := []) rfl (st2 := [.int x_3]) rfl rfl rfl rfl (ad_X6 _ _ _ _ _ _ _ _ _ _ _ _ _ _ _ _ _ _ _ _ _ _ _ _) rfl ⟨Nat.le_of_ble_eq_true rfl, Nat.le_of_ble_eq_true rfl⟩ (Nat.le_of_ble_eq_true rfl) ?_
  refine g_aload_n X dL_law_871 2 rfl rfl (n := 872) rfl ?_
  refine g_aload_n X dL_law_872 0 rfl rfl (n := 873) rfl ?_
  refine g_iload_n X dL_law_873 3 rfl rfl (n := 874) rfl ?_
  refine g_iconst X dL_law_874 (v := 1) (by decide) (n := 875) rfl ?_
  refine g_iadd X dL_law_875 (n := 876) rfl ?_
  obtain ⟨h_8, hf⟩ := k_guard hf
  refine g_sld X XL dL_law_876 h_8 (n := 877) rfl ?_
  refine g_aload_n X dL_law_877 0 rfl rfl (n := 878) rfl ?_
  refine g_iload_n X dL_law_878 3 rfl rfl (n := 879) rfl ?_
  refine g_iconst X dL_law_879 (v := 2) (by decide) (n := 880) rfl ?_
  refine g_iadd X dL_law_880 (n := 881) rfl ?_
  obtain ⟨h_9, hf⟩ := k_guard hf
  refine g_sld X XL dL_law_881 h_9 (n := 882) rfl ?_
  obtain ⟨x_10, ml_11, mq_12, g_13, hf⟩ := k_b3s hf
  refine g_callVR X (mX7_against (D := D) (l := l) (a := am) (mp := mp) (mh := mh) (ms := ms) (mr := mr) (mi := mi) g_13) lk_X7_against mlL_116 dL_law_882 (n := 885) rfl (st := [.int x_3]) rfl (st2 := [.int x_10, .int x_3]) rfl rfl rfl rfl (ad_X7 _ _ _ _ _ _ _ _ _ _ _ _ _ _ _ _ _ _ _ _) rfl ⟨Nat.le_of_ble_eq_true rfl, Nat.le_of_ble_eq_true rfl⟩ (Nat.le_of_ble_eq_true rfl) ?_
  refine g_icmp_eq X dL_law_885 (t := 1002) (by decide) (n := 888) rfl (fun c_14 => ?_) (fun c_14 => ?_)
  · replace hf := k_pos c_14 hf
    refine g_sub [0, 1, 2, 3] (lv' := [(0, .ref b), (1, .ref (a 0)), (2, .ref (am 0)), (3, .int v3)]) rfl ?_
    exact wL_law_b1002 X XL hk18 hret hf
  · replace hf := k_neg c_14 hf
    refine g_iconst X dL_law_888 (v := 0) (by decide) (n := 889) rfl ?_
    obtain rfl := Option.some.inj hf
    exact hret _ _ _ _ _ _ _ _ _ _ _ _ _ _ _ _ _ _ _ _ _ _ dL_law_889
set_option maxRecDepth 100000 in
set_option maxHeartbeats 4000000 in
theorem wL_law_b890 {D : va_G} {l : Launch} {E : k_E} {N : Nat} {b L : Nat} {xs : Nat → Int32} {a : Nat → Nat} {am : Nat → Nat} {k18 : Int32 → VX5 → VX3 → VX3 → VX3 → VX4 → VX4 → VX1 → VX2 → VX0 → VX0 → (Nat → Int32) → VMp → VMg → VMl → VMq → VMh → VMs → (Nat → Int32) → VMi → Option (Bool)} {v3 : Int32} {pad : VX5} {now : VX3} {fi : VX3} {se : VX3} {li : VX4} {so : VX4} {lo : VX1} {re : VX2} {ru : VX0} {ot : VX0} {le : Nat → Int32} {mp : VMp} {mg : VMg} {mc : Nat → Int64} {ml : VMl} {mq : VMq} {mh : VMh} {ms : VMs} {mr : Nat → Int32} {mi : VMi} {res : Bool} (X : k_X D E cL_law RL 4 7 193) (XL : k_XL E b L xs) (hk18 : ∀ (p3 : Int32) (pad : VX5) (now : VX3) (fi : VX3) (se : VX3) (li : VX4) (so : VX4) (lo : VX1) (re : VX2) (ru : VX0) (ot : VX0) (le : Nat → Int32) (mp : VMp) (mg : VMg) (ml : VMl) (mq : VMq) (mh : VMh) (ms : VMs) (mr : Nat → Int32) (mi : VMi), k18 p3 pad now fi se li so lo re ru ot le mp mg ml mq mh ms mr mi = some res → k_G D l E (pic_X6 D a pad now fi se li so lo re ru ot le ++ pic_X7 D am mp mg mc ml mq mh ms mr mi) [(0, .ref b), (1, .ref (a 0)), (2, .ref (am 0)), (3, .int p3)] 18 []) (hret : ∀ (pad : VX5) (now : VX3) (fi : VX3) (se : VX3) (li : VX4) (so : VX4) (lo : VX1) (re : VX2) (ru : VX0) (ot : VX0) (le : Nat → Int32) (mp : VMp) (mg : VMg) (mc : Nat → Int64) (ml : VMl) (mq : VMq) (mh : VMh) (ms : VMs) (mr : Nat → Int32) (mi : VMi) (pc : Nat) (lv : List (Nat × Value)), decode cL_law pc = .ok (.ireturn, 1) → k_G D l E (pic_X6 D a pad now fi se li so lo re ru ot le ++ pic_X7 D am mp mg mc ml mq mh ms mr mi) lv pc [.int (bI res)]) (hf : fL_law_b890 N L xs mc k18 v3 pad now fi se li so lo re ru ot le mp mg ml mq mh ms mr mi = some res) : k_G D l E (pic_X6 D a pad now fi se li so lo re ru ot le ++ pic_X7 D am mp mg mc ml mq mh ms mr mi) [(0, .ref b), (1, .ref (a 0)), (2, .ref (am 0)), (3, .int v3)] 890 [] := by
  unfold fL_law_b890 at hf
  refine g_aload_n X dL_law_890 1 rfl rfl (n := 891) rfl ?_
  refine g_aload_n X dL_law_891 0 rfl rfl (n := 892) rfl ?_
  refine g_iload_n X dL_law_892 3 rfl rfl (n := 893) rfl ?_
  refine g_iconst X dL_law_893 (v := 1) (by decide) (n := 894) rfl ?_
  refine g_iadd X dL_law_894 (n := 895) rfl ?_
  obtain ⟨h_1, hf⟩ := k_guard hf
  refine g_sld X XL dL_law_895 h_1 (n := 896) rfl ?_
  refine g_aload_n X dL_law_896 0 rfl rfl (n := 897) rfl ?_
  refine g_iload_n X dL_law_897 3 rfl rfl (n := 898) rfl ?_
  refine g_iconst X dL_law_898 (v := 2) (by decide) (n := 899) rfl ?_
  refine g_iadd X dL_law_899 (n := 900) rfl ?_
  obtain ⟨h_2, hf⟩ := k_guard hf
  refine g_sld X XL dL_law_900 h_2 (n := 901) rfl ?_
  refine g_aload_n X dL_law_901 0 rfl rfl (n := 902) rfl ?_
  refine g_iload_n X dL_law_902 3 rfl rfl (n := 903) rfl ?_
  refine g_iconst X dL_law_903 (v := 3) (by decide) (n := 904) rfl ?_
  refine g_iadd X dL_law_904 (n := 905) rfl ?_
  obtain ⟨h_3, hf⟩ := k_guard hf
  refine g_sld X XL dL_law_905 h_3 (n := 906) rfl ?_
  obtain ⟨x_4, li_5, so_6, re_7, le_8, g_9, hf⟩ := k_b5s hf
  refine g_callVL X (mX6_heap (D := D) (l := l) (a := a) (pad := pad) (fi := fi) (se := se) (lo := lo) (ru := ru) (ot := ot) g_9) lk_X6_heap mlL_117 dL_law_906 (n := 909) rfl (st := []) rfl (st2 := [.int x_4]) rfl rfl rfl rfl (ad_X6 _ _ _ _ _ _ _ _ _ _ _ _ _ _ _ _ _ _ _ _ _ _ _ _) rfl ⟨Nat.le_of_ble_eq_true rfl, Nat.le_of_ble_eq_true rfl⟩ (Nat.le_of_ble_eq_true rfl) ?_
  refine g_aload_n X dL_law_909 2 rfl rfl (n := 910) rfl ?_
  refine g_aload_n X dL_law_910 0 rfl rfl (n := 911) rfl ?_
  refine g_iload_n X dL_law_911 3 rfl rfl (n := 912) rfl ?_
  refine g_iconst X dL_law_912 (v := 1) (by decide) (n := 913) rfl ?_
  refine g_iadd X dL_law_913 (n := 914) rfl ?_
  obtain ⟨h_10, hf⟩ := k_guard hf
  refine g_sld X XL dL_law_914 h_10 (n := 915) rfl ?_
  refine g_aload_n X dL_law_915 0 rfl rfl (n := 916) rfl ?_
  refine g_iload_n X dL_law_916 3 rfl rfl (n := 917) rfl ?_
  refine g_iconst X dL_law_917 (v := 2) (by decide) (n := 918) rfl ?_
  refine g_iadd X dL_law_918 (n := 919) rfl ?_
  obtain ⟨h_11, hf⟩ := k_guard hf
  refine g_sld X XL dL_law_919 h_11 (n := 920) rfl ?_
  refine g_aload_n X dL_law_920 0 rfl rfl (n := 921) rfl ?_
  refine g_iload_n X dL_law_921 3 rfl rfl (n := 922) rfl ?_
  refine g_iconst X dL_law_922 (v := 3) (by decide) (n := 923) rfl ?_
  refine g_iadd X dL_law_923 (n := 924) rfl ?_
  obtain ⟨h_12, hf⟩ := k_guard hf
  refine g_sld X XL dL_law_924 h_12 (n := 925) rfl ?_
  obtain ⟨x_13, ml_14, mq_15, mr_16, g_17, hf⟩ := k_b4s hf
  refine g_callVR X (mX7_heap (D := D) (l := l) (a := am) (mp := mp) (mc := mc) (mh := mh) (ms := ms) (mi := mi) g_17) lk_X7_heap mlL_120 dL_law_925 (n := 928) rfl (st := [.int x_4]) rfl (st2 := [.int x_13, .int x_4]) rfl rfl rfl rfl (ad_X7 _ _ _ _ _ _ _ _ _ _ _ _ _ _ _ _ _ _ _ _) rfl ⟨Nat.le_of_ble_eq_true rfl, Nat.le_of_ble_eq_true rfl⟩ (Nat.le_of_ble_eq_true rfl) ?_
  refine g_icmp_eq X dL_law_928 (t := 1002) (by decide) (n := 931) rfl (fun c_18 => ?_) (fun c_18 => ?_)
  · replace hf := k_pos c_18 hf
    refine g_sub [0, 1, 2, 3] (lv' := [(0, .ref b), (1, .ref (a 0)), (2, .ref (am 0)), (3, .int v3)]) rfl ?_
    exact wL_law_b1002 X XL hk18 hret hf
  · replace hf := k_neg c_18 hf
    refine g_iconst X dL_law_931 (v := 0) (by decide) (n := 932) rfl ?_
    obtain rfl := Option.some.inj hf
    exact hret _ _ _ _ _ _ _ _ _ _ _ _ _ _ _ _ _ _ _ _ _ _ dL_law_932
set_option maxRecDepth 100000 in
set_option maxHeartbeats 4000000 in
theorem wL_law_b933 {D : va_G} {l : Launch} {E : k_E} {N : Nat} {b L : Nat} {xs : Nat → Int32} {a : Nat → Nat} {am : Nat → Nat} {k18 : Int32 → VX5 → VX3 → VX3 → VX3 → VX4 → VX4 → VX1 → VX2 → VX0 → VX0 → (Nat → Int32) → VMp → VMg → VMl → VMq → VMh → VMs → (Nat → Int32) → VMi → Option (Bool)} {v3 : Int32} {pad : VX5} {now : VX3} {fi : VX3} {se : VX3} {li : VX4} {so : VX4} {lo : VX1} {re : VX2} {ru : VX0} {ot : VX0} {le : Nat → Int32} {mp : VMp} {mg : VMg} {mc : Nat → Int64} {ml : VMl} {mq : VMq} {mh : VMh} {ms : VMs} {mr : Nat → Int32} {mi : VMi} {res : Bool} (X : k_X D E cL_law RL 4 7 193) (XL : k_XL E b L xs) (hk18 : ∀ (p3 : Int32) (pad : VX5) (now : VX3) (fi : VX3) (se : VX3) (li : VX4) (so : VX4) (lo : VX1) (re : VX2) (ru : VX0) (ot : VX0) (le : Nat → Int32) (mp : VMp) (mg : VMg) (ml : VMl) (mq : VMq) (mh : VMh) (ms : VMs) (mr : Nat → Int32) (mi : VMi), k18 p3 pad now fi se li so lo re ru ot le mp mg ml mq mh ms mr mi = some res → k_G D l E (pic_X6 D a pad now fi se li so lo re ru ot le ++ pic_X7 D am mp mg mc ml mq mh ms mr mi) [(0, .ref b), (1, .ref (a 0)), (2, .ref (am 0)), (3, .int p3)] 18 []) (hret : ∀ (pad : VX5) (now : VX3) (fi : VX3) (se : VX3) (li : VX4) (so : VX4) (lo : VX1) (re : VX2) (ru : VX0) (ot : VX0) (le : Nat → Int32) (mp : VMp) (mg : VMg) (mc : Nat → Int64) (ml : VMl) (mq : VMq) (mh : VMh) (ms : VMs) (mr : Nat → Int32) (mi : VMi) (pc : Nat) (lv : List (Nat × Value)), decode cL_law pc = .ok (.ireturn, 1) → k_G D l E (pic_X6 D a pad now fi se li so lo re ru ot le ++ pic_X7 D am mp mg mc ml mq mh ms mr mi) lv pc [.int (bI res)]) (hf : fL_law_b933 N L xs mc k18 v3 pad now fi se li so lo re ru ot le mp mg ml mq mh ms mr mi = some res) : k_G D l E (pic_X6 D a pad now fi se li so lo re ru ot le ++ pic_X7 D am mp mg mc ml mq mh ms mr mi) [(0, .ref b), (1, .ref (a 0)), (2, .ref (am 0)), (3, .int v3)] 933 [] := by
  unfold fL_law_b933 at hf
  refine g_aload_n X dL_law_933 1 rfl rfl (n := 934) rfl ?_
  refine g_aload_n X dL_law_934 0 rfl rfl (n := 935) rfl ?_
  refine g_iload_n X dL_law_935 3 rfl rfl (n := 936) rfl ?_
  refine g_iconst X dL_law_936 (v := 1) (by decide) (n := 937) rfl ?_
  refine g_iadd X dL_law_937 (n := 938) rfl ?_
  obtain ⟨h_1, hf⟩ := k_guard hf
  refine g_sld X XL dL_law_938 h_1 (n := 939) rfl ?_
  obtain ⟨x_2, fi_3, se_4, g_5, hf⟩ := k_b3s hf
  refine g_callVL X (mX6_image (D := D) (l := l) (a := a) (pad := pad) (li := li) (so := so) (lo := lo) (re := re) (ru := ru) (ot := ot) (le := le) g_5) lk_X6_image mlL_121 dL_law_939 (n := 942) rfl (st := []) rfl (st2 := [.int x_2]) rfl rfl rfl rfl (ad_X6 _ _ _ _ _ _ _ _ _ _ _ _ _ _ _ _ _ _ _ _ _ _ _ _) rfl ⟨Nat.le_of_ble_eq_true rfl, Nat.le_of_ble_eq_true rfl⟩ (Nat.le_of_ble_eq_true rfl) ?_
  refine g_aload_n X dL_law_942 2 rfl rfl (n := 943) rfl ?_
  refine g_aload_n X dL_law_943 0 rfl rfl (n := 944) rfl ?_
  refine g_iload_n X dL_law_944 3 rfl rfl (n := 945) rfl ?_
  refine g_iconst X dL_law_945 (v := 1) (by decide) (n := 946) rfl ?_
  refine g_iadd X dL_law_946 (n := 947) rfl ?_
  obtain ⟨h_6, hf⟩ := k_guard hf
  refine g_sld X XL dL_law_947 h_6 (n := 948) rfl ?_
  obtain ⟨x_7, mi_8, g_9, hf⟩ := k_b2s hf
  refine g_callVR X (mX7_image (D := D) (l := l) (a := am) (mp := mp) (mc := mc) (ml := ml) (mq := mq) (mh := mh) (ms := ms) (mr := mr) g_9) lk_X7_image mlL_124 dL_law_948 (n := 951) rfl (st := [.int x_2]) rfl (st2 := [.int x_7, .int x_2]) rfl rfl rfl rfl (ad_X7 _ _ _ _ _ _ _ _ _ _ _ _ _ _ _ _ _ _ _ _) rfl ⟨Nat.le_of_ble_eq_true rfl, Nat.le_of_ble_eq_true rfl⟩ (Nat.le_of_ble_eq_true rfl) ?_
  refine g_icmp_eq X dL_law_951 (t := 1002) (by decide) (n := 954) rfl (fun c_10 => ?_) (fun c_10 => ?_)
  · replace hf := k_pos c_10 hf
    refine g_sub [0, 1, 2, 3] (lv' := [(0, .ref b), (1, .ref (a 0)), (2, .ref (am 0)), (3, .int v3)]) rfl ?_
    exact wL_law_b1002 X XL hk18 hret hf
  · replace hf := k_neg c_10 hf
    refine g_iconst X dL_law_954 (v := 0) (by decide) (n := 955) rfl ?_
    obtain rfl := Option.some.inj hf
    exact hret _ _ _ _ _ _ _ _ _ _ _ _ _ _ _ _ _ _ _ _ _ _ dL_law_955
set_option maxRecDepth 100000 in
set_option maxHeartbeats 4000000 in
theorem wL_law_b956 {D : va_G} {l : Launch} {E : k_E} {N : Nat} {b L : Nat} {xs : Nat → Int32} {a : Nat → Nat} {am : Nat → Nat} {k18 : Int32 → VX5 → VX3 → VX3 → VX3 → VX4 → VX4 → VX1 → VX2 → VX0 → VX0 → (Nat → Int32) → VMp → VMg → VMl → VMq → VMh → VMs → (Nat → Int32) → VMi → Option (Bool)} {v3 : Int32} {pad : VX5} {now : VX3} {fi : VX3} {se : VX3} {li : VX4} {so : VX4} {lo : VX1} {re : VX2} {ru : VX0} {ot : VX0} {le : Nat → Int32} {mp : VMp} {mg : VMg} {mc : Nat → Int64} {ml : VMl} {mq : VMq} {mh : VMh} {ms : VMs} {mr : Nat → Int32} {mi : VMi} {res : Bool} (X : k_X D E cL_law RL 4 7 193) (XL : k_XL E b L xs) (hk18 : ∀ (p3 : Int32) (pad : VX5) (now : VX3) (fi : VX3) (se : VX3) (li : VX4) (so : VX4) (lo : VX1) (re : VX2) (ru : VX0) (ot : VX0) (le : Nat → Int32) (mp : VMp) (mg : VMg) (ml : VMl) (mq : VMq) (mh : VMh) (ms : VMs) (mr : Nat → Int32) (mi : VMi), k18 p3 pad now fi se li so lo re ru ot le mp mg ml mq mh ms mr mi = some res → k_G D l E (pic_X6 D a pad now fi se li so lo re ru ot le ++ pic_X7 D am mp mg mc ml mq mh ms mr mi) [(0, .ref b), (1, .ref (a 0)), (2, .ref (am 0)), (3, .int p3)] 18 []) (hret : ∀ (pad : VX5) (now : VX3) (fi : VX3) (se : VX3) (li : VX4) (so : VX4) (lo : VX1) (re : VX2) (ru : VX0) (ot : VX0) (le : Nat → Int32) (mp : VMp) (mg : VMg) (mc : Nat → Int64) (ml : VMl) (mq : VMq) (mh : VMh) (ms : VMs) (mr : Nat → Int32) (mi : VMi) (pc : Nat) (lv : List (Nat × Value)), decode cL_law pc = .ok (.ireturn, 1) → k_G D l E (pic_X6 D a pad now fi se li so lo re ru ot le ++ pic_X7 D am mp mg mc ml mq mh ms mr mi) lv pc [.int (bI res)]) (hf : fL_law_b956 N L xs mc k18 v3 pad now fi se li so lo re ru ot le mp mg ml mq mh ms mr mi = some res) : k_G D l E (pic_X6 D a pad now fi se li so lo re ru ot le ++ pic_X7 D am mp mg mc ml mq mh ms mr mi) [(0, .ref b), (1, .ref (a 0)), (2, .ref (am 0)), (3, .int v3)] 956 [] := by
  unfold fL_law_b956 at hf
  refine g_aload_n X dL_law_956 1 rfl rfl (n := 957) rfl ?_
  refine g_aload_n X dL_law_957 0 rfl rfl (n := 958) rfl ?_
  refine g_iload_n X dL_law_958 3 rfl rfl (n := 959) rfl ?_
  refine g_iconst X dL_law_959 (v := 1) (by decide) (n := 960) rfl ?_
  refine g_iadd X dL_law_960 (n := 961) rfl ?_
  obtain ⟨h_1, hf⟩ := k_guard hf
  refine g_sld X XL dL_law_961 h_1 (n := 962) rfl ?_
  obtain ⟨x_2, now_3, g_4, hf⟩ := k_b2s hf
  refine g_callVL X (mX6_restore (D := D) (l := l) (a := a) (pad := pad) (li := li) (so := so) (lo := lo) (re := re) (ru := ru) (ot := ot) (le := le) g_4) lk_X6_restore mlL_125 dL_law_962 (n := 965) rfl (st := []) rfl (st2 := [.int x_2]) rfl rfl rfl rfl (ad_X6 _ _ _ _ _ _ _ _ _ _ _ _ _ _ _ _ _ _ _ _ _ _ _ _) rfl ⟨Nat.le_of_ble_eq_true rfl, Nat.le_of_ble_eq_true rfl⟩ (Nat.le_of_ble_eq_true rfl) ?_
  refine g_aload_n X dL_law_965 2 rfl rfl (n := 966) rfl ?_
  refine g_aload_n X dL_law_966 0 rfl rfl (n := 967) rfl ?_
  refine g_iload_n X dL_law_967 3 rfl rfl (n := 968) rfl ?_
  refine g_iconst X dL_law_968 (v := 1) (by decide) (n := 969) rfl ?_
  refine g_iadd X dL_law_969 (n := 970) rfl ?_
  obtain ⟨h_5, hf⟩ := k_guard hf
  refine g_sld X XL dL_law_970 h_5 (n := 971) rfl ?_
  obtain ⟨x_6, mg_7, g_8, hf⟩ := k_b2s hf
  refine g_callVR X (mX7_restore (D := D) (l := l) (a := am) (mp := mp) (mc := mc) (ml := ml) (mq := mq) (mh := mh) (ms := ms) (mr := mr) g_8) lk_X7_restore mlL_128 dL_law_971 (n := 974) rfl (st := [.int x_2]) rfl (st2 := [.int x_6, .int x_2]) rfl rfl rfl rfl (ad_X7 _ _ _ _ _ _ _ _ _ _ _ _ _ _ _ _ _ _ _ _) rfl ⟨Nat.le_of_ble_eq_true rfl, Nat.le_of_ble_eq_true rfl⟩ (Nat.le_of_ble_eq_true rfl) ?_
  refine g_icmp_eq X dL_law_974 (t := 1002) (by decide) (n := 977) rfl (fun c_9 => ?_) (fun c_9 => ?_)
  · replace hf := k_pos c_9 hf
    refine g_sub [0, 1, 2, 3] (lv' := [(0, .ref b), (1, .ref (a 0)), (2, .ref (am 0)), (3, .int v3)]) rfl ?_
    exact wL_law_b1002 X XL hk18 hret hf
  · replace hf := k_neg c_9 hf
    refine g_iconst X dL_law_977 (v := 0) (by decide) (n := 978) rfl ?_
    obtain rfl := Option.some.inj hf
    exact hret _ _ _ _ _ _ _ _ _ _ _ _ _ _ _ _ _ _ _ _ _ _ dL_law_978
set_option maxRecDepth 100000 in
set_option maxHeartbeats 4000000 in
theorem wL_law_b979 {D : va_G} {l : Launch} {E : k_E} {N : Nat} {b L : Nat} {xs : Nat → Int32} {a : Nat → Nat} {am : Nat → Nat} {k18 : Int32 → VX5 → VX3 → VX3 → VX3 → VX4 → VX4 → VX1 → VX2 → VX0 → VX0 → (Nat → Int32) → VMp → VMg → VMl → VMq → VMh → VMs → (Nat → Int32) → VMi → Option (Bool)} {v3 : Int32} {pad : VX5} {now : VX3} {fi : VX3} {se : VX3} {li : VX4} {so : VX4} {lo : VX1} {re : VX2} {ru : VX0} {ot : VX0} {le : Nat → Int32} {mp : VMp} {mg : VMg} {mc : Nat → Int64} {ml : VMl} {mq : VMq} {mh : VMh} {ms : VMs} {mr : Nat → Int32} {mi : VMi} {res : Bool} (X : k_X D E cL_law RL 4 7 193) (XL : k_XL E b L xs) (hk18 : ∀ (p3 : Int32) (pad : VX5) (now : VX3) (fi : VX3) (se : VX3) (li : VX4) (so : VX4) (lo : VX1) (re : VX2) (ru : VX0) (ot : VX0) (le : Nat → Int32) (mp : VMp) (mg : VMg) (ml : VMl) (mq : VMq) (mh : VMh) (ms : VMs) (mr : Nat → Int32) (mi : VMi), k18 p3 pad now fi se li so lo re ru ot le mp mg ml mq mh ms mr mi = some res → k_G D l E (pic_X6 D a pad now fi se li so lo re ru ot le ++ pic_X7 D am mp mg mc ml mq mh ms mr mi) [(0, .ref b), (1, .ref (a 0)), (2, .ref (am 0)), (3, .int p3)] 18 []) (hret : ∀ (pad : VX5) (now : VX3) (fi : VX3) (se : VX3) (li : VX4) (so : VX4) (lo : VX1) (re : VX2) (ru : VX0) (ot : VX0) (le : Nat → Int32) (mp : VMp) (mg : VMg) (mc : Nat → Int64) (ml : VMl) (mq : VMq) (mh : VMh) (ms : VMs) (mr : Nat → Int32) (mi : VMi) (pc : Nat) (lv : List (Nat × Value)), decode cL_law pc = .ok (.ireturn, 1) → k_G D l E (pic_X6 D a pad now fi se li so lo re ru ot le ++ pic_X7 D am mp mg mc ml mq mh ms mr mi) lv pc [.int (bI res)]) (hf : fL_law_b979 N L xs mc k18 v3 pad now fi se li so lo re ru ot le mp mg ml mq mh ms mr mi = some res) : k_G D l E (pic_X6 D a pad now fi se li so lo re ru ot le ++ pic_X7 D am mp mg mc ml mq mh ms mr mi) [(0, .ref b), (1, .ref (a 0)), (2, .ref (am 0)), (3, .int v3)] 979 [] := by
  unfold fL_law_b979 at hf
  refine g_aload_n X dL_law_979 1 rfl rfl (n := 980) rfl ?_
  refine g_aload_n X dL_law_980 0 rfl rfl (n := 981) rfl ?_
  refine g_iload_n X dL_law_981 3 rfl rfl (n := 982) rfl ?_
  refine g_iconst X dL_law_982 (v := 1) (by decide) (n := 983) rfl ?_
  refine g_iadd X dL_law_983 (n := 984) rfl ?_
  obtain ⟨h_1, hf⟩ := k_guard hf
  refine g_sld X XL dL_law_984 h_1 (n := 985) rfl ?_
  obtain ⟨x_2, g_3, hf⟩ := k_b1s hf
  refine g_callVL X (mX6_told (D := D) (l := l) (a := a) (fi := fi) (se := se) (li := li) (so := so) (lo := lo) (re := re) (ru := ru) (ot := ot) (le := le) g_3) lk_X6_told mlL_129 dL_law_985 (n := 988) rfl (st := []) rfl (st2 := [.int x_2]) rfl rfl rfl rfl (ad_X6 _ _ _ _ _ _ _ _ _ _ _ _ _ _ _ _ _ _ _ _ _ _ _ _) rfl ⟨Nat.le_of_ble_eq_true rfl, Nat.le_of_ble_eq_true rfl⟩ (Nat.le_of_ble_eq_true rfl) ?_
  refine g_aload_n X dL_law_988 2 rfl rfl (n := 989) rfl ?_
  refine g_aload_n X dL_law_989 0 rfl rfl (n := 990) rfl ?_
  refine g_iload_n X dL_law_990 3 rfl rfl (n := 991) rfl ?_
  refine g_iconst X dL_law_991 (v := 1) (by decide) (n := 992) rfl ?_
  refine g_iadd X dL_law_992 (n := 993) rfl ?_
  obtain ⟨h_4, hf⟩ := k_guard hf
  refine g_sld X XL dL_law_993 h_4 (n := 994) rfl ?_
  obtain ⟨x_5, g_6, hf⟩ := k_b1s hf
  refine g_callVR X (mX7_told (D := D) (l := l) (a := am) (mc := mc) (ml := ml) (mq := mq) (mh := mh) (ms := ms) (mr := mr) (mi := mi) g_6) lk_X7_told mlL_132 dL_law_994 (n := 997) rfl (st := [.int x_2]) rfl (st2 := [.int x_5, .int x_2]) rfl rfl rfl rfl (ad_X7 _ _ _ _ _ _ _ _ _ _ _ _ _ _ _ _ _ _ _ _) rfl ⟨Nat.le_of_ble_eq_true rfl, Nat.le_of_ble_eq_true rfl⟩ (Nat.le_of_ble_eq_true rfl) ?_
  refine g_icmp_eq X dL_law_997 (t := 1002) (by decide) (n := 1000) rfl (fun c_7 => ?_) (fun c_7 => ?_)
  · replace hf := k_pos c_7 hf
    refine g_sub [0, 1, 2, 3] (lv' := [(0, .ref b), (1, .ref (a 0)), (2, .ref (am 0)), (3, .int v3)]) rfl ?_
    exact wL_law_b1002 X XL hk18 hret hf
  · replace hf := k_neg c_7 hf
    refine g_iconst X dL_law_1000 (v := 0) (by decide) (n := 1001) rfl ?_
    obtain rfl := Option.some.inj hf
    exact hret _ _ _ _ _ _ _ _ _ _ _ _ _ _ _ _ _ _ _ _ _ _ dL_law_1001
set_option maxRecDepth 100000 in
set_option maxHeartbeats 4000000 in
theorem wL_law {D : va_G} {l : Launch} {E : k_E} {N : Nat} {b L : Nat} {xs : Nat → Int32} {a : Nat → Nat} {am : Nat → Nat} {k18 : Int32 → VX5 → VX3 → VX3 → VX3 → VX4 → VX4 → VX1 → VX2 → VX0 → VX0 → (Nat → Int32) → VMp → VMg → VMl → VMq → VMh → VMs → (Nat → Int32) → VMi → Option (Bool)} {p3 : Int32} {pad : VX5} {now : VX3} {fi : VX3} {se : VX3} {li : VX4} {so : VX4} {lo : VX1} {re : VX2} {ru : VX0} {ot : VX0} {le : Nat → Int32} {mp : VMp} {mg : VMg} {mc : Nat → Int64} {ml : VMl} {mq : VMq} {mh : VMh} {ms : VMs} {mr : Nat → Int32} {mi : VMi} {res : Bool} (X : k_X D E cL_law RL 4 7 193) (XL : k_XL E b L xs) (hk18 : ∀ (p3 : Int32) (pad : VX5) (now : VX3) (fi : VX3) (se : VX3) (li : VX4) (so : VX4) (lo : VX1) (re : VX2) (ru : VX0) (ot : VX0) (le : Nat → Int32) (mp : VMp) (mg : VMg) (ml : VMl) (mq : VMq) (mh : VMh) (ms : VMs) (mr : Nat → Int32) (mi : VMi), k18 p3 pad now fi se li so lo re ru ot le mp mg ml mq mh ms mr mi = some res → k_G D l E (pic_X6 D a pad now fi se li so lo re ru ot le ++ pic_X7 D am mp mg mc ml mq mh ms mr mi) [(0, .ref b), (1, .ref (a 0)), (2, .ref (am 0)), (3, .int p3)] 18 []) (hret : ∀ (pad : VX5) (now : VX3) (fi : VX3) (se : VX3) (li : VX4) (so : VX4) (lo : VX1) (re : VX2) (ru : VX0) (ot : VX0) (le : Nat → Int32) (mp : VMp) (mg : VMg) (mc : Nat → Int64) (ml : VMl) (mq : VMq) (mh : VMh) (ms : VMs) (mr : Nat → Int32) (mi : VMi) (pc : Nat) (lv : List (Nat × Value)), decode cL_law pc = .ok (.ireturn, 1) → k_G D l E (pic_X6 D a pad now fi se li so lo re ru ot le ++ pic_X7 D am mp mg mc ml mq mh ms mr mi) lv pc [.int (bI res)]) (hf : fL_law N L xs mc k18 p3 pad now fi se li so lo re ru ot le mp mg ml mq mh ms mr mi = some res) : k_G D l E (pic_X6 D a pad now fi se li so lo re ru ot le ++ pic_X7 D am mp mg mc ml mq mh ms mr mi) [(0, .ref b), (1, .ref (a 0)), (2, .ref (am 0)), (3, .int p3)] 18 [] := by
  unfold fL_law at hf
  refine g_iload_n X dL_law_18 3 rfl rfl (n := 19) rfl ?_
  refine g_aload_n X dL_law_19 0 rfl rfl (n := 20) rfl ?_
  refine g_slen X XL dL_law_20 (n := 21) rfl ?_
  refine g_bipush X dL_law_21 (v := 6) (by decide) (n := 23) rfl ?_
  refine g_isub X dL_law_23 (n := 24) rfl ?_
  refine g_icmp_gt X dL_law_24 (t := 1008) (by decide) (n := 27) rfl (fun c_1 => ?_) (fun c_1 => ?_)
  · replace hf := k_pos c_1 hf
    refine g_iconst X dL_law_1008 (v := 1) (by decide) (n := 1009) rfl ?_
    obtain rfl := Option.some.inj hf
    exact hret _ _ _ _ _ _ _ _ _ _ _ _ _ _ _ _ _ _ _ _ _ _ dL_law_1009
  · replace hf := k_neg c_1 hf
    refine g_aload_n X dL_law_27 0 rfl rfl (n := 28) rfl ?_
    refine g_iload_n X dL_law_28 3 rfl rfl (n := 29) rfl ?_
    obtain ⟨h_2, hf⟩ := k_guard hf
    refine g_sld X XL dL_law_29 h_2 (n := 30) rfl ?_
    refine g_bipush X dL_law_30 (v := 31) (by decide) (n := 32) rfl ?_
    refine g_iand X dL_law_32 (n := 33) rfl ?_
    by_cases c_3 : ((xs p3.toNatClampNeg) &&& 31) = 0
    · refine g_tabIn X dL_law_33 (n := 160) (off := 127) (by rw [c_3]; decide) (by rw [c_3]; decide) (by rw [c_3]; decide) (by decide) ?_
      replace hf := k_pos c_3 hf
      refine g_sub [0, 1, 2, 3] (lv' := [(0, .ref b), (1, .ref (a 0)), (2, .ref (am 0)), (3, .int p3)]) rfl ?_
      exact wL_law_b160 X XL hk18 hret hf
    replace hf := k_neg c_3 hf
    by_cases c_4 : ((xs p3.toNatClampNeg) &&& 31) = 1
    · refine g_tabIn X dL_law_33 (n := 183) (off := 150) (by rw [c_4]; decide) (by rw [c_4]; decide) (by rw [c_4]; decide) (by decide) ?_
      replace hf := k_pos c_4 hf
      refine g_sub [0, 1, 2, 3] (lv' := [(0, .ref b), (1, .ref (a 0)), (2, .ref (am 0)), (3, .int p3)]) rfl ?_
      exact wL_law_b183 X XL hk18 hret hf
    replace hf := k_neg c_4 hf
    by_cases c_5 : ((xs p3.toNatClampNeg) &&& 31) = 2
    · refine g_tabIn X dL_law_33 (n := 196) (off := 163) (by rw [c_5]; decide) (by rw [c_5]; decide) (by rw [c_5]; decide) (by decide) ?_
      replace hf := k_pos c_5 hf
      refine g_sub [0, 1, 2, 3] (lv' := [(0, .ref b), (1, .ref (a 0)), (2, .ref (am 0)), (3, .int p3)]) rfl ?_
      exact wL_law_b196 X XL hk18 hret hf
    replace hf := k_neg c_5 hf
    by_cases c_6 : ((xs p3.toNatClampNeg) &&& 31) = 3
    · refine g_tabIn X dL_law_33 (n := 219) (off := 186) (by rw [c_6]; decide) (by rw [c_6]; decide) (by rw [c_6]; decide) (by decide) ?_
      replace hf := k_pos c_6 hf
      refine g_sub [0, 1, 2, 3] (lv' := [(0, .ref b), (1, .ref (a 0)), (2, .ref (am 0)), (3, .int p3)]) rfl ?_
      exact wL_law_b219 X XL hk18 hret hf
    replace hf := k_neg c_6 hf
    by_cases c_7 : ((xs p3.toNatClampNeg) &&& 31) = 4
    · refine g_tabIn X dL_law_33 (n := 242) (off := 209) (by rw [c_7]; decide) (by rw [c_7]; decide) (by rw [c_7]; decide) (by decide) ?_
      replace hf := k_pos c_7 hf
      refine g_sub [0, 1, 2, 3] (lv' := [(0, .ref b), (1, .ref (a 0)), (2, .ref (am 0)), (3, .int p3)]) rfl ?_
      exact wL_law_b242 X XL hk18 hret hf
    replace hf := k_neg c_7 hf
    by_cases c_8 : ((xs p3.toNatClampNeg) &&& 31) = 5
    · refine g_tabIn X dL_law_33 (n := 285) (off := 252) (by rw [c_8]; decide) (by rw [c_8]; decide) (by rw [c_8]; decide) (by decide) ?_
      replace hf := k_pos c_8 hf
      refine g_sub [0, 1, 2, 3] (lv' := [(0, .ref b), (1, .ref (a 0)), (2, .ref (am 0)), (3, .int p3)]) rfl ?_
      exact wL_law_b285 X XL hk18 hret hf
    replace hf := k_neg c_8 hf
    by_cases c_9 : ((xs p3.toNatClampNeg) &&& 31) = 6
    · refine g_tabIn X dL_law_33 (n := 318) (off := 285) (by rw [c_9]; decide) (by rw [c_9]; decide) (by rw [c_9]; decide) (by decide) ?_
      replace hf := k_pos c_9 hf
      refine g_sub [0, 1, 2, 3] (lv' := [(0, .ref b), (1, .ref (a 0)), (2, .ref (am 0)), (3, .int p3)]) rfl ?_
      exact wL_law_b318 X XL hk18 hret hf
    replace hf := k_neg c_9 hf
    by_cases c_10 : ((xs p3.toNatClampNeg) &&& 31) = 7
    · refine g_tabIn X dL_law_33 (n := 341) (off := 308) (by rw [c_10]; decide) (by rw [c_10]; decide) (by rw [c_10]; decide) (by decide) ?_
      replace hf := k_pos c_10 hf
      refine g_sub [0, 1, 2, 3] (lv' := [(0, .ref b), (1, .ref (a 0)), (2, .ref (am 0)), (3, .int p3)]) rfl ?_
      exact wL_law_b341 X XL hk18 hret hf
    replace hf := k_neg c_10 hf
    by_cases c_11 : ((xs p3.toNatClampNeg) &&& 31) = 8
    · refine g_tabIn X dL_law_33 (n := 364) (off := 331) (by rw [c_11]; decide) (by rw [c_11]; decide) (by rw [c_11]; decide) (by decide) ?_
      replace hf := k_pos c_11 hf
      refine g_sub [0, 1, 2, 3] (lv' := [(0, .ref b), (1, .ref (a 0)), (2, .ref (am 0)), (3, .int p3)]) rfl ?_
      exact wL_law_b364 X XL hk18 hret hf
    replace hf := k_neg c_11 hf
    by_cases c_12 : ((xs p3.toNatClampNeg) &&& 31) = 9
    · refine g_tabIn X dL_law_33 (n := 377) (off := 344) (by rw [c_12]; decide) (by rw [c_12]; decide) (by rw [c_12]; decide) (by decide) ?_
      replace hf := k_pos c_12 hf
      refine g_sub [0, 1, 2, 3] (lv' := [(0, .ref b), (1, .ref (a 0)), (2, .ref (am 0)), (3, .int p3)]) rfl ?_
      exact wL_law_b377 X XL hk18 hret hf
    replace hf := k_neg c_12 hf
    by_cases c_13 : ((xs p3.toNatClampNeg) &&& 31) = 10
    · refine g_tabIn X dL_law_33 (n := 441) (off := 408) (by rw [c_13]; decide) (by rw [c_13]; decide) (by rw [c_13]; decide) (by decide) ?_
      replace hf := k_pos c_13 hf
      refine g_sub [0, 1, 2, 3] (lv' := [(0, .ref b), (1, .ref (a 0)), (2, .ref (am 0)), (3, .int p3)]) rfl ?_
      exact wL_law_b441 X XL hk18 hret hf
    replace hf := k_neg c_13 hf
    by_cases c_14 : ((xs p3.toNatClampNeg) &&& 31) = 11
    · refine g_tabIn X dL_law_33 (n := 475) (off := 442) (by rw [c_14]; decide) (by rw [c_14]; decide) (by rw [c_14]; decide) (by decide) ?_
      replace hf := k_pos c_14 hf
      refine g_sub [0, 1, 2, 3] (lv' := [(0, .ref b), (1, .ref (a 0)), (2, .ref (am 0)), (3, .int p3)]) rfl ?_
      exact wL_law_b475 X XL hk18 hret hf
    replace hf := k_neg c_14 hf
    by_cases c_15 : ((xs p3.toNatClampNeg) &&& 31) = 12
    · refine g_tabIn X dL_law_33 (n := 509) (off := 476) (by rw [c_15]; decide) (by rw [c_15]; decide) (by rw [c_15]; decide) (by decide) ?_
      replace hf := k_pos c_15 hf
      refine g_sub [0, 1, 2, 3] (lv' := [(0, .ref b), (1, .ref (a 0)), (2, .ref (am 0)), (3, .int p3)]) rfl ?_
      exact wL_law_b509 X XL hk18 hret hf
    replace hf := k_neg c_15 hf
    by_cases c_16 : ((xs p3.toNatClampNeg) &&& 31) = 13
    · refine g_tabIn X dL_law_33 (n := 543) (off := 510) (by rw [c_16]; decide) (by rw [c_16]; decide) (by rw [c_16]; decide) (by decide) ?_
      replace hf := k_pos c_16 hf
      refine g_sub [0, 1, 2, 3] (lv' := [(0, .ref b), (1, .ref (a 0)), (2, .ref (am 0)), (3, .int p3)]) rfl ?_
      exact wL_law_b543 X XL hk18 hret hf
    replace hf := k_neg c_16 hf
    by_cases c_17 : ((xs p3.toNatClampNeg) &&& 31) = 14
    · refine g_tabIn X dL_law_33 (n := 566) (off := 533) (by rw [c_17]; decide) (by rw [c_17]; decide) (by rw [c_17]; decide) (by decide) ?_
      replace hf := k_pos c_17 hf
      refine g_sub [0, 1, 2, 3] (lv' := [(0, .ref b), (1, .ref (a 0)), (2, .ref (am 0)), (3, .int p3)]) rfl ?_
      exact wL_law_b566 X XL hk18 hret hf
    replace hf := k_neg c_17 hf
    by_cases c_18 : ((xs p3.toNatClampNeg) &&& 31) = 15
    · refine g_tabIn X dL_law_33 (n := 620) (off := 587) (by rw [c_18]; decide) (by rw [c_18]; decide) (by rw [c_18]; decide) (by decide) ?_
      replace hf := k_pos c_18 hf
      refine g_sub [0, 1, 2, 3] (lv' := [(0, .ref b), (1, .ref (a 0)), (2, .ref (am 0)), (3, .int p3)]) rfl ?_
      exact wL_law_b620 X XL hk18 hret hf
    replace hf := k_neg c_18 hf
    by_cases c_19 : ((xs p3.toNatClampNeg) &&& 31) = 16
    · refine g_tabIn X dL_law_33 (n := 653) (off := 620) (by rw [c_19]; decide) (by rw [c_19]; decide) (by rw [c_19]; decide) (by decide) ?_
      replace hf := k_pos c_19 hf
      refine g_sub [0, 1, 2, 3] (lv' := [(0, .ref b), (1, .ref (a 0)), (2, .ref (am 0)), (3, .int p3)]) rfl ?_
      exact wL_law_b653 X XL hk18 hret hf
    replace hf := k_neg c_19 hf
    by_cases c_20 : ((xs p3.toNatClampNeg) &&& 31) = 17
    · refine g_tabIn X dL_law_33 (n := 687) (off := 654) (by rw [c_20]; decide) (by rw [c_20]; decide) (by rw [c_20]; decide) (by decide) ?_
      replace hf := k_pos c_20 hf
      refine g_sub [0, 1, 2, 3] (lv' := [(0, .ref b), (1, .ref (a 0)), (2, .ref (am 0)), (3, .int p3)]) rfl ?_
      exact wL_law_b687 X XL hk18 hret hf
    replace hf := k_neg c_20 hf
    by_cases c_21 : ((xs p3.toNatClampNeg) &&& 31) = 18
    · refine g_tabIn X dL_law_33 (n := 700) (off := 667) (by rw [c_21]; decide) (by rw [c_21]; decide) (by rw [c_21]; decide) (by decide) ?_
      replace hf := k_pos c_21 hf
      refine g_sub [0, 1, 2, 3] (lv' := [(0, .ref b), (1, .ref (a 0)), (2, .ref (am 0)), (3, .int p3)]) rfl ?_
      exact wL_law_b700 X XL hk18 hret hf
    replace hf := k_neg c_21 hf
    by_cases c_22 : ((xs p3.toNatClampNeg) &&& 31) = 19
    · refine g_tabIn X dL_law_33 (n := 734) (off := 701) (by rw [c_22]; decide) (by rw [c_22]; decide) (by rw [c_22]; decide) (by decide) ?_
      replace hf := k_pos c_22 hf
      refine g_sub [0, 1, 2, 3] (lv' := [(0, .ref b), (1, .ref (a 0)), (2, .ref (am 0)), (3, .int p3)]) rfl ?_
      exact wL_law_b734 X XL hk18 hret hf
    replace hf := k_neg c_22 hf
    by_cases c_23 : ((xs p3.toNatClampNeg) &&& 31) = 20
    · refine g_tabIn X dL_law_33 (n := 777) (off := 744) (by rw [c_23]; decide) (by rw [c_23]; decide) (by rw [c_23]; decide) (by decide) ?_
      replace hf := k_pos c_23 hf
      refine g_sub [0, 1, 2, 3] (lv' := [(0, .ref b), (1, .ref (a 0)), (2, .ref (am 0)), (3, .int p3)]) rfl ?_
      exact wL_law_b777 X XL hk18 hret hf
    replace hf := k_neg c_23 hf
    by_cases c_24 : ((xs p3.toNatClampNeg) &&& 31) = 21
    · refine g_tabIn X dL_law_33 (n := 821) (off := 788) (by rw [c_24]; decide) (by rw [c_24]; decide) (by rw [c_24]; decide) (by decide) ?_
      replace hf := k_pos c_24 hf
      refine g_sub [0, 1, 2, 3] (lv' := [(0, .ref b), (1, .ref (a 0)), (2, .ref (am 0)), (3, .int p3)]) rfl ?_
      exact wL_law_b821 X XL hk18 hret hf
    replace hf := k_neg c_24 hf
    by_cases c_25 : ((xs p3.toNatClampNeg) &&& 31) = 22
    · refine g_tabIn X dL_law_33 (n := 844) (off := 811) (by rw [c_25]; decide) (by rw [c_25]; decide) (by rw [c_25]; decide) (by decide) ?_
      replace hf := k_pos c_25 hf
      refine g_sub [0, 1, 2, 3] (lv' := [(0, .ref b), (1, .ref (a 0)), (2, .ref (am 0)), (3, .int p3)]) rfl ?_
      exact wL_law_b844 X XL hk18 hret hf
    replace hf := k_neg c_25 hf
    by_cases c_26 : ((xs p3.toNatClampNeg) &&& 31) = 23
    · refine g_tabIn X dL_law_33 (n := 857) (off := 824) (by rw [c_26]; decide) (by rw [c_26]; decide) (by rw [c_26]; decide) (by decide) ?_
      replace hf := k_pos c_26 hf
      refine g_sub [0, 1, 2, 3] (lv' := [(0, .ref b), (1, .ref (a 0)), (2, .ref (am 0)), (3, .int p3)]) rfl ?_
      exact wL_law_b857 X XL hk18 hret hf
    replace hf := k_neg c_26 hf
    by_cases c_27 : ((xs p3.toNatClampNeg) &&& 31) = 24
    · refine g_tabIn X dL_law_33 (n := 890) (off := 857) (by rw [c_27]; decide) (by rw [c_27]; decide) (by rw [c_27]; decide) (by decide) ?_
      replace hf := k_pos c_27 hf
      refine g_sub [0, 1, 2, 3] (lv' := [(0, .ref b), (1, .ref (a 0)), (2, .ref (am 0)), (3, .int p3)]) rfl ?_
      exact wL_law_b890 X XL hk18 hret hf
    replace hf := k_neg c_27 hf
    by_cases c_28 : ((xs p3.toNatClampNeg) &&& 31) = 25
    · refine g_tabIn X dL_law_33 (n := 933) (off := 900) (by rw [c_28]; decide) (by rw [c_28]; decide) (by rw [c_28]; decide) (by decide) ?_
      replace hf := k_pos c_28 hf
      refine g_sub [0, 1, 2, 3] (lv' := [(0, .ref b), (1, .ref (a 0)), (2, .ref (am 0)), (3, .int p3)]) rfl ?_
      exact wL_law_b933 X XL hk18 hret hf
    replace hf := k_neg c_28 hf
    by_cases c_29 : ((xs p3.toNatClampNeg) &&& 31) = 26
    · refine g_tabIn X dL_law_33 (n := 956) (off := 923) (by rw [c_29]; decide) (by rw [c_29]; decide) (by rw [c_29]; decide) (by decide) ?_
      replace hf := k_pos c_29 hf
      refine g_sub [0, 1, 2, 3] (lv' := [(0, .ref b), (1, .ref (a 0)), (2, .ref (am 0)), (3, .int p3)]) rfl ?_
      exact wL_law_b956 X XL hk18 hret hf
    replace hf := k_neg c_29 hf
    by_cases c_30 : ((xs p3.toNatClampNeg) &&& 31) = 27
    · refine g_tabIn X dL_law_33 (n := 979) (off := 946) (by rw [c_30]; decide) (by rw [c_30]; decide) (by rw [c_30]; decide) (by decide) ?_
      replace hf := k_pos c_30 hf
      refine g_sub [0, 1, 2, 3] (lv' := [(0, .ref b), (1, .ref (a 0)), (2, .ref (am 0)), (3, .int p3)]) rfl ?_
      exact wL_law_b979 X XL hk18 hret hf
    replace hf := k_neg c_30 hf
    have nc_3 := k_toInt_ne (v := 0) (z := 0) (by decide) c_3
    have nc_4 := k_toInt_ne (v := 1) (z := 1) (by decide) c_4
    have nc_5 := k_toInt_ne (v := 2) (z := 2) (by decide) c_5
    have nc_6 := k_toInt_ne (v := 3) (z := 3) (by decide) c_6
    have nc_7 := k_toInt_ne (v := 4) (z := 4) (by decide) c_7
    have nc_8 := k_toInt_ne (v := 5) (z := 5) (by decide) c_8
    have nc_9 := k_toInt_ne (v := 6) (z := 6) (by decide) c_9
    have nc_10 := k_toInt_ne (v := 7) (z := 7) (by decide) c_10
    have nc_11 := k_toInt_ne (v := 8) (z := 8) (by decide) c_11
    have nc_12 := k_toInt_ne (v := 9) (z := 9) (by decide) c_12
    have nc_13 := k_toInt_ne (v := 10) (z := 10) (by decide) c_13
    have nc_14 := k_toInt_ne (v := 11) (z := 11) (by decide) c_14
    have nc_15 := k_toInt_ne (v := 12) (z := 12) (by decide) c_15
    have nc_16 := k_toInt_ne (v := 13) (z := 13) (by decide) c_16
    have nc_17 := k_toInt_ne (v := 14) (z := 14) (by decide) c_17
    have nc_18 := k_toInt_ne (v := 15) (z := 15) (by decide) c_18
    have nc_19 := k_toInt_ne (v := 16) (z := 16) (by decide) c_19
    have nc_20 := k_toInt_ne (v := 17) (z := 17) (by decide) c_20
    have nc_21 := k_toInt_ne (v := 18) (z := 18) (by decide) c_21
    have nc_22 := k_toInt_ne (v := 19) (z := 19) (by decide) c_22
    have nc_23 := k_toInt_ne (v := 20) (z := 20) (by decide) c_23
    have nc_24 := k_toInt_ne (v := 21) (z := 21) (by decide) c_24
    have nc_25 := k_toInt_ne (v := 22) (z := 22) (by decide) c_25
    have nc_26 := k_toInt_ne (v := 23) (z := 23) (by decide) c_26
    have nc_27 := k_toInt_ne (v := 24) (z := 24) (by decide) c_27
    have nc_28 := k_toInt_ne (v := 25) (z := 25) (by decide) c_28
    have nc_29 := k_toInt_ne (v := 26) (z := 26) (by decide) c_29
    have nc_30 := k_toInt_ne (v := 27) (z := 27) (by decide) c_30
    refine g_tabOut X dL_law_33 (n := 1002) (by omega) (by decide) ?_
    refine g_sub [0, 1, 2, 3] (lv' := [(0, .ref b), (1, .ref (a 0)), (2, .ref (am 0)), (3, .int p3)]) rfl ?_
    exact wL_law_b1002 X XL hk18 hret hf
set_option maxRecDepth 100000 in
set_option maxHeartbeats 4000000 in
theorem wL_law_l18 {D : va_G} {l : Launch} {E : k_E} {N : Nat} {b L : Nat} {xs : Nat → Int32} {a : Nat → Nat} {am : Nat → Nat} {mc : Nat → Int64} {res : Bool} (X : k_X D E cL_law RL 4 7 193) (XL : k_XL E b L xs) (hret : ∀ (pad : VX5) (now : VX3) (fi : VX3) (se : VX3) (li : VX4) (so : VX4) (lo : VX1) (re : VX2) (ru : VX0) (ot : VX0) (le : Nat → Int32) (mp : VMp) (mg : VMg) (mc : Nat → Int64) (ml : VMl) (mq : VMq) (mh : VMh) (ms : VMs) (mr : Nat → Int32) (mi : VMi) (pc : Nat) (lv : List (Nat × Value)), decode cL_law pc = .ok (.ireturn, 1) → k_G D l E (pic_X6 D a pad now fi se li so lo re ru ot le ++ pic_X7 D am mp mg mc ml mq mh ms mr mi) lv pc [.int (bI res)]) : ∀ (n0 : Nat) (p3 : Int32) (pad : VX5) (now : VX3) (fi : VX3) (se : VX3) (li : VX4) (so : VX4) (lo : VX1) (re : VX2) (ru : VX0) (ot : VX0) (le : Nat → Int32) (mp : VMp) (mg : VMg) (ml : VMl) (mq : VMq) (mh : VMh) (ms : VMs) (mr : Nat → Int32) (mi : VMi), fL_law_l18 N L xs mc n0 p3 pad now fi se li so lo re ru ot le mp mg ml mq mh ms mr mi = some res → k_G D l E (pic_X6 D a pad now fi se li so lo re ru ot le ++ pic_X7 D am mp mg mc ml mq mh ms mr mi) [(0, .ref b), (1, .ref (a 0)), (2, .ref (am 0)), (3, .int p3)] 18 [] := by
  intro n0
  induction n0 with
  | zero => intro p3 pad now fi se li so lo re ru ot le mp mg ml mq mh ms mr mi hf; cases hf
  | succ n0 ih => intro p3 pad now fi se li so lo re ru ot le mp mg ml mq mh ms mr mi hf; exact wL_law (N := N) (k18 := fL_law_l18 N L xs mc n0) X XL  ih hret hf
