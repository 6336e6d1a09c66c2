def R_law : String := "NamesByLotLaw"
def lw_P (b : Addr) (xs : List Int32) (args : Array Value) (s : State) : Prop := args = #[.ref b] ∧ s.IntsAt b xs ∧ xs.length ≤ 3072 ∧ (Jvm.Cond.and given_1 narrow_1).before args s = true
def lw_Q (_ : Array Value) (s : State) (o : Outcome) (t : State) : Prop := o = .returned (some (.int 1)) ∧ Framed s o t [] 600000 7302250
def lw_Z (below : List Frame) (a : Array Value) (s : State) : State → Prop := fun t => ∃ o, t.status = .running ∧ Ended t below o ∧ lw_Q a s o t
/-- the law's own end, with 1 on the stack, nothing written that was there before, its room as the claim has it -/
theorem lw_ret {p : Program} {l : Launch} {e : Env} {s : State} {m : MethodId} {below : List Frame} {meth : Method} {c : Code} {b : Nat} (hx : p.tables.exec = Jvm.exec) (hb : c.code = code) (hr : meth.sig.returnType = ret) (hlocks : meth.locks = false) {pc : Nat} {H : Heap} {ls : Array Slot} (hdg : decode code pc = .ok (.ireturn, 1)) : W p l e room_1 s m #[Value.ref b] below meth c H [] 600000 7302250 (lw_Z below #[Value.ref b] s) (F0 m pc ls [.int 1]) := by
  intro T hT X
  obtain ⟨fs, hret, hrun, hended, hW, hframe⟩ := X.leave (v := some (.int 1)) (hlocks := hlocks) (fun h => by rw [hr] at h; cases h)
  have hmeth' : T.vm.method? m = some meth := X.method'
  refine ⟨T.setFrames fs, ?_, .returned (some (.int 1)), hrun, hended, rfl, ⟨_, rfl⟩, hW, hframe⟩
  jvm_step X.here [X.here.top, hx, hb, hdg, hmeth', hr, ret, narrow_b1]
  (try refine ⟨rfl, ?_⟩); (try refine ⟨rfl, ?_⟩)
  first | (intro acts; rw [hret _ acts rfl rfl rfl]) | rw [hret _ _ rfl rfl rfl]
  exact Steps.refl _
/-- what holds at the law's entry: the machine, the code, the tables' words (any of lw_tbl by 'hts w (by decide +kernel)'), the script of L ints xs at the cell b, what the Statement gives of the start (any of its parts by flat_of_before) -/
def lw_At (p : Program) (s : State) (m : MethodId) (meth : Method) (c : Code) (b L : Nat) (xs : Nat → Int32) : Prop :=
  p.tables.exec = Jvm.exec ∧ c.code = code ∧ meth.sig.returnType = ret ∧ c.maxLocals = 4 ∧ s.vm.findClass R_law = some m.cls ∧ (∀ w ∈ lw_tbl, w.before #[Value.ref b] s = true) ∧ va_X b L xs s s.heap ∧ b < s.heap.size ∧ meth.locks = false ∧ (Jvm.Cond.and given_1 narrow_1).before #[Value.ref b] s = true
theorem k_arr {s : State} {args : Array Value} {ty : FieldType} (h : (Cond.arrayClass ty).before args s = true) (hob : ∀ nm, ty ≠ .object nm) : ∃ cA : ClassId, ArrOfT s cA ty ∧ va_RA s cA ty := by
  obtain ⟨cA, kA, comp, hfind, hk, hkind⟩ := Cond.arrayClass_spec h
  refine ⟨cA, fun n z => ⟨fun k h => (by cases h), kA, hk, comp, hkind⟩, ?_⟩
  cases ty with
  | object nm => exact absurd rfl (hob nm)
  | _ => exact hfind
theorem k_str {s : State} {args : Array Value} (hts : ∀ w ∈ lw_tbl, w.before args s = true) (hgv : (Jvm.Cond.and given_1 narrow_1).before args s = true) : ∃ q v : Nat, k_St q v (fun z : Nat => s.heap.size ≤ z) s s.heap := by
  have hs := flat_of_before _ hgv
  have hA : ∀ a : Nat, a < s.heap.size → ¬ s.heap.size ≤ a := fun a h => Nat.not_le.mpr h
  obtain ⟨adK, adV, ⟨hS, -⟩, hev⟩ := vk_Sof (args := args) (s := s) (N := 1) (tm := fun _ => Term.string "NamesByLot$Register" 34) (len := [11]) (byt := [[45, 47, 42, 78, 118, 107, 47, 42, 100, 78, 107]]) (A := fun z : Nat => s.heap.size ≤ z)
    (fun i hi => by have : i = 0 := by omega
                    subst this; decide)
    (fun i hi => hs _ (by decide +kernel)) (fun i hi => hs _ (by decide +kernel)) (fun i hi => hs _ (by decide +kernel))
    (fun i hi => by have : i = 0 := by omega
                    subst this; exact hs _ (by decide +kernel))
    (fun i hi j hj => by
      have : i = 0 := by omega
      subst this
      have hj : j < 11 := hj
      rcases (show j = 0 ∨ j = 1 ∨ j = 2 ∨ j = 3 ∨ j = 4 ∨ j = 5 ∨ j = 6 ∨ j = 7 ∨ j = 8 ∨ j = 9 ∨ j = 10 by omega) with rfl | rfl | rfl | rfl | rfl | rfl | rfl | rfl | rfl | rfl | rfl <;> exact hs _ (by decide +kernel))
    (fun i j hi hj h => absurd (by omega : i = j) h) hA
  obtain ⟨h1, h2, h3, h4⟩ := hS 0 (by omega)
  refine ⟨adK 0, adV 0, vk_R.of (A := args) (hts _ (List.mem_append_right _ (List.mem_of_getElem? (i := 52) (by decide +kernel)))) (hev 0 (by omega)), h1, h2, h3, h4, ?_, ?_⟩
  · exact va_Zof (args := args) (hts _ (List.mem_append_right _ (List.mem_of_getElem? (i := 62) (by decide +kernel)))) (hts _ (List.mem_append_right _ (List.mem_of_getElem? (i := 5) (by decide +kernel)))) (va_eqi (hs _ (by decide +kernel))) hA
  · exact va_Zqof (args := args) (hts _ (List.mem_append_right _ (List.mem_of_getElem? (i := 78) (by decide +kernel)))) (hts _ (List.mem_append_right _ (List.mem_of_getElem? (i := 7) (by decide +kernel)))) (hs _ (by decide +kernel)) hA
theorem knL_X6 : Cond.classLink RL 7 RX6 ∈ G_ := G_mem (i := 16) (by decide +kernel) rfl
theorem kn_X6_i : Cond.instantiable RX6 11 ∈ G_ := G_mem (i := 17) (by decide +kernel) rfl
theorem kn_X6_d : Cond.initialized RX6 ∈ G_ := G_mem (i := 1) (by decide +kernel) rfl
theorem lk0_X6_init : k_lk0 yX6_init cX6_init 1 none 0 := ⟨G_mem (i := 1) (by decide +kernel) rfl, G_mem (i := 20) (by decide +kernel) rfl, by decide, by decide, by decide +kernel⟩
theorem ik_X6_init : Cond.instanceMethod yX6_init ∈ G_ := G_mem (i := 19) (by decide +kernel) rfl
theorem mlL_9 : Cond.methodLink RL 9 yX6_init ∈ G_ := G_mem (i := 18) (by decide +kernel) rfl
theorem knL_X7 : Cond.classLink RL 10 RX7 ∈ G_ := G_mem (i := 689) (by decide +kernel) rfl
theorem kn_X7_i : Cond.instantiable RX7 28 ∈ G_ := G_mem (i := 690) (by decide +kernel) rfl
theorem kn_X7_d : Cond.initialized RX7 ∈ G_ := G_mem (i := 13) (by decide +kernel) rfl
theorem lk0_X7_init : k_lk0 yX7_init cX7_init 3 none 0 := ⟨G_mem (i := 13) (by decide +kernel) rfl, G_mem (i := 693) (by decide +kernel) rfl, by decide, by decide, by decide +kernel⟩
theorem ik_X7_init : Cond.instanceMethod yX7_init ∈ G_ := G_mem (i := 692) (by decide +kernel) rfl
theorem mlL_12 : Cond.methodLink RL 12 yX7_init ∈ G_ := G_mem (i := 691) (by decide +kernel) rfl
/-- the whole as pure programs: a fuel at which constructors come to an end, and the law's loop says true -/
def k_pure (L : Nat) (xs : Nat → Int32) : Prop := ∃ (N n0 : Nat) (r0 : VX3) (z0 : VX1) (g7 : VMg × (Nat → Int64)), fX3_init N ((fun _ => 0), (fun _ => 0), (fun _ => 0), ((fun _ => 0), 0), 0, 0, false) = some r0 ∧ fX1_init N ((fun _ => 0), (fun _ => 0), 0, 0, 0) = some z0 ∧ fX7_init N ((fun _ => 0), (fun _ => 0), (fun _ => 0), (fun _ => 0), 30, 11, (fun _ => 0)) (fun _ => 0) = some g7 ∧ fL_law_l18 N L xs g7.2 n0 0 ((fun _ => 0), 0) r0 r0 r0 ((fun _ => 0), 0, 0, 0, 0, 0, false) ((fun _ => 0), 0, 0, 0, 0, 0, false) z0 ((fun _ => 0), (fun _ => 0), 0) (0, 1) (0, 1) (fun _ => 0) ((fun _ => 0), 0) g7.1 ((fun _ => 0), 0, 0, 0, 0, 0, false) ((fun _ => 0), (fun _ => 0), 0, 0) (0, 0) (0, 0) (fun _ => 0) ((fun _ => 0), (fun _ => 0)) = some true
set_option maxHeartbeats 4000000 in
set_option maxRecDepth 100000 in
theorem whole_of {p : Program} {e : Env} {s : State} {m : MethodId} {below : List Frame} {meth : Method} {c : Code} (l : Launch) {b L : Nat} {xs : Nat → Int32} (C0 : lw_At p s m meth c b L xs) (hpure : k_pure L xs) : W p l e room_1 s m #[Value.ref b] below meth c s.heap [] 0 0 (lw_Z below #[Value.ref b] s) (entryFrame m ([Value.ref b] : List Value).toArray 4) := by
  obtain ⟨hx, hb, hr, hml, hown, hts, hX0, hbl, hlocks, hgv⟩ := id C0
  obtain ⟨N, n0, r0, z0, g7, hf3, hf1, hf7, hf⟩ := hpure
  have htG : ∀ w ∈ G_, w.before #[Value.ref b] s = true := fun w hw => hts w (G_tbl hw)
  have hgG : ∀ {C : String} {T : u_T} {n : Nat}, (∀ w ∈ u_ws C T n, w ∈ G_) → ∀ w ∈ u_ws C T n, w ∈ lw_tbl := fun h w hw => G_tbl (h w hw)
  obtain ⟨c0, i0, hK0⟩ := u_known (C := RX0) (T := TX0) (N := 2) (n := 2) hts (hgG inG0) (htG _ kn_X0_i)
  obtain ⟨c1, i1, hK1⟩ := u_known (C := RX1) (T := TX1) (N := 5) (n := 5) hts (hgG inG1) (htG _ kn_X1_i)
  obtain ⟨c2, i2, hK2⟩ := u_known (C := RX2) (T := TX2) (N := 3) (n := 3) hts (hgG inG2) (htG _ kn_X2_i)
  obtain ⟨c3, i3, hK3⟩ := u_known (C := RX3) (T := TX3) (N := 7) (n := 7) hts (hgG inG3) (htG _ kn_X3_i)
  obtain ⟨c4, i4, hK4⟩ := u_known (C := RX4) (T := TX4) (N := 7) (n := 7) hts (hgG inG4) (htG _ kn_X4_i)
  obtain ⟨c5, i5, hK5⟩ := u_known (C := RX5) (T := TX5) (N := 2) (n := 2) hts (hgG inG5) (htG _ kn_X5_i)
  obtain ⟨c6, i6, hK6⟩ := u_known (C := RX6) (T := TX6) (N := 11) (n := 11) hts (hgG inG6) (htG _ kn_X6_i)
  obtain ⟨c7, i7, hK7⟩ := u_known (C := RX7) (T := TX7) (N := 28) (n := 28) hts (hgG inG7) (htG _ kn_X7_i)
  obtain ⟨cI, hI⟩ := k_arr (htG _ ac_int) (fun _ h => by cases h)
  obtain ⟨cL, hL⟩ := k_arr (htG _ ac_long) (fun _ h => by cases h)
  obtain ⟨cZ, hZ⟩ := k_arr (htG _ ac_boolean) (fun _ h => by cases h)
  obtain ⟨D, hKc, hD0, hD1, hD2⟩ : ∃ D : va_G, (∀ (k : Nat) (q : vw_C), vwCl[k]? = some q → u_Kn s q.1 q.2.1 q.2.2 (D.1 k) (D.2 k)) ∧ D.1 100 = cI ∧ D.1 101 = cL ∧ D.1 102 = cZ := by
    refine ⟨(fun k => if k = 100 then cI else if k = 101 then cL else if k = 102 then cZ else [c0, c1, c2, c3, c4, c5, c6, c7].getD k c0, fun k => [i0, i1, i2, i3, i4, i5, i6, i7].getD k i0), ?_, rfl, rfl, rfl⟩
    intro k q hq
    have hk : k < 8 := (List.getElem?_eq_some_iff.mp hq).1
    rcases (show k = 0 ∨ k = 1 ∨ k = 2 ∨ k = 3 ∨ k = 4 ∨ k = 5 ∨ k = 6 ∨ k = 7 by omega) with rfl | rfl | rfl | rfl | rfl | rfl | rfl | rfl <;> cases hq
    · exact hK0
    · exact hK1
    · exact hK2
    · exact hK3
    · exact hK4
    · exact hK5
    · exact hK6
    · exact hK7
  have hK : va_K D vwCl (k_tys D) s := by
    refine ⟨hKc, fun k q hq => ?_⟩
    match k, hq with
    | 0, hq => cases hq; rw [hD0]; exact hI
    | 1, hq => cases hq; rw [hD1]; exact hL
    | 2, hq => cases hq; rw [hD2]; exact hZ
    | k + 3, hq => simp [k_tys] at hq
  obtain ⟨sq, sv, hSt⟩ := k_str hts hgv
  obtain ⟨E, hE⟩ : ∃ E : k_E, E = (p, e, room_1, s, m, #[Value.ref b], below, meth, c, 0, 0, lw_Z below #[Value.ref b] s, fun q : Nat => s.heap.size ≤ q, 4) := ⟨_, rfl⟩
  have hX : k_XC D E cL_law RL 4 7 193 600000 7302250 := by
    subst hE
    exact fun k n hk hn => ⟨⟨hx, hb, hml, hown, htG⟩, hK, k_N.of hts, hk, hn, Nat.le_of_ble_eq_true rfl, Nat.le_of_ble_eq_true rfl, rfl, fun q h => h⟩
  have XS : k_XS E sq sv := by subst hE; exact hSt
  have XL : k_XL (k_cs E 48 8397) b L xs := by subst hE; exact ⟨hX0, hbl, Nat.not_le.mpr hbl⟩
  suffices hgo : k_G D l (k_cs E 0 0) [] [(0, .ref b)] 0 [] by
    subst hE
    have hl := lv_entry ([.ref b]) (n := 4) (Nat.le_of_ble_eq_true rfl)
    rw [lg_entry_eq]
    exact hgo s.heap [] _ (fun k q h => by simp at h) ⟨fun i j p q h => by simp at h, fun k q h => by simp at h⟩ va_S.rf hl
  refine g_new (C := RX6) (T := TX6) (N := 11) (ci := 6) (c2 := 1) (n2 := 11) (fs := [.null, .null, .null, .null, .null, .null, .null, .null, .null, .null, .null]) (hX 0 0 (Nat.le_of_ble_eq_true rfl) (Nat.le_of_ble_eq_true rfl)) (hX 1 11 (Nat.le_of_ble_eq_true rfl) (Nat.le_of_ble_eq_true rfl)) inG6 tyX6_ok knL_X6 kn_X6_i kn_X6_d rfl (fun j hj => by rcases (show j = 0 ∨ j = 1 ∨ j = 2 ∨ j = 3 ∨ j = 4 ∨ j = 5 ∨ j = 6 ∨ j = 7 ∨ j = 8 ∨ j = 9 ∨ j = 10 by omega) with rfl | rfl | rfl | rfl | rfl | rfl | rfl | rfl | rfl | rfl | rfl <;> rfl) dL_law_0 (n := 3) rfl ⟨rfl, rfl⟩ (fun q1 => ?_)
  refine g_dup (hX 1 11 (Nat.le_of_ble_eq_true rfl) (Nat.le_of_ble_eq_true rfl)) dL_law_3 rfl (n := 4) rfl ?_
  refine g_ctor (hX 1 11 (Nat.le_of_ble_eq_true rfl) (Nat.le_of_ble_eq_true rfl)) (hX 34 4247 (Nat.le_of_ble_eq_true rfl) (Nat.le_of_ble_eq_true rfl)) XS.cs (mX6_init (D := D) (l := l) (q := sq) (v := sv) (a0 := q1) hf3 hf1) rfl lk0_X6_init ik_X6_init mlL_9 dL_law_4 (n := 7) rfl (st := [.ref q1]) rfl rfl rfl ⟨(Nat.le_of_ble_eq_true rfl), (Nat.le_of_ble_eq_true rfl)⟩ (Nat.le_of_ble_eq_true rfl) ⟨rfl, rfl⟩ (fun b1 => ?_)
  refine g_astore_n (hX 34 4247 (Nat.le_of_ble_eq_true rfl) (Nat.le_of_ble_eq_true rfl)) dL_law_7 rfl (by decide) (lv2 := [(1, .ref q1), (0, .ref b)]) rfl (n := 8) rfl ?_
  refine g_new (C := RX7) (T := TX7) (N := 28) (ci := 7) (c2 := 35) (n2 := 4275) (fs := [.int 0, .null, .null, .null, .null, .null, .int 0, .int 0, .null, .null, .int 0, .int 0, .int 0, .int 0, .int 0, .int 0, .null, .null, .null, .long 0, .long 0, .int 0, .int 0, .long 0, .long 0, .null, .null, .null]) (hX 34 4247 (Nat.le_of_ble_eq_true rfl) (Nat.le_of_ble_eq_true rfl)) (hX 35 4275 (Nat.le_of_ble_eq_true rfl) (Nat.le_of_ble_eq_true rfl)) inG7 tyX7_ok knL_X7 kn_X7_i kn_X7_d rfl (fun j hj => by rcases (show j = 0 ∨ j = 1 ∨ j = 2 ∨ j = 3 ∨ j = 4 ∨ j = 5 ∨ j = 6 ∨ j = 7 ∨ j = 8 ∨ j = 9 ∨ j = 10 ∨ j = 11 ∨ j = 12 ∨ j = 13 ∨ j = 14 ∨ j = 15 ∨ j = 16 ∨ j = 17 ∨ j = 18 ∨ j = 19 ∨ j = 20 ∨ j = 21 ∨ j = 22 ∨ j = 23 ∨ j = 24 ∨ j = 25 ∨ j = 26 ∨ j = 27 by omega) with rfl | rfl | rfl | rfl | rfl | rfl | rfl | rfl | rfl | rfl | rfl | rfl | rfl | rfl | rfl | rfl | rfl | rfl | rfl | rfl | rfl | rfl | rfl | rfl | rfl | rfl | rfl | rfl <;> rfl) dL_law_8 (n := 11) rfl ⟨rfl, rfl⟩ (fun q2 => ?_)
  refine g_dup (hX 35 4275 (Nat.le_of_ble_eq_true rfl) (Nat.le_of_ble_eq_true rfl)) dL_law_11 rfl (n := 12) rfl ?_
  refine g_ctor (hX 35 4275 (Nat.le_of_ble_eq_true rfl) (Nat.le_of_ble_eq_true rfl)) (hX 48 8397 (Nat.le_of_ble_eq_true rfl) (Nat.le_of_ble_eq_true rfl)) XS.cs (mX7_init (D := D) (l := l) (q := sq) (v := sv) (a0 := q2) hf7) rfl lk0_X7_init ik_X7_init mlL_12 dL_law_12 (n := 15) rfl (st := [.ref q2]) rfl rfl rfl ⟨(Nat.le_of_ble_eq_true rfl), (Nat.le_of_ble_eq_true rfl)⟩ (Nat.le_of_ble_eq_true rfl) ⟨rfl, rfl⟩ (fun b2 => ?_)
  refine g_astore_n (hX 48 8397 (Nat.le_of_ble_eq_true rfl) (Nat.le_of_ble_eq_true rfl)) dL_law_15 rfl (by decide) (lv2 := [(2, .ref q2), (1, .ref q1), (0, .ref b)]) rfl (n := 16) rfl ?_
  refine g_iconst (hX 48 8397 (Nat.le_of_ble_eq_true rfl) (Nat.le_of_ble_eq_true rfl)) dL_law_16 (v := 0) (by decide) (n := 17) rfl ?_
  refine g_istore_n (hX 48 8397 (Nat.le_of_ble_eq_true rfl) (Nat.le_of_ble_eq_true rfl)) dL_law_17 rfl (by decide) (lv2 := [(3, .int 0), (2, .ref q2), (1, .ref q1), (0, .ref b)]) rfl (n := 18) rfl ?_
  refine g_eq (ws' := pic_X6 D (k_a0 q1 b1) ((fun _ => 0), 0) r0 r0 r0 ((fun _ => 0), 0, 0, 0, 0, 0, false) ((fun _ => 0), 0, 0, 0, 0, 0, false) z0 ((fun _ => 0), (fun _ => 0), 0) (0, 1) (0, 1) (fun _ => 0) ++ pic_X7 D (k_a0 q2 b2) ((fun _ => 0), 0) g7.1 g7.2 ((fun _ => 0), 0, 0, 0, 0, 0, false) ((fun _ => 0), (fun _ => 0), 0, 0) (0, 0) (0, 0) (fun _ => 0) ((fun _ => 0), (fun _ => 0))) rfl rfl rfl ?_
  refine g_sub [3, 2, 1, 0] (lv' := [(0, .ref b), (1, .ref q1), (2, .ref q2), (3, .int 0)]) rfl ?_
  refine wL_law_l18 (E := k_cs E 48 8397) (a := k_a0 q1 b1) (am := k_a0 q2 b2) (hX 48 8397 (Nat.le_of_ble_eq_true rfl) (Nat.le_of_ble_eq_true rfl)) XL ?_ n0 _ _ _ _ _ _ _ _ _ _ _ _ _ _ _ _ _ _ _ _ hf
  intro pad now fi se li so lo re ru ot le mp mg mc ml mq mh ms mr mi pc lv d
  subst hE
  intro H locs ls hP hD hS hv
  refine va_forget (fun q hq => hS.2.2 q hq) ?_
  refine W.widen (k := 600000) (n := 7302250) (Nat.le_of_ble_eq_true rfl) (Nat.le_of_ble_eq_true rfl) ?_
  exact lw_ret hx hb hr hlocks d
