/-! constructors, text constants: contracts -/
def fX1_init_b89 (N : Nat) (k24 : Int32 → VX1 → Option (VX1)) (k32 : Int32 → Int32 → VX1 → Option (VX1)) (v1 : Int32) (v2 : Int32) (z : VX1) : Option (VX1) :=
  k32 v1 (v2 + 1) z
def fX1_init_b88 (N : Nat) (k24 : Int32 → VX1 → Option (VX1)) (k32 : Int32 → Int32 → VX1 → Option (VX1)) (v1 : Int32) (v2 : Int32) (s1 : Int32) (s2 : Int64) (z : VX1) : Option (VX1) :=
  if k_in s1 1891 then
  fX1_init_b89 N k24 k32 v1 v2 (vp_updL z.1 (s1).toNatClampNeg s2, z.2.1, z.2.2.1, z.2.2.2.1, z.2.2.2.2) else none
def fX1_init_b32 (N : Nat) (k24 : Int32 → VX1 → Option (VX1)) (k32 : Int32 → Int32 → VX1 → Option (VX1)) (v1 : Int32) (v2 : Int32) (z : VX1) : Option (VX1) :=
  if v1 < v2 then
    k24 (v1 + 1) z
  else
    if 1891 ≤ (((v1 * (v1 + 1)) / 2) + v2) then
      fX1_init_b89 N k24 k32 v1 v2 z
    else
      if v2 = 0 then
        fX1_init_b88 N k24 k32 v1 v2 (((v1 * (v1 + 1)) / 2) + v2) (1 : Int64) z
      else
        k_b1 (fX1_choose z (v1 - 1) (v2 - 1)) fun x_4 =>
        k_b1 (fX1_choose z (v1 - 1) v2) fun x_6 =>
        fX1_init_b88 N k24 k32 v1 v2 (((v1 * (v1 + 1)) / 2) + v2) (x_4 + x_6) z
def fX1_init_l32 (N : Nat) (k24 : Int32 → VX1 → Option (VX1)) : Nat → Int32 → Int32 → VX1 → Option (VX1)
  | 0, _, _, _ => none
  | n0 + 1, v1, v2, z => fX1_init_b32 N k24 (fX1_init_l32 N k24 n0) v1 v2 z
def fX1_init_b24 (N : Nat) (k24 : Int32 → VX1 → Option (VX1)) (v1 : Int32) (z : VX1) : Option (VX1) :=
  if 61 ≤ v1 then
    some z
  else
    fX1_init_l32 N k24 N v1 0 z
def fX1_init_l24 (N : Nat) : Nat → Int32 → VX1 → Option (VX1)
  | 0, _, _ => none
  | n0 + 1, v1, z => fX1_init_b24 N (fX1_init_l24 N n0) v1 z
def fX1_init (N : Nat) (z : VX1) : Option (VX1) :=
  fX1_init_l24 N N 0 z
def fX3_init_b49 (N : Nat) (k49 : Int32 → VX3 → Option (VX3)) (v1 : Int32) (r : VX3) : Option (VX3) :=
  if 11 ≤ v1 then
    some r
  else
    if k_in v1 11 then
    k_b2 (fX5_append 11 (k_fr.getD v1.toNatClampNeg 0) r.2.2.2.1) fun x_3 r_4 =>
    k49 (v1 + 1) (r.1, r.2.1, r.2.2.1, r_4, r.2.2.2.2.1, r.2.2.2.2.2.1, r.2.2.2.2.2.2) else none
def fX3_init_l49 (N : Nat) : Nat → Int32 → VX3 → Option (VX3)
  | 0, _, _ => none
  | n0 + 1, v1, r => fX3_init_b49 N (fX3_init_l49 N n0) v1 r
def fX3_init (N : Nat) (r : VX3) : Option (VX3) :=
  fX3_init_l49 N N 0 (r.1, r.2.1, r.2.2.1, r.2.2.2.1, r.2.2.2.2.1, (30 : Int32), r.2.2.2.2.2.2)
def fX7_init_b234 (N : Nat) (k216 : Int32 → VMg → (Nat → Int64) → Option (VMg × (Nat → Int64))) (k234 : Int32 → Int32 → VMg → (Nat → Int64) → Option (VMg × (Nat → Int64))) (v1 : Int32) (v2 : Int32) (mg : VMg) (mc : Nat → Int64) : Option (VMg × (Nat → Int64)) :=
  if v1 < v2 then
    k216 (v1 + 1) mg mc
  else
    if k_in (((((61 : Int32) * v1) - 61) + v2) - 1) 3721 then
    if k_in ((((61 : Int32) * v1) - 61) + v2) 3721 then
    if k_in (((61 : Int32) * v1) + v2) 3721 then
    k234 v1 (v2 + 1) mg (vp_updL mc ((((61 : Int32) * v1) + v2)).toNatClampNeg ((mc (((((61 : Int32) * v1) - 61) + v2) - 1).toNatClampNeg) + (mc ((((61 : Int32) * v1) - 61) + v2).toNatClampNeg))) else none else none else none
def fX7_init_l234 (N : Nat) (k216 : Int32 → VMg → (Nat → Int64) → Option (VMg × (Nat → Int64))) : Nat → Int32 → Int32 → VMg → (Nat → Int64) → Option (VMg × (Nat → Int64))
  | 0, _, _, _, _ => none
  | n0 + 1, v1, v2, mg, mc => fX7_init_b234 N k216 (fX7_init_l234 N k216 n0) v1 v2 mg mc
def fX7_init_b216 (N : Nat) (k216 : Int32 → VMg → (Nat → Int64) → Option (VMg × (Nat → Int64))) (v1 : Int32) (mg : VMg) (mc : Nat → Int64) : Option (VMg × (Nat → Int64)) :=
  if 60 < v1 then
    some (mg, mc)
  else
    if k_in ((61 : Int32) * v1) 3721 then
    fX7_init_l234 N k216 N v1 1 mg (vp_updL mc (((61 : Int32) * v1)).toNatClampNeg (1 : Int64)) else none
def fX7_init_l216 (N : Nat) : Nat → Int32 → VMg → (Nat → Int64) → Option (VMg × (Nat → Int64))
  | 0, _, _, _ => none
  | n0 + 1, v1, mg, mc => fX7_init_b216 N (fX7_init_l216 N n0) v1 mg mc
def fX7_init (N : Nat) (mg : VMg) (mc : Nat → Int64) : Option (VMg × (Nat → Int64)) :=
  if k_in 0 11 then
  if k_in 1 11 then
  if k_in 2 11 then
  if k_in 3 11 then
  if k_in 4 11 then
  if k_in 5 11 then
  if k_in 6 11 then
  if k_in 7 11 then
  if k_in 8 11 then
  if k_in 9 11 then
  if k_in 10 11 then
  fX7_init_l216 N N 0 (mg.1, mg.2.1, mg.2.2.1, mg.2.2.2.1, mg.2.2.2.2.1, mg.2.2.2.2.2.1, upd (upd (upd (upd (upd (upd (upd (upd (upd (upd (upd mg.2.2.2.2.2.2 ((0 : Int32)).toNatClampNeg 45) ((1 : Int32)).toNatClampNeg 47) ((2 : Int32)).toNatClampNeg 42) ((3 : Int32)).toNatClampNeg 78) ((4 : Int32)).toNatClampNeg 118) ((5 : Int32)).toNatClampNeg 107) ((6 : Int32)).toNatClampNeg 47) ((7 : Int32)).toNatClampNeg 42) ((8 : Int32)).toNatClampNeg 100) ((9 : Int32)).toNatClampNeg 78) ((10 : Int32)).toNatClampNeg 107) mc else none else none else none else none else none else none else none else none else none else none else none
theorem mlJ0_335 : Cond.methodLink RJ0 335 yJ0_coder_7d493 ∈ G_ := G_mem (i := 57) (by decide +kernel) rfl
theorem mlJ0_492 : Cond.methodLink RJ0 492 yJ0_isLatin1_aae02 ∈ G_ := G_mem (i := 67) (by decide +kernel) rfl
theorem mlJ0_495 : Cond.methodLink RJ0 495 yJ1_charAt_3b067 ∈ G_ := G_mem (i := 71) (by decide +kernel) rfl
theorem mlJ0_1059 : Cond.methodLink RJ0 1059 yJ3_checkIndex_8e157 ∈ G_ := G_mem (i := 79) (by decide +kernel) rfl
theorem mlJ1_9 : Cond.methodLink RJ1 9 yJ0_checkIndex_df160 ∈ G_ := G_mem (i := 74) (by decide +kernel) rfl
theorem mlX0_3 : Cond.methodLink RX0 3 objectInit ∈ G_ := G_mem (i := 216) (by decide +kernel) rfl
theorem mlX1_3 : Cond.methodLink RX1 3 objectInit ∈ G_ := G_mem (i := 171) (by decide +kernel) rfl
theorem mlX2_3 : Cond.methodLink RX2 3 objectInit ∈ G_ := G_mem (i := 200) (by decide +kernel) rfl
theorem mlX3_3 : Cond.methodLink RX3 3 objectInit ∈ G_ := G_mem (i := 49) (by decide +kernel) rfl
theorem mlX3_23 : Cond.methodLink RX3 23 yX5_init ∈ G_ := G_mem (i := 51) (by decide +kernel) rfl
theorem mlX3_36 : Cond.methodLink RX3 36 yJ0_length_8abf5 ∈ G_ := G_mem (i := 53) (by decide +kernel) rfl
theorem mlX3_42 : Cond.methodLink RX3 42 yJ0_charAt_5068e ∈ G_ := G_mem (i := 63) (by decide +kernel) rfl
theorem mlX3_46 : Cond.methodLink RX3 46 yX5_append ∈ G_ := G_mem (i := 101) (by decide +kernel) rfl
theorem mlX4_3 : Cond.methodLink RX4 3 objectInit ∈ G_ := G_mem (i := 138) (by decide +kernel) rfl
theorem mlX5_3 : Cond.methodLink RX5 3 objectInit ∈ G_ := G_mem (i := 29) (by decide +kernel) rfl
theorem mlX5_9 : Cond.methodLink RX5 9 Lib.Math.max.name ∈ G_ := G_mem (i := 30) (by decide +kernel) rfl
theorem mlX6_3 : Cond.methodLink RX6 3 objectInit ∈ G_ := G_mem (i := 21) (by decide +kernel) rfl
theorem mlX6_11 : Cond.methodLink RX6 11 yX5_init ∈ G_ := G_mem (i := 26) (by decide +kernel) rfl
theorem mlX6_20 : Cond.methodLink RX6 20 yX3_init ∈ G_ := G_mem (i := 46) (by decide +kernel) rfl
theorem mlX6_33 : Cond.methodLink RX6 33 yX4_init ∈ G_ := G_mem (i := 135) (by decide +kernel) rfl
theorem mlX6_43 : Cond.methodLink RX6 43 yX1_init ∈ G_ := G_mem (i := 168) (by decide +kernel) rfl
theorem mlX6_50 : Cond.methodLink RX6 50 yX2_init ∈ G_ := G_mem (i := 197) (by decide +kernel) rfl
theorem mlX6_57 : Cond.methodLink RX6 57 yX0_init ∈ G_ := G_mem (i := 213) (by decide +kernel) rfl
theorem mlX7_1 : Cond.methodLink RX7 1 objectInit ∈ G_ := G_mem (i := 694) (by decide +kernel) rfl
theorem lk_J0_charAt_5068e : k_lkV yJ0_charAt_5068e cJ0_charAt_5068e 2 (some .char) 1 := ⟨⟨G_mem (i := 5) (by decide +kernel) rfl, G_mem (i := 66) (by decide +kernel) rfl, by decide, by decide, by decide +kernel⟩, G_mem (i := 64) (by decide +kernel) rfl, G_mem (i := 65) (by decide +kernel) rfl⟩
theorem lk_J0_checkIndex_df160 : k_lkS yJ0_checkIndex_df160 cJ0_checkIndex_df160 2 none 2 := ⟨⟨G_mem (i := 5) (by decide +kernel) rfl, G_mem (i := 76) (by decide +kernel) rfl, by decide, by decide, by decide +kernel⟩, G_mem (i := 75) (by decide +kernel) rfl⟩
theorem lk_J0_coder_7d493 : k_lkV yJ0_coder_7d493 cJ0_coder_7d493 1 (some .byte) 0 := ⟨⟨G_mem (i := 5) (by decide +kernel) rfl, G_mem (i := 60) (by decide +kernel) rfl, by decide, by decide, by decide +kernel⟩, G_mem (i := 58) (by decide +kernel) rfl, G_mem (i := 59) (by decide +kernel) rfl⟩
theorem lk_J0_isLatin1_aae02 : k_lkV yJ0_isLatin1_aae02 cJ0_isLatin1_aae02 1 (some .boolean) 0 := ⟨⟨G_mem (i := 5) (by decide +kernel) rfl, G_mem (i := 70) (by decide +kernel) rfl, by decide, by decide, by decide +kernel⟩, G_mem (i := 68) (by decide +kernel) rfl, G_mem (i := 69) (by decide +kernel) rfl⟩
theorem lk_J0_length_8abf5 : k_lkV yJ0_length_8abf5 cJ0_length_8abf5 1 (some .int) 0 := ⟨⟨G_mem (i := 5) (by decide +kernel) rfl, G_mem (i := 56) (by decide +kernel) rfl, by decide, by decide, by decide +kernel⟩, G_mem (i := 54) (by decide +kernel) rfl, G_mem (i := 55) (by decide +kernel) rfl⟩
theorem lk_J1_charAt_3b067 : k_lkS yJ1_charAt_3b067 cJ1_charAt_3b067 2 (some .char) 2 := ⟨⟨G_mem (i := 6) (by decide +kernel) rfl, G_mem (i := 73) (by decide +kernel) rfl, by decide, by decide, by decide +kernel⟩, G_mem (i := 72) (by decide +kernel) rfl⟩
theorem lk_J3_checkIndex_8e157 : k_lkS yJ3_checkIndex_8e157 cJ3_checkIndex_8e157 3 (some .int) 3 := ⟨⟨G_mem (i := 7) (by decide +kernel) rfl, G_mem (i := 81) (by decide +kernel) rfl, by decide, by decide, by decide +kernel⟩, G_mem (i := 80) (by decide +kernel) rfl⟩
theorem lk0_X0_init : k_lk0 yX0_init cX0_init 1 none 0 := ⟨G_mem (i := 12) (by decide +kernel) rfl, G_mem (i := 215) (by decide +kernel) rfl, by decide, by decide, by decide +kernel⟩
theorem ik_X0_init : Cond.instanceMethod yX0_init ∈ G_ := G_mem (i := 214) (by decide +kernel) rfl
theorem lk0_X1_init : k_lk0 yX1_init cX1_init 4 none 0 := ⟨G_mem (i := 10) (by decide +kernel) rfl, G_mem (i := 170) (by decide +kernel) rfl, by decide, by decide, by decide +kernel⟩
theorem ik_X1_init : Cond.instanceMethod yX1_init ∈ G_ := G_mem (i := 169) (by decide +kernel) rfl
theorem lk0_X2_init : k_lk0 yX2_init cX2_init 1 none 0 := ⟨G_mem (i := 11) (by decide +kernel) rfl, G_mem (i := 199) (by decide +kernel) rfl, by decide, by decide, by decide +kernel⟩
theorem ik_X2_init : Cond.instanceMethod yX2_init ∈ G_ := G_mem (i := 198) (by decide +kernel) rfl
theorem lk0_X3_init : k_lk0 yX3_init cX3_init 2 none 0 := ⟨G_mem (i := 4) (by decide +kernel) rfl, G_mem (i := 48) (by decide +kernel) rfl, by decide, by decide, by decide +kernel⟩
theorem ik_X3_init : Cond.instanceMethod yX3_init ∈ G_ := G_mem (i := 47) (by decide +kernel) rfl
theorem lk0_X4_init : k_lk0 yX4_init cX4_init 1 none 0 := ⟨G_mem (i := 9) (by decide +kernel) rfl, G_mem (i := 137) (by decide +kernel) rfl, by decide, by decide, by decide +kernel⟩
theorem ik_X4_init : Cond.instanceMethod yX4_init ∈ G_ := G_mem (i := 136) (by decide +kernel) rfl
theorem lk0_X5_init : k_lk0 yX5_init cX5_init 2 none 1 := ⟨G_mem (i := 2) (by decide +kernel) rfl, G_mem (i := 28) (by decide +kernel) rfl, by decide, by decide, by decide +kernel⟩
theorem ik_X5_init : Cond.instanceMethod yX5_init ∈ G_ := G_mem (i := 27) (by decide +kernel) rfl
theorem knX3_21 : Cond.classLink RX3 21 RX5 ∈ G_ := G_mem (i := 50) (by decide +kernel) rfl
theorem kn_X5_i : Cond.instantiable RX5 2 ∈ G_ := G_mem (i := 25) (by decide +kernel) rfl
theorem kn_X5_d : Cond.initialized RX5 ∈ G_ := G_mem (i := 2) (by decide +kernel) rfl
theorem knX6_9 : Cond.classLink RX6 9 RX5 ∈ G_ := G_mem (i := 24) (by decide +kernel) rfl
theorem knX6_18 : Cond.classLink RX6 18 RX3 ∈ G_ := G_mem (i := 44) (by decide +kernel) rfl
theorem kn_X3_i : Cond.instantiable RX3 7 ∈ G_ := G_mem (i := 45) (by decide +kernel) rfl
theorem kn_X3_d : Cond.initialized RX3 ∈ G_ := G_mem (i := 4) (by decide +kernel) rfl
theorem knX6_31 : Cond.classLink RX6 31 RX4 ∈ G_ := G_mem (i := 133) (by decide +kernel) rfl
theorem kn_X4_i : Cond.instantiable RX4 7 ∈ G_ := G_mem (i := 134) (by decide +kernel) rfl
theorem kn_X4_d : Cond.initialized RX4 ∈ G_ := G_mem (i := 9) (by decide +kernel) rfl
theorem knX6_41 : Cond.classLink RX6 41 RX1 ∈ G_ := G_mem (i := 166) (by decide +kernel) rfl
theorem kn_X1_i : Cond.instantiable RX1 5 ∈ G_ := G_mem (i := 167) (by decide +kernel) rfl
theorem kn_X1_d : Cond.initialized RX1 ∈ G_ := G_mem (i := 10) (by decide +kernel) rfl
theorem knX6_48 : Cond.classLink RX6 48 RX2 ∈ G_ := G_mem (i := 195) (by decide +kernel) rfl
theorem kn_X2_i : Cond.instantiable RX2 3 ∈ G_ := G_mem (i := 196) (by decide +kernel) rfl
theorem kn_X2_d : Cond.initialized RX2 ∈ G_ := G_mem (i := 11) (by decide +kernel) rfl
theorem knX6_55 : Cond.classLink RX6 55 RX0 ∈ G_ := G_mem (i := 211) (by decide +kernel) rfl
theorem kn_X0_i : Cond.instantiable RX0 2 ∈ G_ := G_mem (i := 212) (by decide +kernel) rfl
theorem kn_X0_d : Cond.initialized RX0 ∈ G_ := G_mem (i := 12) (by decide +kernel) rfl
theorem ac_int : Cond.arrayClass (newarray.typeOf .int) ∈ G_ := G_mem (i := 43) (by decide +kernel) rfl
theorem ac_long : Cond.arrayClass (newarray.typeOf .long) ∈ G_ := G_mem (i := 194) (by decide +kernel) rfl
theorem ac_boolean : Cond.arrayClass (newarray.typeOf .boolean) ∈ G_ := G_mem (i := 780) (by decide +kernel) rfl
theorem lkO1 : Cond.instanceMethod objectInit ∈ G_ := G_mem (i := 22) (by decide +kernel) rfl
theorem lkO2 : Cond.code objectInit ⟨#[0xb1]⟩ 1 none ∈ G_ := G_mem (i := 23) (by decide +kernel) rfl
theorem fs38 : Cond.fieldLink RJ0 38 "java/lang/String" "COMPACT_STRINGS" "Z" ∈ G_ := G_mem (i := 61) (by decide +kernel) rfl
theorem fs15 : Cond.fieldLink RJ0 15 "java/lang/String" "coder" "B" ∈ G_ := G_mem (i := 1003) (by decide +kernel) rfl
theorem fs9 : Cond.fieldLink RJ0 9 "java/lang/String" "value" "[B" ∈ G_ := G_mem (i := 1002) (by decide +kernel) rfl
theorem fs1053 : Cond.fieldLink RJ0 1053 "jdk/internal/util/Preconditions" "SIOOBE_FORMATTER" "Ljava/util/function/BiFunction;" ∈ G_ := G_mem (i := 77) (by decide +kernel) rfl


theorem k_fr_c : ∀ j, j < 11 → ((k_fr.getD j 0 &&& 255).toUInt32 % 65536).toInt32 = k_fr.getD j 0 ∧ narrow .char (.int (k_fr.getD j 0)) = .int (k_fr.getD j 0) := by decide +kernel
theorem k_in11 {i : Int32} (h : k_in i 11) : ¬ i < 0 ∧ i < 11 ∧ i.toNatClampNeg < 11 := by
  have h1 := vp_in_iff.mp (show vp_in i 11 from h)
  refine ⟨fun z => h (Or.inl z), ?_, Nat.not_le.mp fun z => h (Or.inr z)⟩
  rw [Int32.lt_iff_toInt_lt]
  exact h1.2
theorem mJ0_coder {l : Launch} {D : va_G} {q v : Nat} : k_MetC l yJ0_coder_7d493 cJ0_coder_7d493 1 (some .byte) 0 0 0 0 D [.ref q] q v [] (some (.int 0)) (fun _ => []) :=
  k_ofS (by decide) (Nat.le_of_ble_eq_true rfl) rfl (fun E X XS hret => by
    refine g_getZ X XS fs38 dJ0_coder_7d493_0 (n := 3) rfl ?_
    refine g_if_eq X dJ0_coder_7d493_3 (t := 13) (by decide) (n := 6) rfl (fun c => absurd c (by decide)) (fun _ => ?_)
    refine g_aload_n X dJ0_coder_7d493_6 0 rfl rfl (n := 7) rfl ?_
    refine g_scod X XS fs15 dJ0_coder_7d493_7 (n := 10) rfl ?_
    refine g_goto X dJ0_coder_7d493_10 (n := 14) (by decide) ?_
    exact hret _ _ dJ0_coder_7d493_14)
theorem mJ0_isLatin1 {l : Launch} {D : va_G} {q v : Nat} : k_MetC l yJ0_isLatin1_aae02 cJ0_isLatin1_aae02 1 (some .boolean) 0 0 0 0 D [.ref q] q v [] (some (.int 1)) (fun _ => []) :=
  k_ofS (by decide) (Nat.le_of_ble_eq_true rfl) rfl (fun E X XS hret => by
    refine g_getZ X XS fs38 dJ0_isLatin1_aae02_0 (n := 3) rfl ?_
    refine g_if_eq X dJ0_isLatin1_aae02_3 (t := 17) (by decide) (n := 6) rfl (fun c => absurd c (by decide)) (fun _ => ?_)
    refine g_aload_n X dJ0_isLatin1_aae02_6 0 rfl rfl (n := 7) rfl ?_
    refine g_scod X XS fs15 dJ0_isLatin1_aae02_7 (n := 10) rfl ?_
    refine g_if_ne X dJ0_isLatin1_aae02_10 (t := 17) (by decide) (n := 13) rfl (fun c => absurd rfl c) (fun _ => ?_)
    refine g_iconst X dJ0_isLatin1_aae02_13 (v := 1) (by decide) (n := 14) rfl ?_
    refine g_goto X dJ0_isLatin1_aae02_14 (n := 18) (by decide) ?_
    exact hret _ _ dJ0_isLatin1_aae02_18)
theorem mJ0_length {l : Launch} {D : va_G} {q v : Nat} : k_MetC l yJ0_length_8abf5 cJ0_length_8abf5 1 (some .int) 1 20 0 0 D [.ref q] q v [] (some (.int 11)) (fun _ => []) :=
  k_ofS (by decide) (Nat.le_of_ble_eq_true rfl) rfl (fun E X XS hret => by
    refine g_aload_n X dJ0_length_8abf5_0 0 rfl rfl (n := 1) rfl ?_
    refine g_sval X XS fs9 dJ0_length_8abf5_1 (n := 4) rfl ?_
    refine g_sblen X XS dJ0_length_8abf5_4 (n := 5) rfl ?_
    refine g_aload_n X dJ0_length_8abf5_5 0 rfl rfl (n := 6) rfl ?_
    refine g_callVS X XS mJ0_coder rfl lk_J0_coder_7d493 mlJ0_335 dJ0_length_8abf5_6 (n := 9) rfl (st := [.int 11]) rfl (st2 := [.int 0, .int 11]) rfl rfl ⟨Nat.le_of_ble_eq_true rfl, Nat.le_of_ble_eq_true rfl⟩ (Nat.le_of_ble_eq_true rfl) ?_
    refine g_ishr X dJ0_length_8abf5_9 (n := 10) rfl ?_
    refine g_eq (st' := [.int 11]) rfl rfl (by decide) ?_
    exact hret _ _ dJ0_length_8abf5_10)
theorem mJ3_checkIndex {l : Launch} {D : va_G} {q v : Nat} {i : Int32} {w : Value} (hw : w.category = 1) (hi : k_in i 11) : k_MetC l yJ3_checkIndex_8e157 cJ3_checkIndex_8e157 3 (some .int) 0 0 0 0 D [.int i, .int 11, w] q v [] (some (.int i)) (fun _ => []) := by
  have h1 : (Value.int i).category = 1 := rfl
  have h2 : (Value.int 11).category = 1 := rfl
  have h3 : (lg_sl [.int i, .int 11, w]).length ≤ 3 := by simp [lg_sl, hw, h1, h2]
  exact k_ofS (by decide) h3 rfl (fun E X XS hret => by
    refine g_iload_n X dJ3_checkIndex_8e157_0 0 rfl rfl (n := 1) rfl ?_
    refine g_if_lt X dJ3_checkIndex_8e157_1 (t := 9) (by decide) (n := 4) rfl (fun c => absurd c (k_in11 hi).1) (fun _ => ?_)
    refine g_iload_n X dJ3_checkIndex_8e157_4 0 rfl rfl (n := 5) rfl ?_
    refine g_iload_n X dJ3_checkIndex_8e157_5 1 rfl rfl (n := 6) rfl ?_
    refine g_icmp_lt X dJ3_checkIndex_8e157_6 (t := 16) (by decide) (n := 9) rfl (fun _ => ?_) (fun c => absurd (k_in11 hi).2.1 c)
    refine g_iload_n X dJ3_checkIndex_8e157_16 0 rfl rfl (n := 17) rfl ?_
    exact hret _ _ dJ3_checkIndex_8e157_17)
theorem mJ0_checkIndex {l : Launch} {D : va_G} {q v : Nat} {i : Int32} (hi : k_in i 11) : k_MetC l yJ0_checkIndex_df160 cJ0_checkIndex_df160 2 none 1 22 0 0 D [.int i, .int 11] q v [] none (fun _ => []) :=
  k_ofSv (by decide) (Nat.le_of_ble_eq_true rfl) (fun E X XS hret => by
    refine g_iload_n X dJ0_checkIndex_df160_0 0 rfl rfl (n := 1) rfl ?_
    refine g_iload_n X dJ0_checkIndex_df160_1 1 rfl rfl (n := 2) rfl ?_
    refine g_getSI X XS fs1053 dJ0_checkIndex_df160_2 (n := 5) rfl (fun w hw => ?_)
    refine g_callSS X XS (mJ3_checkIndex hw hi) lk_J3_checkIndex_8e157 mlJ0_1059 dJ0_checkIndex_df160_5 (n := 8) rfl (st := []) rfl (st2 := [.int i]) rfl rfl ⟨Nat.le_of_ble_eq_true rfl, Nat.le_of_ble_eq_true rfl⟩ (Nat.le_of_ble_eq_true rfl) ?_
    refine g_pop X dJ0_checkIndex_df160_8 rfl (n := 9) rfl ?_
    exact hret _ _ dJ0_checkIndex_df160_9)
theorem mJ1_charAt {l : Launch} {D : va_G} {q v : Nat} {i : Int32} (hi : k_in i 11) : k_MetC l yJ1_charAt_3b067 cJ1_charAt_3b067 2 (some .char) 2 43 0 0 D [.ref v, .int i] q v [] (some (.int (k_fr.getD i.toNatClampNeg 0))) (fun _ => []) :=
  k_ofS (by decide) (Nat.le_of_ble_eq_true rfl) (k_fr_c _ (k_in11 hi).2.2).2 (fun E X XS hret => by
    refine g_iload_n X dJ1_charAt_3b067_0 1 rfl rfl (n := 1) rfl ?_
    refine g_aload_n X dJ1_charAt_3b067_1 0 rfl rfl (n := 2) rfl ?_
    refine g_sblen X XS dJ1_charAt_3b067_2 (n := 3) rfl ?_
    refine g_callSS X XS (mJ0_checkIndex hi) lk_J0_checkIndex_df160 mlJ1_9 dJ1_charAt_3b067_3 (n := 6) rfl (st := []) rfl (st2 := []) rfl rfl ⟨Nat.le_of_ble_eq_true rfl, Nat.le_of_ble_eq_true rfl⟩ (Nat.le_of_ble_eq_true rfl) ?_
    refine g_aload_n X dJ1_charAt_3b067_6 0 rfl rfl (n := 7) rfl ?_
    refine g_iload_n X dJ1_charAt_3b067_7 1 rfl rfl (n := 8) rfl ?_
    refine g_sbld X XS dJ1_charAt_3b067_8 hi (n := 9) rfl ?_
    refine g_sipush X dJ1_charAt_3b067_9 (v := 255) (by decide) (n := 12) rfl ?_
    refine g_iand X dJ1_charAt_3b067_12 (n := 13) rfl ?_
    refine g_i2c X dJ1_charAt_3b067_13 (n := 14) rfl ?_
    refine g_eq (st' := [.int (k_fr.getD i.toNatClampNeg 0)]) rfl rfl (by rw [(k_fr_c _ (k_in11 hi).2.2).1]) ?_
    exact hret _ _ dJ1_charAt_3b067_14)
theorem mJ0_charAt {l : Launch} {D : va_G} {q v : Nat} {i : Int32} (hi : k_in i 11) : k_MetC l yJ0_charAt_5068e cJ0_charAt_5068e 2 (some .char) 3 64 0 0 D [.ref q, .int i] q v [] (some (.int (k_fr.getD i.toNatClampNeg 0))) (fun _ => []) :=
  k_ofS (by decide) (Nat.le_of_ble_eq_true rfl) (k_fr_c _ (k_in11 hi).2.2).2 (fun E X XS hret => by
    refine g_aload_n X dJ0_charAt_5068e_0 0 rfl rfl (n := 1) rfl ?_
    refine g_callVS X XS mJ0_isLatin1 rfl lk_J0_isLatin1_aae02 mlJ0_492 dJ0_charAt_5068e_1 (n := 4) rfl (st := []) rfl (st2 := [.int 1]) rfl rfl ⟨Nat.le_of_ble_eq_true rfl, Nat.le_of_ble_eq_true rfl⟩ (Nat.le_of_ble_eq_true rfl) ?_
    refine g_if_eq X dJ0_charAt_5068e_4 (t := 16) (by decide) (n := 7) rfl (fun c => absurd c (by decide)) (fun _ => ?_)
    refine g_aload_n X dJ0_charAt_5068e_7 0 rfl rfl (n := 8) rfl ?_
    refine g_sval X XS fs9 dJ0_charAt_5068e_8 (n := 11) rfl ?_
    refine g_iload_n X dJ0_charAt_5068e_11 1 rfl rfl (n := 12) rfl ?_
    refine g_callSS X XS (mJ1_charAt hi) lk_J1_charAt_3b067 mlJ0_495 dJ0_charAt_5068e_12 (n := 15) rfl (st := []) rfl (st2 := [.int (k_fr.getD i.toNatClampNeg 0)]) rfl rfl ⟨Nat.le_of_ble_eq_true rfl, Nat.le_of_ble_eq_true rfl⟩ (Nat.le_of_ble_eq_true rfl) ?_
    exact hret _ _ dJ0_charAt_5068e_15)
/-! the constructors -/
theorem k_mx {r : Nat} (hr : r < 1000) : (if (0 : Int32) < nI r then nI r else 0) = nI r := by
  rcases Nat.eq_zero_or_pos r with h | h
  · subst h; rfl
  · rw [if_pos (show (0 : Int32) < nI r from nI_0 ▸ nI_lt h (by omega))]
theorem mX5_init {l : Launch} {D : va_G} {q v a0 r : Nat} (hr : r < 1000) : k_MetC l yX5_init cX5_init 2 none 1 21 1 r D [.ref a0, .int (nI r)] q v [(a0, .inr (5, [.null, .int 0]))] none (fun a => pic_X5 D a0 (a 1) r ((fun _ => 0), 0)) :=
  k_ofC (by decide) rfl (Nat.le_of_ble_eq_true rfl) (fun E hX XS hnm hret => by
    have X0 := hX 0 0 (Nat.zero_le _) (Nat.zero_le _)
    have X1 := hX 1 r (Nat.le_refl _) (Nat.le_refl _)
    refine g_aload_n X0 dX5_init_0 0 rfl rfl (n := 1) rfl ?_
    refine g_objInit X0 mlX5_3 lkO1 lkO2 dX5_init_1 (n := 4) rfl ⟨Nat.le_of_ble_eq_true rfl, Nat.le_of_ble_eq_true rfl⟩ (Nat.le_of_ble_eq_true rfl) ?_
    refine g_aload_n X0 dX5_init_4 0 rfl rfl (n := 5) rfl ?_
    refine g_iconst X0 dX5_init_5 (v := 0) (by decide) (n := 6) rfl ?_
    refine g_iload_n X0 dX5_init_6 1 rfl rfl (n := 7) rfl ?_
    refine g_max X0 lkM_max mlX5_9 dX5_init_7 (n := 10) rfl ⟨Nat.le_of_ble_eq_true rfl, Nat.le_of_ble_eq_true rfl⟩ (Nat.le_of_ble_eq_true rfl) ?_
    rw [k_mx hr]
    refine g_newa (atype := .int) (ty := .int) (t0 := 0) (c2 := 1) (n2 := r) (a0 := (r, .inl (fun _ => 0))) X0 X1 ac_int rfl (fun _ h => by cases h) rfl dX5_init_10 (fun _ => rfl) (nI_pos (by omega)) (nI_clamp (by omega)) (by show r * 4 ≤ _; omega) (n := 12) rfl ⟨rfl, (Nat.zero_add r).symm⟩ (fun q1 => ?_)
    refine g_putF X1 hnm.cs dX5_init_12 flX5_15 rfl 0 rfl rfl rfl (Nat.le_of_ble_eq_true rfl) (ws2 := pic_X5 D a0 q1 r ((fun _ => 0), 0)) rfl (n := 15) rfl ?_
    exact hret (fun _ => q1) _ _ dX5_init_15)

set_option maxRecDepth 100000 in
set_option maxHeartbeats 4000000 in
theorem wX1_init_b89 {D : va_G} {l : Launch} {E : k_E} {N : Nat} {a0 a1 a2 : Nat} {k24 : Int32 → VX1 → Option (VX1)} {k32 : Int32 → Int32 → VX1 → Option (VX1)} {v1 : Int32} {v2 : Int32} {z : VX1} {res : VX1} (X : k_X D E cX1_init RX1 4 1 23) (hk24 : ∀ (v1 : Int32) (z : VX1), k24 v1 z = some res → k_G D l E (pic_X1 D a0 a1 a2 z) [(0, .ref a0), (1, .int v1)] 24 []) (hk32 : ∀ (v1 : Int32) (v2 : Int32) (z : VX1), k32 v1 v2 z = some res → k_G D l E (pic_X1 D a0 a1 a2 z) [(0, .ref a0), (1, .int v1), (2, .int v2)] 32 []) (hret : ∀ (pc : Nat) (lv : List (Nat × Value)), decode cX1_init pc = .ok (.return_, 1) → k_G D l E (pic_X1 D a0 a1 a2 res) lv pc []) (hf : fX1_init_b89 N k24 k32 v1 v2 z = some res) : k_G D l E (pic_X1 D a0 a1 a2 z) [(0, .ref a0), (1, .int v1), (2, .int v2)] 89 [] := by
  unfold fX1_init_b89 at hf
  refine g_iinc X dX1_init_89 2 rfl (v := v2 + 1) rfl (by decide) (lv2 := [(2, .int (v2 + 1)), (0, .ref a0), (1, .int v1)]) rfl (n := 92) rfl ?_
  refine g_goto X dX1_init_92 (n := 32) (by decide) ?_
  refine g_sub [1, 2, 0] (lv' := [(0, .ref a0), (1, .int v1), (2, .int (v2 + 1))]) rfl ?_
  exact hk32 _ _ _ hf
set_option maxRecDepth 100000 in
set_option maxHeartbeats 4000000 in
theorem wX1_init_b88 {D : va_G} {l : Launch} {E : k_E} {N : Nat} {a0 a1 a2 : Nat} {k24 : Int32 → VX1 → Option (VX1)} {k32 : Int32 → Int32 → VX1 → Option (VX1)} {v1 : Int32} {v2 : Int32} {s1 : Int32} {s2 : Int64} {z : VX1} {res : VX1} (X : k_X D E cX1_init RX1 4 1 23) (hk24 : ∀ (v1 : Int32) (z : VX1), k24 v1 z = some res → k_G D l E (pic_X1 D a0 a1 a2 z) [(0, .ref a0), (1, .int v1)] 24 []) (hk32 : ∀ (v1 : Int32) (v2 : Int32) (z : VX1), k32 v1 v2 z = some res → k_G D l E (pic_X1 D a0 a1 a2 z) [(0, .ref a0), (1, .int v1), (2, .int v2)] 32 []) (hret : ∀ (pc : Nat) (lv : List (Nat × Value)), decode cX1_init pc = .ok (.return_, 1) → k_G D l E (pic_X1 D a0 a1 a2 res) lv pc []) (hf : fX1_init_b88 N k24 k32 v1 v2 s1 s2 z = some res) : k_G D l E (pic_X1 D a0 a1 a2 z) [(0, .ref a0), (1, .int v1), (2, .int v2)] 88 [.long s2, .int s1, .ref a1] := by
  unfold fX1_init_b88 at hf
  obtain ⟨h_1, hf⟩ := k_guard hf
  refine g_lastore X dX1_init_88 1 (f := z.1) rfl rfl h_1 (ws2 := pic_X1 D a0 a1 a2 (vp_updL z.1 (s1).toNatClampNeg s2, z.2.1, z.2.2.1, z.2.2.2.1, z.2.2.2.2)) rfl (n := 89) rfl ?_
  refine g_sub [0, 1, 2] (lv' := [(0, .ref a0), (1, .int v1), (2, .int v2)]) rfl ?_
  exact wX1_init_b89 X hk24 hk32 hret hf
set_option maxRecDepth 100000 in
set_option maxHeartbeats 4000000 in
theorem wX1_init_b32 {D : va_G} {l : Launch} {E : k_E} {N : Nat} {a0 a1 a2 : Nat} {k24 : Int32 → VX1 → Option (VX1)} {k32 : Int32 → Int32 → VX1 → Option (VX1)} {v1 : Int32} {v2 : Int32} {z : VX1} {res : VX1} (X : k_X D E cX1_init RX1 4 1 23) (hk24 : ∀ (v1 : Int32) (z : VX1), k24 v1 z = some res → k_G D l E (pic_X1 D a0 a1 a2 z) [(0, .ref a0), (1, .int v1)] 24 []) (hk32 : ∀ (v1 : Int32) (v2 : Int32) (z : VX1), k32 v1 v2 z = some res → k_G D l E (pic_X1 D a0 a1 a2 z) [(0, .ref a0), (1, .int v1), (2, .int v2)] 32 []) (hret : ∀ (pc : Nat) (lv : List (Nat × Value)), decode cX1_init pc = .ok (.return_, 1) → k_G D l E (pic_X1 D a0 a1 a2 res) lv pc []) (hf : fX1_init_b32 N k24 k32 v1 v2 z = some res) : k_G D l E (pic_X1 D a0 a1 a2 z) [(0, .ref a0), (1, .int v1), (2, .int v2)] 32 [] := by
  unfold fX1_init_b32 at hf
  refine g_iload_n X dX1_init_32 2 rfl rfl (n := 33) rfl ?_
  refine g_iload_n X dX1_init_33 1 rfl rfl (n := 34) rfl ?_
  refine g_icmp_gt X dX1_init_34 (t := 95) (by decide) (n := 37) rfl (fun c_1 => ?_) (fun c_1 => ?_)
  · replace hf := k_pos c_1 hf
    refine g_iinc X dX1_init_95 1 rfl (v := v1 + 1) rfl (by decide) (lv2 := [(1, .int (v1 + 1)), (0, .ref a0), (2, .int v2)]) rfl (n := 98) rfl ?_
    refine g_goto X dX1_init_98 (n := 24) (by decide) ?_
    refine g_sub [1, 0] (lv' := [(0, .ref a0), (1, .int (v1 + 1))]) rfl ?_
    exact hk24 _ _ hf
  · replace hf := k_neg c_1 hf
    refine g_iload_n X dX1_init_37 1 rfl rfl (n := 38) rfl ?_
    refine g_iload_n X dX1_init_38 1 rfl rfl (n := 39) rfl ?_
    refine g_iconst X dX1_init_39 (v := 1) (by decide) (n := 40) rfl ?_
    refine g_iadd X dX1_init_40 (n := 41) rfl ?_
    refine g_imul X dX1_init_41 (n := 42) rfl ?_
    refine g_iconst X dX1_init_42 (v := 2) (by decide) (n := 43) rfl ?_
    refine g_idiv X dX1_init_43 (by decide) (n := 44) rfl ?_
    refine g_iload_n X dX1_init_44 2 rfl rfl (n := 45) rfl ?_
    refine g_iadd X dX1_init_45 (n := 46) rfl ?_
    refine g_istore_n X dX1_init_46 rfl (by decide) (lv2 := [(3, .int (((v1 * (v1 + 1)) / 2) + v2)), (0, .ref a0), (1, .int v1), (2, .int v2)]) rfl (n := 47) rfl ?_
    refine g_iload_n X dX1_init_47 0 rfl rfl (n := 48) rfl ?_
    refine g_aload_n X dX1_init_48 1 rfl rfl (n := 49) rfl ?_
    refine g_get X dX1_init_49 flX1_11 0 rfl (v := .ref a1) rfl (n := 52) rfl ?_
    refine g_alen X dX1_init_52 1 1 rfl rfl (v := 1891) rfl (n := 53) rfl ?_
    refine g_icmp_ge X dX1_init_53 (t := 89) (by decide) (n := 56) rfl (fun c_2 => ?_) (fun c_2 => ?_)
    · replace hf := k_pos c_2 hf
      refine g_sub [1, 2, 3] (lv' := [(0, .ref a0), (1, .int v1), (2, .int v2)]) rfl ?_
      exact wX1_init_b89 X hk24 hk32 hret hf
    · replace hf := k_neg c_2 hf
      refine g_aload_n X dX1_init_56 1 rfl rfl (n := 57) rfl ?_
      refine g_get X dX1_init_57 flX1_11 0 rfl (v := .ref a1) rfl (n := 60) rfl ?_
      refine g_iload_n X dX1_init_60 0 rfl rfl (n := 61) rfl ?_
      refine g_iload_n X dX1_init_61 3 rfl rfl (n := 62) rfl ?_
      refine g_if_ne X dX1_init_62 (t := 69) (by decide) (n := 65) rfl (fun c_3 => ?_) (fun c_3 => ?_)
      · replace hf := k_neg c_3 hf
        refine g_aload_n X dX1_init_69 1 rfl rfl (n := 70) rfl ?_
        refine g_iload_n X dX1_init_70 2 rfl rfl (n := 71) rfl ?_
        refine g_iconst X dX1_init_71 (v := 1) (by decide) (n := 72) rfl ?_
        refine g_isub X dX1_init_72 (n := 73) rfl ?_
        refine g_iload_n X dX1_init_73 3 rfl rfl (n := 74) rfl ?_
        refine g_iconst X dX1_init_74 (v := 1) (by decide) (n := 75) rfl ?_
        refine g_isub X dX1_init_75 (n := 76) rfl ?_
        obtain ⟨x_4, g_5, hf⟩ := k_b1s hf
        refine g_callV X (mX1_choose (D := D) (l := l) (a0 := a0) (a1 := a1) (a2 := a2) g_5) lk_X1_choose mlX1_18 dX1_init_76 (n := 79) rfl (st := [.int (((v1 * (v1 + 1)) / 2) + v2), .ref a1]) rfl (st2 := [.long x_4, .int (((v1 * (v1 + 1)) / 2) + v2), .ref a1]) rfl [0, 1, 2] rfl rfl rfl rfl rfl rfl (ws2 := pic_X1 D a0 a1 a2 z) rfl rfl rfl ⟨Nat.le_of_ble_eq_true rfl, Nat.le_of_ble_eq_true rfl⟩ (Nat.le_of_ble_eq_true rfl) ?_
        refine g_aload_n X dX1_init_79 1 rfl rfl (n := 80) rfl ?_
        refine g_iload_n X dX1_init_80 2 rfl rfl (n := 81) rfl ?_
        refine g_iconst X dX1_init_81 (v := 1) (by decide) (n := 82) rfl ?_
        refine g_isub X dX1_init_82 (n := 83) rfl ?_
        refine g_iload_n X dX1_init_83 3 rfl rfl (n := 84) rfl ?_
        obtain ⟨x_6, g_7, hf⟩ := k_b1s hf
        refine g_callV X (mX1_choose (D := D) (l := l) (a0 := a0) (a1 := a1) (a2 := a2) g_7) lk_X1_choose mlX1_18 dX1_init_84 (n := 87) rfl (st := [.long x_4, .int (((v1 * (v1 + 1)) / 2) + v2), .ref a1]) rfl (st2 := [.long x_6, .long x_4, .int (((v1 * (v1 + 1)) / 2) + v2), .ref a1]) rfl [0, 1, 2] rfl rfl rfl rfl rfl rfl (ws2 := pic_X1 D a0 a1 a2 z) rfl rfl rfl ⟨Nat.le_of_ble_eq_true rfl, Nat.le_of_ble_eq_true rfl⟩ (Nat.le_of_ble_eq_true rfl) ?_
        refine g_ladd X dX1_init_87 (n := 88) rfl ?_
        refine g_sub [1, 2, 3] (lv' := [(0, .ref a0), (1, .int v1), (2, .int v2)]) rfl ?_
        exact wX1_init_b88 X hk24 hk32 hret hf
      · replace hf := k_pos c_3 hf
        refine g_lconst X dX1_init_65 (v := 1) rfl (n := 66) rfl ?_
        refine g_goto X dX1_init_66 (n := 88) (by decide) ?_
        refine g_sub [1, 2, 3] (lv' := [(0, .ref a0), (1, .int v1), (2, .int v2)]) rfl ?_
        exact wX1_init_b88 X hk24 hk32 hret hf
set_option maxRecDepth 100000 in
set_option maxHeartbeats 4000000 in
theorem wX1_init_l32 {D : va_G} {l : Launch} {E : k_E} {N : Nat} {a0 a1 a2 : Nat} {k24 : Int32 → VX1 → Option (VX1)} {res : VX1} (X : k_X D E cX1_init RX1 4 1 23) (hk24 : ∀ (v1 : Int32) (z : VX1), k24 v1 z = some res → k_G D l E (pic_X1 D a0 a1 a2 z) [(0, .ref a0), (1, .int v1)] 24 []) (hret : ∀ (pc : Nat) (lv : List (Nat × Value)), decode cX1_init pc = .ok (.return_, 1) → k_G D l E (pic_X1 D a0 a1 a2 res) lv pc []) : ∀ (n0 : Nat) (v1 : Int32) (v2 : Int32) (z : VX1), fX1_init_l32 N k24 n0 v1 v2 z = some res → k_G D l E (pic_X1 D a0 a1 a2 z) [(0, .ref a0), (1, .int v1), (2, .int v2)] 32 [] := by
  intro n0
  induction n0 with
  | zero => intro v1 v2 z hf; cases hf
  | succ n0 ih => intro v1 v2 z hf; exact wX1_init_b32 (N := N) (k32 := fX1_init_l32 N k24 n0) X hk24 ih hret hf
set_option maxRecDepth 100000 in
set_option maxHeartbeats 4000000 in
theorem wX1_init_b24 {D : va_G} {l : Launch} {E : k_E} {N : Nat} {a0 a1 a2 : Nat} {k24 : Int32 → VX1 → Option (VX1)} {v1 : Int32} {z : VX1} {res : VX1} (X : k_X D E cX1_init RX1 4 1 23) (hk24 : ∀ (v1 : Int32) (z : VX1), k24 v1 z = some res → k_G D l E (pic_X1 D a0 a1 a2 z) [(0, .ref a0), (1, .int v1)] 24 []) (hret : ∀ (pc : Nat) (lv : List (Nat × Value)), decode cX1_init pc = .ok (.return_, 1) → k_G D l E (pic_X1 D a0 a1 a2 res) lv pc []) (hf : fX1_init_b24 N k24 v1 z = some res) : k_G D l E (pic_X1 D a0 a1 a2 z) [(0, .ref a0), (1, .int v1)] 24 [] := by
  unfold fX1_init_b24 at hf
  refine g_iload_n X dX1_init_24 1 rfl rfl (n := 25) rfl ?_
  refine g_bipush X dX1_init_25 (v := 61) (by decide) (n := 27) rfl ?_
  refine g_icmp_ge X dX1_init_27 (t := 101) (by decide) (n := 30) rfl (fun c_1 => ?_) (fun c_1 => ?_)
  · replace hf := k_pos c_1 hf
    obtain rfl := Option.some.inj hf
    exact hret _ _ dX1_init_101
  · replace hf := k_neg c_1 hf
    refine g_iconst X dX1_init_30 (v := 0) (by decide) (n := 31) rfl ?_
    refine g_istore_n X dX1_init_31 rfl (by decide) (lv2 := [(2, .int 0), (0, .ref a0), (1, .int v1)]) rfl (n := 32) rfl ?_
    refine g_sub [1, 2, 0] (lv' := [(0, .ref a0), (1, .int v1), (2, .int 0)]) rfl ?_
    exact wX1_init_l32 X hk24 hret _ _ _ _ hf
set_option maxRecDepth 100000 in
set_option maxHeartbeats 4000000 in
theorem wX1_init_l24 {D : va_G} {l : Launch} {E : k_E} {N : Nat} {a0 a1 a2 : Nat} {res : VX1} (X : k_X D E cX1_init RX1 4 1 23) (hret : ∀ (pc : Nat) (lv : List (Nat × Value)), decode cX1_init pc = .ok (.return_, 1) → k_G D l E (pic_X1 D a0 a1 a2 res) lv pc []) : ∀ (n0 : Nat) (v1 : Int32) (z : VX1), fX1_init_l24 N n0 v1 z = some res → k_G D l E (pic_X1 D a0 a1 a2 z) [(0, .ref a0), (1, .int v1)] 24 [] := by
  intro n0
  induction n0 with
  | zero => intro v1 z hf; cases hf
  | succ n0 ih => intro v1 z hf; exact wX1_init_b24 (N := N) (k24 := fX1_init_l24 N n0) X  ih hret hf
set_option maxRecDepth 100000 in
set_option maxHeartbeats 4000000 in
theorem wX1_init {D : va_G} {l : Launch} {E : k_E} {N : Nat} {a0 a1 a2 : Nat} {z : VX1} {res : VX1} (X : k_X D E cX1_init RX1 4 1 23) (hret : ∀ (pc : Nat) (lv : List (Nat × Value)), decode cX1_init pc = .ok (.return_, 1) → k_G D l E (pic_X1 D a0 a1 a2 res) lv pc []) (hf : fX1_init N z = some res) : k_G D l E (pic_X1 D a0 a1 a2 z) [(0, .ref a0)] 22 [] := by
  unfold fX1_init at hf
  refine g_iconst X dX1_init_22 (v := 0) (by decide) (n := 23) rfl ?_
  refine g_istore_n X dX1_init_23 rfl (by decide) (lv2 := [(1, .int 0), (0, .ref a0)]) rfl (n := 24) rfl ?_
  refine g_sub [1, 0] (lv' := [(0, .ref a0), (1, .int 0)]) rfl ?_
  exact wX1_init_l24 X  hret _ _ _ hf
set_option maxRecDepth 100000 in
set_option maxHeartbeats 4000000 in
theorem wX3_init_b49 {D : va_G} {l : Launch} {E : k_E} {N : Nat} {qs vs : Nat} {a0 a1 a2 a3 a4 a5 : Nat} {k49 : Int32 → VX3 → Option (VX3)} {v1 : Int32} {r : VX3} {res : VX3} (X : k_X D E cX3_init RX3 2 4 85) (XS : k_XS E qs vs) (hk49 : ∀ (v1 : Int32) (r : VX3), k49 v1 r = some res → k_G D l E (pic_X3 D a0 a1 a2 a3 a4 a5 r) [(0, .ref a0), (1, .int v1)] 49 []) (hret : ∀ (pc : Nat) (lv : List (Nat × Value)), decode cX3_init pc = .ok (.return_, 1) → k_G D l E (pic_X3 D a0 a1 a2 a3 a4 a5 res) lv pc []) (hf : fX3_init_b49 N k49 v1 r = some res) : k_G D l E (pic_X3 D a0 a1 a2 a3 a4 a5 r) [(0, .ref a0), (1, .int v1)] 49 [] := by
  unfold fX3_init_b49 at hf
  refine g_iload_n X dX3_init_49 1 rfl rfl (n := 50) rfl ?_
  refine g_ldcS X XS dX3_init_50 (n := 52) rfl ?_
  refine g_callVS X XS (mJ0_length (q := qs) (v := vs)) rfl lk_J0_length_8abf5 mlX3_36 dX3_init_52 (n := 55) rfl (st := [.int v1]) rfl (st2 := [.int 11, .int v1]) rfl rfl ⟨Nat.le_of_ble_eq_true rfl, Nat.le_of_ble_eq_true rfl⟩ (Nat.le_of_ble_eq_true rfl) ?_
  refine g_icmp_ge X dX3_init_55 (t := 78) (by decide) (n := 58) rfl (fun c_1 => ?_) (fun c_1 => ?_)
  · replace hf := k_pos c_1 hf
    obtain rfl := Option.some.inj hf
    exact hret _ _ dX3_init_78
  · replace hf := k_neg c_1 hf
    refine g_aload_n X dX3_init_58 0 rfl rfl (n := 59) rfl ?_
    refine g_get X dX3_init_59 flX3_26 0 rfl (v := .ref a4) rfl (n := 62) rfl ?_
    refine g_ldcS X XS dX3_init_62 (n := 64) rfl ?_
    refine g_iload_n X dX3_init_64 1 rfl rfl (n := 65) rfl ?_
    obtain ⟨h_2, hf⟩ := k_guard hf
    refine g_callVS X XS (mJ0_charAt (q := qs) (v := vs) h_2) rfl lk_J0_charAt_5068e mlX3_42 dX3_init_65 (n := 68) rfl (st := [.ref a4]) rfl (st2 := [.int (k_fr.getD v1.toNatClampNeg 0), .ref a4]) rfl rfl ⟨Nat.le_of_ble_eq_true rfl, Nat.le_of_ble_eq_true rfl⟩ (Nat.le_of_ble_eq_true rfl) ?_
    obtain ⟨x_3, r_4, g_5, hf⟩ := k_b2s hf
    refine g_callV X (mX5_append (D := D) (l := l) (a0 := a4) (a1 := a5) (n := 11) g_5) lk_X5_append mlX3_46 dX3_init_68 (n := 71) rfl (st := []) rfl (st2 := [.int (bI x_3)]) rfl [4, 5] rfl rfl rfl rfl rfl rfl (ws2 := pic_X3 D a0 a1 a2 a3 a4 a5 (r.1, r.2.1, r.2.2.1, r_4, r.2.2.2.2.1, r.2.2.2.2.2.1, r.2.2.2.2.2.2)) rfl rfl rfl ⟨Nat.le_of_ble_eq_true rfl, Nat.le_of_ble_eq_true rfl⟩ (Nat.le_of_ble_eq_true rfl) ?_
    refine g_pop X dX3_init_71 rfl (n := 72) rfl ?_
    refine g_iinc X dX3_init_72 1 rfl (v := v1 + 1) rfl (by decide) (lv2 := [(1, .int (v1 + 1)), (0, .ref a0)]) rfl (n := 75) rfl ?_
    refine g_goto X dX3_init_75 (n := 49) (by decide) ?_
    refine g_sub [1, 0] (lv' := [(0, .ref a0), (1, .int (v1 + 1))]) rfl ?_
    exact hk49 _ _ hf
set_option maxRecDepth 100000 in
set_option maxHeartbeats 4000000 in
theorem wX3_init_l49 {D : va_G} {l : Launch} {E : k_E} {N : Nat} {qs vs : Nat} {a0 a1 a2 a3 a4 a5 : Nat} {res : VX3} (X : k_X D E cX3_init RX3 2 4 85) (XS : k_XS E qs vs) (hret : ∀ (pc : Nat) (lv : List (Nat × Value)), decode cX3_init pc = .ok (.return_, 1) → k_G D l E (pic_X3 D a0 a1 a2 a3 a4 a5 res) lv pc []) : ∀ (n0 : Nat) (v1 : Int32) (r : VX3), fX3_init_l49 N n0 v1 r = some res → k_G D l E (pic_X3 D a0 a1 a2 a3 a4 a5 r) [(0, .ref a0), (1, .int v1)] 49 [] := by
  intro n0
  induction n0 with
  | zero => intro v1 r hf; cases hf
  | succ n0 ih => intro v1 r hf; exact wX3_init_b49 (N := N) (k49 := fX3_init_l49 N n0) X XS  ih hret hf
set_option maxRecDepth 100000 in
set_option maxHeartbeats 4000000 in
theorem wX3_init {D : va_G} {l : Launch} {E : k_E} {N : Nat} {qs vs : Nat} {a0 a1 a2 a3 a4 a5 : Nat} {r : VX3} {res : VX3} (X : k_X D E cX3_init RX3 2 4 85) (XS : k_XS E qs vs) (hret : ∀ (pc : Nat) (lv : List (Nat × Value)), decode cX3_init pc = .ok (.return_, 1) → k_G D l E (pic_X3 D a0 a1 a2 a3 a4 a5 res) lv pc []) (hf : fX3_init N r = some res) : k_G D l E (pic_X3 D a0 a1 a2 a3 a4 a5 r) [(0, .ref a0)] 41 [] := by
  unfold fX3_init at hf
  refine g_aload_n X dX3_init_41 0 rfl rfl (n := 42) rfl ?_
  refine g_bipush X dX3_init_42 (v := 30) (by decide) (n := 44) rfl ?_
  refine g_put X dX3_init_44 flX3_30 0 rfl rfl rfl (Nat.le_of_ble_eq_true rfl) (ws2 := pic_X3 D a0 a1 a2 a3 a4 a5 (r.1, r.2.1, r.2.2.1, r.2.2.2.1, r.2.2.2.2.1, (30 : Int32), r.2.2.2.2.2.2)) rfl (n := 47) rfl ?_
  refine g_iconst X dX3_init_47 (v := 0) (by decide) (n := 48) rfl ?_
  refine g_istore_n X dX3_init_48 rfl (by decide) (lv2 := [(1, .int 0), (0, .ref a0)]) rfl (n := 49) rfl ?_
  refine g_sub [1, 0] (lv' := [(0, .ref a0), (1, .int 0)]) rfl ?_
  exact wX3_init_l49 X XS  hret _ _ _ hf
set_option maxRecDepth 100000 in
set_option maxHeartbeats 4000000 in
theorem wX7_init_b234 {D : va_G} {l : Launch} {E : k_E} {N : Nat} {a : Nat → Nat} {k216 : Int32 → VMg → (Nat → Int64) → Option (VMg × (Nat → Int64))} {k234 : Int32 → Int32 → VMg → (Nat → Int64) → Option (VMg × (Nat → Int64))} {v1 : Int32} {v2 : Int32} {mp : VMp} {mg : VMg} {mc : Nat → Int64} {ml : VMl} {mq : VMq} {mh : VMh} {ms : VMs} {mr : Nat → Int32} {mi : VMi} {res : VMg × (Nat → Int64)} (X : k_X D E cX7_init RX7 3 1 20) (hk216 : ∀ (v1 : Int32) (mg : VMg) (mc : Nat → Int64), k216 v1 mg mc = some res → k_G D l E (pic_X7 D a mp mg mc ml mq mh ms mr mi) [(0, .ref (a 0)), (1, .int v1)] 216 []) (hk234 : ∀ (v1 : Int32) (v2 : Int32) (mg : VMg) (mc : Nat → Int64), k234 v1 v2 mg mc = some res → k_G D l E (pic_X7 D a mp mg mc ml mq mh ms mr mi) [(0, .ref (a 0)), (1, .int v1), (2, .int v2)] 234 []) (hret : ∀ (pc : Nat) (lv : List (Nat × Value)), decode cX7_init pc = .ok (.return_, 1) → k_G D l E (pic_X7 D a mp res.1 res.2 ml mq mh ms mr mi) lv pc []) (hf : fX7_init_b234 N k216 k234 v1 v2 mg mc = some res) : k_G D l E (pic_X7 D a mp mg mc ml mq mh ms mr mi) [(0, .ref (a 0)), (1, .int v1), (2, .int v2)] 234 [] := by
  unfold fX7_init_b234 at hf
  refine g_iload_n X dX7_init_234 2 rfl rfl (n := 235) rfl ?_
  refine g_iload_n X dX7_init_235 1 rfl rfl (n := 236) rfl ?_
  refine g_icmp_gt X dX7_init_236 (t := 287) (by decide) (n := 239) rfl (fun c_1 => ?_) (fun c_1 => ?_)
  · replace hf := k_pos c_1 hf
    refine g_iinc X dX7_init_287 1 rfl (v := v1 + 1) rfl (by decide) (lv2 := [(1, .int (v1 + 1)), (0, .ref (a 0)), (2, .int v2)]) rfl (n := 290) rfl ?_
    refine g_goto X dX7_init_290 (n := 216) (by decide) ?_
    refine g_sub [1, 0] (lv' := [(0, .ref (a 0)), (1, .int (v1 + 1))]) rfl ?_
    exact hk216 _ _ _ hf
  · replace hf := k_neg c_1 hf
    refine g_aload_n X dX7_init_239 0 rfl rfl (n := 240) rfl ?_
    refine g_get X dX7_init_240 flX7_35 0 rfl (v := .ref (a 7)) rfl (n := 243) rfl ?_
    refine g_bipush X dX7_init_243 (v := 61) (by decide) (n := 245) rfl ?_
    refine g_iload_n X dX7_init_245 1 rfl rfl (n := 246) rfl ?_
    refine g_imul X dX7_init_246 (n := 247) rfl ?_
    refine g_iload_n X dX7_init_247 2 rfl rfl (n := 248) rfl ?_
    refine g_iadd X dX7_init_248 (n := 249) rfl ?_
    refine g_aload_n X dX7_init_249 0 rfl rfl (n := 250) rfl ?_
    refine g_get X dX7_init_250 flX7_35 0 rfl (v := .ref (a 7)) rfl (n := 253) rfl ?_
    refine g_bipush X dX7_init_253 (v := 61) (by decide) (n := 255) rfl ?_
    refine g_iload_n X dX7_init_255 1 rfl rfl (n := 256) rfl ?_
    refine g_imul X dX7_init_256 (n := 257) rfl ?_
    refine g_bipush X dX7_init_257 (v := 61) (by decide) (n := 259) rfl ?_
    refine g_isub X dX7_init_259 (n := 260) rfl ?_
    refine g_iload_n X dX7_init_260 2 rfl rfl (n := 261) rfl ?_
    refine g_iadd X dX7_init_261 (n := 262) rfl ?_
    refine g_iconst X dX7_init_262 (v := 1) (by decide) (n := 263) rfl ?_
    refine g_isub X dX7_init_263 (n := 264) rfl ?_
    obtain ⟨h_2, hf⟩ := k_guard hf
    refine g_laload X dX7_init_264 7 (f := mc) rfl rfl h_2 (n := 265) rfl ?_
    refine g_aload_n X dX7_init_265 0 rfl rfl (n := 266) rfl ?_
    refine g_get X dX7_init_266 flX7_35 0 rfl (v := .ref (a 7)) rfl (n := 269) rfl ?_
    refine g_bipush X dX7_init_269 (v := 61) (by decide) (n := 271) rfl ?_
    refine g_iload_n X dX7_init_271 1 rfl rfl (n := 272) rfl ?_
    refine g_imul X dX7_init_272 (n := 273) rfl ?_
    refine g_bipush X dX7_init_273 (v := 61) (by decide) (n := 275) rfl ?_
    refine g_isub X dX7_init_275 (n := 276) rfl ?_
    refine g_iload_n X dX7_init_276 2 rfl rfl (n := 277) rfl ?_
    refine g_iadd X dX7_init_277 (n := 278) rfl ?_
    obtain ⟨h_3, hf⟩ := k_guard hf
    refine g_laload X dX7_init_278 7 (f := mc) rfl rfl h_3 (n := 279) rfl ?_
    refine g_ladd X dX7_init_279 (n := 280) rfl ?_
    obtain ⟨h_4, hf⟩ := k_guard hf
    refine g_lastore X dX7_init_280 7 (f := mc) rfl rfl h_4 (ws2 := pic_X7 D a mp mg (vp_updL mc ((((61 : Int32) * v1) + v2)).toNatClampNeg ((mc (((((61 : Int32) * v1) - 61) + v2) - 1).toNatClampNeg) + (mc ((((61 : Int32) * v1) - 61) + v2).toNatClampNeg))) ml mq mh ms mr mi) rfl (n := 281) rfl ?_
    refine g_iinc X dX7_init_281 2 rfl (v := v2 + 1) rfl (by decide) (lv2 := [(2, .int (v2 + 1)), (0, .ref (a 0)), (1, .int v1)]) rfl (n := 284) rfl ?_
    refine g_goto X dX7_init_284 (n := 234) (by decide) ?_
    refine g_sub [1, 2, 0] (lv' := [(0, .ref (a 0)), (1, .int v1), (2, .int (v2 + 1))]) rfl ?_
    exact hk234 _ _ _ _ hf
set_option maxRecDepth 100000 in
set_option maxHeartbeats 4000000 in
theorem wX7_init_l234 {D : va_G} {l : Launch} {E : k_E} {N : Nat} {a : Nat → Nat} {k216 : Int32 → VMg → (Nat → Int64) → Option (VMg × (Nat → Int64))} {mp : VMp} {ml : VMl} {mq : VMq} {mh : VMh} {ms : VMs} {mr : Nat → Int32} {mi : VMi} {res : VMg × (Nat → Int64)} (X : k_X D E cX7_init RX7 3 1 20) (hk216 : ∀ (v1 : Int32) (mg : VMg) (mc : Nat → Int64), k216 v1 mg mc = some res → k_G D l E (pic_X7 D a mp mg mc ml mq mh ms mr mi) [(0, .ref (a 0)), (1, .int v1)] 216 []) (hret : ∀ (pc : Nat) (lv : List (Nat × Value)), decode cX7_init pc = .ok (.return_, 1) → k_G D l E (pic_X7 D a mp res.1 res.2 ml mq mh ms mr mi) lv pc []) : ∀ (n0 : Nat) (v1 : Int32) (v2 : Int32) (mg : VMg) (mc : Nat → Int64), fX7_init_l234 N k216 n0 v1 v2 mg mc = some res → k_G D l E (pic_X7 D a mp mg mc ml mq mh ms mr mi) [(0, .ref (a 0)), (1, .int v1), (2, .int v2)] 234 [] := by
  intro n0
  induction n0 with
  | zero => intro v1 v2 mg mc hf; cases hf
  | succ n0 ih => intro v1 v2 mg mc hf; exact wX7_init_b234 (N := N) (k234 := fX7_init_l234 N k216 n0) X hk216 ih hret hf
set_option maxRecDepth 100000 in
set_option maxHeartbeats 4000000 in
theorem wX7_init_b216 {D : va_G} {l : Launch} {E : k_E} {N : Nat} {a : Nat → Nat} {k216 : Int32 → VMg → (Nat → Int64) → Option (VMg × (Nat → Int64))} {v1 : Int32} {mp : VMp} {mg : VMg} {mc : Nat → Int64} {ml : VMl} {mq : VMq} {mh : VMh} {ms : VMs} {mr : Nat → Int32} {mi : VMi} {res : VMg × (Nat → Int64)} (X : k_X D E cX7_init RX7 3 1 20) (hk216 : ∀ (v1 : Int32) (mg : VMg) (mc : Nat → Int64), k216 v1 mg mc = some res → k_G D l E (pic_X7 D a mp mg mc ml mq mh ms mr mi) [(0, .ref (a 0)), (1, .int v1)] 216 []) (hret : ∀ (pc : Nat) (lv : List (Nat × Value)), decode cX7_init pc = .ok (.return_, 1) → k_G D l E (pic_X7 D a mp res.1 res.2 ml mq mh ms mr mi) lv pc []) (hf : fX7_init_b216 N k216 v1 mg mc = some res) : k_G D l E (pic_X7 D a mp mg mc ml mq mh ms mr mi) [(0, .ref (a 0)), (1, .int v1)] 216 [] := by
  unfold fX7_init_b216 at hf
  refine g_iload_n X dX7_init_216 1 rfl rfl (n := 217) rfl ?_
  refine g_bipush X dX7_init_217 (v := 60) (by decide) (n := 219) rfl ?_
  refine g_icmp_gt X dX7_init_219 (t := 293) (by decide) (n := 222) rfl (fun c_1 => ?_) (fun c_1 => ?_)
  · replace hf := k_pos c_1 hf
    obtain rfl := Option.some.inj hf
    exact hret _ _ dX7_init_293
  · replace hf := k_neg c_1 hf
    refine g_aload_n X dX7_init_222 0 rfl rfl (n := 223) rfl ?_
    refine g_get X dX7_init_223 flX7_35 0 rfl (v := .ref (a 7)) rfl (n := 226) rfl ?_
    refine g_bipush X dX7_init_226 (v := 61) (by decide) (n := 228) rfl ?_
    refine g_iload_n X dX7_init_228 1 rfl rfl (n := 229) rfl ?_
    refine g_imul X dX7_init_229 (n := 230) rfl ?_
    refine g_lconst X dX7_init_230 (v := 1) rfl (n := 231) rfl ?_
    obtain ⟨h_2, hf⟩ := k_guard hf
    refine g_lastore X dX7_init_231 7 (f := mc) rfl rfl h_2 (ws2 := pic_X7 D a mp mg (vp_updL mc (((61 : Int32) * v1)).toNatClampNeg (1 : Int64)) ml mq mh ms mr mi) rfl (n := 232) rfl ?_
    refine g_iconst X dX7_init_232 (v := 1) (by decide) (n := 233) rfl ?_
    refine g_istore_n X dX7_init_233 rfl (by decide) (lv2 := [(2, .int 1), (0, .ref (a 0)), (1, .int v1)]) rfl (n := 234) rfl ?_
    refine g_sub [1, 2, 0] (lv' := [(0, .ref (a 0)), (1, .int v1), (2, .int 1)]) rfl ?_
    exact wX7_init_l234 X hk216 hret _ _ _ _ _ hf
set_option maxRecDepth 100000 in
set_option maxHeartbeats 4000000 in
theorem wX7_init_l216 {D : va_G} {l : Launch} {E : k_E} {N : Nat} {a : Nat → Nat} {mp : VMp} {ml : VMl} {mq : VMq} {mh : VMh} {ms : VMs} {mr : Nat → Int32} {mi : VMi} {res : VMg × (Nat → Int64)} (X : k_X D E cX7_init RX7 3 1 20) (hret : ∀ (pc : Nat) (lv : List (Nat × Value)), decode cX7_init pc = .ok (.return_, 1) → k_G D l E (pic_X7 D a mp res.1 res.2 ml mq mh ms mr mi) lv pc []) : ∀ (n0 : Nat) (v1 : Int32) (mg : VMg) (mc : Nat → Int64), fX7_init_l216 N n0 v1 mg mc = some res → k_G D l E (pic_X7 D a mp mg mc ml mq mh ms mr mi) [(0, .ref (a 0)), (1, .int v1)] 216 [] := by
  intro n0
  induction n0 with
  | zero => intro v1 mg mc hf; cases hf
  | succ n0 ih => intro v1 mg mc hf; exact wX7_init_b216 (N := N) (k216 := fX7_init_l216 N n0) X  ih hret hf
set_option maxRecDepth 100000 in
set_option maxHeartbeats 4000000 in
theorem wX7_init {D : va_G} {l : Launch} {E : k_E} {N : Nat} {a : Nat → Nat} {mp : VMp} {mg : VMg} {mc : Nat → Int64} {ml : VMl} {mq : VMq} {mh : VMh} {ms : VMs} {mr : Nat → Int32} {mi : VMi} {res : VMg × (Nat → Int64)} (X : k_X D E cX7_init RX7 3 1 20) (hret : ∀ (pc : Nat) (lv : List (Nat × Value)), decode cX7_init pc = .ok (.return_, 1) → k_G D l E (pic_X7 D a mp res.1 res.2 ml mq mh ms mr mi) lv pc []) (hf : fX7_init N mg mc = some res) : k_G D l E (pic_X7 D a mp mg mc ml mq mh ms mr mi) [(0, .ref (a 0))] 121 [] := by
  unfold fX7_init at hf
  refine g_aload_n X dX7_init_121 0 rfl rfl (n := 122) rfl ?_
  refine g_get X dX7_init_122 flX7_32 0 rfl (v := .ref (a 6)) rfl (n := 125) rfl ?_
  refine g_iconst X dX7_init_125 (v := 0) (by decide) (n := 126) rfl ?_
  refine g_bipush X dX7_init_126 (v := 45) (by decide) (n := 128) rfl ?_
  obtain ⟨h_1, hf⟩ := k_guard hf
  refine g_iastore X dX7_init_128 6 (f := mg.2.2.2.2.2.2) rfl rfl h_1 (ws2 := pic_X7 D a mp (mg.1, mg.2.1, mg.2.2.1, mg.2.2.2.1, mg.2.2.2.2.1, mg.2.2.2.2.2.1, upd mg.2.2.2.2.2.2 ((0 : Int32)).toNatClampNeg 45) mc ml mq mh ms mr mi) rfl (n := 129) rfl ?_
  refine g_aload_n X dX7_init_129 0 rfl rfl (n := 130) rfl ?_
  refine g_get X dX7_init_130 flX7_32 0 rfl (v := .ref (a 6)) rfl (n := 133) rfl ?_
  refine g_iconst X dX7_init_133 (v := 1) (by decide) (n := 134) rfl ?_
  refine g_bipush X dX7_init_134 (v := 47) (by decide) (n := 136) rfl ?_
  obtain ⟨h_2, hf⟩ := k_guard hf
  refine g_iastore X dX7_init_136 6 (f := upd mg.2.2.2.2.2.2 ((0 : Int32)).toNatClampNeg 45) rfl rfl h_2 (ws2 := pic_X7 D a mp (mg.1, mg.2.1, mg.2.2.1, mg.2.2.2.1, mg.2.2.2.2.1, mg.2.2.2.2.2.1, upd (upd mg.2.2.2.2.2.2 ((0 : Int32)).toNatClampNeg 45) ((1 : Int32)).toNatClampNeg 47) mc ml mq mh ms mr mi) rfl (n := 137) rfl ?_
  refine g_aload_n X dX7_init_137 0 rfl rfl (n := 138) rfl ?_
  refine g_get X dX7_init_138 flX7_32 0 rfl (v := .ref (a 6)) rfl (n := 141) rfl ?_
  refine g_iconst X dX7_init_141 (v := 2) (by decide) (n := 142) rfl ?_
  refine g_bipush X dX7_init_142 (v := 42) (by decide) (n := 144) rfl ?_
  obtain ⟨h_3, hf⟩ := k_guard hf
  refine g_iastore X dX7_init_144 6 (f := upd (upd mg.2.2.2.2.2.2 ((0 : Int32)).toNatClampNeg 45) ((1 : Int32)).toNatClampNeg 47) rfl rfl h_3 (ws2 := pic_X7 D a mp (mg.1, mg.2.1, mg.2.2.1, mg.2.2.2.1, mg.2.2.2.2.1, mg.2.2.2.2.2.1, upd (upd (upd mg.2.2.2.2.2.2 ((0 : Int32)).toNatClampNeg 45) ((1 : Int32)).toNatClampNeg 47) ((2 : Int32)).toNatClampNeg 42) mc ml mq mh ms mr mi) rfl (n := 145) rfl ?_
  refine g_aload_n X dX7_init_145 0 rfl rfl (n := 146) rfl ?_
  refine g_get X dX7_init_146 flX7_32 0 rfl (v := .ref (a 6)) rfl (n := 149) rfl ?_
  refine g_iconst X dX7_init_149 (v := 3) (by decide) (n := 150) rfl ?_
  refine g_bipush X dX7_init_150 (v := 78) (by decide) (n := 152) rfl ?_
  obtain ⟨h_4, hf⟩ := k_guard hf
  refine g_iastore X dX7_init_152 6 (f := upd (upd (upd mg.2.2.2.2.2.2 ((0 : Int32)).toNatClampNeg 45) ((1 : Int32)).toNatClampNeg 47) ((2 : Int32)).toNatClampNeg 42) rfl rfl h_4 (ws2 := pic_X7 D a mp (mg.1, mg.2.1, mg.2.2.1, mg.2.2.2.1, mg.2.2.2.2.1, mg.2.2.2.2.2.1, upd (upd (upd (upd mg.2.2.2.2.2.2 ((0 : Int32)).toNatClampNeg 45) ((1 : Int32)).toNatClampNeg 47) ((2 : Int32)).toNatClampNeg 42) ((3 : Int32)).toNatClampNeg 78) mc ml mq mh ms mr mi) rfl (n := 153) rfl ?_
  refine g_aload_n X dX7_init_153 0 rfl rfl (n := 154) rfl ?_
  refine g_get X dX7_init_154 flX7_32 0 rfl (v := .ref (a 6)) rfl (n := 157) rfl ?_
  refine g_iconst X dX7_init_157 (v := 4) (by decide) (n := 158) rfl ?_
  refine g_bipush X dX7_init_158 (v := 118) (by decide) (n := 160) rfl ?_
  obtain ⟨h_5, hf⟩ := k_guard hf
  refine g_iastore X dX7_init_160 6 (f := upd (upd (upd (upd mg.2.2.2.2.2.2 ((0 : Int32)).toNatClampNeg 45) ((1 : Int32)).toNatClampNeg 47) ((2 : Int32)).toNatClampNeg 42) ((3 : Int32)).toNatClampNeg 78) rfl rfl h_5 (ws2 := pic_X7 D a mp (mg.1, mg.2.1, mg.2.2.1, mg.2.2.2.1, mg.2.2.2.2.1, mg.2.2.2.2.2.1, upd (upd (upd (upd (upd mg.2.2.2.2.2.2 ((0 : Int32)).toNatClampNeg 45) ((1 : Int32)).toNatClampNeg 47) ((2 : Int32)).toNatClampNeg 42) ((3 : Int32)).toNatClampNeg 78) ((4 : Int32)).toNatClampNeg 118) mc ml mq mh ms mr mi) rfl (n := 161) rfl ?_
  refine g_aload_n X dX7_init_161 0 rfl rfl (n := 162) rfl ?_
  refine g_get X dX7_init_162 flX7_32 0 rfl (v := .ref (a 6)) rfl (n := 165) rfl ?_
  refine g_iconst X dX7_init_165 (v := 5) (by decide) (n := 166) rfl ?_
  refine g_bipush X dX7_init_166 (v := 107) (by decide) (n := 168) rfl ?_
  obtain ⟨h_6, hf⟩ := k_guard hf
  refine g_iastore X dX7_init_168 6 (f := upd (upd (upd (upd (upd mg.2.2.2.2.2.2 ((0 : Int32)).toNatClampNeg 45) ((1 : Int32)).toNatClampNeg 47) ((2 : Int32)).toNatClampNeg 42) ((3 : Int32)).toNatClampNeg 78) ((4 : Int32)).toNatClampNeg 118) rfl rfl h_6 (ws2 := pic_X7 D a mp (mg.1, mg.2.1, mg.2.2.1, mg.2.2.2.1, mg.2.2.2.2.1, mg.2.2.2.2.2.1, upd (upd (upd (upd (upd (upd mg.2.2.2.2.2.2 ((0 : Int32)).toNatClampNeg 45) ((1 : Int32)).toNatClampNeg 47) ((2 : Int32)).toNatClampNeg 42) ((3 : Int32)).toNatClampNeg 78) ((4 : Int32)).toNatClampNeg 118) ((5 : Int32)).toNatClampNeg 107) mc ml mq mh ms mr mi) rfl (n := 169) rfl ?_
  refine g_aload_n X dX7_init_169 0 rfl rfl (n := 170) rfl ?_
  refine g_get X dX7_init_170 flX7_32 0 rfl (v := .ref (a 6)) rfl (n := 173) rfl ?_
  refine g_bipush X dX7_init_173 (v := 6) (by decide) (n := 175) rfl ?_
  refine g_bipush X dX7_init_175 (v := 47) (by decide) (n := 177) rfl ?_
  obtain ⟨h_7, hf⟩ := k_guard hf
  refine g_iastore X dX7_init_177 6 (f := upd (upd (upd (upd (upd (upd mg.2.2.2.2.2.2 ((0 : Int32)).toNatClampNeg 45) ((1 : Int32)).toNatClampNeg 47) ((2 : Int32)).toNatClampNeg 42) ((3 : Int32)).toNatClampNeg 78) ((4 : Int32)).toNatClampNeg 118) ((5 : Int32)).toNatClampNeg 107) rfl rfl h_7 (ws2 := pic_X7 D a mp (mg.1, mg.2.1, mg.2.2.1, mg.2.2.2.1, mg.2.2.2.2.1, mg.2.2.2.2.2.1, upd (upd (upd (upd (upd (upd (upd mg.2.2.2.2.2.2 ((0 : Int32)).toNatClampNeg 45) ((1 : Int32)).toNatClampNeg 47) ((2 : Int32)).toNatClampNeg 42) ((3 : Int32)).toNatClampNeg 78) ((4 : Int32)).toNatClampNeg 118) ((5 : Int32)).toNatClampNeg 107) ((6 : Int32)).toNatClampNeg 47) mc ml mq mh ms mr mi) rfl (n := 178) rfl ?_
  refine g_aload_n X dX7_init_178 0 rfl rfl (n := 179) rfl ?_
  refine g_get X dX7_init_179 flX7_32 0 rfl (v := .ref (a 6)) rfl (n := 182) rfl ?_
  refine g_bipush X dX7_init_182 (v := 7) (by decide) (n := 184) rfl ?_
  refine g_bipush X dX7_init_184 (v := 42) (by decide) (n := 186) rfl ?_
  obtain ⟨h_8, hf⟩ := k_guard hf
  refine g_iastore X dX7_init_186 6 (f := upd (upd (upd (upd (upd (upd (upd mg.2.2.2.2.2.2 ((0 : Int32)).toNatClampNeg 45) ((1 : Int32)).toNatClampNeg 47) ((2 : Int32)).toNatClampNeg 42) ((3 : Int32)).toNatClampNeg 78) ((4 : Int32)).toNatClampNeg 118) ((5 : Int32)).toNatClampNeg 107) ((6 : Int32)).toNatClampNeg 47) rfl rfl h_8 (ws2 := pic_X7 D a mp (mg.1, mg.2.1, mg.2.2.1, mg.2.2.2.1, mg.2.2.2.2.1, mg.2.2.2.2.2.1, upd (upd (upd (upd (upd (upd (upd (upd mg.2.2.2.2.2.2 ((0 : Int32)).toNatClampNeg 45) ((1 : Int32)).toNatClampNeg 47) ((2 : Int32)).toNatClampNeg 42) ((3 : Int32)).toNatClampNeg 78) ((4 : Int32)).toNatClampNeg 118) ((5 : Int32)).toNatClampNeg 107) ((6 : Int32)).toNatClampNeg 47) ((7 : Int32)).toNatClampNeg 42) mc ml mq mh ms mr mi) rfl (n := 187) rfl ?_
  refine g_aload_n X dX7_init_187 0 rfl rfl (n := 188) rfl ?_
  refine g_get X dX7_init_188 flX7_32 0 rfl (v := .ref (a 6)) rfl (n := 191) rfl ?_
  refine g_bipush X dX7_init_191 (v := 8) (by decide) (n := 193) rfl ?_
  refine g_bipush X dX7_init_193 (v := 100) (by decide) (n := 195) rfl ?_
  obtain ⟨h_9, hf⟩ := k_guard hf
  refine g_iastore X dX7_init_195 6 (f := upd (upd (upd (upd (upd (upd (upd (upd mg.2.2.2.2.2.2 ((0 : Int32)).toNatClampNeg 45) ((1 : Int32)).toNatClampNeg 47) ((2 : Int32)).toNatClampNeg 42) ((3 : Int32)).toNatClampNeg 78) ((4 : Int32)).toNatClampNeg 118) ((5 : Int32)).toNatClampNeg 107) ((6 : Int32)).toNatClampNeg 47) ((7 : Int32)).toNatClampNeg 42) rfl rfl h_9 (ws2 := pic_X7 D a mp (mg.1, mg.2.1, mg.2.2.1, mg.2.2.2.1, mg.2.2.2.2.1, mg.2.2.2.2.2.1, upd (upd (upd (upd (upd (upd (upd (upd (upd mg.2.2.2.2.2.2 ((0 : Int32)).toNatClampNeg 45) ((1 : Int32)).toNatClampNeg 47) ((2 : Int32)).toNatClampNeg 42) ((3 : Int32)).toNatClampNeg 78) ((4 : Int32)).toNatClampNeg 118) ((5 : Int32)).toNatClampNeg 107) ((6 : Int32)).toNatClampNeg 47) ((7 : Int32)).toNatClampNeg 42) ((8 : Int32)).toNatClampNeg 100) mc ml mq mh ms mr mi) rfl (n := 196) rfl ?_
  refine g_aload_n X dX7_init_196 0 rfl rfl (n := 197) rfl ?_
  refine g_get X dX7_init_197 flX7_32 0 rfl (v := .ref (a 6)) rfl (n := 200) rfl ?_
  refine g_bipush X dX7_init_200 (v := 9) (by decide) (n := 202) rfl ?_
  refine g_bipush X dX7_init_202 (v := 78) (by decide) (n := 204) rfl ?_
  obtain ⟨h_10, hf⟩ := k_guard hf
  refine g_iastore X dX7_init_204 6 (f := upd (upd (upd (upd (upd (upd (upd (upd (upd mg.2.2.2.2.2.2 ((0 : Int32)).toNatClampNeg 45) ((1 : Int32)).toNatClampNeg 47) ((2 : Int32)).toNatClampNeg 42) ((3 : Int32)).toNatClampNeg 78) ((4 : Int32)).toNatClampNeg 118) ((5 : Int32)).toNatClampNeg 107) ((6 : Int32)).toNatClampNeg 47) ((7 : Int32)).toNatClampNeg 42) ((8 : Int32)).toNatClampNeg 100) rfl rfl h_10 (ws2 := pic_X7 D a mp (mg.1, mg.2.1, mg.2.2.1, mg.2.2.2.1, mg.2.2.2.2.1, mg.2.2.2.2.2.1, upd (upd (upd (upd (upd (upd (upd (upd (upd (upd mg.2.2.2.2.2.2 ((0 : Int32)).toNatClampNeg 45) ((1 : Int32)).toNatClampNeg 47) ((2 : Int32)).toNatClampNeg 42) ((3 : Int32)).toNatClampNeg 78) ((4 : Int32)).toNatClampNeg 118) ((5 : Int32)).toNatClampNeg 107) ((6 : Int32)).toNatClampNeg 47) ((7 : Int32)).toNatClampNeg 42) ((8 : Int32)).toNatClampNeg 100) ((9 : Int32)).toNatClampNeg 78) mc ml mq mh ms mr mi) rfl (n := 205) rfl ?_
  refine g_aload_n X dX7_init_205 0 rfl rfl (n := 206) rfl ?_
  refine g_get X dX7_init_206 flX7_32 0 rfl (v := .ref (a 6)) rfl (n := 209) rfl ?_
  refine g_bipush X dX7_init_209 (v := 10) (by decide) (n := 211) rfl ?_
  refine g_bipush X dX7_init_211 (v := 107) (by decide) (n := 213) rfl ?_
  obtain ⟨h_11, hf⟩ := k_guard hf
  refine g_iastore X dX7_init_213 6 (f := upd (upd (upd (upd (upd (upd (upd (upd (upd (upd mg.2.2.2.2.2.2 ((0 : Int32)).toNatClampNeg 45) ((1 : Int32)).toNatClampNeg 47) ((2 : Int32)).toNatClampNeg 42) ((3 : Int32)).toNatClampNeg 78) ((4 : Int32)).toNatClampNeg 118) ((5 : Int32)).toNatClampNeg 107) ((6 : Int32)).toNatClampNeg 47) ((7 : Int32)).toNatClampNeg 42) ((8 : Int32)).toNatClampNeg 100) ((9 : Int32)).toNatClampNeg 78) rfl rfl h_11 (ws2 := pic_X7 D a mp (mg.1, mg.2.1, mg.2.2.1, mg.2.2.2.1, mg.2.2.2.2.1, mg.2.2.2.2.2.1, upd (upd (upd (upd (upd (upd (upd (upd (upd (upd (upd mg.2.2.2.2.2.2 ((0 : Int32)).toNatClampNeg 45) ((1 : Int32)).toNatClampNeg 47) ((2 : Int32)).toNatClampNeg 42) ((3 : Int32)).toNatClampNeg 78) ((4 : Int32)).toNatClampNeg 118) ((5 : Int32)).toNatClampNeg 107) ((6 : Int32)).toNatClampNeg 47) ((7 : Int32)).toNatClampNeg 42) ((8 : Int32)).toNatClampNeg 100) ((9 : Int32)).toNatClampNeg 78) ((10 : Int32)).toNatClampNeg 107) mc ml mq mh ms mr mi) rfl (n := 214) rfl ?_
  refine g_iconst X dX7_init_214 (v := 0) (by decide) (n := 215) rfl ?_
  refine g_istore_n X dX7_init_215 rfl (by decide) (lv2 := [(1, .int 0), (0, .ref (a 0))]) rfl (n := 216) rfl ?_
  refine g_sub [1, 0] (lv' := [(0, .ref (a 0)), (1, .int 0)]) rfl ?_
  exact wX7_init_l216 X  hret _ _ _ _ hf
set_option maxRecDepth 100000 in
set_option maxHeartbeats 4000000 in
theorem mX0_init {l : Launch} {D : va_G} {q v a0 : Nat} : k_MetC l yX0_init cX0_init 1 none 1 20 0 0 D [.ref a0] q v [(a0, .inr (0, [.long 0, .long 0]))] none (fun _ => pic_X0 D a0 (0, 1)) :=
  k_ofC (by decide) rfl (Nat.le_of_ble_eq_true rfl) (fun E hX XS hnm hret => by
    refine g_aload_n (hX 0 0 (Nat.le_of_ble_eq_true rfl) (Nat.le_of_ble_eq_true rfl)) dX0_init_0 0 rfl rfl (n := 1) rfl ?_
    refine g_objInit (hX 0 0 (Nat.le_of_ble_eq_true rfl) (Nat.le_of_ble_eq_true rfl)) mlX0_3 lkO1 lkO2 dX0_init_1 (n := 4) rfl ⟨Nat.le_of_ble_eq_true rfl, Nat.le_of_ble_eq_true rfl⟩ (Nat.le_of_ble_eq_true rfl) ?_
    refine g_aload_n (hX 0 0 (Nat.le_of_ble_eq_true rfl) (Nat.le_of_ble_eq_true rfl)) dX0_init_4 0 rfl rfl (n := 5) rfl ?_
    refine g_lconst (hX 0 0 (Nat.le_of_ble_eq_true rfl) (Nat.le_of_ble_eq_true rfl)) dX0_init_5 (v := 1) rfl (n := 6) rfl ?_
    refine g_put (hX 0 0 (Nat.le_of_ble_eq_true rfl) (Nat.le_of_ble_eq_true rfl)) dX0_init_6 flX0_9 0 rfl rfl rfl (Nat.le_of_ble_eq_true rfl) (ws2 := [(a0, .inr (0, [.long 0, .long 1]))]) rfl (n := 9) rfl ?_
    exact hret (fun _ => 0) _ _ dX0_init_9)
set_option maxRecDepth 100000 in
set_option maxHeartbeats 4000000 in
theorem mX2_init {l : Launch} {D : va_G} {q v a0 : Nat} : k_MetC l yX2_init cX2_init 1 none 1 20 2 22 D [.ref a0] q v [(a0, .inr (2, [.null, .null, .int 0]))] none (fun a => pic_X2 D a0 (a 1) (a 2) ((fun _ => 0), (fun _ => 0), 0)) :=
  k_ofC (by decide) rfl (Nat.le_of_ble_eq_true rfl) (fun E hX XS hnm hret => by
    refine g_aload_n (hX 0 0 (Nat.le_of_ble_eq_true rfl) (Nat.le_of_ble_eq_true rfl)) dX2_init_0 0 rfl rfl (n := 1) rfl ?_
    refine g_objInit (hX 0 0 (Nat.le_of_ble_eq_true rfl) (Nat.le_of_ble_eq_true rfl)) mlX2_3 lkO1 lkO2 dX2_init_1 (n := 4) rfl ⟨Nat.le_of_ble_eq_true rfl, Nat.le_of_ble_eq_true rfl⟩ (Nat.le_of_ble_eq_true rfl) ?_
    refine g_aload_n (hX 0 0 (Nat.le_of_ble_eq_true rfl) (Nat.le_of_ble_eq_true rfl)) dX2_init_4 0 rfl rfl (n := 5) rfl ?_
    refine g_bipush (hX 0 0 (Nat.le_of_ble_eq_true rfl) (Nat.le_of_ble_eq_true rfl)) dX2_init_5 (v := 11) (by decide) (n := 7) rfl ?_
    refine g_newa (atype := .long) (ty := .long) (t0 := 1) (c2 := 1) (n2 := 11) (a0 := (11, .inr (.inl (fun _ => 0)))) (hX 0 0 (Nat.le_of_ble_eq_true rfl) (Nat.le_of_ble_eq_true rfl)) (hX 1 11 (Nat.le_of_ble_eq_true rfl) (Nat.le_of_ble_eq_true rfl)) ac_long rfl (fun _ h => by cases h) rfl dX2_init_7 (fun _ => rfl) (by decide) (by decide) (by decide) (n := 9) rfl ⟨rfl, rfl⟩ (fun q1 => ?_)
    refine g_putF (hX 1 11 (Nat.le_of_ble_eq_true rfl) (Nat.le_of_ble_eq_true rfl)) hnm.cs dX2_init_9 flX2_9 rfl 0 rfl rfl rfl (Nat.le_of_ble_eq_true rfl) (ws2 := [(a0, .inr (2, [.ref q1, .null, .int 0]))] ++ [(q1, .inl (D.1 101, 11, .inr (.inl (fun _ => 0))))]) rfl (n := 12) rfl ?_
    refine g_aload_n (hX 1 11 (Nat.le_of_ble_eq_true rfl) (Nat.le_of_ble_eq_true rfl)) dX2_init_12 0 rfl rfl (n := 13) rfl ?_
    refine g_bipush (hX 1 11 (Nat.le_of_ble_eq_true rfl) (Nat.le_of_ble_eq_true rfl)) dX2_init_13 (v := 11) (by decide) (n := 15) rfl ?_
    refine g_newa (atype := .long) (ty := .long) (t0 := 1) (c2 := 2) (n2 := 22) (a0 := (11, .inr (.inl (fun _ => 0)))) (hX 1 11 (Nat.le_of_ble_eq_true rfl) (Nat.le_of_ble_eq_true rfl)) (hX 2 22 (Nat.le_of_ble_eq_true rfl) (Nat.le_of_ble_eq_true rfl)) ac_long rfl (fun _ h => by cases h) rfl dX2_init_15 (fun _ => rfl) (by decide) (by decide) (by decide) (n := 17) rfl ⟨rfl, rfl⟩ (fun q2 => ?_)
    refine g_putF (hX 2 22 (Nat.le_of_ble_eq_true rfl) (Nat.le_of_ble_eq_true rfl)) hnm.cs dX2_init_17 flX2_15 rfl 0 rfl rfl rfl (Nat.le_of_ble_eq_true rfl) (ws2 := [(a0, .inr (2, [.ref q1, .ref q2, .int 0]))] ++ [(q1, .inl (D.1 101, 11, .inr (.inl (fun _ => 0))))] ++ [(q2, .inl (D.1 101, 11, .inr (.inl (fun _ => 0))))]) rfl (n := 20) rfl ?_
    exact hret (fun i => [0, q1, q2].getD i 0) _ _ dX2_init_20)
set_option maxRecDepth 100000 in
set_option maxHeartbeats 4000000 in
theorem mX4_init {l : Launch} {D : va_G} {q v a0 : Nat} : k_MetC l yX4_init cX4_init 1 none 1 20 1 26 D [.ref a0] q v [(a0, .inr (4, [.null, .int 0, .int 0, .int 0, .int 0, .int 0, .int 0]))] none (fun a => pic_X4 D a0 (a 1) ((fun _ => 0), 0, 0, 0, 0, 0, false)) :=
  k_ofC (by decide) rfl (Nat.le_of_ble_eq_true rfl) (fun E hX XS hnm hret => by
    refine g_aload_n (hX 0 0 (Nat.le_of_ble_eq_true rfl) (Nat.le_of_ble_eq_true rfl)) dX4_init_0 0 rfl rfl (n := 1) rfl ?_
    refine g_objInit (hX 0 0 (Nat.le_of_ble_eq_true rfl) (Nat.le_of_ble_eq_true rfl)) mlX4_3 lkO1 lkO2 dX4_init_1 (n := 4) rfl ⟨Nat.le_of_ble_eq_true rfl, Nat.le_of_ble_eq_true rfl⟩ (Nat.le_of_ble_eq_true rfl) ?_
    refine g_aload_n (hX 0 0 (Nat.le_of_ble_eq_true rfl) (Nat.le_of_ble_eq_true rfl)) dX4_init_4 0 rfl rfl (n := 5) rfl ?_
    refine g_bipush (hX 0 0 (Nat.le_of_ble_eq_true rfl) (Nat.le_of_ble_eq_true rfl)) dX4_init_5 (v := 26) (by decide) (n := 7) rfl ?_
    refine g_newa (atype := .int) (ty := .int) (t0 := 0) (c2 := 1) (n2 := 26) (a0 := (26, .inl (fun _ => 0))) (hX 0 0 (Nat.le_of_ble_eq_true rfl) (Nat.le_of_ble_eq_true rfl)) (hX 1 26 (Nat.le_of_ble_eq_true rfl) (Nat.le_of_ble_eq_true rfl)) ac_int rfl (fun _ h => by cases h) rfl dX4_init_7 (fun _ => rfl) (by decide) (by decide) (by decide) (n := 9) rfl ⟨rfl, rfl⟩ (fun q1 => ?_)
    refine g_putF (hX 1 26 (Nat.le_of_ble_eq_true rfl) (Nat.le_of_ble_eq_true rfl)) hnm.cs dX4_init_9 flX4_9 rfl 0 rfl rfl rfl (Nat.le_of_ble_eq_true rfl) (ws2 := [(a0, .inr (4, [.ref q1, .int 0, .int 0, .int 0, .int 0, .int 0, .int 0]))] ++ [(q1, .inl (D.1 100, 26, .inl (fun _ => 0)))]) rfl (n := 12) rfl ?_
    exact hret (fun _ => q1) _ _ dX4_init_12)
set_option maxRecDepth 100000 in
set_option maxHeartbeats 4000000 in
theorem mX1_init {l : Launch} {D : va_G} {q v a0 N : Nat} {res : VX1} (hf : fX1_init N ((fun _ => 0), (fun _ => 0), 0, 0, 0) = some res) : k_MetC l yX1_init cX1_init 4 none 1 23 2 3782 D [.ref a0] q v [(a0, .inr (1, [.null, .null, .int 0, .int 0, .int 0]))] none (fun a => pic_X1 D a0 (a 1) (a 2) res) :=
  k_ofC (by decide) rfl (Nat.le_of_ble_eq_true rfl) (fun E hX XS hnm hret => by
    refine g_aload_n (hX 0 0 (Nat.le_of_ble_eq_true rfl) (Nat.le_of_ble_eq_true rfl)) dX1_init_0 0 rfl rfl (n := 1) rfl ?_
    refine g_objInit (hX 0 0 (Nat.le_of_ble_eq_true rfl) (Nat.le_of_ble_eq_true rfl)) mlX1_3 lkO1 lkO2 dX1_init_1 (n := 4) rfl ⟨Nat.le_of_ble_eq_true rfl, Nat.le_of_ble_eq_true rfl⟩ (Nat.le_of_ble_eq_true rfl) ?_
    refine g_aload_n (hX 0 0 (Nat.le_of_ble_eq_true rfl) (Nat.le_of_ble_eq_true rfl)) dX1_init_4 0 rfl rfl (n := 5) rfl ?_
    refine g_sipush (hX 0 0 (Nat.le_of_ble_eq_true rfl) (Nat.le_of_ble_eq_true rfl)) dX1_init_5 (v := 1891) (by decide) (n := 8) rfl ?_
    refine g_newa (atype := .long) (ty := .long) (t0 := 1) (c2 := 1) (n2 := 1891) (a0 := (1891, .inr (.inl (fun _ => 0)))) (hX 0 0 (Nat.le_of_ble_eq_true rfl) (Nat.le_of_ble_eq_true rfl)) (hX 1 1891 (Nat.le_of_ble_eq_true rfl) (Nat.le_of_ble_eq_true rfl)) ac_long rfl (fun _ h => by cases h) rfl dX1_init_8 (fun _ => rfl) (by decide) (by decide) (by decide) (n := 10) rfl ⟨rfl, rfl⟩ (fun q1 => ?_)
    refine g_putF (hX 1 1891 (Nat.le_of_ble_eq_true rfl) (Nat.le_of_ble_eq_true rfl)) hnm.cs dX1_init_10 flX1_11 rfl 0 rfl rfl rfl (Nat.le_of_ble_eq_true rfl) (ws2 := [(a0, .inr (1, [.ref q1, .null, .int 0, .int 0, .int 0]))] ++ [(q1, .inl (D.1 101, 1891, .inr (.inl (fun _ => 0))))]) rfl (n := 13) rfl ?_
    refine g_aload_n (hX 1 1891 (Nat.le_of_ble_eq_true rfl) (Nat.le_of_ble_eq_true rfl)) dX1_init_13 0 rfl rfl (n := 14) rfl ?_
    refine g_sipush (hX 1 1891 (Nat.le_of_ble_eq_true rfl) (Nat.le_of_ble_eq_true rfl)) dX1_init_14 (v := 1891) (by decide) (n := 17) rfl ?_
    refine g_newa (atype := .long) (ty := .long) (t0 := 1) (c2 := 2) (n2 := 3782) (a0 := (1891, .inr (.inl (fun _ => 0)))) (hX 1 1891 (Nat.le_of_ble_eq_true rfl) (Nat.le_of_ble_eq_true rfl)) (hX 2 3782 (Nat.le_of_ble_eq_true rfl) (Nat.le_of_ble_eq_true rfl)) ac_long rfl (fun _ h => by cases h) rfl dX1_init_17 (fun _ => rfl) (by decide) (by decide) (by decide) (n := 19) rfl ⟨rfl, rfl⟩ (fun q2 => ?_)
    refine g_putF (hX 2 3782 (Nat.le_of_ble_eq_true rfl) (Nat.le_of_ble_eq_true rfl)) hnm.cs dX1_init_19 flX1_15 rfl 0 rfl rfl rfl (Nat.le_of_ble_eq_true rfl) (ws2 := [(a0, .inr (1, [.ref q1, .ref q2, .int 0, .int 0, .int 0]))] ++ [(q1, .inl (D.1 101, 1891, .inr (.inl (fun _ => 0))))] ++ [(q2, .inl (D.1 101, 1891, .inr (.inl (fun _ => 0))))]) rfl (n := 22) rfl ?_
    refine g_eq (ws' := pic_X1 D a0 q1 q2 ((fun _ => 0), (fun _ => 0), 0, 0, 0)) rfl rfl rfl ?_
    exact wX1_init (E := k_cs E 2 3782) (hX 2 3782 (Nat.le_of_ble_eq_true rfl) (Nat.le_of_ble_eq_true rfl)) (fun pc lv d => hret (fun i => [0, q1, q2].getD i 0) pc lv d) hf)
set_option maxRecDepth 100000 in
set_option maxHeartbeats 4000000 in
theorem mX3_init {l : Launch} {D : va_G} {q v a0 N : Nat} {res : VX3} (hf : fX3_init N ((fun _ => 0), (fun _ => 0), (fun _ => 0), ((fun _ => 0), 0), 0, 0, false) = some res) : k_MetC l yX3_init cX3_init 2 none 4 85 5 85 D [.ref a0] q v [(a0, .inr (3, [.null, .null, .null, .null, .int 0, .int 0, .int 0]))] none (fun a => pic_X3 D a0 (a 1) (a 2) (a 3) (a 4) (a 5) res) :=
  k_ofC (by decide) rfl (Nat.le_of_ble_eq_true rfl) (fun E hX XS hnm hret => by
    refine g_aload_n (hX 0 0 (Nat.le_of_ble_eq_true rfl) (Nat.le_of_ble_eq_true rfl)) dX3_init_0 0 rfl rfl (n := 1) rfl ?_
    refine g_objInit (hX 0 0 (Nat.le_of_ble_eq_true rfl) (Nat.le_of_ble_eq_true rfl)) mlX3_3 lkO1 lkO2 dX3_init_1 (n := 4) rfl ⟨Nat.le_of_ble_eq_true rfl, Nat.le_of_ble_eq_true rfl⟩ (Nat.le_of_ble_eq_true rfl) ?_
    refine g_aload_n (hX 0 0 (Nat.le_of_ble_eq_true rfl) (Nat.le_of_ble_eq_true rfl)) dX3_init_4 0 rfl rfl (n := 5) rfl ?_
    refine g_bipush (hX 0 0 (Nat.le_of_ble_eq_true rfl) (Nat.le_of_ble_eq_true rfl)) dX3_init_5 (v := 60) (by decide) (n := 7) rfl ?_
    refine g_newa (atype := .int) (ty := .int) (t0 := 0) (c2 := 1) (n2 := 60) (a0 := (60, .inl (fun _ => 0))) (hX 0 0 (Nat.le_of_ble_eq_true rfl) (Nat.le_of_ble_eq_true rfl)) (hX 1 60 (Nat.le_of_ble_eq_true rfl) (Nat.le_of_ble_eq_true rfl)) ac_int rfl (fun _ h => by cases h) rfl dX3_init_7 (fun _ => rfl) (by decide) (by decide) (by decide) (n := 9) rfl ⟨rfl, rfl⟩ (fun q1 => ?_)
    refine g_putF (hX 1 60 (Nat.le_of_ble_eq_true rfl) (Nat.le_of_ble_eq_true rfl)) hnm.cs dX3_init_9 flX3_9 rfl 0 rfl rfl rfl (Nat.le_of_ble_eq_true rfl) (ws2 := [(a0, .inr (3, [.ref q1, .null, .null, .null, .int 0, .int 0, .int 0]))] ++ [(q1, .inl (D.1 100, 60, .inl (fun _ => 0)))]) rfl (n := 12) rfl ?_
    refine g_aload_n (hX 1 60 (Nat.le_of_ble_eq_true rfl) (Nat.le_of_ble_eq_true rfl)) dX3_init_12 0 rfl rfl (n := 13) rfl ?_
    refine g_bipush (hX 1 60 (Nat.le_of_ble_eq_true rfl) (Nat.le_of_ble_eq_true rfl)) dX3_init_13 (v := 6) (by decide) (n := 15) rfl ?_
    refine g_newa (atype := .int) (ty := .int) (t0 := 0) (c2 := 2) (n2 := 66) (a0 := (6, .inl (fun _ => 0))) (hX 1 60 (Nat.le_of_ble_eq_true rfl) (Nat.le_of_ble_eq_true rfl)) (hX 2 66 (Nat.le_of_ble_eq_true rfl) (Nat.le_of_ble_eq_true rfl)) ac_int rfl (fun _ h => by cases h) rfl dX3_init_15 (fun _ => rfl) (by decide) (by decide) (by decide) (n := 17) rfl ⟨rfl, rfl⟩ (fun q2 => ?_)
    refine g_putF (hX 2 66 (Nat.le_of_ble_eq_true rfl) (Nat.le_of_ble_eq_true rfl)) hnm.cs dX3_init_17 flX3_15 rfl 0 rfl rfl rfl (Nat.le_of_ble_eq_true rfl) (ws2 := [(a0, .inr (3, [.ref q1, .ref q2, .null, .null, .int 0, .int 0, .int 0]))] ++ [(q1, .inl (D.1 100, 60, .inl (fun _ => 0)))] ++ [(q2, .inl (D.1 100, 6, .inl (fun _ => 0)))]) rfl (n := 20) rfl ?_
    refine g_aload_n (hX 2 66 (Nat.le_of_ble_eq_true rfl) (Nat.le_of_ble_eq_true rfl)) dX3_init_20 0 rfl rfl (n := 21) rfl ?_
    refine g_bipush (hX 2 66 (Nat.le_of_ble_eq_true rfl) (Nat.le_of_ble_eq_true rfl)) dX3_init_21 (v := 6) (by decide) (n := 23) rfl ?_
    refine g_newa (atype := .int) (ty := .int) (t0 := 0) (c2 := 3) (n2 := 72) (a0 := (6, .inl (fun _ => 0))) (hX 2 66 (Nat.le_of_ble_eq_true rfl) (Nat.le_of_ble_eq_true rfl)) (hX 3 72 (Nat.le_of_ble_eq_true rfl) (Nat.le_of_ble_eq_true rfl)) ac_int rfl (fun _ h => by cases h) rfl dX3_init_23 (fun _ => rfl) (by decide) (by decide) (by decide) (n := 25) rfl ⟨rfl, rfl⟩ (fun q3 => ?_)
    refine g_putF (hX 3 72 (Nat.le_of_ble_eq_true rfl) (Nat.le_of_ble_eq_true rfl)) hnm.cs dX3_init_25 flX3_18 rfl 0 rfl rfl rfl (Nat.le_of_ble_eq_true rfl) (ws2 := [(a0, .inr (3, [.ref q1, .ref q2, .ref q3, .null, .int 0, .int 0, .int 0]))] ++ [(q1, .inl (D.1 100, 60, .inl (fun _ => 0)))] ++ [(q2, .inl (D.1 100, 6, .inl (fun _ => 0)))] ++ [(q3, .inl (D.1 100, 6, .inl (fun _ => 0)))]) rfl (n := 28) rfl ?_
    refine g_aload_n (hX 3 72 (Nat.le_of_ble_eq_true rfl) (Nat.le_of_ble_eq_true rfl)) dX3_init_28 0 rfl rfl (n := 29) rfl ?_
    refine g_new (C := RX5) (T := TX5) (N := 2) (ci := 5) (c2 := 4) (n2 := 74) (fs := [.null, .int 0]) (hX 3 72 (Nat.le_of_ble_eq_true rfl) (Nat.le_of_ble_eq_true rfl)) (hX 4 74 (Nat.le_of_ble_eq_true rfl) (Nat.le_of_ble_eq_true rfl)) inG5 tyX5_ok knX3_21 kn_X5_i kn_X5_d rfl (fun j hj => by rcases (show j = 0 ∨ j = 1 by omega) with rfl | rfl <;> rfl) dX3_init_29 (n := 32) rfl ⟨rfl, rfl⟩ (fun q4 => ?_)
    refine g_dup (hX 4 74 (Nat.le_of_ble_eq_true rfl) (Nat.le_of_ble_eq_true rfl)) dX3_init_32 rfl (n := 33) rfl ?_
    refine g_bipush (hX 4 74 (Nat.le_of_ble_eq_true rfl) (Nat.le_of_ble_eq_true rfl)) dX3_init_33 (v := 11) (by decide) (n := 35) rfl ?_
    refine g_ctor (hX 4 74 (Nat.le_of_ble_eq_true rfl) (Nat.le_of_ble_eq_true rfl)) (hX 5 85 (Nat.le_of_ble_eq_true rfl) (Nat.le_of_ble_eq_true rfl)) XS.cs (mX5_init (D := D) (l := l) (q := q) (v := v) (a0 := q4) (r := 11) (by decide)) rfl lk0_X5_init ik_X5_init mlX3_23 dX3_init_35 (n := 38) rfl (st := [.ref q4, .ref a0]) rfl rfl rfl ⟨Nat.le_of_ble_eq_true rfl, Nat.le_of_ble_eq_true rfl⟩ (Nat.le_of_ble_eq_true rfl) ⟨rfl, rfl⟩ (fun b5 => ?_)
    refine g_putF (hX 5 85 (Nat.le_of_ble_eq_true rfl) (Nat.le_of_ble_eq_true rfl)) hnm.cs dX3_init_38 flX3_26 rfl 0 rfl rfl rfl (Nat.le_of_ble_eq_true rfl) (ws2 := [(a0, .inr (3, [.ref q1, .ref q2, .ref q3, .ref q4, .int 0, .int 0, .int 0]))] ++ [(q1, .inl (D.1 100, 60, .inl (fun _ => 0)))] ++ [(q2, .inl (D.1 100, 6, .inl (fun _ => 0)))] ++ [(q3, .inl (D.1 100, 6, .inl (fun _ => 0)))] ++ pic_X5 D q4 (b5 1) 11 ((fun _ => 0), 0)) rfl (n := 41) rfl ?_
    refine g_eq (ws' := pic_X3 D a0 q1 q2 q3 q4 (b5 1) ((fun _ => 0), (fun _ => 0), (fun _ => 0), ((fun _ => 0), 0), 0, 0, false)) rfl rfl rfl ?_
    exact wX3_init (E := k_cs E 5 85) (hX 5 85 (Nat.le_of_ble_eq_true rfl) (Nat.le_of_ble_eq_true rfl)) XS.cs (fun pc lv d => hret (fun i => [0, q1, q2, q3, q4, b5 1].getD i 0) pc lv d) hf)
def k_a0 (b : Nat) (a : Nat → Nat) : Nat → Nat := fun i => match i with
  | 0 => b
  | i + 1 => a (i + 1)
set_option maxRecDepth 100000 in
set_option maxHeartbeats 4000000 in
theorem mX6_init {l : Launch} {D : va_G} {q v a0 N : Nat} {r0 : VX3} {z0 : VX1} (hf3 : fX3_init N ((fun _ => 0), (fun _ => 0), (fun _ => 0), ((fun _ => 0), 0), 0, 0, false) = some r0) (hf1 : fX1_init N ((fun _ => 0), (fun _ => 0), 0, 0, 0) = some z0) : k_MetC l yX6_init cX6_init 1 none 5 106 33 4236 D [.ref a0] q v [(a0, .inr (6, [.null, .null, .null, .null, .null, .null, .null, .null, .null, .null, .null]))] none (fun a => pic_X6 D (k_a0 a0 a) ((fun _ => 0), 0) r0 r0 r0 ((fun _ => 0), 0, 0, 0, 0, 0, false) ((fun _ => 0), 0, 0, 0, 0, 0, false) z0 ((fun _ => 0), (fun _ => 0), 0) (0, 1) (0, 1) (fun _ => 0)) :=
  k_ofC (by decide) rfl (Nat.le_of_ble_eq_true rfl) (fun E hX XS hnm hret => by
    refine g_aload_n (hX 0 0 (Nat.le_of_ble_eq_true rfl) (Nat.le_of_ble_eq_true rfl)) dX6_init_0 0 rfl rfl (n := 1) rfl ?_
    refine g_objInit (hX 0 0 (Nat.le_of_ble_eq_true rfl) (Nat.le_of_ble_eq_true rfl)) mlX6_3 lkO1 lkO2 dX6_init_1 (n := 4) rfl ⟨Nat.le_of_ble_eq_true rfl, Nat.le_of_ble_eq_true rfl⟩ (Nat.le_of_ble_eq_true rfl) ?_
    refine g_aload_n (hX 0 0 (Nat.le_of_ble_eq_true rfl) (Nat.le_of_ble_eq_true rfl)) dX6_init_4 0 rfl rfl (n := 5) rfl ?_
    refine g_new (C := RX5) (T := TX5) (N := 2) (ci := 5) (c2 := 1) (n2 := 2) (fs := [.null, .int 0]) (hX 0 0 (Nat.le_of_ble_eq_true rfl) (Nat.le_of_ble_eq_true rfl)) (hX 1 2 (Nat.le_of_ble_eq_true rfl) (Nat.le_of_ble_eq_true rfl)) inG5 tyX5_ok knX6_9 kn_X5_i kn_X5_d rfl (fun j hj => by rcases (show j = 0 ∨ j = 1 by omega) with rfl | rfl <;> rfl) dX6_init_5 (n := 8) rfl ⟨rfl, rfl⟩ (fun q1 => ?_)
    refine g_dup (hX 1 2 (Nat.le_of_ble_eq_true rfl) (Nat.le_of_ble_eq_true rfl)) dX6_init_8 rfl (n := 9) rfl ?_
    refine g_bipush (hX 1 2 (Nat.le_of_ble_eq_true rfl) (Nat.le_of_ble_eq_true rfl)) dX6_init_9 (v := 16) (by decide) (n := 11) rfl ?_
    refine g_ctor (hX 1 2 (Nat.le_of_ble_eq_true rfl) (Nat.le_of_ble_eq_true rfl)) (hX 2 18 (Nat.le_of_ble_eq_true rfl) (Nat.le_of_ble_eq_true rfl)) XS.cs (mX5_init (D := D) (l := l) (q := q) (v := v) (a0 := q1) (r := 16) (by decide)) rfl lk0_X5_init ik_X5_init mlX6_11 dX6_init_11 (n := 14) rfl (st := [.ref q1, .ref a0]) rfl rfl rfl ⟨Nat.le_of_ble_eq_true rfl, Nat.le_of_ble_eq_true rfl⟩ (Nat.le_of_ble_eq_true rfl) ⟨rfl, rfl⟩ (fun b2 => ?_)
    refine g_putF (hX 2 18 (Nat.le_of_ble_eq_true rfl) (Nat.le_of_ble_eq_true rfl)) hnm.cs dX6_init_14 flX6_14 rfl 0 rfl rfl rfl (Nat.le_of_ble_eq_true rfl) (ws2 := [(a0, .inr (6, [.ref q1, .null, .null, .null, .null, .null, .null, .null, .null, .null, .null]))] ++ pic_X5 D q1 (b2 1) 16 ((fun _ => 0), 0)) rfl (n := 17) rfl ?_
    refine g_aload_n (hX 2 18 (Nat.le_of_ble_eq_true rfl) (Nat.le_of_ble_eq_true rfl)) dX6_init_17 0 rfl rfl (n := 18) rfl ?_
    refine g_new (C := RX3) (T := TX3) (N := 7) (ci := 3) (c2 := 3) (n2 := 25) (fs := [.null, .null, .null, .null, .int 0, .int 0, .int 0]) (hX 2 18 (Nat.le_of_ble_eq_true rfl) (Nat.le_of_ble_eq_true rfl)) (hX 3 25 (Nat.le_of_ble_eq_true rfl) (Nat.le_of_ble_eq_true rfl)) inG3 tyX3_ok knX6_18 kn_X3_i kn_X3_d rfl (fun j hj => by rcases (show j = 0 ∨ j = 1 ∨ j = 2 ∨ j = 3 ∨ j = 4 ∨ j = 5 ∨ j = 6 by omega) with rfl | rfl | rfl | rfl | rfl | rfl | rfl <;> rfl) dX6_init_18 (n := 21) rfl ⟨rfl, rfl⟩ (fun q3 => ?_)
    refine g_dup (hX 3 25 (Nat.le_of_ble_eq_true rfl) (Nat.le_of_ble_eq_true rfl)) dX6_init_21 rfl (n := 22) rfl ?_
    refine g_ctor (hX 3 25 (Nat.le_of_ble_eq_true rfl) (Nat.le_of_ble_eq_true rfl)) (hX 8 110 (Nat.le_of_ble_eq_true rfl) (Nat.le_of_ble_eq_true rfl)) XS.cs (mX3_init (D := D) (l := l) (q := q) (v := v) (a0 := q3) hf3) rfl lk0_X3_init ik_X3_init mlX6_20 dX6_init_22 (n := 25) rfl (st := [.ref q3, .ref a0]) rfl rfl rfl ⟨Nat.le_of_ble_eq_true rfl, Nat.le_of_ble_eq_true rfl⟩ (Nat.le_of_ble_eq_true rfl) ⟨rfl, rfl⟩ (fun b4 => ?_)
    refine g_putF (hX 8 110 (Nat.le_of_ble_eq_true rfl) (Nat.le_of_ble_eq_true rfl)) hnm.cs dX6_init_25 flX6_21 rfl 0 rfl rfl rfl (Nat.le_of_ble_eq_true rfl) (ws2 := [(a0, .inr (6, [.ref q1, .ref q3, .null, .null, .null, .null, .null, .null, .null, .null, .null]))] ++ pic_X5 D q1 (b2 1) 16 ((fun _ => 0), 0) ++ pic_X3 D q3 (b4 1) (b4 2) (b4 3) (b4 4) (b4 5) r0) rfl (n := 28) rfl ?_
    refine g_aload_n (hX 8 110 (Nat.le_of_ble_eq_true rfl) (Nat.le_of_ble_eq_true rfl)) dX6_init_28 0 rfl rfl (n := 29) rfl ?_
    refine g_new (C := RX3) (T := TX3) (N := 7) (ci := 3) (c2 := 9) (n2 := 117) (fs := [.null, .null, .null, .null, .int 0, .int 0, .int 0]) (hX 8 110 (Nat.le_of_ble_eq_true rfl) (Nat.le_of_ble_eq_true rfl)) (hX 9 117 (Nat.le_of_ble_eq_true rfl) (Nat.le_of_ble_eq_true rfl)) inG3 tyX3_ok knX6_18 kn_X3_i kn_X3_d rfl (fun j hj => by rcases (show j = 0 ∨ j = 1 ∨ j = 2 ∨ j = 3 ∨ j = 4 ∨ j = 5 ∨ j = 6 by omega) with rfl | rfl | rfl | rfl | rfl | rfl | rfl <;> rfl) dX6_init_29 (n := 32) rfl ⟨rfl, rfl⟩ (fun q5 => ?_)
    refine g_dup (hX 9 117 (Nat.le_of_ble_eq_true rfl) (Nat.le_of_ble_eq_true rfl)) dX6_init_32 rfl (n := 33) rfl ?_
    refine g_ctor (hX 9 117 (Nat.le_of_ble_eq_true rfl) (Nat.le_of_ble_eq_true rfl)) (hX 14 202 (Nat.le_of_ble_eq_true rfl) (Nat.le_of_ble_eq_true rfl)) XS.cs (mX3_init (D := D) (l := l) (q := q) (v := v) (a0 := q5) hf3) rfl lk0_X3_init ik_X3_init mlX6_20 dX6_init_33 (n := 36) rfl (st := [.ref q5, .ref a0]) rfl rfl rfl ⟨Nat.le_of_ble_eq_true rfl, Nat.le_of_ble_eq_true rfl⟩ (Nat.le_of_ble_eq_true rfl) ⟨rfl, rfl⟩ (fun b6 => ?_)
    refine g_putF (hX 14 202 (Nat.le_of_ble_eq_true rfl) (Nat.le_of_ble_eq_true rfl)) hnm.cs dX6_init_36 flX6_25 rfl 0 rfl rfl rfl (Nat.le_of_ble_eq_true rfl) (ws2 := [(a0, .inr (6, [.ref q1, .ref q3, .ref q5, .null, .null, .null, .null, .null, .null, .null, .null]))] ++ pic_X5 D q1 (b2 1) 16 ((fun _ => 0), 0) ++ pic_X3 D q3 (b4 1) (b4 2) (b4 3) (b4 4) (b4 5) r0 ++ pic_X3 D q5 (b6 1) (b6 2) (b6 3) (b6 4) (b6 5) r0) rfl (n := 39) rfl ?_
    refine g_aload_n (hX 14 202 (Nat.le_of_ble_eq_true rfl) (Nat.le_of_ble_eq_true rfl)) dX6_init_39 0 rfl rfl (n := 40) rfl ?_
    refine g_new (C := RX3) (T := TX3) (N := 7) (ci := 3) (c2 := 15) (n2 := 209) (fs := [.null, .null, .null, .null, .int 0, .int 0, .int 0]) (hX 14 202 (Nat.le_of_ble_eq_true rfl) (Nat.le_of_ble_eq_true rfl)) (hX 15 209 (Nat.le_of_ble_eq_true rfl) (Nat.le_of_ble_eq_true rfl)) inG3 tyX3_ok knX6_18 kn_X3_i kn_X3_d rfl (fun j hj => by rcases (show j = 0 ∨ j = 1 ∨ j = 2 ∨ j = 3 ∨ j = 4 ∨ j = 5 ∨ j = 6 by omega) with rfl | rfl | rfl | rfl | rfl | rfl | rfl <;> rfl) dX6_init_40 (n := 43) rfl ⟨rfl, rfl⟩ (fun q7 => ?_)
    refine g_dup (hX 15 209 (Nat.le_of_ble_eq_true rfl) (Nat.le_of_ble_eq_true rfl)) dX6_init_43 rfl (n := 44) rfl ?_
    refine g_ctor (hX 15 209 (Nat.le_of_ble_eq_true rfl) (Nat.le_of_ble_eq_true rfl)) (hX 20 294 (Nat.le_of_ble_eq_true rfl) (Nat.le_of_ble_eq_true rfl)) XS.cs (mX3_init (D := D) (l := l) (q := q) (v := v) (a0 := q7) hf3) rfl lk0_X3_init ik_X3_init mlX6_20 dX6_init_44 (n := 47) rfl (st := [.ref q7, .ref a0]) rfl rfl rfl ⟨Nat.le_of_ble_eq_true rfl, Nat.le_of_ble_eq_true rfl⟩ (Nat.le_of_ble_eq_true rfl) ⟨rfl, rfl⟩ (fun b8 => ?_)
    refine g_putF (hX 20 294 (Nat.le_of_ble_eq_true rfl) (Nat.le_of_ble_eq_true rfl)) hnm.cs dX6_init_47 flX6_28 rfl 0 rfl rfl rfl (Nat.le_of_ble_eq_true rfl) (ws2 := [(a0, .inr (6, [.ref q1, .ref q3, .ref q5, .ref q7, .null, .null, .null, .null, .null, .null, .null]))] ++ pic_X5 D q1 (b2 1) 16 ((fun _ => 0), 0) ++ pic_X3 D q3 (b4 1) (b4 2) (b4 3) (b4 4) (b4 5) r0 ++ pic_X3 D q5 (b6 1) (b6 2) (b6 3) (b6 4) (b6 5) r0 ++ pic_X3 D q7 (b8 1) (b8 2) (b8 3) (b8 4) (b8 5) r0) rfl (n := 50) rfl ?_
    refine g_aload_n (hX 20 294 (Nat.le_of_ble_eq_true rfl) (Nat.le_of_ble_eq_true rfl)) dX6_init_50 0 rfl rfl (n := 51) rfl ?_
    refine g_new (C := RX4) (T := TX4) (N := 7) (ci := 4) (c2 := 21) (n2 := 301) (fs := [.null, .int 0, .int 0, .int 0, .int 0, .int 0, .int 0]) (hX 20 294 (Nat.le_of_ble_eq_true rfl) (Nat.le_of_ble_eq_true rfl)) (hX 21 301 (Nat.le_of_ble_eq_true rfl) (Nat.le_of_ble_eq_true rfl)) inG4 tyX4_ok knX6_31 kn_X4_i kn_X4_d rfl (fun j hj => by rcases (show j = 0 ∨ j = 1 ∨ j = 2 ∨ j = 3 ∨ j = 4 ∨ j = 5 ∨ j = 6 by omega) with rfl | rfl | rfl | rfl | rfl | rfl | rfl <;> rfl) dX6_init_51 (n := 54) rfl ⟨rfl, rfl⟩ (fun q9 => ?_)
    refine g_dup (hX 21 301 (Nat.le_of_ble_eq_true rfl) (Nat.le_of_ble_eq_true rfl)) dX6_init_54 rfl (n := 55) rfl ?_
    refine g_ctor (hX 21 301 (Nat.le_of_ble_eq_true rfl) (Nat.le_of_ble_eq_true rfl)) (hX 22 327 (Nat.le_of_ble_eq_true rfl) (Nat.le_of_ble_eq_true rfl)) XS.cs (mX4_init (D := D) (l := l) (q := q) (v := v) (a0 := q9)) rfl lk0_X4_init ik_X4_init mlX6_33 dX6_init_55 (n := 58) rfl (st := [.ref q9, .ref a0]) rfl rfl rfl ⟨Nat.le_of_ble_eq_true rfl, Nat.le_of_ble_eq_true rfl⟩ (Nat.le_of_ble_eq_true rfl) ⟨rfl, rfl⟩ (fun b10 => ?_)
    refine g_putF (hX 22 327 (Nat.le_of_ble_eq_true rfl) (Nat.le_of_ble_eq_true rfl)) hnm.cs dX6_init_58 flX6_34 rfl 0 rfl rfl rfl (Nat.le_of_ble_eq_true rfl) (ws2 := [(a0, .inr (6, [.ref q1, .ref q3, .ref q5, .ref q7, .ref q9, .null, .null, .null, .null, .null, .null]))] ++ pic_X5 D q1 (b2 1) 16 ((fun _ => 0), 0) ++ pic_X3 D q3 (b4 1) (b4 2) (b4 3) (b4 4) (b4 5) r0 ++ pic_X3 D q5 (b6 1) (b6 2) (b6 3) (b6 4) (b6 5) r0 ++ pic_X3 D q7 (b8 1) (b8 2) (b8 3) (b8 4) (b8 5) r0 ++ pic_X4 D q9 (b10 1) ((fun _ => 0), 0, 0, 0, 0, 0, false)) rfl (n := 61) rfl ?_
    refine g_aload_n (hX 22 327 (Nat.le_of_ble_eq_true rfl) (Nat.le_of_ble_eq_true rfl)) dX6_init_61 0 rfl rfl (n := 62) rfl ?_
    refine g_new (C := RX4) (T := TX4) (N := 7) (ci := 4) (c2 := 23) (n2 := 334) (fs := [.null, .int 0, .int 0, .int 0, .int 0, .int 0, .int 0]) (hX 22 327 (Nat.le_of_ble_eq_true rfl) (Nat.le_of_ble_eq_true rfl)) (hX 23 334 (Nat.le_of_ble_eq_true rfl) (Nat.le_of_ble_eq_true rfl)) inG4 tyX4_ok knX6_31 kn_X4_i kn_X4_d rfl (fun j hj => by rcases (show j = 0 ∨ j = 1 ∨ j = 2 ∨ j = 3 ∨ j = 4 ∨ j = 5 ∨ j = 6 by omega) with rfl | rfl | rfl | rfl | rfl | rfl | rfl <;> rfl) dX6_init_62 (n := 65) rfl ⟨rfl, rfl⟩ (fun q11 => ?_)
    refine g_dup (hX 23 334 (Nat.le_of_ble_eq_true rfl) (Nat.le_of_ble_eq_true rfl)) dX6_init_65 rfl (n := 66) rfl ?_
    refine g_ctor (hX 23 334 (Nat.le_of_ble_eq_true rfl) (Nat.le_of_ble_eq_true rfl)) (hX 24 360 (Nat.le_of_ble_eq_true rfl) (Nat.le_of_ble_eq_true rfl)) XS.cs (mX4_init (D := D) (l := l) (q := q) (v := v) (a0 := q11)) rfl lk0_X4_init ik_X4_init mlX6_33 dX6_init_66 (n := 69) rfl (st := [.ref q11, .ref a0]) rfl rfl rfl ⟨Nat.le_of_ble_eq_true rfl, Nat.le_of_ble_eq_true rfl⟩ (Nat.le_of_ble_eq_true rfl) ⟨rfl, rfl⟩ (fun b12 => ?_)
    refine g_putF (hX 24 360 (Nat.le_of_ble_eq_true rfl) (Nat.le_of_ble_eq_true rfl)) hnm.cs dX6_init_69 flX6_38 rfl 0 rfl rfl rfl (Nat.le_of_ble_eq_true rfl) (ws2 := [(a0, .inr (6, [.ref q1, .ref q3, .ref q5, .ref q7, .ref q9, .ref q11, .null, .null, .null, .null, .null]))] ++ pic_X5 D q1 (b2 1) 16 ((fun _ => 0), 0) ++ pic_X3 D q3 (b4 1) (b4 2) (b4 3) (b4 4) (b4 5) r0 ++ pic_X3 D q5 (b6 1) (b6 2) (b6 3) (b6 4) (b6 5) r0 ++ pic_X3 D q7 (b8 1) (b8 2) (b8 3) (b8 4) (b8 5) r0 ++ pic_X4 D q9 (b10 1) ((fun _ => 0), 0, 0, 0, 0, 0, false) ++ pic_X4 D q11 (b12 1) ((fun _ => 0), 0, 0, 0, 0, 0, false)) rfl (n := 72) rfl ?_
    refine g_aload_n (hX 24 360 (Nat.le_of_ble_eq_true rfl) (Nat.le_of_ble_eq_true rfl)) dX6_init_72 0 rfl rfl (n := 73) rfl ?_
    refine g_new (C := RX1) (T := TX1) (N := 5) (ci := 1) (c2 := 25) (n2 := 365) (fs := [.null, .null, .int 0, .int 0, .int 0]) (hX 24 360 (Nat.le_of_ble_eq_true rfl) (Nat.le_of_ble_eq_true rfl)) (hX 25 365 (Nat.le_of_ble_eq_true rfl) (Nat.le_of_ble_eq_true rfl)) inG1 tyX1_ok knX6_41 kn_X1_i kn_X1_d rfl (fun j hj => by rcases (show j = 0 ∨ j = 1 ∨ j = 2 ∨ j = 3 ∨ j = 4 by omega) with rfl | rfl | rfl | rfl | rfl <;> rfl) dX6_init_73 (n := 76) rfl ⟨rfl, rfl⟩ (fun q13 => ?_)
    refine g_dup (hX 25 365 (Nat.le_of_ble_eq_true rfl) (Nat.le_of_ble_eq_true rfl)) dX6_init_76 rfl (n := 77) rfl ?_
    refine g_ctor (hX 25 365 (Nat.le_of_ble_eq_true rfl) (Nat.le_of_ble_eq_true rfl)) (hX 27 4147 (Nat.le_of_ble_eq_true rfl) (Nat.le_of_ble_eq_true rfl)) XS.cs (mX1_init (D := D) (l := l) (q := q) (v := v) (a0 := q13) hf1) rfl lk0_X1_init ik_X1_init mlX6_43 dX6_init_77 (n := 80) rfl (st := [.ref q13, .ref a0]) rfl rfl rfl ⟨Nat.le_of_ble_eq_true rfl, Nat.le_of_ble_eq_true rfl⟩ (Nat.le_of_ble_eq_true rfl) ⟨rfl, rfl⟩ (fun b14 => ?_)
    refine g_putF (hX 27 4147 (Nat.le_of_ble_eq_true rfl) (Nat.le_of_ble_eq_true rfl)) hnm.cs dX6_init_80 flX6_44 rfl 0 rfl rfl rfl (Nat.le_of_ble_eq_true rfl) (ws2 := [(a0, .inr (6, [.ref q1, .ref q3, .ref q5, .ref q7, .ref q9, .ref q11, .ref q13, .null, .null, .null, .null]))] ++ pic_X5 D q1 (b2 1) 16 ((fun _ => 0), 0) ++ pic_X3 D q3 (b4 1) (b4 2) (b4 3) (b4 4) (b4 5) r0 ++ pic_X3 D q5 (b6 1) (b6 2) (b6 3) (b6 4) (b6 5) r0 ++ pic_X3 D q7 (b8 1) (b8 2) (b8 3) (b8 4) (b8 5) r0 ++ pic_X4 D q9 (b10 1) ((fun _ => 0), 0, 0, 0, 0, 0, false) ++ pic_X4 D q11 (b12 1) ((fun _ => 0), 0, 0, 0, 0, 0, false) ++ pic_X1 D q13 (b14 1) (b14 2) z0) rfl (n := 83) rfl ?_
    refine g_aload_n (hX 27 4147 (Nat.le_of_ble_eq_true rfl) (Nat.le_of_ble_eq_true rfl)) dX6_init_83 0 rfl rfl (n := 84) rfl ?_
    refine g_new (C := RX2) (T := TX2) (N := 3) (ci := 2) (c2 := 28) (n2 := 4150) (fs := [.null, .null, .int 0]) (hX 27 4147 (Nat.le_of_ble_eq_true rfl) (Nat.le_of_ble_eq_true rfl)) (hX 28 4150 (Nat.le_of_ble_eq_true rfl) (Nat.le_of_ble_eq_true rfl)) inG2 tyX2_ok knX6_48 kn_X2_i kn_X2_d rfl (fun j hj => by rcases (show j = 0 ∨ j = 1 ∨ j = 2 by omega) with rfl | rfl | rfl <;> rfl) dX6_init_84 (n := 87) rfl ⟨rfl, rfl⟩ (fun q15 => ?_)
    refine g_dup (hX 28 4150 (Nat.le_of_ble_eq_true rfl) (Nat.le_of_ble_eq_true rfl)) dX6_init_87 rfl (n := 88) rfl ?_
    refine g_ctor (hX 28 4150 (Nat.le_of_ble_eq_true rfl) (Nat.le_of_ble_eq_true rfl)) (hX 30 4172 (Nat.le_of_ble_eq_true rfl) (Nat.le_of_ble_eq_true rfl)) XS.cs (mX2_init (D := D) (l := l) (q := q) (v := v) (a0 := q15)) rfl lk0_X2_init ik_X2_init mlX6_50 dX6_init_88 (n := 91) rfl (st := [.ref q15, .ref a0]) rfl rfl rfl ⟨Nat.le_of_ble_eq_true rfl, Nat.le_of_ble_eq_true rfl⟩ (Nat.le_of_ble_eq_true rfl) ⟨rfl, rfl⟩ (fun b16 => ?_)
    refine g_putF (hX 30 4172 (Nat.le_of_ble_eq_true rfl) (Nat.le_of_ble_eq_true rfl)) hnm.cs dX6_init_91 flX6_51 rfl 0 rfl rfl rfl (Nat.le_of_ble_eq_true rfl) (ws2 := [(a0, .inr (6, [.ref q1, .ref q3, .ref q5, .ref q7, .ref q9, .ref q11, .ref q13, .ref q15, .null, .null, .null]))] ++ pic_X5 D q1 (b2 1) 16 ((fun _ => 0), 0) ++ pic_X3 D q3 (b4 1) (b4 2) (b4 3) (b4 4) (b4 5) r0 ++ pic_X3 D q5 (b6 1) (b6 2) (b6 3) (b6 4) (b6 5) r0 ++ pic_X3 D q7 (b8 1) (b8 2) (b8 3) (b8 4) (b8 5) r0 ++ pic_X4 D q9 (b10 1) ((fun _ => 0), 0, 0, 0, 0, 0, false) ++ pic_X4 D q11 (b12 1) ((fun _ => 0), 0, 0, 0, 0, 0, false) ++ pic_X1 D q13 (b14 1) (b14 2) z0 ++ pic_X2 D q15 (b16 1) (b16 2) ((fun _ => 0), (fun _ => 0), 0)) rfl (n := 94) rfl ?_
    refine g_aload_n (hX 30 4172 (Nat.le_of_ble_eq_true rfl) (Nat.le_of_ble_eq_true rfl)) dX6_init_94 0 rfl rfl (n := 95) rfl ?_
    refine g_new (C := RX0) (T := TX0) (N := 2) (ci := 0) (c2 := 31) (n2 := 4174) (fs := [.long 0, .long 0]) (hX 30 4172 (Nat.le_of_ble_eq_true rfl) (Nat.le_of_ble_eq_true rfl)) (hX 31 4174 (Nat.le_of_ble_eq_true rfl) (Nat.le_of_ble_eq_true rfl)) inG0 tyX0_ok knX6_55 kn_X0_i kn_X0_d rfl (fun j hj => by rcases (show j = 0 ∨ j = 1 by omega) with rfl | rfl <;> rfl) dX6_init_95 (n := 98) rfl ⟨rfl, rfl⟩ (fun q17 => ?_)
    refine g_dup (hX 31 4174 (Nat.le_of_ble_eq_true rfl) (Nat.le_of_ble_eq_true rfl)) dX6_init_98 rfl (n := 99) rfl ?_
    refine g_ctor (hX 31 4174 (Nat.le_of_ble_eq_true rfl) (Nat.le_of_ble_eq_true rfl)) (hX 31 4174 (Nat.le_of_ble_eq_true rfl) (Nat.le_of_ble_eq_true rfl)) XS.cs (mX0_init (D := D) (l := l) (q := q) (v := v) (a0 := q17)) rfl lk0_X0_init ik_X0_init mlX6_57 dX6_init_99 (n := 102) rfl (st := [.ref q17, .ref a0]) rfl rfl rfl ⟨Nat.le_of_ble_eq_true rfl, Nat.le_of_ble_eq_true rfl⟩ (Nat.le_of_ble_eq_true rfl) ⟨rfl, rfl⟩ (fun b18 => ?_)
    refine g_putF (hX 31 4174 (Nat.le_of_ble_eq_true rfl) (Nat.le_of_ble_eq_true rfl)) hnm.cs dX6_init_102 flX6_58 rfl 0 rfl rfl rfl (Nat.le_of_ble_eq_true rfl) (ws2 := [(a0, .inr (6, [.ref q1, .ref q3, .ref q5, .ref q7, .ref q9, .ref q11, .ref q13, .ref q15, .ref q17, .null, .null]))] ++ pic_X5 D q1 (b2 1) 16 ((fun _ => 0), 0) ++ pic_X3 D q3 (b4 1) (b4 2) (b4 3) (b4 4) (b4 5) r0 ++ pic_X3 D q5 (b6 1) (b6 2) (b6 3) (b6 4) (b6 5) r0 ++ pic_X3 D q7 (b8 1) (b8 2) (b8 3) (b8 4) (b8 5) r0 ++ pic_X4 D q9 (b10 1) ((fun _ => 0), 0, 0, 0, 0, 0, false) ++ pic_X4 D q11 (b12 1) ((fun _ => 0), 0, 0, 0, 0, 0, false) ++ pic_X1 D q13 (b14 1) (b14 2) z0 ++ pic_X2 D q15 (b16 1) (b16 2) ((fun _ => 0), (fun _ => 0), 0) ++ pic_X0 D q17 (0, 1)) rfl (n := 105) rfl ?_
    refine g_aload_n (hX 31 4174 (Nat.le_of_ble_eq_true rfl) (Nat.le_of_ble_eq_true rfl)) dX6_init_105 0 rfl rfl (n := 106) rfl ?_
    refine g_new (C := RX0) (T := TX0) (N := 2) (ci := 0) (c2 := 32) (n2 := 4176) (fs := [.long 0, .long 0]) (hX 31 4174 (Nat.le_of_ble_eq_true rfl) (Nat.le_of_ble_eq_true rfl)) (hX 32 4176 (Nat.le_of_ble_eq_true rfl) (Nat.le_of_ble_eq_true rfl)) inG0 tyX0_ok knX6_55 kn_X0_i kn_X0_d rfl (fun j hj => by rcases (show j = 0 ∨ j = 1 by omega) with rfl | rfl <;> rfl) dX6_init_106 (n := 109) rfl ⟨rfl, rfl⟩ (fun q19 => ?_)
    refine g_dup (hX 32 4176 (Nat.le_of_ble_eq_true rfl) (Nat.le_of_ble_eq_true rfl)) dX6_init_109 rfl (n := 110) rfl ?_
    refine g_ctor (hX 32 4176 (Nat.le_of_ble_eq_true rfl) (Nat.le_of_ble_eq_true rfl)) (hX 32 4176 (Nat.le_of_ble_eq_true rfl) (Nat.le_of_ble_eq_true rfl)) XS.cs (mX0_init (D := D) (l := l) (q := q) (v := v) (a0 := q19)) rfl lk0_X0_init ik_X0_init mlX6_57 dX6_init_110 (n := 113) rfl (st := [.ref q19, .ref a0]) rfl rfl rfl ⟨Nat.le_of_ble_eq_true rfl, Nat.le_of_ble_eq_true rfl⟩ (Nat.le_of_ble_eq_true rfl) ⟨rfl, rfl⟩ (fun b20 => ?_)
    refine g_putF (hX 32 4176 (Nat.le_of_ble_eq_true rfl) (Nat.le_of_ble_eq_true rfl)) hnm.cs dX6_init_113 flX6_62 rfl 0 rfl rfl rfl (Nat.le_of_ble_eq_true rfl) (ws2 := [(a0, .inr (6, [.ref q1, .ref q3, .ref q5, .ref q7, .ref q9, .ref q11, .ref q13, .ref q15, .ref q17, .ref q19, .null]))] ++ pic_X5 D q1 (b2 1) 16 ((fun _ => 0), 0) ++ pic_X3 D q3 (b4 1) (b4 2) (b4 3) (b4 4) (b4 5) r0 ++ pic_X3 D q5 (b6 1) (b6 2) (b6 3) (b6 4) (b6 5) r0 ++ pic_X3 D q7 (b8 1) (b8 2) (b8 3) (b8 4) (b8 5) r0 ++ pic_X4 D q9 (b10 1) ((fun _ => 0), 0, 0, 0, 0, 0, false) ++ pic_X4 D q11 (b12 1) ((fun _ => 0), 0, 0, 0, 0, 0, false) ++ pic_X1 D q13 (b14 1) (b14 2) z0 ++ pic_X2 D q15 (b16 1) (b16 2) ((fun _ => 0), (fun _ => 0), 0) ++ pic_X0 D q17 (0, 1) ++ pic_X0 D q19 (0, 1)) rfl (n := 116) rfl ?_
    refine g_aload_n (hX 32 4176 (Nat.le_of_ble_eq_true rfl) (Nat.le_of_ble_eq_true rfl)) dX6_init_116 0 rfl rfl (n := 117) rfl ?_
    refine g_bipush (hX 32 4176 (Nat.le_of_ble_eq_true rfl) (Nat.le_of_ble_eq_true rfl)) dX6_init_117 (v := 60) (by decide) (n := 119) rfl ?_
    refine g_newa (atype := .int) (ty := .int) (t0 := 0) (c2 := 33) (n2 := 4236) (a0 := (60, .inl (fun _ => 0))) (hX 32 4176 (Nat.le_of_ble_eq_true rfl) (Nat.le_of_ble_eq_true rfl)) (hX 33 4236 (Nat.le_of_ble_eq_true rfl) (Nat.le_of_ble_eq_true rfl)) ac_int rfl (fun _ h => by cases h) rfl dX6_init_119 (fun _ => rfl) (by decide) (by decide) (by decide) (n := 121) rfl ⟨rfl, rfl⟩ (fun q21 => ?_)
    refine g_putF (hX 33 4236 (Nat.le_of_ble_eq_true rfl) (Nat.le_of_ble_eq_true rfl)) hnm.cs dX6_init_121 flX6_65 rfl 0 rfl rfl rfl (Nat.le_of_ble_eq_true rfl) (ws2 := [(a0, .inr (6, [.ref q1, .ref q3, .ref q5, .ref q7, .ref q9, .ref q11, .ref q13, .ref q15, .ref q17, .ref q19, .ref q21]))] ++ pic_X5 D q1 (b2 1) 16 ((fun _ => 0), 0) ++ pic_X3 D q3 (b4 1) (b4 2) (b4 3) (b4 4) (b4 5) r0 ++ pic_X3 D q5 (b6 1) (b6 2) (b6 3) (b6 4) (b6 5) r0 ++ pic_X3 D q7 (b8 1) (b8 2) (b8 3) (b8 4) (b8 5) r0 ++ pic_X4 D q9 (b10 1) ((fun _ => 0), 0, 0, 0, 0, 0, false) ++ pic_X4 D q11 (b12 1) ((fun _ => 0), 0, 0, 0, 0, 0, false) ++ pic_X1 D q13 (b14 1) (b14 2) z0 ++ pic_X2 D q15 (b16 1) (b16 2) ((fun _ => 0), (fun _ => 0), 0) ++ pic_X0 D q17 (0, 1) ++ pic_X0 D q19 (0, 1) ++ [(q21, .inl (D.1 100, 60, .inl (fun _ => 0)))]) rfl (n := 124) rfl ?_
    refine g_eq (ws' := pic_X6 D (k_a0 a0 (fun i => [0, q1, b2 1, q3, b4 1, b4 2, b4 3, b4 4, b4 5, q5, b6 1, b6 2, b6 3, b6 4, b6 5, q7, b8 1, b8 2, b8 3, b8 4, b8 5, q9, b10 1, q11, b12 1, q13, b14 1, b14 2, q15, b16 1, b16 2, q17, q19, q21].getD i 0)) ((fun _ => 0), 0) r0 r0 r0 ((fun _ => 0), 0, 0, 0, 0, 0, false) ((fun _ => 0), 0, 0, 0, 0, 0, false) z0 ((fun _ => 0), (fun _ => 0), 0) (0, 1) (0, 1) (fun _ => 0)) rfl rfl rfl ?_
    exact hret _ _ _ dX6_init_124)
set_option maxRecDepth 100000 in
set_option maxHeartbeats 4000000 in
theorem mX7_init {l : Launch} {D : va_G} {q v a0 N : Nat} {res : VMg × (Nat → Int64)} (hf : fX7_init N ((fun _ => 0), (fun _ => 0), (fun _ => 0), (fun _ => 0), 30, 11, (fun _ => 0)) (fun _ => 0) = some res) : k_MetC l yX7_init cX7_init 3 none 1 20 13 4122 D [.ref a0] q v [(a0, .inr (7, [.int 0, .null, .null, .null, .null, .null, .int 0, .int 0, .null, .null, .int 0, .int 0, .int 0, .int 0, .int 0, .int 0, .null, .null, .null, .long 0, .long 0, .int 0, .int 0, .long 0, .long 0, .null, .null, .null]))] none (fun a => pic_X7 D (k_a0 a0 a) ((fun _ => 0), 0) res.1 res.2 ((fun _ => 0), 0, 0, 0, 0, 0, false) ((fun _ => 0), (fun _ => 0), 0, 0) (0, 0) (0, 0) (fun _ => 0) ((fun _ => 0), (fun _ => 0))) :=
  k_ofC (by decide) rfl (Nat.le_of_ble_eq_true rfl) (fun E hX XS hnm hret => by
    refine g_aload_n (hX 0 0 (Nat.le_of_ble_eq_true rfl) (Nat.le_of_ble_eq_true rfl)) dX7_init_0 0 rfl rfl (n := 1) rfl ?_
    refine g_objInit (hX 0 0 (Nat.le_of_ble_eq_true rfl) (Nat.le_of_ble_eq_true rfl)) mlX7_1 lkO1 lkO2 dX7_init_1 (n := 4) rfl ⟨Nat.le_of_ble_eq_true rfl, Nat.le_of_ble_eq_true rfl⟩ (Nat.le_of_ble_eq_true rfl) ?_
    refine g_aload_n (hX 0 0 (Nat.le_of_ble_eq_true rfl) (Nat.le_of_ble_eq_true rfl)) dX7_init_4 0 rfl rfl (n := 5) rfl ?_
    refine g_bipush (hX 0 0 (Nat.le_of_ble_eq_true rfl) (Nat.le_of_ble_eq_true rfl)) dX7_init_5 (v := 16) (by decide) (n := 7) rfl ?_
    refine g_newa (atype := .int) (ty := .int) (t0 := 0) (c2 := 1) (n2 := 16) (a0 := (16, .inl (fun _ => 0))) (hX 0 0 (Nat.le_of_ble_eq_true rfl) (Nat.le_of_ble_eq_true rfl)) (hX 1 16 (Nat.le_of_ble_eq_true rfl) (Nat.le_of_ble_eq_true rfl)) ac_int rfl (fun _ h => by cases h) rfl dX7_init_7 (fun _ => rfl) (by decide) (by decide) (by decide) (n := 9) rfl ⟨rfl, rfl⟩ (fun q1 => ?_)
    refine g_putF (hX 1 16 (Nat.le_of_ble_eq_true rfl) (Nat.le_of_ble_eq_true rfl)) hnm.cs dX7_init_9 flX7_7 rfl 0 rfl rfl rfl (Nat.le_of_ble_eq_true rfl) (ws2 := [(a0, .inr (7, [.int 0, .ref q1, .null, .null, .null, .null, .int 0, .int 0, .null, .null, .int 0, .int 0, .int 0, .int 0, .int 0, .int 0, .null, .null, .null, .long 0, .long 0, .int 0, .int 0, .long 0, .long 0, .null, .null, .null]))] ++ [(q1, .inl (D.1 100, 16, .inl (fun _ => 0)))]) rfl (n := 12) rfl ?_
    refine g_aload_n (hX 1 16 (Nat.le_of_ble_eq_true rfl) (Nat.le_of_ble_eq_true rfl)) dX7_init_12 0 rfl rfl (n := 13) rfl ?_
    refine g_bipush (hX 1 16 (Nat.le_of_ble_eq_true rfl) (Nat.le_of_ble_eq_true rfl)) dX7_init_13 (v := 6) (by decide) (n := 15) rfl ?_
    refine g_newa (atype := .int) (ty := .int) (t0 := 0) (c2 := 2) (n2 := 22) (a0 := (6, .inl (fun _ => 0))) (hX 1 16 (Nat.le_of_ble_eq_true rfl) (Nat.le_of_ble_eq_true rfl)) (hX 2 22 (Nat.le_of_ble_eq_true rfl) (Nat.le_of_ble_eq_true rfl)) ac_int rfl (fun _ h => by cases h) rfl dX7_init_15 (fun _ => rfl) (by decide) (by decide) (by decide) (n := 17) rfl ⟨rfl, rfl⟩ (fun q2 => ?_)
    refine g_putF (hX 2 22 (Nat.le_of_ble_eq_true rfl) (Nat.le_of_ble_eq_true rfl)) hnm.cs dX7_init_17 flX7_13 rfl 0 rfl rfl rfl (Nat.le_of_ble_eq_true rfl) (ws2 := [(a0, .inr (7, [.int 0, .ref q1, .ref q2, .null, .null, .null, .int 0, .int 0, .null, .null, .int 0, .int 0, .int 0, .int 0, .int 0, .int 0, .null, .null, .null, .long 0, .long 0, .int 0, .int 0, .long 0, .long 0, .null, .null, .null]))] ++ [(q1, .inl (D.1 100, 16, .inl (fun _ => 0)))] ++ [(q2, .inl (D.1 100, 6, .inl (fun _ => 0)))]) rfl (n := 20) rfl ?_
    refine g_aload_n (hX 2 22 (Nat.le_of_ble_eq_true rfl) (Nat.le_of_ble_eq_true rfl)) dX7_init_20 0 rfl rfl (n := 21) rfl ?_
    refine g_bipush (hX 2 22 (Nat.le_of_ble_eq_true rfl) (Nat.le_of_ble_eq_true rfl)) dX7_init_21 (v := 6) (by decide) (n := 23) rfl ?_
    refine g_newa (atype := .int) (ty := .int) (t0 := 0) (c2 := 3) (n2 := 28) (a0 := (6, .inl (fun _ => 0))) (hX 2 22 (Nat.le_of_ble_eq_true rfl) (Nat.le_of_ble_eq_true rfl)) (hX 3 28 (Nat.le_of_ble_eq_true rfl) (Nat.le_of_ble_eq_true rfl)) ac_int rfl (fun _ h => by cases h) rfl dX7_init_23 (fun _ => rfl) (by decide) (by decide) (by decide) (n := 25) rfl ⟨rfl, rfl⟩ (fun q3 => ?_)
    refine g_putF (hX 3 28 (Nat.le_of_ble_eq_true rfl) (Nat.le_of_ble_eq_true rfl)) hnm.cs dX7_init_25 flX7_16 rfl 0 rfl rfl rfl (Nat.le_of_ble_eq_true rfl) (ws2 := [(a0, .inr (7, [.int 0, .ref q1, .ref q2, .ref q3, .null, .null, .int 0, .int 0, .null, .null, .int 0, .int 0, .int 0, .int 0, .int 0, .int 0, .null, .null, .null, .long 0, .long 0, .int 0, .int 0, .long 0, .long 0, .null, .null, .null]))] ++ [(q1, .inl (D.1 100, 16, .inl (fun _ => 0)))] ++ [(q2, .inl (D.1 100, 6, .inl (fun _ => 0)))] ++ [(q3, .inl (D.1 100, 6, .inl (fun _ => 0)))]) rfl (n := 28) rfl ?_
    refine g_aload_n (hX 3 28 (Nat.le_of_ble_eq_true rfl) (Nat.le_of_ble_eq_true rfl)) dX7_init_28 0 rfl rfl (n := 29) rfl ?_
    refine g_bipush (hX 3 28 (Nat.le_of_ble_eq_true rfl) (Nat.le_of_ble_eq_true rfl)) dX7_init_29 (v := 6) (by decide) (n := 31) rfl ?_
    refine g_newa (atype := .int) (ty := .int) (t0 := 0) (c2 := 4) (n2 := 34) (a0 := (6, .inl (fun _ => 0))) (hX 3 28 (Nat.le_of_ble_eq_true rfl) (Nat.le_of_ble_eq_true rfl)) (hX 4 34 (Nat.le_of_ble_eq_true rfl) (Nat.le_of_ble_eq_true rfl)) ac_int rfl (fun _ h => by cases h) rfl dX7_init_31 (fun _ => rfl) (by decide) (by decide) (by decide) (n := 33) rfl ⟨rfl, rfl⟩ (fun q4 => ?_)
    refine g_putF (hX 4 34 (Nat.le_of_ble_eq_true rfl) (Nat.le_of_ble_eq_true rfl)) hnm.cs dX7_init_33 flX7_19 rfl 0 rfl rfl rfl (Nat.le_of_ble_eq_true rfl) (ws2 := [(a0, .inr (7, [.int 0, .ref q1, .ref q2, .ref q3, .ref q4, .null, .int 0, .int 0, .null, .null, .int 0, .int 0, .int 0, .int 0, .int 0, .int 0, .null, .null, .null, .long 0, .long 0, .int 0, .int 0, .long 0, .long 0, .null, .null, .null]))] ++ [(q1, .inl (D.1 100, 16, .inl (fun _ => 0)))] ++ [(q2, .inl (D.1 100, 6, .inl (fun _ => 0)))] ++ [(q3, .inl (D.1 100, 6, .inl (fun _ => 0)))] ++ [(q4, .inl (D.1 100, 6, .inl (fun _ => 0)))]) rfl (n := 36) rfl ?_
    refine g_aload_n (hX 4 34 (Nat.le_of_ble_eq_true rfl) (Nat.le_of_ble_eq_true rfl)) dX7_init_36 0 rfl rfl (n := 37) rfl ?_
    refine g_bipush (hX 4 34 (Nat.le_of_ble_eq_true rfl) (Nat.le_of_ble_eq_true rfl)) dX7_init_37 (v := 60) (by decide) (n := 39) rfl ?_
    refine g_newa (atype := .int) (ty := .int) (t0 := 0) (c2 := 5) (n2 := 94) (a0 := (60, .inl (fun _ => 0))) (hX 4 34 (Nat.le_of_ble_eq_true rfl) (Nat.le_of_ble_eq_true rfl)) (hX 5 94 (Nat.le_of_ble_eq_true rfl) (Nat.le_of_ble_eq_true rfl)) ac_int rfl (fun _ h => by cases h) rfl dX7_init_39 (fun _ => rfl) (by decide) (by decide) (by decide) (n := 41) rfl ⟨rfl, rfl⟩ (fun q5 => ?_)
    refine g_putF (hX 5 94 (Nat.le_of_ble_eq_true rfl) (Nat.le_of_ble_eq_true rfl)) hnm.cs dX7_init_41 flX7_22 rfl 0 rfl rfl rfl (Nat.le_of_ble_eq_true rfl) (ws2 := [(a0, .inr (7, [.int 0, .ref q1, .ref q2, .ref q3, .ref q4, .ref q5, .int 0, .int 0, .null, .null, .int 0, .int 0, .int 0, .int 0, .int 0, .int 0, .null, .null, .null, .long 0, .long 0, .int 0, .int 0, .long 0, .long 0, .null, .null, .null]))] ++ [(q1, .inl (D.1 100, 16, .inl (fun _ => 0)))] ++ [(q2, .inl (D.1 100, 6, .inl (fun _ => 0)))] ++ [(q3, .inl (D.1 100, 6, .inl (fun _ => 0)))] ++ [(q4, .inl (D.1 100, 6, .inl (fun _ => 0)))] ++ [(q5, .inl (D.1 100, 60, .inl (fun _ => 0)))]) rfl (n := 44) rfl ?_
    refine g_aload_n (hX 5 94 (Nat.le_of_ble_eq_true rfl) (Nat.le_of_ble_eq_true rfl)) dX7_init_44 0 rfl rfl (n := 45) rfl ?_
    refine g_bipush (hX 5 94 (Nat.le_of_ble_eq_true rfl) (Nat.le_of_ble_eq_true rfl)) dX7_init_45 (v := 30) (by decide) (n := 47) rfl ?_
    refine g_put (hX 5 94 (Nat.le_of_ble_eq_true rfl) (Nat.le_of_ble_eq_true rfl)) dX7_init_47 flX7_25 0 rfl rfl rfl (Nat.le_of_ble_eq_true rfl) (ws2 := [(a0, .inr (7, [.int 0, .ref q1, .ref q2, .ref q3, .ref q4, .ref q5, .int 30, .int 0, .null, .null, .int 0, .int 0, .int 0, .int 0, .int 0, .int 0, .null, .null, .null, .long 0, .long 0, .int 0, .int 0, .long 0, .long 0, .null, .null, .null]))] ++ [(q1, .inl (D.1 100, 16, .inl (fun _ => 0)))] ++ [(q2, .inl (D.1 100, 6, .inl (fun _ => 0)))] ++ [(q3, .inl (D.1 100, 6, .inl (fun _ => 0)))] ++ [(q4, .inl (D.1 100, 6, .inl (fun _ => 0)))] ++ [(q5, .inl (D.1 100, 60, .inl (fun _ => 0)))]) rfl (n := 50) rfl ?_
    refine g_aload_n (hX 5 94 (Nat.le_of_ble_eq_true rfl) (Nat.le_of_ble_eq_true rfl)) dX7_init_50 0 rfl rfl (n := 51) rfl ?_
    refine g_bipush (hX 5 94 (Nat.le_of_ble_eq_true rfl) (Nat.le_of_ble_eq_true rfl)) dX7_init_51 (v := 11) (by decide) (n := 53) rfl ?_
    refine g_put (hX 5 94 (Nat.le_of_ble_eq_true rfl) (Nat.le_of_ble_eq_true rfl)) dX7_init_53 flX7_29 0 rfl rfl rfl (Nat.le_of_ble_eq_true rfl) (ws2 := [(a0, .inr (7, [.int 0, .ref q1, .ref q2, .ref q3, .ref q4, .ref q5, .int 30, .int 11, .null, .null, .int 0, .int 0, .int 0, .int 0, .int 0, .int 0, .null, .null, .null, .long 0, .long 0, .int 0, .int 0, .long 0, .long 0, .null, .null, .null]))] ++ [(q1, .inl (D.1 100, 16, .inl (fun _ => 0)))] ++ [(q2, .inl (D.1 100, 6, .inl (fun _ => 0)))] ++ [(q3, .inl (D.1 100, 6, .inl (fun _ => 0)))] ++ [(q4, .inl (D.1 100, 6, .inl (fun _ => 0)))] ++ [(q5, .inl (D.1 100, 60, .inl (fun _ => 0)))]) rfl (n := 56) rfl ?_
    refine g_aload_n (hX 5 94 (Nat.le_of_ble_eq_true rfl) (Nat.le_of_ble_eq_true rfl)) dX7_init_56 0 rfl rfl (n := 57) rfl ?_
    refine g_bipush (hX 5 94 (Nat.le_of_ble_eq_true rfl) (Nat.le_of_ble_eq_true rfl)) dX7_init_57 (v := 11) (by decide) (n := 59) rfl ?_
    refine g_newa (atype := .int) (ty := .int) (t0 := 0) (c2 := 6) (n2 := 105) (a0 := (11, .inl (fun _ => 0))) (hX 5 94 (Nat.le_of_ble_eq_true rfl) (Nat.le_of_ble_eq_true rfl)) (hX 6 105 (Nat.le_of_ble_eq_true rfl) (Nat.le_of_ble_eq_true rfl)) ac_int rfl (fun _ h => by cases h) rfl dX7_init_59 (fun _ => rfl) (by decide) (by decide) (by decide) (n := 61) rfl ⟨rfl, rfl⟩ (fun q6 => ?_)
    refine g_putF (hX 6 105 (Nat.le_of_ble_eq_true rfl) (Nat.le_of_ble_eq_true rfl)) hnm.cs dX7_init_61 flX7_32 rfl 0 rfl rfl rfl (Nat.le_of_ble_eq_true rfl) (ws2 := [(a0, .inr (7, [.int 0, .ref q1, .ref q2, .ref q3, .ref q4, .ref q5, .int 30, .int 11, .ref q6, .null, .int 0, .int 0, .int 0, .int 0, .int 0, .int 0, .null, .null, .null, .long 0, .long 0, .int 0, .int 0, .long 0, .long 0, .null, .null, .null]))] ++ [(q1, .inl (D.1 100, 16, .inl (fun _ => 0)))] ++ [(q2, .inl (D.1 100, 6, .inl (fun _ => 0)))] ++ [(q3, .inl (D.1 100, 6, .inl (fun _ => 0)))] ++ [(q4, .inl (D.1 100, 6, .inl (fun _ => 0)))] ++ [(q5, .inl (D.1 100, 60, .inl (fun _ => 0)))] ++ [(q6, .inl (D.1 100, 11, .inl (fun _ => 0)))]) rfl (n := 64) rfl ?_
    refine g_aload_n (hX 6 105 (Nat.le_of_ble_eq_true rfl) (Nat.le_of_ble_eq_true rfl)) dX7_init_64 0 rfl rfl (n := 65) rfl ?_
    refine g_sipush (hX 6 105 (Nat.le_of_ble_eq_true rfl) (Nat.le_of_ble_eq_true rfl)) dX7_init_65 (v := 3721) (by decide) (n := 68) rfl ?_
    refine g_newa (atype := .long) (ty := .long) (t0 := 1) (c2 := 7) (n2 := 3826) (a0 := (3721, .inr (.inl (fun _ => 0)))) (hX 6 105 (Nat.le_of_ble_eq_true rfl) (Nat.le_of_ble_eq_true rfl)) (hX 7 3826 (Nat.le_of_ble_eq_true rfl) (Nat.le_of_ble_eq_true rfl)) ac_long rfl (fun _ h => by cases h) rfl dX7_init_68 (fun _ => rfl) (by decide) (by decide) (by decide) (n := 70) rfl ⟨rfl, rfl⟩ (fun q7 => ?_)
    refine g_putF (hX 7 3826 (Nat.le_of_ble_eq_true rfl) (Nat.le_of_ble_eq_true rfl)) hnm.cs dX7_init_70 flX7_35 rfl 0 rfl rfl rfl (Nat.le_of_ble_eq_true rfl) (ws2 := [(a0, .inr (7, [.int 0, .ref q1, .ref q2, .ref q3, .ref q4, .ref q5, .int 30, .int 11, .ref q6, .ref q7, .int 0, .int 0, .int 0, .int 0, .int 0, .int 0, .null, .null, .null, .long 0, .long 0, .int 0, .int 0, .long 0, .long 0, .null, .null, .null]))] ++ [(q1, .inl (D.1 100, 16, .inl (fun _ => 0)))] ++ [(q2, .inl (D.1 100, 6, .inl (fun _ => 0)))] ++ [(q3, .inl (D.1 100, 6, .inl (fun _ => 0)))] ++ [(q4, .inl (D.1 100, 6, .inl (fun _ => 0)))] ++ [(q5, .inl (D.1 100, 60, .inl (fun _ => 0)))] ++ [(q6, .inl (D.1 100, 11, .inl (fun _ => 0)))] ++ [(q7, .inl (D.1 101, 3721, .inr (.inl (fun _ => 0))))]) rfl (n := 73) rfl ?_
    refine g_aload_n (hX 7 3826 (Nat.le_of_ble_eq_true rfl) (Nat.le_of_ble_eq_true rfl)) dX7_init_73 0 rfl rfl (n := 74) rfl ?_
    refine g_bipush (hX 7 3826 (Nat.le_of_ble_eq_true rfl) (Nat.le_of_ble_eq_true rfl)) dX7_init_74 (v := 26) (by decide) (n := 76) rfl ?_
    refine g_newa (atype := .int) (ty := .int) (t0 := 0) (c2 := 8) (n2 := 3852) (a0 := (26, .inl (fun _ => 0))) (hX 7 3826 (Nat.le_of_ble_eq_true rfl) (Nat.le_of_ble_eq_true rfl)) (hX 8 3852 (Nat.le_of_ble_eq_true rfl) (Nat.le_of_ble_eq_true rfl)) ac_int rfl (fun _ h => by cases h) rfl dX7_init_76 (fun _ => rfl) (by decide) (by decide) (by decide) (n := 78) rfl ⟨rfl, rfl⟩ (fun q8 => ?_)
    refine g_putF (hX 8 3852 (Nat.le_of_ble_eq_true rfl) (Nat.le_of_ble_eq_true rfl)) hnm.cs dX7_init_78 flX7_39 rfl 0 rfl rfl rfl (Nat.le_of_ble_eq_true rfl) (ws2 := [(a0, .inr (7, [.int 0, .ref q1, .ref q2, .ref q3, .ref q4, .ref q5, .int 30, .int 11, .ref q6, .ref q7, .int 0, .int 0, .int 0, .int 0, .int 0, .int 0, .ref q8, .null, .null, .long 0, .long 0, .int 0, .int 0, .long 0, .long 0, .null, .null, .null]))] ++ [(q1, .inl (D.1 100, 16, .inl (fun _ => 0)))] ++ [(q2, .inl (D.1 100, 6, .inl (fun _ => 0)))] ++ [(q3, .inl (D.1 100, 6, .inl (fun _ => 0)))] ++ [(q4, .inl (D.1 100, 6, .inl (fun _ => 0)))] ++ [(q5, .inl (D.1 100, 60, .inl (fun _ => 0)))] ++ [(q6, .inl (D.1 100, 11, .inl (fun _ => 0)))] ++ [(q7, .inl (D.1 101, 3721, .inr (.inl (fun _ => 0))))] ++ [(q8, .inl (D.1 100, 26, .inl (fun _ => 0)))]) rfl (n := 81) rfl ?_
    refine g_aload_n (hX 8 3852 (Nat.le_of_ble_eq_true rfl) (Nat.le_of_ble_eq_true rfl)) dX7_init_81 0 rfl rfl (n := 82) rfl ?_
    refine g_bipush (hX 8 3852 (Nat.le_of_ble_eq_true rfl) (Nat.le_of_ble_eq_true rfl)) dX7_init_82 (v := 12) (by decide) (n := 84) rfl ?_
    refine g_newa (atype := .long) (ty := .long) (t0 := 1) (c2 := 9) (n2 := 3864) (a0 := (12, .inr (.inl (fun _ => 0)))) (hX 8 3852 (Nat.le_of_ble_eq_true rfl) (Nat.le_of_ble_eq_true rfl)) (hX 9 3864 (Nat.le_of_ble_eq_true rfl) (Nat.le_of_ble_eq_true rfl)) ac_long rfl (fun _ h => by cases h) rfl dX7_init_84 (fun _ => rfl) (by decide) (by decide) (by decide) (n := 86) rfl ⟨rfl, rfl⟩ (fun q9 => ?_)
    refine g_putF (hX 9 3864 (Nat.le_of_ble_eq_true rfl) (Nat.le_of_ble_eq_true rfl)) hnm.cs dX7_init_86 flX7_42 rfl 0 rfl rfl rfl (Nat.le_of_ble_eq_true rfl) (ws2 := [(a0, .inr (7, [.int 0, .ref q1, .ref q2, .ref q3, .ref q4, .ref q5, .int 30, .int 11, .ref q6, .ref q7, .int 0, .int 0, .int 0, .int 0, .int 0, .int 0, .ref q8, .ref q9, .null, .long 0, .long 0, .int 0, .int 0, .long 0, .long 0, .null, .null, .null]))] ++ [(q1, .inl (D.1 100, 16, .inl (fun _ => 0)))] ++ [(q2, .inl (D.1 100, 6, .inl (fun _ => 0)))] ++ [(q3, .inl (D.1 100, 6, .inl (fun _ => 0)))] ++ [(q4, .inl (D.1 100, 6, .inl (fun _ => 0)))] ++ [(q5, .inl (D.1 100, 60, .inl (fun _ => 0)))] ++ [(q6, .inl (D.1 100, 11, .inl (fun _ => 0)))] ++ [(q7, .inl (D.1 101, 3721, .inr (.inl (fun _ => 0))))] ++ [(q8, .inl (D.1 100, 26, .inl (fun _ => 0)))] ++ [(q9, .inl (D.1 101, 12, .inr (.inl (fun _ => 0))))]) rfl (n := 89) rfl ?_
    refine g_aload_n (hX 9 3864 (Nat.le_of_ble_eq_true rfl) (Nat.le_of_ble_eq_true rfl)) dX7_init_89 0 rfl rfl (n := 90) rfl ?_
    refine g_bipush (hX 9 3864 (Nat.le_of_ble_eq_true rfl) (Nat.le_of_ble_eq_true rfl)) dX7_init_90 (v := 12) (by decide) (n := 92) rfl ?_
    refine g_newa (atype := .long) (ty := .long) (t0 := 1) (c2 := 10) (n2 := 3876) (a0 := (12, .inr (.inl (fun _ => 0)))) (hX 9 3864 (Nat.le_of_ble_eq_true rfl) (Nat.le_of_ble_eq_true rfl)) (hX 10 3876 (Nat.le_of_ble_eq_true rfl) (Nat.le_of_ble_eq_true rfl)) ac_long rfl (fun _ h => by cases h) rfl dX7_init_92 (fun _ => rfl) (by decide) (by decide) (by decide) (n := 94) rfl ⟨rfl, rfl⟩ (fun q10 => ?_)
    refine g_putF (hX 10 3876 (Nat.le_of_ble_eq_true rfl) (Nat.le_of_ble_eq_true rfl)) hnm.cs dX7_init_94 flX7_45 rfl 0 rfl rfl rfl (Nat.le_of_ble_eq_true rfl) (ws2 := [(a0, .inr (7, [.int 0, .ref q1, .ref q2, .ref q3, .ref q4, .ref q5, .int 30, .int 11, .ref q6, .ref q7, .int 0, .int 0, .int 0, .int 0, .int 0, .int 0, .ref q8, .ref q9, .ref q10, .long 0, .long 0, .int 0, .int 0, .long 0, .long 0, .null, .null, .null]))] ++ [(q1, .inl (D.1 100, 16, .inl (fun _ => 0)))] ++ [(q2, .inl (D.1 100, 6, .inl (fun _ => 0)))] ++ [(q3, .inl (D.1 100, 6, .inl (fun _ => 0)))] ++ [(q4, .inl (D.1 100, 6, .inl (fun _ => 0)))] ++ [(q5, .inl (D.1 100, 60, .inl (fun _ => 0)))] ++ [(q6, .inl (D.1 100, 11, .inl (fun _ => 0)))] ++ [(q7, .inl (D.1 101, 3721, .inr (.inl (fun _ => 0))))] ++ [(q8, .inl (D.1 100, 26, .inl (fun _ => 0)))] ++ [(q9, .inl (D.1 101, 12, .inr (.inl (fun _ => 0))))] ++ [(q10, .inl (D.1 101, 12, .inr (.inl (fun _ => 0))))]) rfl (n := 97) rfl ?_
    refine g_aload_n (hX 10 3876 (Nat.le_of_ble_eq_true rfl) (Nat.le_of_ble_eq_true rfl)) dX7_init_97 0 rfl rfl (n := 98) rfl ?_
    refine g_bipush (hX 10 3876 (Nat.le_of_ble_eq_true rfl) (Nat.le_of_ble_eq_true rfl)) dX7_init_98 (v := 60) (by decide) (n := 100) rfl ?_
    refine g_newa (atype := .int) (ty := .int) (t0 := 0) (c2 := 11) (n2 := 3936) (a0 := (60, .inl (fun _ => 0))) (hX 10 3876 (Nat.le_of_ble_eq_true rfl) (Nat.le_of_ble_eq_true rfl)) (hX 11 3936 (Nat.le_of_ble_eq_true rfl) (Nat.le_of_ble_eq_true rfl)) ac_int rfl (fun _ h => by cases h) rfl dX7_init_100 (fun _ => rfl) (by decide) (by decide) (by decide) (n := 102) rfl ⟨rfl, rfl⟩ (fun q11 => ?_)
    refine g_putF (hX 11 3936 (Nat.le_of_ble_eq_true rfl) (Nat.le_of_ble_eq_true rfl)) hnm.cs dX7_init_102 flX7_48 rfl 0 rfl rfl rfl (Nat.le_of_ble_eq_true rfl) (ws2 := [(a0, .inr (7, [.int 0, .ref q1, .ref q2, .ref q3, .ref q4, .ref q5, .int 30, .int 11, .ref q6, .ref q7, .int 0, .int 0, .int 0, .int 0, .int 0, .int 0, .ref q8, .ref q9, .ref q10, .long 0, .long 0, .int 0, .int 0, .long 0, .long 0, .ref q11, .null, .null]))] ++ [(q1, .inl (D.1 100, 16, .inl (fun _ => 0)))] ++ [(q2, .inl (D.1 100, 6, .inl (fun _ => 0)))] ++ [(q3, .inl (D.1 100, 6, .inl (fun _ => 0)))] ++ [(q4, .inl (D.1 100, 6, .inl (fun _ => 0)))] ++ [(q5, .inl (D.1 100, 60, .inl (fun _ => 0)))] ++ [(q6, .inl (D.1 100, 11, .inl (fun _ => 0)))] ++ [(q7, .inl (D.1 101, 3721, .inr (.inl (fun _ => 0))))] ++ [(q8, .inl (D.1 100, 26, .inl (fun _ => 0)))] ++ [(q9, .inl (D.1 101, 12, .inr (.inl (fun _ => 0))))] ++ [(q10, .inl (D.1 101, 12, .inr (.inl (fun _ => 0))))] ++ [(q11, .inl (D.1 100, 60, .inl (fun _ => 0)))]) rfl (n := 105) rfl ?_
    refine g_aload_n (hX 11 3936 (Nat.le_of_ble_eq_true rfl) (Nat.le_of_ble_eq_true rfl)) dX7_init_105 0 rfl rfl (n := 106) rfl ?_
    refine g_sipush (hX 11 3936 (Nat.le_of_ble_eq_true rfl) (Nat.le_of_ble_eq_true rfl)) dX7_init_106 (v := 184) (by decide) (n := 109) rfl ?_
    refine g_newa (atype := .int) (ty := .int) (t0 := 0) (c2 := 12) (n2 := 4120) (a0 := (184, .inl (fun _ => 0))) (hX 11 3936 (Nat.le_of_ble_eq_true rfl) (Nat.le_of_ble_eq_true rfl)) (hX 12 4120 (Nat.le_of_ble_eq_true rfl) (Nat.le_of_ble_eq_true rfl)) ac_int rfl (fun _ h => by cases h) rfl dX7_init_109 (fun _ => rfl) (by decide) (by decide) (by decide) (n := 111) rfl ⟨rfl, rfl⟩ (fun q12 => ?_)
    refine g_putF (hX 12 4120 (Nat.le_of_ble_eq_true rfl) (Nat.le_of_ble_eq_true rfl)) hnm.cs dX7_init_111 flX7_51 rfl 0 rfl rfl rfl (Nat.le_of_ble_eq_true rfl) (ws2 := [(a0, .inr (7, [.int 0, .ref q1, .ref q2, .ref q3, .ref q4, .ref q5, .int 30, .int 11, .ref q6, .ref q7, .int 0, .int 0, .int 0, .int 0, .int 0, .int 0, .ref q8, .ref q9, .ref q10, .long 0, .long 0, .int 0, .int 0, .long 0, .long 0, .ref q11, .ref q12, .null]))] ++ [(q1, .inl (D.1 100, 16, .inl (fun _ => 0)))] ++ [(q2, .inl (D.1 100, 6, .inl (fun _ => 0)))] ++ [(q3, .inl (D.1 100, 6, .inl (fun _ => 0)))] ++ [(q4, .inl (D.1 100, 6, .inl (fun _ => 0)))] ++ [(q5, .inl (D.1 100, 60, .inl (fun _ => 0)))] ++ [(q6, .inl (D.1 100, 11, .inl (fun _ => 0)))] ++ [(q7, .inl (D.1 101, 3721, .inr (.inl (fun _ => 0))))] ++ [(q8, .inl (D.1 100, 26, .inl (fun _ => 0)))] ++ [(q9, .inl (D.1 101, 12, .inr (.inl (fun _ => 0))))] ++ [(q10, .inl (D.1 101, 12, .inr (.inl (fun _ => 0))))] ++ [(q11, .inl (D.1 100, 60, .inl (fun _ => 0)))] ++ [(q12, .inl (D.1 100, 184, .inl (fun _ => 0)))]) rfl (n := 114) rfl ?_
    refine g_aload_n (hX 12 4120 (Nat.le_of_ble_eq_true rfl) (Nat.le_of_ble_eq_true rfl)) dX7_init_114 0 rfl rfl (n := 115) rfl ?_
    refine g_iconst (hX 12 4120 (Nat.le_of_ble_eq_true rfl) (Nat.le_of_ble_eq_true rfl)) dX7_init_115 (v := 2) (by decide) (n := 116) rfl ?_
    refine g_newa (atype := .boolean) (ty := .boolean) (t0 := 2) (c2 := 13) (n2 := 4122) (a0 := (2, .inl (fun _ => 0))) (hX 12 4120 (Nat.le_of_ble_eq_true rfl) (Nat.le_of_ble_eq_true rfl)) (hX 13 4122 (Nat.le_of_ble_eq_true rfl) (Nat.le_of_ble_eq_true rfl)) ac_boolean rfl (fun _ h => by cases h) rfl dX7_init_116 (fun _ => rfl) (by decide) (by decide) (by decide) (n := 118) rfl ⟨rfl, rfl⟩ (fun q13 => ?_)
    refine g_putF (hX 13 4122 (Nat.le_of_ble_eq_true rfl) (Nat.le_of_ble_eq_true rfl)) hnm.cs dX7_init_118 flX7_54 rfl 0 rfl rfl rfl (Nat.le_of_ble_eq_true rfl) (ws2 := [(a0, .inr (7, [.int 0, .ref q1, .ref q2, .ref q3, .ref q4, .ref q5, .int 30, .int 11, .ref q6, .ref q7, .int 0, .int 0, .int 0, .int 0, .int 0, .int 0, .ref q8, .ref q9, .ref q10, .long 0, .long 0, .int 0, .int 0, .long 0, .long 0, .ref q11, .ref q12, .ref q13]))] ++ [(q1, .inl (D.1 100, 16, .inl (fun _ => 0)))] ++ [(q2, .inl (D.1 100, 6, .inl (fun _ => 0)))] ++ [(q3, .inl (D.1 100, 6, .inl (fun _ => 0)))] ++ [(q4, .inl (D.1 100, 6, .inl (fun _ => 0)))] ++ [(q5, .inl (D.1 100, 60, .inl (fun _ => 0)))] ++ [(q6, .inl (D.1 100, 11, .inl (fun _ => 0)))] ++ [(q7, .inl (D.1 101, 3721, .inr (.inl (fun _ => 0))))] ++ [(q8, .inl (D.1 100, 26, .inl (fun _ => 0)))] ++ [(q9, .inl (D.1 101, 12, .inr (.inl (fun _ => 0))))] ++ [(q10, .inl (D.1 101, 12, .inr (.inl (fun _ => 0))))] ++ [(q11, .inl (D.1 100, 60, .inl (fun _ => 0)))] ++ [(q12, .inl (D.1 100, 184, .inl (fun _ => 0)))] ++ [(q13, .inl (D.1 102, 2, .inl (fun _ => 0)))]) rfl (n := 121) rfl ?_
    refine g_eq (ws' := pic_X7 D (k_a0 a0 (fun i => [0, q1, q2, q3, q4, q5, q6, q7, q8, q9, q10, q11, q12, q13].getD i 0)) ((fun _ => 0), 0) ((fun _ => 0), (fun _ => 0), (fun _ => 0), (fun _ => 0), 30, 11, (fun _ => 0)) (fun _ => 0) ((fun _ => 0), 0, 0, 0, 0, 0, false) ((fun _ => 0), (fun _ => 0), 0, 0) (0, 0) (0, 0) (fun _ => 0) ((fun _ => 0), (fun _ => 0))) rfl rfl rfl ?_
    exact wX7_init (E := k_cs E 13 4122) (hX 13 4122 (Nat.le_of_ble_eq_true rfl) (Nat.le_of_ble_eq_true rfl)) (fun pc lv d => hret (fun i => [0, q1, q2, q3, q4, q5, q6, q7, q8, q9, q10, q11, q12, q13].getD i 0) pc lv d) hf)
