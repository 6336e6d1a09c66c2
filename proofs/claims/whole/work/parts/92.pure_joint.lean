/-! the same rule worked out for two numbers of pairs: the class's own fractions side by side -/
abbrev kJ : Type := Int × Nat × Int × Nat × Nat
def kJt (x : kJ) : Prop := 0 < x.2.1 ∧ 0 < x.2.2.2.1 ∧ x.1.natAbs ≤ 61 * x.2.2.2.2 ∧ x.2.1 ≤ x.2.2.2.2 ∧ x.2.2.1.natAbs ≤ 61 * x.2.2.2.2 ∧ x.2.2.2.1 ≤ x.2.2.2.2 ∧ x.1.natAbs * x.2.2.2.1 ≤ max 61 (x.2.2.2.2 * x.2.2.2.2) ∧ x.2.2.1.natAbs * x.2.1 ≤ max 61 (x.2.2.2.2 * x.2.2.2.2)
theorem kJ_x {c : Int32} {u v v' : Int} {l m l' m' A B : Nat} (hA : 1 ≤ A) (hB : 1 ≤ B) (h1 : u.natAbs * l' ≤ max 61 (A * A)) (h2 : v.natAbs * m' ≤ max 61 (B * B)) (h3 : v'.natAbs * m ≤ max 61 (B * B)) (b1 : l ≤ A) (b2 : l' ≤ A) (b3 : m ≤ B) (b4 : m' ≤ B) : (kPu c u l v m).natAbs * kPl c l' v' m' ≤ max 61 (61 * (A * B) * (61 * (A * B))) := by
  have hMx : ∀ X : Nat, 1 ≤ X → max 61 (X * X) ≤ 61 * (X * X) := by
    intro X hX
    have : 1 * 1 ≤ X * X := Nat.mul_le_mul hX hX
    exact Nat.max_le.mpr ⟨by omega, by omega⟩
  have hP : 61 * (A * B) * (61 * (A * B)) = 61 * (61 * (A * A * (B * B))) := by ac_rfl
  refine Nat.le_trans ?_ (Nat.le_max_right _ _)
  rw [hP]
  have t1 : u.natAbs * l' * (m * m') ≤ 61 * (A * A * (B * B)) := by
    exact Nat.le_trans (Nat.mul_le_mul (Nat.le_trans h1 (hMx A hA)) (Nat.mul_le_mul b3 b4)) (Nat.le_of_eq (by ac_rfl))
  have t2 : v.natAbs * m' * (l * l') ≤ 61 * (A * A * (B * B)) := by
    exact Nat.le_trans (Nat.mul_le_mul (Nat.le_trans h2 (hMx B hB)) (Nat.mul_le_mul b1 b2)) (Nat.le_of_eq (by ac_rfl))
  have t3 : u.natAbs * l' * (v.natAbs * m') ≤ 61 * (61 * (A * A * (B * B))) := by
    rw [show 61 * (61 * (A * A * (B * B))) = 61 * (A * A) * (61 * (B * B)) by ac_rfl]; exact Nat.mul_le_mul (Nat.le_trans h1 (hMx A hA)) (Nat.le_trans h2 (hMx B hB))
  have t4 : u.natAbs * l' * (v'.natAbs * m) ≤ 61 * (61 * (A * A * (B * B))) := by
    rw [show 61 * (61 * (A * A * (B * B))) = 61 * (A * A) * (61 * (B * B)) by ac_rfl]; exact Nat.mul_le_mul (Nat.le_trans h1 (hMx A hA)) (Nat.le_trans h3 (hMx B hB))
  have e1 : (u * (m : Int)).natAbs = u.natAbs * m := by rw [Int.natAbs_mul, Int.natAbs_natCast]
  have e2 : (v * (l : Int)).natAbs = v.natAbs * l := by rw [Int.natAbs_mul, Int.natAbs_natCast]
  have e3 : (-u * (m : Int)).natAbs = u.natAbs * m := by rw [Int.neg_mul, Int.natAbs_neg, e1]
  have hsum : ∀ z : Int, z.natAbs ≤ u.natAbs * m + v.natAbs * l → z.natAbs * (l' * m') ≤ 61 * (61 * (A * A * (B * B))) := by
    intro z hz
    refine Nat.le_trans (Nat.mul_le_mul_right _ hz) ?_
    rw [Nat.add_mul, show u.natAbs * m * (l' * m') = u.natAbs * l' * (m * m') by ac_rfl, show v.natAbs * l * (l' * m') = v.natAbs * m' * (l * l') by ac_rfl]
    omega
  have hdiv : ∀ z : Int, z.natAbs = u.natAbs * m → z.natAbs * kPl c l' v' m' ≤ 61 * (61 * (A * A * (B * B))) := by
    intro z hz
    unfold kPl
    rw [hz]
    by_cases a : c = 47
    · rw [if_pos a, show u.natAbs * m * (l' * v'.natAbs) = u.natAbs * l' * (v'.natAbs * m) by ac_rfl]; exact t4
    · rw [if_neg a, show u.natAbs * m * (l' * m') = u.natAbs * l' * (m * m') by ac_rfl]; omega
  unfold kPu
  by_cases a : c = 43
  · have n : ¬ c = 47 := by rw [a]; decide
    rw [if_pos a]; unfold kPl; rw [if_neg n]
    exact hsum _ (by omega)
  · rw [if_neg a]
    by_cases b : c = 45
    · have n : ¬ c = 47 := by rw [b]; decide
      rw [if_pos b]; unfold kPl; rw [if_neg n]
      exact hsum _ (by omega)
    · rw [if_neg b]
      by_cases d : c = 42
      · have n : ¬ c = 47 := by rw [d]; decide
        rw [if_pos d]; unfold kPl; rw [if_neg n, Int.natAbs_mul, show u.natAbs * v.natAbs * (l' * m') = u.natAbs * l' * (v.natAbs * m') by ac_rfl]
        exact t3
      · rw [if_neg d]
        by_cases e : 0 ≤ v
        · rw [if_pos e]; exact hdiv _ e1
        · rw [if_neg e]; exact hdiv _ e3
theorem kPl_pos {c : Int32} {q1 q2 : Nat} {p2 : Int} (h1 : 0 < q1) (h2 : 0 < q2) (hz : c = 47 → p2 ≠ 0) : 0 < kPl c q1 p2 q2 := by
  unfold kPl
  by_cases a : c = 47
  · rw [if_pos a]; exact Nat.mul_pos h1 (by have := hz a; omega)
  · rw [if_neg a]; exact Nat.mul_pos h1 h2
theorem kJ_act {c : Int32} {x y : kJ} (hx : kJt x) (hy : kJt y) (hz1 : c = 47 → y.1 ≠ 0) (hz2 : c = 47 → y.2.2.1 ≠ 0) : kJt (kPu c x.1 x.2.1 y.1 y.2.1, kPl c x.2.1 y.1 y.2.1, kPu c x.2.2.1 x.2.2.2.1 y.2.2.1 y.2.2.2.1, kPl c x.2.2.2.1 y.2.2.1 y.2.2.2.1, 61 * (x.2.2.2.2 * y.2.2.2.2)) := by
  obtain ⟨x1, x2, x3, x4, x5, x6, x7, x8⟩ := hx
  obtain ⟨y1, y2, y3, y4, y5, y6, y7, y8⟩ := hy
  refine ⟨kPl_pos x1 y1 hz1, kPl_pos x2 y2 hz2, kPu_b x3 x4 y3 y4, kPl_b x4 y3 y4, kPu_b x5 x6 y5 y6, kPl_b x6 y5 y6, ?_, ?_⟩
  · exact kJ_x (by omega) (by omega) x7 y7 y8 x4 x6 y4 y6
  · exact kJ_x (by omega) (by omega) x8 y8 y7 x6 x4 y6 y4
def kJs : List kJ → (Nat → Int64) → (Nat → Int64) → (Nat → Int64) → (Nat → Int64) → Prop
  | [], _, _, _, _ => True
  | x :: xs, cu, cl, du, dl => kJt x ∧ cu xs.length = iL x.1 ∧ cl xs.length = lN x.2.1 ∧ du xs.length = iL x.2.2.1 ∧ dl xs.length = lN x.2.2.2.1 ∧ kJs xs cu cl du dl
def kJp : List kJ → Nat
  | [] => 1
  | x :: xs => 61 * x.2.2.2.2 * kJp xs
theorem kJs_up {a b c d : Int64} {n : Nat} {cu cl mu ml : Nat → Int64} : ∀ xs : List kJ, xs.length ≤ n → kJs xs cu cl mu ml → kJs xs (vp_updL cu n a) (vp_updL cl n b) (vp_updL mu n c) (vp_updL ml n d) := by
  intro xs
  induction xs with
  | nil => intro _ _; trivial
  | cons x xs ih =>
    intro h hs
    have h : xs.length + 1 ≤ n := h
    obtain ⟨h1, h2, h3, h4, h5, h6⟩ := hs
    refine ⟨h1, ?_, ?_, ?_, ?_, ih (by omega) h6⟩
    · rw [pk_uLn (by omega)]; exact h2
    · rw [pk_uLn (by omega)]; exact h3
    · rw [pk_uLn (by omega)]; exact h4
    · rw [pk_uLn (by omega)]; exact h5
theorem kJp_pos {cu cl mu ml : Nat → Int64} : ∀ xs : List kJ, kJs xs cu cl mu ml → 0 < kJp xs := by
  intro xs
  induction xs with
  | nil => intro _; exact Nat.one_pos
  | cons x xs ih =>
    intro hs
    obtain ⟨h1, h2, h3, h4, h5, h6⟩ := hs
    have := Nat.lt_of_lt_of_le h1.1 h1.2.2.2.1
    exact Nat.mul_pos (by omega) (ih h6)
/-- one act of the class's way through a rule -/
theorem q_s6op {A : kA} {now : VX3} {N i L : Nat} {K : Int32 → Int32 → Int32 → Int32 → Int32 → VX2 → Option (Bool × VX2)} {v2 v3 v4 v5 : Int32} (hV : kV A) (hC : kC A now) (hi : i < A.2.2.2.2.2.1) (o : kOp (A.2.2.2.2.2.2 i) = true) (hL : L ≤ 8) {re : VX2} (hre : re.2.2 = nI (L + 2)) : fX2_reckon_b13 N 11 now.2.2.2.1 K v2 v3 v4 v5 (nI i) re = if A.2.2.2.2.2.2 i = 47 ∧ re.1 L = 0 then some (false, (re.1, re.2.1, nI (L + 1))) else K v2 v3 v4 v5 (nI i - 1) (vp_updL re.1 L (kCu (A.2.2.2.2.2.2 i) (re.1 (L + 1)) (re.2.1 (L + 1)) (re.1 L) (re.2.1 L)), vp_updL re.2.1 L (kCl (A.2.2.2.2.2.2 i) (re.2.1 (L + 1)) (re.1 L) (re.2.1 L)), nI (L + 1)) := by
  have hrs := hV.2.2.1.1
  have em : nI i + (-1) = nI i - 1 := (Int32.sub_eq_add_neg (nI i) 1).symm
  unfold fX2_reckon_b13 fX2_reckon_b58
  rw [if_neg (nI_pos (by omega)), q_signAt (by omega) (by omega) (by omega) hC.2.1 hi, hC.2.2.1 i hi]
  simp only [q_b1, q_op6]
  rw [if_pos o, q_comb o hL hre]
  by_cases z : A.2.2.2.2.2.2 i = 47 ∧ re.1 L = 0
  · rw [if_pos z, if_pos z]; rfl
  · rw [if_neg z, if_neg z]
    simp only [q_b2, if_true, em]
theorem q_s6num {A : kA} {now : VX3} {N i L a k v d : Nat} {K : Int32 → Int32 → Int32 → Int32 → Int32 → VX2 → Option (Bool × VX2)} (hV : kV A) (hC : kC A now) (ha : a ≤ 61) (hk : k ≤ 61) (hv : v ≤ 61) (hd : d ≤ 61) (hi : i < A.2.2.2.2.2.1) (o : ¬ kOp (A.2.2.2.2.2.2 i) = true) (hL : L < 11) {re : VX2} (hre : re.2.2 = nI L) : ∃ w, w ≤ 61 ∧ fX2_reckon_b13 N 11 now.2.2.2.1 K (nI a) (nI k) (nI v) (nI d) (nI i) re = K (nI a) (nI k) (nI v) (nI d) (nI i - 1) (vp_updL re.1 L (lN w), vp_updL re.2.1 L 1, nI (L + 1)) := by
  have hrs := hV.2.2.1.1
  have hn : kNum (A.2.2.2.2.2.2 i) = true := (hV.2.2.1.2.2 i hi).2.resolve_left o
  have em : nI i + (-1) = nI i - 1 := (Int32.sub_eq_add_neg (nI i) 1).symm
  obtain ⟨w, w1, w2, -⟩ := q_val hn ha hk hv hd
  refine ⟨w, w1, ?_⟩
  unfold fX2_reckon_b13 fX2_reckon_b58
  rw [if_neg (nI_pos (by omega)), q_signAt (by omega) (by omega) (by omega) hC.2.1 hi, hC.2.2.1 i hi]
  simp only [q_b1, q_op6]
  rw [if_neg o, w2]
  unfold fX2_push
  simp only [q_b1, hre, nI_1, nI_pred, q_putx hL, q_b2, if_true, nI_l (show w < 2 ^ 31 by omega), em]
theorem q_jointL {A : kA} {now : VX3} {N a k v d d' : Nat} (hV : kV A) (hC : kC A now) (ha : a ≤ 61) (hk : k ≤ 61) (hv : v ≤ 61) (hd : d ≤ 61) (hd' : d' ≤ 61) : ∀ (i m m' c : Nat) (xs : List kJ) (re re' : VX2), i ≤ A.2.2.2.2.2.1 → (xs.length : Int) = kDu A.2.2.2.2.2.2 i → xs.length ≤ A.2.2.2.2.2.1 - i → 2 * c = (A.2.2.2.2.2.1 - i) + xs.length → kJp xs = 61 ^ c → re.2.2 = nI xs.length → re'.2.2 = nI xs.length → kJs xs re.1 re.2.1 re'.1 re'.2.1 → ∀ r r' : VX2, fX2_reckon_l13 N 11 now.2.2.2.1 m (nI a) (nI k) (nI v) (nI d) (nI i - 1) re = some (true, r) → fX2_reckon_l13 N 11 now.2.2.2.1 m' (nI a) (nI k) (nI v) (nI d') (nI i - 1) re' = some (true, r') → ∃ x : kJ, kJt x ∧ 61 * x.2.2.2.2 ≤ 61 ^ 6 ∧ r.1 0 = iL x.1 ∧ r.2.1 0 = lN x.2.1 ∧ r'.1 0 = iL x.2.2.1 ∧ r'.2.1 0 = lN x.2.2.2.1 := by
  have hrs := hV.2.2.1.1
  intro i
  induction i with
  | zero =>
    intro m m' c xs re re' hi hdu hle hc hpr hre hre' hst r r' h1 h2
    have hlen : xs.length = 1 := by
      have : kDu A.2.2.2.2.2.2 0 = 1 := rfl
      omega
    obtain ⟨x, rfl⟩ : ∃ x, xs = [x] := by
      match xs, hlen with
      | [x], _ => exact ⟨x, rfl⟩
    obtain ⟨s1, s2, s3, s4, s5, -⟩ := hst
    have hneg : nI 0 - 1 < 0 := by decide
    have hlast : ∀ (m d : Nat) (re r : VX2), re.2.2 = 1 → fX2_reckon_l13 N 11 now.2.2.2.1 m (nI a) (nI k) (nI v) (nI d) (nI 0 - 1) re = some (true, r) → r = re := by
      intro m d re r hz h
      cases m with
      | zero => cases h
      | succ m =>
        have h : fX2_reckon_b13 N 11 now.2.2.2.1 (fX2_reckon_l13 N 11 now.2.2.2.1 m) (nI a) (nI k) (nI v) (nI d) (nI 0 - 1) re = some (true, r) := h
        unfold fX2_reckon_b13 at h
        rw [if_pos hneg, if_pos hz] at h
        exact (congrArg Prod.snd (Option.some.inj h)).symm
    have e1 := hlast m d re r hre h1
    have e2 := hlast m' d' re' r' hre' h2
    subst e1 e2
    refine ⟨x, s1, ?_, s2, s3, s4, s5⟩
    have hpr : 61 * x.2.2.2.2 * 1 = 61 ^ c := hpr
    have hlen : [x].length = 1 := rfl
    have : 61 ^ c ≤ 61 ^ 6 := Nat.pow_le_pow_right (by omega) (by omega)
    omega
  | succ i ih =>
    intro m m' c xs re re' hi hdu hle hc hpr hre hre' hst r r' h1 h2
    have hdu2 : kDu A.2.2.2.2.2.2 (i + 1) = kDu A.2.2.2.2.2.2 i + (if kOp (A.2.2.2.2.2.2 i) = true then 1 else -1) := rfl
    have hdl := kDu_le A.2.2.2.2.2.2 i
    have hd1 := (hV.2.2.1.2.2 i (by omega)).1
    rw [nI_pred] at h1 h2
    cases m with
    | zero => cases h1
    | succ m =>
    cases m' with
    | zero => cases h2
    | succ m' =>
    have h1 : fX2_reckon_b13 N 11 now.2.2.2.1 (fX2_reckon_l13 N 11 now.2.2.2.1 m) (nI a) (nI k) (nI v) (nI d) (nI i) re = some (true, r) := h1
    have h2 : fX2_reckon_b13 N 11 now.2.2.2.1 (fX2_reckon_l13 N 11 now.2.2.2.1 m') (nI a) (nI k) (nI v) (nI d') (nI i) re' = some (true, r') := h2
    by_cases o : kOp (A.2.2.2.2.2.2 i) = true
    · rw [if_pos o] at hdu2
      obtain ⟨x, y, ys, rfl⟩ : ∃ x y ys, xs = x :: y :: ys := by
        match xs, hdu with
        | [], h => exfalso; have h : ((0 : Nat) : Int) = _ := h; omega
        | [x], h => exfalso; have h : ((1 : Nat) : Int) = _ := h; omega
        | x :: y :: ys, _ => exact ⟨x, y, ys, rfl⟩
      obtain ⟨x1, x2, x3, x4, x5, y1, y2, y3, y4, y5, hys⟩ := hst
      have hlen : (x :: y :: ys).length = ys.length + 2 := rfl
      have hl1 : (y :: ys).length = ys.length + 1 := rfl
      rw [hl1] at x2 x3 x4 x5
      rw [hlen] at hdu hle hc hre hre'
      have hpr' : 61 * (61 * (x.2.2.2.2 * y.2.2.2.2)) * kJp ys = 61 ^ c := by rw [← hpr]; show _ = 61 * x.2.2.2.2 * (61 * y.2.2.2.2 * kJp ys); ac_rfl
      have hpp := kJp_pos ys hys
      have hc6 : 61 ^ c ≤ 61 ^ 6 := Nat.pow_le_pow_right (by omega) (by omega)
      have hb : 61 * (61 * (x.2.2.2.2 * y.2.2.2.2)) ≤ 61 ^ 6 := by
        have := Nat.le_mul_of_pos_right (61 * (61 * (x.2.2.2.2 * y.2.2.2.2))) hpp
        omega
      have hB : y.2.2.2.2 ≤ x.2.2.2.2 * y.2.2.2.2 := Nat.le_mul_of_pos_left _ (Nat.lt_of_lt_of_le x1.1 x1.2.2.2.1)
      have k6 : (61 : Nat) ^ 6 < 2 ^ 63 := by decide
      have hy1 : y.1.natAbs < 2 ^ 63 := by have := y1.2.2.1; omega
      have hy2 : y.2.2.1.natAbs < 2 ^ 63 := by have := y1.2.2.2.2.1; omega
      rw [q_s6op hV hC (by omega) o (by omega) hre] at h1
      rw [q_s6op hV hC (by omega) o (by omega) hre'] at h2
      have z1 : ¬ (A.2.2.2.2.2.2 i = 47 ∧ re.1 ys.length = 0) := by
        intro q
        rw [if_pos q] at h1
        cases h1
      have z2 : ¬ (A.2.2.2.2.2.2 i = 47 ∧ re'.1 ys.length = 0) := by
        intro q
        rw [if_pos q] at h2
        cases h2
      rw [if_neg z1] at h1
      rw [if_neg z2] at h2
      have w1 : A.2.2.2.2.2.2 i = 47 → y.1 ≠ 0 := fun q q2 => z1 ⟨q, by rw [y2, q2]; rfl⟩
      have w2 : A.2.2.2.2.2.2 i = 47 → y.2.2.1 ≠ 0 := fun q q2 => z2 ⟨q, by rw [y4, q2]; rfl⟩
      have hJ := kJ_act x1 y1 w1 w2
      rw [x2, x3, y2, y3, q_kCu hy1, (q_kCl hy1).1] at h1
      rw [x4, x5, y4, y5, q_kCu hy2, (q_kCl hy2).1] at h2
      exact ih m m' c ((kPu (A.2.2.2.2.2.2 i) x.1 x.2.1 y.1 y.2.1, kPl (A.2.2.2.2.2.2 i) x.2.1 y.1 y.2.1, kPu (A.2.2.2.2.2.2 i) x.2.2.1 x.2.2.2.1 y.2.2.1 y.2.2.2.1, kPl (A.2.2.2.2.2.2 i) x.2.2.2.1 y.2.2.1 y.2.2.2.1, 61 * (x.2.2.2.2 * y.2.2.2.2)) :: ys) _ _ (by omega) (by show ((ys.length + 1 : Nat) : Int) = _; omega) (by show ys.length + 1 ≤ _; omega) (by show 2 * c = _ + (ys.length + 1); omega) hpr' rfl rfl ⟨hJ, pk_uLs, pk_uLs, pk_uLs, pk_uLs, kJs_up ys (Nat.le_refl _) hys⟩ r r' h1 h2
    · rw [if_neg o] at hdu2
      obtain ⟨w, w1, w2⟩ := q_s6num (N := N) (i := i) (L := xs.length) (K := fX2_reckon_l13 N 11 now.2.2.2.1 m) hV hC ha hk hv hd (by omega) o (by omega) hre
      obtain ⟨w', w3, w4⟩ := q_s6num (N := N) (i := i) (L := xs.length) (K := fX2_reckon_l13 N 11 now.2.2.2.1 m') hV hC ha hk hv hd' (by omega) o (by omega) hre'
      rw [w2] at h1
      rw [w4] at h2
      have hJ : kJt ((w : Int), 1, (w' : Int), 1, 1) := by
        refine ⟨Nat.one_pos, Nat.one_pos, ?_, Nat.le_refl 1, ?_, Nat.le_refl 1, ?_, ?_⟩
        · show (w : Int).natAbs ≤ 61 * 1; omega
        · show (w' : Int).natAbs ≤ 61 * 1; omega
        · show (w : Int).natAbs * 1 ≤ max 61 (1 * 1); exact Nat.le_trans (by omega) (Nat.le_max_left _ _)
        · show (w' : Int).natAbs * 1 ≤ max 61 (1 * 1); exact Nat.le_trans (by omega) (Nat.le_max_left _ _)
      exact ih m m' (c + 1) (((w : Int), 1, (w' : Int), 1, 1) :: xs) _ _ (by omega) (by show ((xs.length + 1 : Nat) : Int) = _; omega) (by show xs.length + 1 ≤ _; omega) (by show 2 * (c + 1) = _ + (xs.length + 1); omega) (by show 61 * 1 * kJp xs = _; rw [hpr, Nat.pow_succ]; omega) rfl rfl ⟨hJ, Eq.trans pk_uLs (iL_nat w).symm, Eq.trans pk_uLs rfl, Eq.trans pk_uLs (iL_nat w').symm, Eq.trans pk_uLs rfl, kJs_up xs (Nat.le_refl _) hst⟩ r r' h1 h2
theorem q_joint {A : kA} {now : VX3} {N a k v d d' : Nat} (hV : kV A) (hC : kC A now) (ha : a ≤ 61) (hk : k ≤ 61) (hv : v ≤ 61) (hd : d ≤ 61) (hd' : d' ≤ 61) {re re' r r' : VX2} (h1 : fX2_reckon N 11 now.2.2.2.1 (nI a) (nI k) (nI v) (nI d) re = some (true, r)) (h2 : fX2_reckon N 11 now.2.2.2.1 (nI a) (nI k) (nI v) (nI d') re' = some (true, r')) : ∃ x : kJ, kJt x ∧ 61 * x.2.2.2.2 ≤ 61 ^ 6 ∧ r.1 0 = iL x.1 ∧ r.2.1 0 = lN x.2.1 ∧ r'.1 0 = iL x.2.2.1 ∧ r'.2.1 0 = lN x.2.2.2.1 := by
  unfold fX2_reckon at h1 h2
  rw [hC.2.1] at h1 h2
  exact q_jointL (N := N) hV hC ha hk hv hd hd' A.2.2.2.2.2.1 N N 0 [] (re.1, re.2.1, 0) (re'.1, re'.2.1, 0) (Nat.le_refl _) (by rw [hV.2.2.1.2.1]; rfl) (Nat.zero_le _) (by simp) rfl rfl rfl trivial r r' h1 h2
