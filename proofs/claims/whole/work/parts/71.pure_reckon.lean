/-! the rule worked out on both sides -/
def kStk : List kX → (Nat → Int64) → (Nat → Int64) → (Nat → Int64) → (Nat → Int64) → Prop
  | [], _, _, _, _ => True
  | x :: xs, cu, cl, mu, ml => kIt x ∧ cu xs.length = iL (x.1 * x.2.2.1) ∧ cl xs.length = lN (x.2.1 * x.2.2.1) ∧ mu xs.length = iL x.1 ∧ ml xs.length = lN x.2.1 ∧ kStk xs cu cl mu ml
def kPr : List kX → Nat
  | [] => 1
  | x :: xs => 61 * x.2.2.2 * kPr xs
theorem kStk_up {a b c d : Int64} {n : Nat} {cu cl mu ml : Nat → Int64} : ∀ xs : List kX, xs.length ≤ n → kStk xs cu cl mu ml → kStk xs (vp_updL cu n a) (vp_updL cl n b) (vp_updL mu n c) (vp_updL ml n d) := by
  intro xs
  induction xs with
  | nil => intro _ _; trivial
  | cons x xs ih =>
    intro h hs
    have h : xs.length + 1 ≤ n := h
    obtain ⟨h1, h2, h3, h4, h5, h6⟩ := hs
    refine ⟨h1, ?_, ?_, ?_, ?_, ih (by omega) h6⟩
    · rw [pk_uLn (by omega)]; exact h2
    · rw [pk_uLn (by omega)]; exact h3
    · rw [pk_uLn (by omega)]; exact h4
    · rw [pk_uLn (by omega)]; exact h5
theorem kPr_pos {cu cl mu ml : Nat → Int64} : ∀ xs : List kX, kStk xs cu cl mu ml → 0 < kPr xs := by
  intro xs
  induction xs with
  | nil => intro _; exact Nat.one_pos
  | cons x xs ih =>
    intro hs
    obtain ⟨h1, h2, h3, h4, h5, h6⟩ := hs
    have := Nat.lt_of_lt_of_le (Nat.mul_pos h1.1 h1.2.1) h1.2.2.2.2
    exact Nat.mul_pos (by omega) (ih h6)
theorem kDu_le (p : Nat → Int32) : ∀ i : Nat, kDu p i ≤ i + 1 := by
  intro i
  induction i with
  | zero => exact Int.le_refl 1
  | succ i ih =>
    show kDu p i + (if kOp (p i) = true then 1 else -1) ≤ _
    by_cases e : kOp (p i) = true
    · rw [if_pos e]; omega
    · rw [if_neg e]; omega
theorem q_val {c : Int32} (hc : kNum c = true) {a k v d : Nat} (ha : a ≤ 61) (hk : k ≤ 61) (hv : v ≤ 61) (hd : d ≤ 61) : ∃ w, w ≤ 61 ∧ fX2_valueOf c (nI a) (nI k) (nI v) (nI d) = some (nI w) ∧ ∀ {β : Type} (F : Int64 → β), (if c = 78 then F (nI a).toInt64 else if c = 107 then F (nI k).toInt64 else if c = 118 then F (nI v).toInt64 else if c = 100 then F (nI d).toInt64 else F (c - 48).toInt64) = F (lN w) := by
  unfold fX2_valueOf
  by_cases e1 : c = 78
  · subst e1
    exact ⟨a, ha, rfl, fun F => by rw [if_pos rfl, nI_l (by omega)]⟩
  by_cases e2 : c = 107
  · subst e2
    refine ⟨k, hk, by rw [if_neg (by decide), if_neg (by decide), if_pos rfl], fun F => by rw [if_neg e1, if_pos rfl, nI_l (by omega)]⟩
  by_cases e3 : c = 118
  · subst e3
    refine ⟨v, hv, by rw [if_neg (by decide), if_neg (by decide), if_neg (by decide), if_pos rfl], fun F => by rw [if_neg e1, if_neg e2, if_pos rfl, nI_l (by omega)]⟩
  by_cases e4 : c = 100
  · subst e4
    refine ⟨d, hd, by rw [if_neg (by decide), if_pos rfl], fun F => by rw [if_neg e1, if_neg e2, if_neg e3, if_pos rfl, nI_l (by omega)]⟩
  unfold kNum at hc
  have h5 : kW c 48 57 = true := by
    simp only [Bool.or_eq_true, decide_eq_true_eq] at hc
    rcases hc with (((h | h) | h) | h) | h
    · exact absurd h e1
    · exact absurd h e2
    · exact absurd h e3
    · exact absurd h e4
    · exact h
  obtain ⟨j, j1, j2, rfl⟩ := (q_W (b := 48) (c := 57) (by omega) (by omega)).mp h5
  have e : nI j - 48 = nI (j - 48) := pk_sub (b := 48) j1
  refine ⟨j - 48, by omega, ?_, fun F => ?_⟩
  · rw [if_neg e1, if_neg e4, if_neg e2, if_neg e3, e]
  · rw [if_neg e1, if_neg e2, if_neg e3, if_neg e4, e, nI_l (by omega)]
/-- what both have at the end -/
def kEnd (re : VX2) (mq : VMq) : Prop := ∃ x : kX, kIt x ∧ 61 * x.2.2.2 ≤ 61 ^ 6 ∧ re.1 0 = iL (x.1 * x.2.2.1) ∧ re.2.1 0 = lN (x.2.1 * x.2.2.1) ∧ mq.2.2.1 = iL x.1 ∧ mq.2.2.2 = lN x.2.1
theorem q_reckonL {A : kA} {now : VX3} {mg : VMg} {N a k v d : Nat} (hN : 200 ≤ N) (hV : kV A) (hC : kC A now) (hM : kM A mg) (ha : a ≤ 61) (hk : k ≤ 61) (hv : v ≤ 61) (hd : d ≤ 61) : ∀ (i m m' c : Nat) (xs : List kX) (re : VX2) (mq : VMq), i ≤ A.2.2.2.2.2.1 → i < m → i < m' → (xs.length : Int) = kDu A.2.2.2.2.2.2 i → xs.length ≤ A.2.2.2.2.2.1 - i → 2 * c = (A.2.2.2.2.2.1 - i) + xs.length → kPr xs = 61 ^ c → re.2.2 = nI xs.length → kStk xs re.1 re.2.1 mq.1 mq.2.1 → ∃ b re' mq', fX2_reckon_l13 N 11 now.2.2.2.1 m (nI a) (nI k) (nI v) (nI d) (nI i - 1) re = some (b, re') ∧ fX7_comesTo_l11 N mg m' (nI a) (nI k) (nI v) (nI d) (nI xs.length) (nI i - 1) mq = some (b, mq') ∧ (b = true → kEnd re' mq') := by
  have hrs := hV.2.2.1.1
  intro i
  induction i with
  | zero =>
    intro m m' c xs re mq hi hm hm' hdu hle hc hpr hre hst
    obtain ⟨m, rfl⟩ : ∃ q, m = q + 1 := ⟨m - 1, by omega⟩
    obtain ⟨m', rfl⟩ : ∃ q, m' = q + 1 := ⟨m' - 1, by omega⟩
    have hlen : xs.length = 1 := by
      have : kDu A.2.2.2.2.2.2 0 = 1 := rfl
      omega
    obtain ⟨x, rfl⟩ : ∃ x, xs = [x] := by
      match xs, hlen with
      | [x], _ => exact ⟨x, rfl⟩
    obtain ⟨h1, h2, h3, h4, h5, -⟩ := hst
    show ∃ b re' mq', fX2_reckon_b13 N 11 _ _ _ _ _ _ _ _ = _ ∧ fX7_comesTo_b11 N mg _ _ _ _ _ _ _ _ = _ ∧ _
    unfold fX2_reckon_b13 fX7_comesTo_b11
    have hneg : nI 0 - 1 < 0 := by decide
    have k12 : k_in (0 : Int32) 12 := by decide
    rw [if_pos hneg, if_pos hneg, if_pos (show re.2.2 = 1 from hre), if_pos k12, if_pos k12]
    refine ⟨true, re, _, rfl, rfl, fun _ => ⟨x, h1, ?_, h2, h3, h4, h5⟩⟩
    have hpr : 61 * x.2.2.2 * 1 = 61 ^ c := hpr
    have hlen : [x].length = 1 := rfl
    have : 61 ^ c ≤ 61 ^ 6 := Nat.pow_le_pow_right (by omega) (by omega)
    omega
  | succ i ih =>
    intro m m' c xs re mq hi hm hm' hdu hle hc hpr hre hst
    obtain ⟨m, rfl⟩ : ∃ q, m = q + 1 := ⟨m - 1, by omega⟩
    obtain ⟨m', rfl⟩ : ∃ q, m' = q + 1 := ⟨m' - 1, by omega⟩
    obtain ⟨hd1, hd2⟩ := hV.2.2.1.2.2 i (by omega)
    have hdu2 : kDu A.2.2.2.2.2.2 (i + 1) = kDu A.2.2.2.2.2.2 i + (if kOp (A.2.2.2.2.2.2 i) = true then 1 else -1) := rfl
    have hdl := kDu_le A.2.2.2.2.2.2 i
    have hnn : ¬ nI i < 0 := nI_pos (by omega)
    have h11 : k_in (nI i) 11 := nI_in (by omega) (by omega)
    have em : nI i + (-1) = nI i - 1 := (Int32.sub_eq_add_neg (nI i) 1).symm
    rw [nI_pred]
    show ∃ b re' mq', fX2_reckon_b13 N 11 _ _ _ _ _ _ _ _ = _ ∧ fX7_comesTo_b11 N mg _ _ _ _ _ _ _ _ = _ ∧ _
    unfold fX2_reckon_b13 fX7_comesTo_b11 fX2_reckon_b58
    rw [if_neg hnn, if_neg hnn, q_signAt (by omega) (by omega) (by omega) hC.2.1 (show i < A.2.2.2.2.2.1 by omega), hC.2.2.1 i (by omega)]
    simp only [if_pos h11, nI_clamp (show i < 2 ^ 31 by omega), hM.2.2.2 i (by omega), q_b1, q_op6, q_op7]
    by_cases o : kOp (A.2.2.2.2.2.2 i) = true
    · rw [if_pos o] at hdu2
      rw [if_pos o, if_pos o]
      obtain ⟨x, y, ys, rfl⟩ : ∃ x y ys, xs = x :: y :: ys := by
        match xs, hdu with
        | [], h => exfalso; have h : ((0 : Nat) : Int) = _ := h; omega
        | [x], h => exfalso; have h : ((1 : Nat) : Int) = _ := h; omega
        | x :: y :: ys, _ => exact ⟨x, y, ys, rfl⟩
      obtain ⟨x1, x2, x3, x4, x5, y1, y2, y3, y4, y5, hys⟩ := hst
      have hlen : (x :: y :: ys).length = ys.length + 2 := rfl
      have hl1 : (y :: ys).length = ys.length + 1 := rfl
      rw [hl1] at x2 x3 x4 x5
      rw [hlen] at hdu hle hc hre
      have hpr' : 61 * (61 * (x.2.2.2 * y.2.2.2)) * kPr ys = 61 ^ c := by rw [← hpr]; show _ = 61 * x.2.2.2 * (61 * y.2.2.2 * kPr ys); ac_rfl
      have hpp := kPr_pos ys hys
      have hc6 : 61 ^ c ≤ 61 ^ 6 := Nat.pow_le_pow_right (by omega) (by omega)
      have hb : 61 * (61 * (x.2.2.2 * y.2.2.2)) ≤ 61 ^ 6 := by
        have := Nat.le_mul_of_pos_right (61 * (61 * (x.2.2.2 * y.2.2.2))) hpp
        omega
      have e1 : nI (ys.length + 2) - 1 = nI (ys.length + 1) := pk_sub (a := ys.length + 2) (b := 1) (by omega)
      have e2 : nI (ys.length + 2) - 2 = nI ys.length := pk_sub (a := ys.length + 2) (b := 2) (by omega)
      have g1 : k_in (nI (ys.length + 1)) 12 := nI_in (by omega) (by omega)
      have g2 : k_in (nI ys.length) 12 := nI_in (by omega) (by omega)
      rw [q_comb o (n := ys.length) (by omega) hre]
      simp only [hlen, e1, e2, if_pos g1, if_pos g2, nI_clamp (show ys.length < 2 ^ 31 by omega), nI_clamp (show ys.length + 1 < 2 ^ 31 by omega), q_b2]
      have hyt : (y.1 * (y.2.2.1 : Int)).natAbs < 2 ^ 63 := by
        have h1 := y1.2.2.2.1
        have h2 : y.2.2.2 ≤ x.2.2.2 * y.2.2.2 := Nat.le_mul_of_pos_left _ (Nat.lt_of_lt_of_le (Nat.mul_pos x1.1 x1.2.1) x1.2.2.2.2)
        have : (61 : Nat) ^ 6 < 2 ^ 63 := by decide
        omega
      have hy0 : y.1.natAbs < 2 ^ 63 := by
        rw [Int.natAbs_mul, Int.natAbs_natCast] at hyt
        exact Nat.lt_of_le_of_lt (Nat.le_mul_of_pos_right _ y1.2.1) hyt
      have z6 : re.1 ys.length = 0 ↔ y.1 = 0 := by
        rw [y2, show (0 : Int64) = iL 0 from rfl, iL_eq hyt (by decide), Int.mul_eq_zero]
        have := y1.2.1
        omega
      have z7 : mq.1 ys.length = 0 ↔ y.1 = 0 := by
        rw [y4, show (0 : Int64) = iL 0 from rfl, iL_eq hy0 (by decide)]
      by_cases z : A.2.2.2.2.2.2 i = 47 ∧ y.1 = 0
      · rw [if_pos ⟨z.1, z6.mpr z.2⟩, if_pos z.1, if_pos (z7.mpr z.2)]
        exact ⟨false, _, _, rfl, rfl, fun h => absurd h (by decide)⟩
      · rw [if_neg (fun q => z ⟨q.1, z6.mp q.2⟩)]
        obtain ⟨w, w1, w2, w3, w4, g, f1, f2, f3, f4⟩ := q_act (N := N) (c := A.2.2.2.2.2.2 i) (x := x) (y := y) hN x1 y1 (fun q => fun r => z ⟨q, r⟩) (by omega)
        rw [← x4, ← x5, ← y4, ← y5] at f1 f3
        rw [← x5, ← y4, ← y5] at f4
        rw [← x2, ← x3, ← y2, ← y3] at w3
        rw [← x3, ← y2, ← y3] at w4
        have h7 := q_act7 (N := N) (mg := mg) (k11 := fX7_comesTo_l11 N mg m') (v1 := nI a) (v2 := nI k) (v3 := nI v) (v4 := nI d) (v6 := nI i) o (n := ys.length) (by omega) mq f1 f2 f3 f4
        rw [em] at h7
        have hstk : kStk (w :: ys) (vp_updL re.1 ys.length (iL (w.1 * w.2.2.1))) (vp_updL re.2.1 ys.length (lN (w.2.1 * w.2.2.1))) (vp_updL mq.1 ys.length (iL w.1)) (vp_updL mq.2.1 ys.length (lN w.2.1)) :=
          ⟨w1, pk_uLs, pk_uLs, pk_uLs, pk_uLs, kStk_up ys (Nat.le_refl _) hys⟩
        have hgo := ih m m' c (w :: ys) (vp_updL re.1 ys.length (iL (w.1 * w.2.2.1)), vp_updL re.2.1 ys.length (lN (w.2.1 * w.2.2.1)), nI (ys.length + 1)) (vp_updL mq.1 ys.length (iL w.1), vp_updL mq.2.1 ys.length (lN w.2.1), mq.2.2.1, mq.2.2.2) (by omega) (by omega) (by omega) (by show ((ys.length + 1 : Nat) : Int) = _; omega) (by show ys.length + 1 ≤ _; omega) (by show 2 * c = _ + (ys.length + 1); omega) (by show 61 * w.2.2.2 * kPr ys = _; rw [w2]; exact hpr') rfl hstk
        rw [w3, w4]
        obtain ⟨b, re', mq', r1, r2, r3⟩ := hgo
        refine ⟨b, re', mq', ?_, ?_, r3⟩
        · simp only [q_b2, if_true, em]; exact r1
        · rw [← r2]
          by_cases q47 : A.2.2.2.2.2.2 i = 47
          · rw [if_pos q47, if_neg (fun q => z ⟨q47, z7.mp q⟩)]; exact h7
          · rw [if_neg q47]; exact h7
    · rw [if_neg o] at hdu2
      rw [if_neg o, if_neg o]
      have hn : kNum (A.2.2.2.2.2.2 i) = true := hd2.resolve_left o
      obtain ⟨w, w1, w2, w3⟩ := q_val hn ha hk hv hd
      rw [w2, w3 (fun z => fX7_comesTo_b312 N mg (fX7_comesTo_l11 N mg m') (nI a) (nI k) (nI v) (nI d) (nI xs.length) (nI i) (nI xs.length) z mq)]
      have g2 : k_in (nI xs.length) 12 := nI_in (by omega) (by omega)
      unfold fX2_push fX7_comesTo_b312 fX7_comesTo_b324
      have e1 : nI xs.length + 1 - 1 = nI xs.length := by rw [nI_1, nI_pred]
      simp only [q_b1, hre, e1, nI_pred, q_putx (show xs.length < 11 by omega), q_b2, if_true, if_pos g2, nI_clamp (show xs.length < 2 ^ 31 by omega), nI_1, nI_l (show w < 2 ^ 31 by omega), em]
      have hit : kIt ((w : Int), 1, 1, 1) := ⟨Nat.one_pos, Nat.one_pos, Nat.gcd_one_right _, by show ((w : Int) * (1 : Nat)).natAbs ≤ 61 * 1; rw [Int.natAbs_mul]; simpa using w1, Nat.le_refl 1⟩
      have hstk : kStk (((w : Int), 1, 1, 1) :: xs) (vp_updL re.1 xs.length (lN w)) (vp_updL re.2.1 xs.length 1) (vp_updL mq.1 xs.length (lN w)) (vp_updL mq.2.1 xs.length 1) :=
        ⟨hit, by rw [pk_uLs, ← iL_nat]; congr 1; exact (Int.mul_one _).symm, by rw [pk_uLs]; rfl, by rw [pk_uLs, ← iL_nat], by rw [pk_uLs]; rfl, kStk_up xs (Nat.le_refl _) hst⟩
      exact ih m m' (c + 1) (((w : Int), 1, 1, 1) :: xs) (vp_updL re.1 xs.length (lN w), vp_updL re.2.1 xs.length 1, nI (xs.length + 1)) (vp_updL mq.1 xs.length (lN w), vp_updL mq.2.1 xs.length 1, mq.2.2.1, mq.2.2.2) (by omega) (by omega) (by omega) (by show ((xs.length + 1 : Nat) : Int) = _; omega) (by show xs.length + 1 ≤ _; omega) (by show 2 * (c + 1) = _ + (xs.length + 1); omega) (by show 61 * 1 * kPr xs = _; rw [hpr, Nat.pow_succ]; omega) rfl hstk
