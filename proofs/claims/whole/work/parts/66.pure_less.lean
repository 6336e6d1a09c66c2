/-! which is less; suspect, shared, word -/
theorem lN_pos {y : Nat} (h1 : 0 < y) (h2 : y < 2 ^ 63) : (0 : Int64) < lN y := (pk_lLT (a := 0) (by omega) h2).mpr h1
theorem lN_z {x : Nat} (hx : x < 2 ^ 63) : lN x = 0 ↔ x = 0 := pk_lEQ (b := 0) hx (by omega)
theorem lN_le0 {x : Nat} (hx : x < 2 ^ 63) : lN x ≤ 0 ↔ x = 0 := by
  rw [show (0 : Int64) = lN 0 from rfl, pk_lLE hx (by omega)]; omega
theorem q_bI1 (s v : Bool) : (if bI s = bI v then some false else some true : Option Bool) = some (s != v) := by cases s <;> cases v <;> rfl
theorem q_bI2 (s v : Bool) : (if bI s = bI v then some true else some false : Option Bool) = some (s == v) := by cases s <;> cases v <;> rfl
theorem q_less1 {N m m' a b c d i : Nat} {t : Bool} {q w : VX0} (ha : a < 2 ^ 63) (hb : b < 2 ^ 63) (hc : c < 2 ^ 63) (hd : d < 2 ^ 63) (hb0 : 0 < b) (hd0 : 0 < d) (hi : i < 199) (h : 0 < a % b → 0 < c % d → ∃ r, fX0_isLessThan_l29 N q w (m + 1) (lN b) (lN (a % b)) (lN d) (lN (c % d)) (!t) (nI (i + 1)) = some r ∧ fX7_isLess_l17 N m' (lN b) (lN (a % b)) (lN d) (lN (c % d)) t = some r) : ∃ r, fX0_isLessThan_l29 N q w (m + 1 + 1) (lN a) (lN b) (lN c) (lN d) t (nI i) = some r ∧ fX7_isLess_l17 N (m' + 1) (lN a) (lN b) (lN c) (lN d) (!t) = some r := by
  have h1 : a % b < b := Nat.mod_lt _ hb0
  have h2 : c % d < d := Nat.mod_lt _ hd0
  show ∃ r, fX0_isLessThan_b29 N q w _ _ _ _ _ _ _ = some r ∧ fX7_isLess_b17 N _ _ _ _ _ _ = some r
  unfold fX0_isLessThan_b29 fX7_isLess_b17
  have zb : ¬ lN b = 0 := fun q => by have := (lN_z hb).mp q; omega
  have zd : ¬ lN d = 0 := fun q => by have := (lN_z hd).mp q; omega
  have lb : ¬ lN b ≤ 0 := fun q => by have := (lN_le0 hb).mp q; omega
  have ld : ¬ lN d ≤ 0 := fun q => by have := (lN_le0 hd).mp q; omega
  have n200 : ¬ (200 : Int32) ≤ nI i := by rw [show (200 : Int32) = nI 200 from rfl, nI_leI (by omega) (by omega)]; omega
  rw [if_neg n200]
  simp only [if_neg zb, if_neg zd, if_neg lb, if_neg ld]
  rw [pk_lRem ha hb0 hb, pk_lRem hc hd0 hd]
  by_cases e : lN a / lN b = lN c / lN d
  · rw [if_pos e, if_pos e]
    unfold fX0_isLessThan_b134 fX7_isLess_b156
    have hk : (if t = true then fX0_isLessThan_l29 N q w (m + 1) (lN b) (lN (a % b)) (lN d) (lN (c % d)) false (nI i + 1) else fX0_isLessThan_l29 N q w (m + 1) (lN b) (lN (a % b)) (lN d) (lN (c % d)) true (nI i + 1)) = fX0_isLessThan_l29 N q w (m + 1) (lN b) (lN (a % b)) (lN d) (lN (c % d)) (!t) (nI (i + 1)) := by
      rw [nI_1]
      cases t
      · rw [if_neg (by decide), Bool.not_false]
      · rw [if_pos rfl, Bool.not_true]
    rw [hk]
    by_cases x0 : a % b = 0
    · rw [if_pos ((lN_z (by omega)).mpr x0)]
      show ∃ r, fX0_isLessThan_b29 N q w _ _ _ _ _ _ _ = some r ∧ _
      unfold fX0_isLessThan_b29 fX0_isLessThan_b142 fX0_isLessThan_b162 fX7_isLess_b91 fX7_isLess_b111
      rw [if_neg (show ¬ (200 : Int32) ≤ nI (i + 1) by rw [show (200 : Int32) = nI 200 from rfl, nI_leI (by omega) (by omega)]; omega), if_pos ((lN_le0 (by omega)).mpr x0)]
      by_cases y0 : c % d = 0
      · have e1 : lN (a % b) = lN (c % d) := by rw [x0, y0]
        rw [if_pos e1, if_pos e1]; exact ⟨false, rfl, rfl⟩
      · have e1 : ¬ lN (a % b) = lN (c % d) := fun q => by have := (pk_lEQ (by omega) (by omega)).mp q; omega
        rw [if_neg e1, if_neg e1, if_neg (fun q => y0 ((lN_z (by omega)).mp q)), if_pos ((lN_z (by omega)).mpr x0)]
        rw [q_bI1, q_bI2]
        exact ⟨_, rfl, by cases t <;> rfl⟩
    · rw [if_neg (fun q => x0 ((lN_z (by omega)).mp q))]
      by_cases y0 : c % d = 0
      · rw [if_pos ((lN_z (by omega)).mpr y0)]
        show ∃ r, fX0_isLessThan_b29 N q w _ _ _ _ _ _ _ = some r ∧ _
        unfold fX0_isLessThan_b29 fX0_isLessThan_b142 fX0_isLessThan_b162 fX7_isLess_b91 fX7_isLess_b111
        have e1 : ¬ lN (a % b) = lN (c % d) := fun q => by have := (pk_lEQ (by omega) (by omega)).mp q; omega
        rw [if_neg (show ¬ (200 : Int32) ≤ nI (i + 1) by rw [show (200 : Int32) = nI 200 from rfl, nI_leI (by omega) (by omega)]; omega), if_neg (fun q => x0 ((lN_le0 (by omega)).mp q)), if_pos ((lN_le0 (by omega)).mpr y0), if_neg e1, if_neg e1, if_pos ((lN_z (by omega)).mpr y0), if_neg (fun q => x0 ((lN_z (by omega)).mp q))]
        rw [q_bI1, q_bI2]
        exact ⟨_, rfl, by cases t <;> rfl⟩
      · rw [if_neg (fun q => y0 ((lN_z (by omega)).mp q))]
        obtain ⟨r, f1, f2⟩ := h (by omega) (by omega)
        refine ⟨r, f1, ?_⟩
        cases t
        · rw [if_pos (by decide)]; exact f2
        · rw [if_neg (by decide)]; exact f2
  · rw [if_neg e, if_neg e]
    unfold fX0_isLessThan_b85 fX7_isLess_b52
    by_cases e2 : lN c / lN d ≤ lN a / lN b
    · rw [if_pos e2, if_pos e2]
      rw [q_bI1, q_bI2]
      exact ⟨_, rfl, by cases t <;> rfl⟩
    · rw [if_neg e2, if_neg e2]
      rw [q_bI1, q_bI2]
      exact ⟨_, rfl, by cases t <;> rfl⟩
theorem q_lessL {N : Nat} {q w : VX0} : ∀ (k a b c d m m' i : Nat) (t : Bool), k ≤ 63 → a < 2 ^ 63 → b < 2 ^ k → c < 2 ^ 63 → d < 2 ^ 63 → 0 < b → 0 < d → i + 2 * k < 199 → 2 * k < m → 2 * k < m' → ∃ r, fX0_isLessThan_l29 N q w (m + 1) (lN a) (lN b) (lN c) (lN d) t (nI i) = some r ∧ fX7_isLess_l17 N m' (lN a) (lN b) (lN c) (lN d) (!t) = some r := by
  intro k
  induction k with
  | zero => intro a b c d m m' i t _ ha hb hc hd hb0; simp at hb; omega
  | succ k ih =>
    intro a b c d m m' i t hk ha hb hc hd hb0 hd0 hi hm hm'
    have hp : 2 ^ (k + 1) ≤ 2 ^ 63 := Nat.pow_le_pow_right (by omega) hk
    obtain ⟨m, rfl⟩ : ∃ q, m = q + 2 := ⟨m - 2, by omega⟩
    obtain ⟨m', rfl⟩ : ∃ q, m' = q + 2 := ⟨m' - 2, by omega⟩
    have h1 : a % b < b := Nat.mod_lt _ hb0
    have h2 : c % d < d := Nat.mod_lt _ hd0
    refine q_less1 (m := m + 1) (m' := m' + 1) ha (by omega) hc hd hb0 hd0 (by omega) (fun x0 y0 => ?_)
    have h3 := q_half h1 x0
    have h4 : d % (c % d) < c % d := Nat.mod_lt _ y0
    have := q_less1 (N := N) (q := q) (w := w) (m := m) (m' := m') (t := !t) (i := i + 1) (show b < 2 ^ 63 by omega) (show a % b < 2 ^ 63 by omega) hd (show c % d < 2 ^ 63 by omega) x0 y0 (by omega) (fun x1 y1 => by
      have := ih (a % b) (b % (a % b)) (c % d) (d % (c % d)) m m' (i + 1 + 1) (!(!t)) (by omega) (by omega) (by rw [Nat.pow_succ] at hb; omega) (by omega) (by omega) x1 y1 (by omega) (by omega) (by omega)
      simpa using this)
    simpa using this
theorem q_less {N a b c d : Nat} (hN : 400 ≤ N) (ha : a < 2 ^ 63) (hb : b < 2 ^ 63) (hc : c < 2 ^ 63) (hd : d < 2 ^ 63) (hb0 : 0 < b) (hd0 : 0 < d) : ∃ r, fX0_isLessThan N (lN a, lN b) (lN c, lN d) = some r ∧ fX7_isLess N (lN a) (lN b) (lN c) (lN d) = some r := by
  obtain ⟨N', rfl⟩ : ∃ q, N = q + 1 := ⟨N - 1, by omega⟩
  exact q_lessL (N := N' + 1) (q := (lN a, lN b)) (w := (lN c, lN d)) 63 a b c d N' (N' + 1) 0 false (by omega) ha hb hc hd hb0 hd0 (by omega) (by omega) (by omega)
theorem q_has {A : kA} {now : VX3} {N g : Nat} (hN : 100 ≤ N) (hV : kV A) (hC : kC A now) (hg : g < 5) (so : VX4) : ∃ so', fX6_hasNames N now (nI g) so = some (decide (0 < (kTal A (kWg A g)).2.1), so') := by
  obtain ⟨y, e1, e2⟩ := q_read (W := kMk (kSg A g) 6) hN hV hC (kMk_64 _ (by omega)) so
  have e2 : kY (kTal A (kWg A g)) y := e2
  have := (kTb_tal hV (kWg A g)).1
  refine ⟨y, ?_⟩
  unfold fX6_hasNames
  rw [q_sheetsOf hN hV hC hg]
  simp only [q_b1, e1]
  rw [e2.2.1]
  by_cases e : 0 < (kTal A (kWg A g)).2.1
  · rw [if_neg (by rw [show (0 : Int32) = nI 0 from rfl, nI_leI (by omega) (by omega)]; omega), decide_eq_true e]
  · rw [if_pos (by rw [show (0 : Int32) = nI 0 from rfl, nI_leI (by omega) (by omega)]; omega), decide_eq_false e]
theorem q_becq {N g : Nat} {A : kA} (hN : 200 ≤ N) (hV : kV A) (ru : VX0) : fX0_become N (kOq A g).1 (kOq A g).2 ru = some (kOq A g) := by
  obtain ⟨b1, b2, b3, b4⟩ := kOq_b hV g
  show fX0_become N (lN (kOu A g / kOg A g)) (lN (kOl A g / kOg A g)) ru = _
  rw [q_become hN ⟨by omega, .inl rfl⟩ (by omega) b2, b4, pk_lDiv (by omega) (by omega) (by omega), pk_lDiv (by omega) (by omega) (by omega), Nat.div_one, Nat.div_one]
  rfl
theorem q_suspectL {A : kA} {now : VX3} {mg : VMg} {N : Nat} {lo : VX1} {mc : Nat → Int64} {li : VX4} (hN : 400 ≤ N) (hV : kV A) (hC : kC A now) (hM : kM A mg) (hP : kPas lo.1 mc) (hli : kY (kTal A (kWl A)) li) : ∀ (j m m' g : Nat) (f : Int32) (x y : Int64) (so : VX4) (ru ot : VX0) (ml : VMl) (mh : VMh) (ms : VMs), g + j = 5 → j < m → j < m' → (f = -6 ∨ ∃ t, t < 5 ∧ f = nI t ∧ ru = kOq A t ∧ (x, y) = kOq A t) → ∃ r so' ru' ot' ml' mh' ms', fX6_suspect_l9 N now lo m f (nI g) li so ru ot = some (r, li, so', ru', ot') ∧ fX7_suspect_l11 N mg mc m' f x y (nI g) ml mh ms = some (r, ml', mh', ms') := by
  intro j
  induction j with
  | zero =>
    intro m m' g f x y so ru ot ml mh ms hi hm hm' h
    obtain ⟨m, rfl⟩ : ∃ q, m = q + 1 := ⟨m - 1, by omega⟩
    obtain ⟨m', rfl⟩ : ∃ q, m' = q + 1 := ⟨m' - 1, by omega⟩
    obtain rfl : g = 5 := by omega
    exact ⟨_, _, _, _, _, _, _, rfl, rfl⟩
  | succ j ih =>
    intro m m' g f x y so ru ot ml mh ms hi hm hm' h
    obtain ⟨m, rfl⟩ : ∃ q, m = q + 1 := ⟨m - 1, by omega⟩
    obtain ⟨m', rfl⟩ : ∃ q, m' = q + 1 := ⟨m' - 1, by omega⟩
    have hg : g < 5 := by omega
    show ∃ r so' ru' ot' ml' mh' ms', fX6_suspect_b9 N now lo _ _ _ _ _ _ _ = some (r, li, so', ru', ot') ∧ fX7_suspect_b11 N mg mc _ _ _ _ _ _ _ _ = some (r, ml', mh', ms')
    unfold fX6_suspect_b9 fX7_suspect_b11 fX6_suspect_b54 fX6_suspect_b77 fX7_suspect_b51 fX7_suspect_b65
    have n5 : ¬ (5 : Int32) ≤ nI g := by rw [show (5 : Int32) = nI 5 from rfl, nI_leI (by omega) (by omega)]; omega
    obtain ⟨so1, f1⟩ := q_has (N := N) (by omega) hV hC hg so
    obtain ⟨so2, -, f2⟩ := q_odds6 (N := N) (by omega) hV hC hP hg hli so1 ot
    obtain ⟨ml1, f3⟩ := q_odds7 (N := N) (by omega) hV hM hP hg ml mh ms
    have hb := (kTb_tal hV (kWg A g)).1
    rw [if_neg n5, if_neg n5, f1, f3]
    simp only [q_b1, q_b2, q_b3, f2, nI_1, q_becq (N := N) (g := g) (by omega : 200 ≤ N) hV]
    by_cases e : 0 < (kTal A (kWg A g)).2.1
    · rw [if_pos (decide_eq_true e), if_neg (show ¬ nI (kTal A (kWg A g)).2.1 ≤ 0 by rw [show (0 : Int32) = nI 0 from rfl, nI_leI (by omega) (by omega)]; omega)]
      rcases h with rfl | ⟨t, ht, rfl, rfl, hxy⟩
      · rw [if_pos rfl, if_pos (show (-6 : Int32) < 0 by decide)]
        exact ih m m' (g + 1) (nI g) _ _ so2 _ _ ml1 _ _ (by omega) (by omega) (by omega) (.inr ⟨g, hg, rfl, rfl, rfl⟩)
      · rw [if_neg (fun q => absurd q (by rw [← Int32.toInt_inj, nI_toInt (by omega), show (-6 : Int32).toInt = -6 by decide]; omega)), if_neg (nI_pos (show t < 2 ^ 31 by omega))]
        obtain ⟨b1, b2, b3, b4⟩ := kOq_b hV g
        obtain ⟨c1, c2, c3, c4⟩ := kOq_b hV t
        have hx : x = (kOq A t).1 := congrArg Prod.fst hxy
        have hy : y = (kOq A t).2 := congrArg Prod.snd hxy
        subst hx hy
        obtain ⟨r, l1, l2⟩ := q_less (N := N) hN (show kOu A g / kOg A g < 2 ^ 63 by omega) (show kOl A g / kOg A g < 2 ^ 63 by omega) (show kOu A t / kOg A t < 2 ^ 63 by omega) (show kOl A t / kOg A t < 2 ^ 63 by omega) b2 c2
        have l1 : fX0_isLessThan N (kOq A g) (kOq A t) = some r := l1
        have l2 : fX7_isLess N (kOq A g).1 (kOq A g).2 (kOq A t).1 (kOq A t).2 = some r := l2
        rw [l1, l2]
        simp only [q_b1]
        cases r with
        | true => exact ih m m' (g + 1) (nI g) _ _ so2 _ _ ml1 _ _ (by omega) (by omega) (by omega) (.inr ⟨g, hg, rfl, rfl, rfl⟩)
        | false => exact ih m m' (g + 1) (nI t) _ _ so2 _ _ ml1 _ _ (by omega) (by omega) (by omega) (.inr ⟨t, ht, rfl, rfl, rfl⟩)
    · rw [if_neg (fun q => e (of_decide_eq_true q)), if_pos (show nI (kTal A (kWg A g)).2.1 ≤ 0 by rw [show (0 : Int32) = nI 0 from rfl, nI_leI (by omega) (by omega)]; omega)]
      exact ih m m' (g + 1) f x y so1 ru ot ml1 _ _ (by omega) (by omega) (by omega) h
theorem q_suspect {A : kA} {now : VX3} {mg : VMg} {N : Nat} {lo : VX1} {mc : Nat → Int64} (hN : 400 ≤ N) (hV : kV A) (hC : kC A now) (hM : kM A mg) (hP : kPas lo.1 mc) (li so : VX4) (ru ot : VX0) (ml : VMl) (mh : VMh) (ms : VMs) : ∃ r li' so' ru' ot' ml' mh' ms', fX6_suspect N now lo li so ru ot = some (r, li', so', ru', ot') ∧ fX7_suspect N mg mc ml mh ms = some (r, ml', mh', ms') := by
  obtain ⟨y, e1, e2⟩ := q_readList (by omega : 100 ≤ N) hV hC li
  obtain ⟨r, so', ru', ot', ml', mh', ms', f1, f2⟩ := q_suspectL (N := N) hN hV hC hM hP e2 5 N N 0 (-6) 0 1 so ru ot ml mh ms (by omega) (by omega) (by omega) (.inl rfl)
  unfold fX6_suspect fX7_suspect
  rw [e1]
  exact ⟨r, y, so', ru', ot', ml', mh', ms', f1, f2⟩
