/-! the class lays the table of a lot -/
def kRw (s p D : Nat) (u : Nat → Int64) : Prop := ∀ d r, D ≤ d → d ≤ p → r ≤ s + (p - d) → u (d * 61 + r) = lN (kWd s (p - d) r)
theorem q_wrz {d r : Nat} (hd : d ≤ 30) (hr : r ≤ 60) (x : Int64) (z : VX1) : fX1_write (nI d) (nI r) x z = some (z.1, vp_updL z.2.1 (d * 61 + r) x, z.2.2) := by
  unfold fX1_write
  have e : nI d * 61 + nI r = nI (d * 61 + r) := by rw [show (61 : Int32) = nI 61 from rfl, pk_mul, nI_add]
  rw [e, if_neg (nI_pos (by omega)), if_neg (by rw [show (1891 : Int32) = nI 1891 from rfl, nI_leI (by omega) (by omega)]; omega), if_pos (nI_in (by omega) (by omega)), nI_clamp (by omega)]
theorem q_rdk {s p d r : Nat} {z : VX1} (h1 : z.2.2.1 = nI s) (h2 : z.2.2.2.2 = nI p) (hsp : s + 2 * p ≤ 60) (hd : d ≤ p) (hr : r < 2 ^ 31) (h : ∀ r, r ≤ s + (p - d) → z.2.1 (d * 61 + r) = lN (kWd s (p - d) r)) : fX1_read z (nI d) (nI r) = some (lN (kWd s (p - d) r)) := by
  unfold fX1_read fX1_people
  rw [if_neg (nI_pos hr), h1, h2, nI_add, pk_sub (by omega)]
  simp only [q_b1]
  by_cases a : r ≤ s + (p - d)
  · have e : nI d * 61 + nI r = nI (d * 61 + r) := by rw [show (61 : Int32) = nI 61 from rfl, pk_mul, nI_add]
    rw [if_neg (by rw [nI_ltI (by omega) (by omega)]; omega), e, if_neg (nI_pos (by omega)), if_neg (by rw [show (1891 : Int32) = nI 1891 from rfl, nI_leI (by omega) (by omega)]; omega), if_pos (nI_in (by omega) (by omega)), nI_clamp (by omega), h r a]
  · rw [if_pos (by rw [nI_ltI (by omega) (by omega)]; omega), kWd_0 s (p - d) r (by omega)]; rfl
theorem q_rdn {z : VX1} {x y : Int32} (h : y < 0) : fX1_read z x y = some 0 := by
  unfold fX1_read
  rw [if_pos h]
theorem q_lay74 {N s p D : Nat} {k66 : Int32 → VX1 → Option VX1} (hsp : s + 2 * p ≤ 60) (hD : D < p) : ∀ (j m r : Nat) (z : VX1), r + j = s + (p - D) + 1 → j < m → z.2.2.1 = nI s → z.2.2.2.2 = nI p → kRw s p (D + 1) z.2.1 → (∀ q, q < r → z.2.1 (D * 61 + q) = lN (kWd s (p - D) q)) → ∃ u, fX1_lay_l74 N k66 m (nI D) (nI r) z = k66 (nI D + (-1)) (z.1, u, z.2.2) ∧ kRw s p D u := by
  intro j
  induction j with
  | zero =>
    intro m r z hr hm h1 h2 h3 h4
    obtain ⟨m, rfl⟩ : ∃ q, m = q + 1 := ⟨m - 1, by omega⟩
    refine ⟨z.2.1, ?_, fun d q hd hp hq => ?_⟩
    · show fX1_lay_b74 N k66 _ _ _ _ = _
      unfold fX1_lay_b74 fX1_people
      rw [h1, h2, nI_add, pk_sub (by omega)]
      simp only [q_b1]
      rw [if_pos (by rw [nI_ltI (by omega) (by omega)]; omega)]
    · by_cases e : d = D
      · subst e; exact h4 q (by omega)
      · exact h3 d q (by omega) hp hq
  | succ j ih =>
    intro m r z hr hm h1 h2 h3 h4
    obtain ⟨m, rfl⟩ : ∃ q, m = q + 1 := ⟨m - 1, by omega⟩
    have hpD : p - D = (p - (D + 1)) + 1 := by omega
    have r1 := q_rdk (r := r) h1 h2 hsp (show D + 1 ≤ p by omega) (by omega) (fun q hq => h3 (D + 1) q (Nat.le_refl _) (by omega) hq)
    have r2 : ∃ y : Nat, fX1_read z (nI (D + 1)) (nI r - 1) = some (lN y) ∧ kWd s (p - D) r = kWd s (p - (D + 1)) r + 2 * y := by
      cases r with
      | zero => exact ⟨0, q_rdn (by decide), by rw [hpD]; rfl⟩
      | succ r =>
        refine ⟨kWd s (p - (D + 1)) r, ?_, by rw [hpD]; rfl⟩
        rw [nI_pred]
        exact q_rdk (r := r) h1 h2 hsp (show D + 1 ≤ p by omega) (by omega) (fun q hq => h3 (D + 1) q (Nat.le_refl _) (by omega) hq)
    obtain ⟨y, r2, r3⟩ := r2
    have hx : lN (kWd s (p - (D + 1)) r) + 2 * lN y = lN (kWd s (p - D) r) := by
      rw [show (2 : Int64) = lN 2 from rfl, lN_mul, lN_add, r3]
    obtain ⟨u, u1, u2⟩ := ih m (r + 1) (z.1, vp_updL z.2.1 (D * 61 + r) (lN (kWd s (p - D) r)), z.2.2) (by omega) (by omega) h1 h2 (fun d q hd hp hq => by
      show vp_updL _ _ _ (d * 61 + q) = _
      rw [pk_uLn (by omega)]; exact h3 d q hd hp hq) (fun q hq => by
      show vp_updL _ _ _ (D * 61 + q) = _
      by_cases e : q = r
      · subst e; exact pk_uLs
      · rw [pk_uLn (by omega)]; exact h4 q (by omega))
    refine ⟨u, ?_, u2⟩
    show fX1_lay_b74 N k66 _ _ _ _ = _
    unfold fX1_lay_b74 fX1_people
    rw [h1, h2, nI_add, pk_sub (by omega)]
    simp only [q_b1]
    rw [if_neg (by rw [nI_ltI (by omega) (by omega)]; omega), nI_1, r1]
    simp only [q_b1, r2, hx, q_wrz (show D ≤ 30 by omega) (show r ≤ 60 by omega), nI_1]
    exact u1
theorem q_lay66 {N s p : Nat} (hN : 100 ≤ N) (hsp : s + 2 * p ≤ 60) : ∀ (D m : Nat) (z : VX1), D ≤ p → D < m → z.2.2.1 = nI s → z.2.2.2.2 = nI p → kRw s p D z.2.1 → ∃ u, fX1_lay_l66 N m (nI D - 1) z = some (z.1, u, z.2.2) ∧ kRw s p 0 u := by
  intro D
  induction D with
  | zero =>
    intro m z hD hm h1 h2 h3
    obtain ⟨m, rfl⟩ : ∃ q, m = q + 1 := ⟨m - 1, by omega⟩
    refine ⟨z.2.1, ?_, h3⟩
    show fX1_lay_b66 N _ _ _ = _
    unfold fX1_lay_b66
    rw [if_pos (show nI 0 - 1 < 0 by decide)]
  | succ D ih =>
    intro m z hD hm h1 h2 h3
    obtain ⟨m, rfl⟩ : ∃ q, m = q + 1 := ⟨m - 1, by omega⟩
    obtain ⟨u, u1, u2⟩ := q_lay74 (N := N) (k66 := fX1_lay_l66 N m) hsp (show D < p by omega) (s + (p - D) + 1) N 0 z (by omega) (by omega) h1 h2 h3 (fun q hq => by omega)
    obtain ⟨w, w1, w2⟩ := ih m (z.1, u, z.2.2) (by omega) (by omega) h1 h2 u2
    refine ⟨w, ?_, w2⟩
    show fX1_lay_b66 N _ _ _ = _
    unfold fX1_lay_b66
    rw [nI_pred, if_neg (nI_pos (by omega)), show (0 : Int32) = nI 0 from rfl, u1, show nI D + (-1) = nI D - 1 from (Int32.sub_eq_add_neg (nI D) 1).symm]
    exact w1
theorem q_lay23 {N s p : Nat} {g : Nat → Int64} (hN : 100 ≤ N) (hsp : s + 2 * p ≤ 60) : ∀ (j m r : Nat) (z : VX1), r + j = s + 1 → j < m → z.2.2.1 = nI s → z.2.2.2.2 = nI p → kPas z.1 g → (∀ q, q < r → z.2.1 (p * 61 + q) = lN (kCh s q)) → ∃ u, fX1_lay_l23 N m (nI r) z = some (z.1, u, z.2.2) ∧ kRw s p 0 u := by
  intro j
  induction j with
  | zero =>
    intro m r z hr hm h1 h2 hP h4
    obtain ⟨m, rfl⟩ : ∃ q, m = q + 1 := ⟨m - 1, by omega⟩
    obtain ⟨u, u1, u2⟩ := q_lay66 (N := N) hN hsp p N z (Nat.le_refl p) (by omega) h1 h2 (fun d q hd hp hq => by
      obtain rfl : d = p := by omega
      rw [Nat.sub_self] at hq ⊢
      exact h4 q (by omega))
    refine ⟨u, ?_, u2⟩
    show fX1_lay_b23 N _ _ _ = _
    unfold fX1_lay_b23
    rw [h1, if_pos (by rw [nI_ltI (by omega) (by omega)]; omega), h2]
    exact u1
  | succ j ih =>
    intro m r z hr hm h1 h2 hP h4
    obtain ⟨m, rfl⟩ : ∃ q, m = q + 1 := ⟨m - 1, by omega⟩
    obtain ⟨u, u1, u2⟩ := ih m (r + 1) (z.1, vp_updL z.2.1 (p * 61 + r) (lN (kCh s r)), z.2.2) (by omega) (by omega) h1 h2 hP (fun q hq => by
      show vp_updL _ _ _ (p * 61 + q) = _
      by_cases e : q = r
      · subst e; exact pk_uLs
      · rw [pk_uLn (by omega)]; exact h4 q (by omega))
    refine ⟨u, ?_, u2⟩
    show fX1_lay_b23 N _ _ _ = _
    unfold fX1_lay_b23
    rw [h1, if_neg (by rw [nI_ltI (by omega) (by omega)]; omega), q_ch6 hP (show s ≤ 60 by omega) (show r < 2 ^ 31 by omega)]
    simp only [q_b1, h2, q_wrz (show p ≤ 30 by omega) (show r ≤ 60 by omega), nI_1]
    exact u1
def kLz (s b p : Nat) (z : VX1) : Prop := z.2.2.1 = nI s ∧ z.2.2.2.1 = nI b ∧ z.2.2.2.2 = nI p ∧ kRw s p 0 z.2.1
theorem q_laid {N s b p : Nat} {z : VX1} {g : Nat → Int64} (hN : 100 ≤ N) (hsp : s + 2 * p + b ≤ 60) (hP : kPas z.1 g) : ∃ z', fX1_lay N (nI s) (nI b) (nI p) z = some z' ∧ z'.1 = z.1 ∧ kLz s b p z' := by
  unfold fX1_lay
  rw [if_neg (by rw [show (30 : Int32) = nI 30 from rfl, nI_ltI (by omega) (by omega)]; omega)]
  obtain ⟨u, u1, u2⟩ := q_lay23 (N := N) (s := s) (p := p) hN (by omega) (s + 1) N 0 (z.1, z.2.1, nI s, nI b, nI p) (by omega) (by omega) rfl rfl hP (fun q hq => by omega)
  exact ⟨_, u1, rfl, rfl, rfl, rfl, u2⟩
theorem q_ways {s b p k v d : Nat} {z : VX1} {g : Nat → Int64} (hsp : s + 2 * p + b ≤ 60) (hP : kPas z.1 g) (hL : kLz s b p z) (hd : d ≤ p) (hv : 2 * d ≤ v) (hk : v ≤ k) (hk6 : k ≤ 60) : fX1_ways z (nI k) (nI v) (nI d) = some (lN (kOn s p d v * kCh b (k - v))) := by
  obtain ⟨h1, h2, h3, h4⟩ := hL
  unfold fX1_ways
  rw [h3, q_ch6 hP (show p ≤ 60 by omega) (show d < 2 ^ 31 by omega), show (2 : Int32) = nI 2 from rfl, pk_mul, pk_sub hv, q_rdk h1 h3 (by omega) hd (by omega) (fun q hq => h4 d q (Nat.zero_le _) hd hq), h2, pk_sub hk, q_ch6 hP (show b ≤ 60 by omega) (show k - v < 2 ^ 31 by omega)]
  simp only [q_b1, lN_mul]
  rfl
