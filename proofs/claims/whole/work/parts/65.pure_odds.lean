/-! odds by lot -/
def kBs (B : Nat) : Nat → Nat
  | 0 => 0
  | m + 1 => kBs B m + kCh B m
theorem kBs_le : ∀ B m, kBs B m ≤ 2 ^ B := by
  intro B
  induction B with
  | zero =>
    intro m
    have : ∀ m, kBs 0 (m + 1) = 1 := by
      intro m
      induction m with
      | zero => rfl
      | succ m ih => show kBs 0 (m + 1) + 0 = 1; rw [ih]
    cases m with
    | zero => exact Nat.zero_le _
    | succ m => rw [this]; exact Nat.le_refl 1
  | succ B ih =>
    intro m
    have h : ∀ m, kBs (B + 1) (m + 1) = kBs B (m + 1) + kBs B m := by
      intro m
      induction m with
      | zero => show 0 + 1 = 0 + kCh B 0 + 0; cases B <;> rfl
      | succ m ih => show kBs (B + 1) (m + 1) + (kCh B m + kCh B (m + 1)) = kBs B (m + 1) + kCh B (m + 1) + (kBs B m + kCh B m); rw [ih]; omega
    cases m with
    | zero => exact Nat.zero_le _
    | succ m =>
      rw [h]
      have := ih m
      have := ih (m + 1)
      rw [Nat.pow_succ]; omega
def kSr (B V n i0 : Nat) : Nat → Nat
  | 0 => 0
  | k + 1 => kSr B V n i0 k + kCh B (i0 + k) * kCh V (n - (i0 + k))
theorem kSr_le (B V n i0 : Nat) : ∀ k, kSr B V n i0 k ≤ kBs B (i0 + k) * 2 ^ V := by
  intro k
  induction k with
  | zero => exact Nat.zero_le _
  | succ k ih =>
    show kSr B V n i0 k + kCh B (i0 + k) * kCh V (n - (i0 + k)) ≤ (kBs B (i0 + k) + kCh B (i0 + k)) * 2 ^ V
    rw [Nat.add_mul]
    exact Nat.add_le_add ih (Nat.mul_le_mul_left _ (kCh_le V _))
theorem kSr_lt {B V n i0 k : Nat} (h : B + V ≤ 60) : kSr B V n i0 k ≤ 2 ^ 60 := by
  refine Nat.le_trans (kSr_le B V n i0 k) (Nat.le_trans (Nat.mul_le_mul_right _ (kBs_le B _)) ?_)
  rw [← Nat.pow_add]
  exact Nat.pow_le_pow_right (by omega) h
theorem kOut_all {A : kA} {W V : Nat} (h : ∀ s, s < 6 → W / 2 ^ s % 2 ≤ V / 2 ^ s % 2) : ∀ s, s ≤ 6 → (kOut A W s).2.1 ≤ (kOut A V s).2.1 := by
  have hi : ∀ s T i, (kIn A s T i).2.1 = T.2.1 + i := by
    intro s T i
    induction i with
    | zero => rfl
    | succ i ih => show (kAdd _ _).2.1 = _; rw [(kAdd_add _ _ 0).2.1, ih]; rfl
  intro s
  induction s with
  | zero => intro _; exact Nat.le_refl _
  | succ s ih =>
    intro hs
    have hh := h s (by omega)
    have i1 := ih (by omega)
    show (if W / 2 ^ s % 2 = 0 then kOut A W s else kIn A s (kOut A W s) (A.1 s)).2.1 ≤ (if V / 2 ^ s % 2 = 0 then kOut A V s else kIn A s (kOut A V s) (A.1 s)).2.1
    by_cases a : W / 2 ^ s % 2 = 0
    · rw [if_pos a]
      by_cases b : V / 2 ^ s % 2 = 0
      · rw [if_pos b]; exact i1
      · rw [if_neg b, hi]; omega
    · rw [if_neg a, if_neg (show ¬ V / 2 ^ s % 2 = 0 by omega), hi, hi]; omega
theorem q_63bit : ∀ M : Fin 64, ∀ s : Fin 6, M.1 / 2 ^ s.1 % 2 = 0 → (63 - M.1) / 2 ^ s.1 % 2 = 1 := by decide +kernel
/-- a gatherer's mask, and its sheets are among the list's -/
def kWg (A : kA) (g : Nat) : Nat := kMk (kSg A g) 6
theorem kWg_sub {A : kA} (hV : kV A) (g : Nat) : ∀ s, s < 6 → kWg A g / 2 ^ s % 2 ≤ kWl A / 2 ^ s % 2 := by
  intro s hs
  unfold kWg
  rw [kMk_bit (kSg A g) 6 (by omega) s hs]
  by_cases a : kSg A g s = true
  · rw [if_pos a]
    unfold kSg at a
    simp only [Bool.and_eq_true, decide_eq_true_eq] at a
    have := q_63bit ⟨A.2.2.2.1, hV.1⟩ ⟨s, hs⟩ a.1
    dsimp only at this
    unfold kWl
    omega
  · rw [if_neg a]; omega
/-- the odds of a gatherer: so many of so many -/
def kOu (A : kA) (g : Nat) : Nat := kSr (kTal A (kWl A)).2.2.1 ((kTal A (kWl A)).2.1 - (kTal A (kWl A)).2.2.1) (kTal A (kWg A g)).2.1 (kTal A (kWg A g)).2.2.1 ((kTal A (kWg A g)).2.1 + 1 - (kTal A (kWg A g)).2.2.1)
def kOl (A : kA) (g : Nat) : Nat := kCh (kTal A (kWl A)).2.1 (kTal A (kWg A g)).2.1
theorem kO_b {A : kA} (hV : kV A) (g : Nat) : kOu A g ≤ 2 ^ 60 ∧ 0 < kOl A g ∧ kOl A g ≤ 2 ^ 60 := by
  have h := kTb_tal hV (kWl A)
  have h1 := h.1
  have h2 := h.2.2.1
  refine ⟨kSr_lt (by omega), kCh_pos _ _ (kOut_all (kWg_sub hV g) 6 (by omega)), Nat.le_trans (kCh_le _ _) (Nat.pow_le_pow_right (by omega) h1)⟩
/-- in lowest terms -/
def kOg (A : kA) (g : Nat) : Nat := Nat.gcd (kOu A g) (kOl A g)
theorem kOg_pos {A : kA} (hV : kV A) (g : Nat) : 0 < kOg A g := Nat.gcd_pos_of_pos_right _ (kO_b hV g).2.1
def kOq (A : kA) (g : Nat) : Int64 × Int64 := (lN (kOu A g / kOg A g), lN (kOl A g / kOg A g))
theorem kOq_eq {A : kA} (hV : kV A) (g : Nat) : (lN (kOu A g) / lN (kOg A g), lN (kOl A g) / lN (kOg A g)) = kOq A g := by
  obtain ⟨h1, h2, h3⟩ := kO_b hV g
  have h4 := kOg_pos hV g
  have h5 : kOg A g ≤ kOl A g := Nat.gcd_le_right _ h2
  unfold kOq
  rw [pk_lDiv (by omega) h4 (by omega), pk_lDiv (by omega) h4 (by omega)]
theorem kOq_b {A : kA} (hV : kV A) (g : Nat) : kOu A g / kOg A g ≤ 2 ^ 60 ∧ 0 < kOl A g / kOg A g ∧ kOl A g / kOg A g ≤ 2 ^ 60 ∧ Nat.gcd (kOu A g / kOg A g) (kOl A g / kOg A g) = 1 := by
  obtain ⟨h1, h2, h3⟩ := kO_b hV g
  have h4 := kOg_pos hV g
  have d1 : kOg A g ∣ kOu A g := Nat.gcd_dvd_left _ _
  have d2 : kOg A g ∣ kOl A g := Nat.gcd_dvd_right _ _
  refine ⟨Nat.le_trans (Nat.div_le_self _ _) h1, Nat.div_pos (Nat.le_of_dvd h2 d2) h4, Nat.le_trans (Nat.div_le_self _ _) h3, ?_⟩
  rw [Nat.gcd_div d1 d2]
  exact Nat.div_self h4
theorem q_oddsL6 {N : Nat} {now : VX3} {A : kA} {li so : VX4} {lo : VX1} {g7 : Nat → Int64} {g : Nat} (hN : 200 ≤ N) (hV : kV A) (hP : kPas lo.1 g7) (hli : kY (kTal A (kWl A)) li) (hso : kY (kTal A (kWg A g)) so) : ∀ (j m k : Nat) (ru : VX0), k + j = (kTal A (kWg A g)).2.1 + 1 - (kTal A (kWg A g)).2.2.1 → j < m → fX6_oddsByLot_ru_l27 N now li lo m (lN (kSr (kTal A (kWl A)).2.2.1 ((kTal A (kWl A)).2.1 - (kTal A (kWl A)).2.2.1) (kTal A (kWg A g)).2.1 (kTal A (kWg A g)).2.2.1 k)) (nI ((kTal A (kWg A g)).2.2.1 + k)) so ru = some (so, kOq A g) := by
  have h := kTb_tal hV (kWl A)
  have h' := kTb_tal hV (kWg A g)
  have h1 := h.1
  have h2 := h.2.2.1
  have h1' := h'.1
  have h2' := h'.2.2.1
  intro j
  induction j with
  | zero =>
    intro m k ru hk hm
    obtain ⟨m, rfl⟩ : ∃ q, m = q + 1 := ⟨m - 1, by omega⟩
    show fX6_oddsByLot_ru_b27 N now li lo _ _ _ _ _ = _
    unfold fX6_oddsByLot_ru_b27
    rw [hso.2.1, hli.2.1, if_pos (by rw [nI_ltI (by omega) (by omega)]; omega), q_ch6 hP h1 (by omega)]
    obtain ⟨b1, b2, b3⟩ := kO_b hV g
    have e : k = (kTal A (kWg A g)).2.1 + 1 - (kTal A (kWg A g)).2.2.1 := by omega
    simp only [q_b1]
    show k_b1 (fX0_become N (lN (kSr _ _ _ _ k)) (lN (kOl A g)) ru) _ = _
    rw [e]
    show k_b1 (fX0_become N (lN (kOu A g)) (lN (kOl A g)) ru) _ = _
    rw [q_become hN ⟨by omega, .inl rfl⟩ (by omega) b2]
    show some (so, (lN (kOu A g) / lN (kOg A g), lN (kOl A g) / lN (kOg A g))) = _
    rw [kOq_eq hV g]
  | succ j ih =>
    intro m k ru hk hm
    obtain ⟨m, rfl⟩ : ∃ q, m = q + 1 := ⟨m - 1, by omega⟩
    show fX6_oddsByLot_ru_b27 N now li lo _ _ _ _ _ = _
    unfold fX6_oddsByLot_ru_b27 fX4_valid
    rw [hso.2.1, hli.2.1, hli.2.2.1, if_neg (by rw [nI_ltI (by omega) (by omega)]; omega), q_ch6 hP (by omega) (by omega), pk_sub h2, pk_sub (show (kTal A (kWg A g)).2.2.1 + k ≤ (kTal A (kWg A g)).2.1 by omega)]
    simp only [q_b1]
    rw [q_ch6 hP (by omega) (by omega)]
    simp only [q_b1]
    rw [lN_mul, lN_add, nI_1]
    exact ih m (k + 1) ru (by omega) (by omega)
theorem q_oddsE {N : Nat} {now : VX3} {li : VX4} {lo : VX1} : ∀ m x i so ru, fX6_oddsByLot_ot_l27 N now li lo m x i so ru = fX6_oddsByLot_ru_l27 N now li lo m x i so ru := by
  intro m
  induction m with
  | zero => intro x i so ru; rfl
  | succ m ih =>
    intro x i so ru
    show fX6_oddsByLot_ot_b27 N now li lo (fX6_oddsByLot_ot_l27 N now li lo m) x i so ru = fX6_oddsByLot_ru_b27 N now li lo (fX6_oddsByLot_ru_l27 N now li lo m) x i so ru
    unfold fX6_oddsByLot_ot_b27 fX6_oddsByLot_ru_b27
    simp only [ih]
theorem q_odds6 {N : Nat} {now : VX3} {A : kA} {li : VX4} {lo : VX1} {g7 : Nat → Int64} {g : Nat} (hN : 200 ≤ N) (hV : kV A) (hC : kC A now) (hP : kPas lo.1 g7) (hg : g < 5) (hli : kY (kTal A (kWl A)) li) (so : VX4) (ru : VX0) : ∃ so', fX6_oddsByLot_ru N now li lo (nI g) so ru = some (so', kOq A g) ∧ fX6_oddsByLot_ot N now li lo (nI g) so ru = some (so', kOq A g) := by
  obtain ⟨y, e1, e2⟩ := q_read (W := kMk (kSg A g) 6) (by omega : 100 ≤ N) hV hC (kMk_64 _ (by omega)) so
  have := (kTb_tal hV (kWg A g)).1
  have h := q_oddsL6 (now := now) hN hV hP hli (so := y) e2 ((kTal A (kWg A g)).2.1 + 1 - (kTal A (kWg A g)).2.2.1) N 0 ru (by omega) (by omega)
  refine ⟨y, ?_, ?_⟩
  · unfold fX6_oddsByLot_ru
    rw [q_sheetsOf (by omega) hV hC hg]
    simp only [q_b1, e1]
    rw [e2.2.2.1]
    exact h
  · unfold fX6_oddsByLot_ot
    rw [q_sheetsOf (by omega) hV hC hg]
    simp only [q_b1, e1]
    rw [e2.2.2.1, q_oddsE]
    exact h
theorem q_oddsL7 {N : Nat} {mg : VMg} {A : kA} {ml : VMl} {f : Nat → Int64} {mc : Nat → Int64} {g : Nat} (hN : 200 ≤ N) (hV : kV A) (hP : kPas f mc) (hml : kZ (kTal A (kWl A)) ml) : ∀ (j m k : Nat) (ms : VMs), k + j = (kTal A (kWg A g)).2.1 + 1 - (kTal A (kWg A g)).2.2.1 → j < m → fX7_laySeems_l21 N mg mc m (lN (kSr (kTal A (kWl A)).2.2.1 ((kTal A (kWl A)).2.1 - (kTal A (kWl A)).2.2.1) (kTal A (kWg A g)).2.1 (kTal A (kWg A g)).2.2.1 k)) (nI ((kTal A (kWg A g)).2.2.1 + k)) ml (nI (kTal A (kWg A g)).2.1, nI (kTal A (kWg A g)).2.2.1) ms = some (ml, (nI (kTal A (kWg A g)).2.1, nI (kTal A (kWg A g)).2.2.1), kOq A g) := by
  have h := kTb_tal hV (kWl A)
  have h' := kTb_tal hV (kWg A g)
  have h1 := h.1
  have h2 := h.2.2.1
  have h1' := h'.1
  have h2' := h'.2.2.1
  intro j
  induction j with
  | zero =>
    intro m k ms hk hm
    obtain ⟨m, rfl⟩ : ∃ q, m = q + 1 := ⟨m - 1, by omega⟩
    show fX7_laySeems_b21 N mg mc _ _ _ _ _ _ = _
    unfold fX7_laySeems_b21
    rw [hml.1, if_pos (by rw [nI_ltI (by omega) (by omega)]; omega), q_ch7 hP h1 (by omega)]
    obtain ⟨b1, b2, b3⟩ := kO_b hV g
    have e : k = (kTal A (kWg A g)).2.1 + 1 - (kTal A (kWg A g)).2.2.1 := by omega
    simp only [q_b1]
    show k_b1 (fX7_common N (lN (kSr _ _ _ _ k)) (lN (kOl A g))) _ = _
    rw [e]
    show k_b1 (fX7_common N (lN (kOu A g)) (lN (kOl A g))) _ = _
    rw [q_div7 hN ⟨by omega, .inl rfl⟩ (by omega)]
    simp only [q_b1]
    have h4 := kOg_pos hV g
    have h5 : kOg A g ≤ kOl A g := Nat.gcd_le_right _ b2
    have hz : ¬ lN (Nat.gcd (kOu A g) (kOl A g)) = 0 := fun q => by
      have := (pk_lEQ (b := 0) (show kOg A g < 2 ^ 63 by omega) (by omega)).mp q
      omega
    rw [if_neg hz, if_neg hz]
    show some (ml, _, (lN (kOu A g) / lN (kOg A g), lN (kOl A g) / lN (kOg A g))) = _
    rw [kOq_eq hV g]
  | succ j ih =>
    intro m k ms hk hm
    obtain ⟨m, rfl⟩ : ∃ q, m = q + 1 := ⟨m - 1, by omega⟩
    show fX7_laySeems_b21 N mg mc _ _ _ _ _ _ = _
    unfold fX7_laySeems_b21
    rw [hml.1, hml.2.1, if_neg (by rw [nI_ltI (by omega) (by omega)]; omega), q_ch7 hP (by omega) (by omega), pk_sub h2, pk_sub (show (kTal A (kWg A g)).2.2.1 + k ≤ (kTal A (kWg A g)).2.1 by omega)]
    simp only [q_b1]
    rw [q_ch7 hP (by omega) (by omega)]
    simp only [q_b1]
    rw [lN_mul, lN_add, nI_1]
    exact ih m (k + 1) ms (by omega) (by omega)
theorem q_odds7 {N : Nat} {mg : VMg} {A : kA} {f : Nat → Int64} {mc : Nat → Int64} {g : Nat} (hN : 200 ≤ N) (hV : kV A) (hM : kM A mg) (hP : kPas f mc) (hg : g < 5) (ml : VMl) (mh : VMh) (ms : VMs) : ∃ ml', fX7_laySeems N mg mc (nI g) ml mh ms = some (ml', (nI (kTal A (kWg A g)).2.1, nI (kTal A (kWg A g)).2.2.1), kOq A g) := by
  obtain ⟨z, e3, e4⟩ := q_lay (N := N) (W := kWl A) (by omega : 100 ≤ N) hV hM (by unfold kWl; omega) ml
  have e3 : fX7_layList N mg (nI (63 - A.2.2.2.1)) ml = some z := e3
  have := (kTb_tal hV (kWg A g)).1
  refine ⟨z, ?_⟩
  unfold fX7_laySeems
  rw [q_valid (by omega) hV hM]
  simp only [q_b1, e3, q_his (by omega : 100 ≤ N) hV hM hg mh]
  exact q_oddsL7 hN hV hP e4 ((kTal A (kWg A g)).2.1 + 1 - (kTal A (kWg A g)).2.2.1) N 0 ms (by omega) (by omega)
theorem q_seems {A : kA} {now : VX3} {mg : VMg} {N : Nat} {lo : VX1} {mc : Nat → Int64} (hN : 200 ≤ N) (hV : kV A) (hC : kC A now) (hM : kM A mg) (hP : kPas lo.1 mc) (a b : Int32) (li so : VX4) (ru : VX0) (ml : VMl) (mh : VMh) (ms : VMs) : ∃ r li' so' ru' ml' mh' ms', fX6_seems N now lo a b li so ru = some (r, li', so', ru') ∧ fX7_seems N mg mc a b ml mh ms = some (r, ml', mh', ms') := by
  obtain ⟨y, e1, e2⟩ := q_readList (by omega : 100 ≤ N) hV hC li
  unfold fX6_seems fX7_seems
  rw [q_gat6, q_gat7, q_part6, q_part7, e1]
  simp only [q_b1]
  by_cases hw : kW a 0 4 = true
  rotate_left
  · rw [if_neg hw, if_neg hw]; exact ⟨_, _, _, _, _, _, _, rfl, rfl⟩
  by_cases hb : kW b 0 1 = true
  rotate_left
  · rw [if_pos hw, if_pos hw, if_neg hb, if_neg hb]; exact ⟨_, _, _, _, _, _, _, rfl, rfl⟩
  rw [if_pos hw, if_pos hw, if_pos hb, if_pos hb]
  obtain ⟨g, hg, rfl⟩ := (q_W0n (n := 4) (by omega)).mp hw
  obtain ⟨so', f1, -⟩ := q_odds6 (N := N) hN hV hC hP (show g < 5 by omega) e2 so ru
  obtain ⟨ml', f2⟩ := q_odds7 (N := N) hN hV hM hP (show g < 5 by omega) ml mh ms
  rw [f1, f2]
  simp only [q_b1, q_b2, q_b3, q_half0]
  by_cases e : b = 0
  · rw [if_pos e, if_pos e]; exact ⟨_, _, _, _, _, _, _, rfl, rfl⟩
  · rw [if_neg e, if_neg e]; exact ⟨_, _, _, _, _, _, _, rfl, rfl⟩
