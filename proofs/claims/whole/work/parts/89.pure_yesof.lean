/-! in how many ways it says yes: the reference -/
theorem q_shl1 : ∀ h : Fin 31, ((1 : Int64) <<< ((nI h.1).toInt64 &&& 63)) = lN (2 ^ h.1) := by decide +kernel
theorem q_lo6 {N s p d v : Nat} {f mc : Nat → Int64} (hP : kPas f mc) (hp : p ≤ 30) (hs : s ≤ 60) (hd : d ≤ p) (hv : 2 * d ≤ v) (hv6 : v ≤ 60) : ∀ (j m h : Nat), h + j = p - d + 1 → j < m → fX7_lotsOf_l6 N mc m (nI p) (nI s) (nI d) (nI v) (lN (kSum (fun h => kCh p d * kTt s (p - d) (v - 2 * d) h) h)) (nI h) = some (lN (kOn s p d v)) := by
  have hfull : ∀ h, h ≤ p - d + 1 → (∀ i, h ≤ i → i < p - d + 1 → kTt s (p - d) (v - 2 * d) i = 0) → kSum (fun h => kCh p d * kTt s (p - d) (v - 2 * d) h) h = kOn s p d v := by
    intro h hh hz
    rw [kSum_mul]
    unfold kOn
    rw [← kSum_zz (f := kTt s (p - d) (v - 2 * d)) hh hz, kWd_sum s (p - d) (v - 2 * d) (p - d + 1) (by omega)]
  intro j
  induction j with
  | zero =>
    intro m h hh hm
    obtain ⟨m, rfl⟩ : ∃ q, m = q + 1 := ⟨m - 1, by omega⟩
    show fX7_lotsOf_b6 N mc _ _ _ _ _ _ _ = _
    unfold fX7_lotsOf_b6
    rw [pk_sub hd, if_pos (by rw [nI_ltI (by omega) (by omega)]; omega), hfull h (by omega) (fun i h1 h2 => by omega)]
  | succ j ih =>
    intro m h hh hm
    obtain ⟨m, rfl⟩ : ∃ q, m = q + 1 := ⟨m - 1, by omega⟩
    show fX7_lotsOf_b6 N mc _ _ _ _ _ _ _ = _
    unfold fX7_lotsOf_b6
    have e2 : (2 : Int32) * nI d = nI (2 * d) := by rw [show (2 : Int32) = nI 2 from rfl, pk_mul]
    rw [pk_sub hd, if_neg (by rw [nI_ltI (by omega) (by omega)]; omega), e2, nI_add]
    by_cases a : v < 2 * d + h
    · rw [if_pos (by rw [nI_ltI (by omega) (by omega)]; omega), hfull h (by omega) (fun i h1 h2 => by unfold kTt; rw [if_neg (by omega), Nat.mul_zero])]
    · rw [if_neg (by rw [nI_ltI (by omega) (by omega)]; omega), q_ch7 hP (show p ≤ 60 by omega) (show d < 2 ^ 31 by omega), q_ch7 hP (show p - d ≤ 60 by omega) (show h < 2 ^ 31 by omega), pk_sub hv, pk_sub (show h ≤ v - 2 * d by omega), q_ch7 hP hs (show v - 2 * d - h < 2 ^ 31 by omega), q_shl1 ⟨h, by omega⟩]
      simp only [q_b1, lN_mul, lN_add, nI_1]
      rw [← ih m (h + 1) (by omega) (by omega)]
      show _ = fX7_lotsOf_l6 N mc m (nI p) (nI s) (nI d) (nI v) (lN (kSum (fun h => kCh p d * kTt s (p - d) (v - 2 * d) h) h + kCh p d * kTt s (p - d) (v - 2 * d) h)) (nI (h + 1))
      have : kCh p d * kTt s (p - d) (v - 2 * d) h = kCh p d * kCh (p - d) h * 2 ^ h * kCh s (v - 2 * d - h) := by
        unfold kTt
        rw [if_pos (by omega)]
        ac_rfl
      rw [this]
theorem q_lotsOf {N s p d v : Nat} {f mc : Nat → Int64} (hN : 100 ≤ N) (hP : kPas f mc) (hp : p ≤ 30) (hs : s ≤ 60) (hd : d ≤ p) (hv : 2 * d ≤ v) (hv6 : v ≤ 60) : fX7_lotsOf N mc (nI p) (nI s) (nI d) (nI v) = some (lN (kOn s p d v)) :=
  q_lo6 (N := N) hP hp hs hd hv hv6 (p - d + 1) N 0 (by omega) (by omega)
theorem q_yo36 {A : kA} {now : VX3} {mg : VMg} {N s b p k d : Nat} {f mc : Nat → Int64} {k15 : Int32 → Int32 → Int32 → Int32 → Int32 → Int64 → Int32 → VMq → Option (Int64 × VMq)} (hN : 200 ≤ N) (hV : kV A) (hC : kC A now) (hM : kM A mg) (hP : kPas f mc) (hsp : s + 2 * p + b ≤ 60) (hk : k ≤ 60) (hd : d ≤ p) (base : Nat) : ∀ (j m v : Nat) (mq : VMq), v + j = k + 1 → 2 * d ≤ v → j < m → ∃ mq', fX7_yesOf_l36 N mg mc k15 m (nI p) (nI s) (nI b) (nI k) (nI (s + 2 * p + b)) (lN (base + kSum (fun v => kFf (kYs N mg (s + 2 * p + b) k) s p b k v d) v)) (nI d) (nI v) mq = k15 (nI p) (nI s) (nI b) (nI k) (nI (s + 2 * p + b)) (lN (base + kSum (fun v => kFf (kYs N mg (s + 2 * p + b) k) s p b k v d) (k + 1))) (nI (d + 1)) mq' := by
  intro j
  induction j with
  | zero =>
    intro m v mq hv h2 hm
    obtain ⟨m, rfl⟩ : ∃ q, m = q + 1 := ⟨m - 1, by omega⟩
    obtain rfl : v = k + 1 := by omega
    refine ⟨mq, ?_⟩
    show fX7_yesOf_b36 N mg mc k15 _ _ _ _ _ _ _ _ _ _ = _
    unfold fX7_yesOf_b36
    rw [if_pos (by rw [nI_ltI (by omega) (by omega)]; omega), nI_1]
  | succ j ih =>
    intro m v mq hv h2 hm
    obtain ⟨m, rfl⟩ : ∃ q, m = q + 1 := ⟨m - 1, by omega⟩
    have hcb := kCh_lt (show b ≤ 60 by omega) (k - v)
    have hon : kOn s p d v ≤ 2 ^ 60 := Nat.le_trans (kOn_le s p d v hd) (by
      rw [show (4 : Nat) = 2 ^ 2 from rfl, ← Nat.pow_mul, ← Nat.pow_add]
      exact Nat.pow_le_pow_right (by omega) (by omega))
    have hF : kFf (kYs N mg (s + 2 * p + b) k) s p b k v d = if kYs N mg (s + 2 * p + b) k v d = true then kOn s p d v * kCh b (k - v) else 0 := by
      unfold kFf; rw [if_pos h2]
    have hgo : ∀ (x : Nat) (mq1 : VMq), kFf (kYs N mg (s + 2 * p + b) k) s p b k v d = x → ∃ mq', fX7_yesOf_l36 N mg mc k15 m (nI p) (nI s) (nI b) (nI k) (nI (s + 2 * p + b)) (lN (base + kSum (fun v => kFf (kYs N mg (s + 2 * p + b) k) s p b k v d) v) + lN x) (nI d) (nI v + 1) mq1 = k15 (nI p) (nI s) (nI b) (nI k) (nI (s + 2 * p + b)) (lN (base + kSum (fun v => kFf (kYs N mg (s + 2 * p + b) k) s p b k v d) (k + 1))) (nI (d + 1)) mq' := by
      intro x mq1 hx
      obtain ⟨mq2, e⟩ := ih m (v + 1) mq1 (by omega) (by omega) (by omega)
      refine ⟨mq2, ?_⟩
      rw [← e, lN_add, nI_1, ← hx, Nat.add_assoc base]
      rfl
    show ∃ mq', fX7_yesOf_b36 N mg mc k15 _ _ _ _ _ _ _ _ _ _ = _
    unfold fX7_yesOf_b36 fX7_yesOf_b72 fX7_yesOf_b114 fX7_yesOf_b115
    have hw : fX7_ways mc (nI b) (nI k - nI v) = some (lN (kCh b (k - v))) := by
      rw [pk_sub (show v ≤ k by omega)]; exact q_ch7 hP (by omega) (by omega)
    rw [if_neg (by rw [nI_ltI (by omega) (by omega)]; omega), hw]
    simp only [q_b1]
    by_cases c0 : kCh b (k - v) = 0
    · rw [if_pos ((lN_z (by omega)).mpr c0), if_pos (show (0 : Int64) ≤ 0 by decide)]
      exact hgo 0 mq (by rw [hF, c0, Nat.mul_zero]; split <;> rfl)
    · rw [if_neg (fun q => c0 ((lN_z (by omega)).mp q)), q_lotsOf (by omega) hP (by omega) (by omega) hd h2 (by omega)]
      simp only [q_b1]
      by_cases o0 : kOn s p d v = 0
      · rw [if_pos ((lN_le0 (by omega)).mpr o0)]
        exact hgo 0 mq (by rw [hF, o0, Nat.zero_mul]; split <;> rfl)
      · rw [if_neg (fun q => o0 ((lN_le0 (by omega)).mp q))]
        obtain ⟨mq1, r1⟩ := (q_ys (N := N) (n := s + 2 * p + b) (k := k) (v := v) (d := d) hN hV hC hM (by omega) (by omega) (by omega) (by omega)).2 mq
        rw [r1]
        simp only [q_b2]
        by_cases y : kYs N mg (s + 2 * p + b) k v d = true
        · rw [if_pos y]
          simp only [q_b1, lN_mul]
          exact hgo _ mq1 (by rw [hF, if_pos y])
        · rw [if_neg y]
          exact hgo 0 mq1 (by rw [hF, if_neg y])
theorem q_yo15 {A : kA} {now : VX3} {mg : VMg} {N s b p k : Nat} {f mc : Nat → Int64} (hN : 200 ≤ N) (hV : kV A) (hC : kC A now) (hM : kM A mg) (hP : kPas f mc) (hsp : s + 2 * p + b ≤ 60) (hk : k ≤ 60) : ∀ (j m d : Nat) (mq : VMq), d + j = p + 1 → j < m → ∃ mq', fX7_yesOf_l15 N mg mc m (nI p) (nI s) (nI b) (nI k) (nI (s + 2 * p + b)) (lN (kSum (fun d => kSum (fun v => kFf (kYs N mg (s + 2 * p + b) k) s p b k v d) (k + 1)) d)) (nI d) mq = some (lN (kYn (kYs N mg (s + 2 * p + b) k) s p b k), mq') := by
  intro j
  induction j with
  | zero =>
    intro m d mq hd hm
    obtain ⟨m, rfl⟩ : ∃ q, m = q + 1 := ⟨m - 1, by omega⟩
    obtain rfl : d = p + 1 := by omega
    refine ⟨mq, ?_⟩
    show fX7_yesOf_b15 N mg mc _ _ _ _ _ _ _ _ _ = _
    unfold fX7_yesOf_b15
    rw [if_pos (by rw [nI_ltI (by omega) (by omega)]; omega), kYn_swap]
  | succ j ih =>
    intro m d mq hd hm
    obtain ⟨m, rfl⟩ : ∃ q, m = q + 1 := ⟨m - 1, by omega⟩
    have e2 : (2 : Int32) * nI d = nI (2 * d) := by rw [show (2 : Int32) = nI 2 from rfl, pk_mul]
    show ∃ mq', fX7_yesOf_b15 N mg mc _ _ _ _ _ _ _ _ _ = _
    unfold fX7_yesOf_b15
    rw [if_neg (by rw [nI_ltI (by omega) (by omega)]; omega), e2]
    by_cases a : k < 2 * d
    · refine ⟨mq, ?_⟩
      rw [if_pos (by rw [nI_ltI (by omega) (by omega)]; omega), kYn_swap, kSum_zz (f := fun d => kSum (fun v => kFf (kYs N mg (s + 2 * p + b) k) s p b k v d) (k + 1)) (a := d) (b := p + 1) (by omega) (fun i h1 h2 => kSum_0 (k + 1) (fun v hv => by
        show (if 2 * i ≤ v then _ else 0) = 0
        rw [if_neg (by omega)]))]
    · rw [if_neg (by rw [nI_ltI (by omega) (by omega)]; omega)]
      have h0 : kSum (fun v => kFf (kYs N mg (s + 2 * p + b) k) s p b k v d) (2 * d) = 0 := kSum_0 _ (fun v hv => by
        show (if 2 * d ≤ v then _ else 0) = 0
        rw [if_neg (by omega)])
      obtain ⟨mq1, r1⟩ := q_yo36 (N := N) (d := d) (k15 := fX7_yesOf_l15 N mg mc m) hN hV hC hM hP hsp hk (by omega) (kSum (fun d => kSum (fun v => kFf (kYs N mg (s + 2 * p + b) k) s p b k v d) (k + 1)) d) (k + 1 - 2 * d) N (2 * d) mq (by omega) (by omega) (by omega)
      rw [h0, Nat.add_zero] at r1
      rw [r1]
      exact ih m (d + 1) mq1 (by omega) (by omega)
theorem q_yesOf {A : kA} {now : VX3} {mg : VMg} {N s b p k : Nat} {f mc : Nat → Int64} (hN : 200 ≤ N) (hV : kV A) (hC : kC A now) (hM : kM A mg) (hP : kPas f mc) (hsp : s + 2 * p + b ≤ 60) (hk : k ≤ 60) (mq : VMq) : ∃ mq', fX7_yesOf N mg mc (nI p) (nI s) (nI b) (nI k) mq = some (lN (kYn (kYs N mg (s + 2 * p + b) k) s p b k), mq') := by
  unfold fX7_yesOf
  have e : (2 : Int32) * nI p + nI s + nI b = nI (s + 2 * p + b) := by
    rw [show (2 : Int32) = nI 2 from rfl, pk_mul, nI_add, nI_add]; congr 1; omega
  rw [e]
  exact q_yo15 (N := N) hN hV hC hM hP hsp hk (p + 1) N 0 mq (by omega) (by omega)
