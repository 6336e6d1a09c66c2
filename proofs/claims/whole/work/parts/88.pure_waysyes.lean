/-! in how many ways it says yes: the class -/
def kYs (N : Nat) (mg : VMg) (n k v d : Nat) : Bool := match fX7_saysYes N mg (nI n) (nI k) (nI v) (nI d) ((fun _ => 0), (fun _ => 0), 0, 0) with
  | some q => q.1
  | none => false
theorem q_ys {A : kA} {now : VX3} {mg : VMg} {N n k v d : Nat} (hN : 200 ≤ N) (hV : kV A) (hC : kC A now) (hM : kM A mg) (hn : n ≤ 61) (hk : k ≤ 61) (hv : v ≤ 61) (hd : d ≤ 61) : (∀ re, ∃ re', fX2_reachesNeed N now (nI n) (nI k) (nI v) (nI d) re = some (kYs N mg n k v d, re')) ∧ ∀ mq, ∃ mq', fX7_saysYes N mg (nI n) (nI k) (nI v) (nI d) mq = some (kYs N mg n k v d, mq') := by
  have key := fun re mq => q_yes1 (N := N) hN hV hC hM hn hk hv hd re mq
  have hy : ∀ (b : Bool) (mq' : VMq), fX7_saysYes N mg (nI n) (nI k) (nI v) (nI d) ((fun _ => 0), (fun _ => 0), 0, 0) = some (b, mq') → kYs N mg n k v d = b := by
    intro b mq' h
    unfold kYs
    rw [h]
  constructor
  · intro re
    obtain ⟨b, re', mq', e1, e2⟩ := key re ((fun _ => 0), (fun _ => 0), 0, 0)
    rw [hy b mq' e2]
    exact ⟨re', e1⟩
  · intro mq
    obtain ⟨b, re', mq', e1, e2⟩ := key ((fun _ => 0), (fun _ => 0), 0) mq
    obtain ⟨b0, re0, mq0, f1, f2⟩ := key ((fun _ => 0), (fun _ => 0), 0) ((fun _ => 0), (fun _ => 0), 0, 0)
    rw [f1] at e1
    have : b0 = b := by
      have h1 := Option.some.inj e1
      exact congrArg Prod.fst h1
    rw [hy b0 mq0 f2, this]
    exact ⟨mq', e2⟩
theorem q_max0 {a b : Nat} (ha : a < 2 ^ 30) (hb : b < 2 ^ 30) : (if (0 : Int32) < nI a - nI b then nI a - nI b else 0) = nI (a - b) := by
  by_cases h : b ≤ a
  · rw [pk_sub h]
    by_cases e : a - b = 0
    · rw [e]; rfl
    · rw [if_pos (by rw [show (0 : Int32) = nI 0 from rfl, nI_ltI (by omega) (by omega)]; omega)]
  · have := pk_sneg hb (show a < b by omega)
    rw [if_neg (by rw [Int32.lt_iff_toInt_lt] at this ⊢; omega), show a - b = 0 by omega]; rfl
theorem q_alln {s b p : Nat} {z : VX1} (hL : kLz s b p z) : fX1_valid z = some (nI (s + 2 * p)) ∧ fX1_all z = some (nI (s + 2 * p + b)) := by
  obtain ⟨h1, h2, h3, h4⟩ := hL
  have e : fX1_valid z = some (nI (s + 2 * p)) := by
    unfold fX1_valid
    rw [h1, h3, show (2 : Int32) = nI 2 from rfl, pk_mul, nI_add]
  refine ⟨e, ?_⟩
  unfold fX1_all
  rw [e, h2]
  simp only [q_b1, nI_add]
theorem q_wy44 {A : kA} {now : VX3} {mg : VMg} {N s b p k v : Nat} {lo : VX1} {g : Nat → Int64} {k17 : Int32 → Int64 → Int32 → VX2 → Option (Int64 × VX2)} (hN : 200 ≤ N) (hV : kV A) (hC : kC A now) (hM : kM A mg) (hP : kPas lo.1 g) (hL : kLz s b p lo) (hsp : s + 2 * p + b ≤ 60) (hk : k ≤ 60) (hvk : v ≤ k) (base : Nat) : ∀ (j m d : Nat) (re : VX2), d + j = p + 1 → j < m → ∃ re', fX6_waysToYes_l44 N now lo k17 m (nI k) (lN (base + kSum (fun d => kFf (kYs N mg (s + 2 * p + b) k) s p b k v d) d)) (nI v) (nI d) re = k17 (nI k) (lN (base + kSum (fun d => kFf (kYs N mg (s + 2 * p + b) k) s p b k v d) (p + 1))) (nI (v + 1)) re' := by
  intro j
  induction j with
  | zero =>
    intro m d re hd hm
    obtain ⟨m, rfl⟩ : ∃ q, m = q + 1 := ⟨m - 1, by omega⟩
    obtain rfl : d = p + 1 := by omega
    refine ⟨re, ?_⟩
    show fX6_waysToYes_b44 N now lo k17 _ _ _ _ _ _ = _
    unfold fX6_waysToYes_b44 fX6_waysToYes_b112
    rw [hL.2.2.1, if_pos (by rw [nI_ltI (by omega) (by omega)]; omega), nI_1]
  | succ j ih =>
    intro m d re hd hm
    obtain ⟨m, rfl⟩ : ∃ q, m = q + 1 := ⟨m - 1, by omega⟩
    have e2 : (2 : Int32) * nI d = nI (2 * d) := by rw [show (2 : Int32) = nI 2 from rfl, pk_mul]
    show ∃ re', fX6_waysToYes_b44 N now lo k17 _ _ _ _ _ _ = _
    unfold fX6_waysToYes_b44 fX6_waysToYes_b112 fX6_waysToYes_b106
    rw [hL.2.2.1, if_neg (by rw [nI_ltI (by omega) (by omega)]; omega), e2]
    by_cases a : v < 2 * d
    · rw [if_pos (by rw [nI_ltI (by omega) (by omega)]; omega), nI_1, kSum_zz (f := fun d => kFf (kYs N mg (s + 2 * p + b) k) s p b k v d) (a := d) (b := p + 1) (by omega) (fun i h1 h2 => by
        show (if 2 * i ≤ v then _ else 0) = 0
        rw [if_neg (by omega)])]
      exact ⟨re, rfl⟩
    · rw [if_neg (by rw [nI_ltI (by omega) (by omega)]; omega), (q_alln hL).2]
      obtain ⟨re1, r1⟩ := (q_ys (N := N) (n := s + 2 * p + b) (k := k) (v := v) (d := d) hN hV hC hM (by omega) (by omega) (by omega) (by omega)).1 re
      simp only [q_b1, r1, q_b2, nI_1]
      obtain ⟨re2, r2⟩ := ih m (d + 1) re1 (by omega) (by omega)
      refine ⟨re2, ?_⟩
      rw [← r2]
      show _ = fX6_waysToYes_l44 N now lo k17 m (nI k) (lN (base + (kSum (fun d => kFf (kYs N mg (s + 2 * p + b) k) s p b k v d) d + kFf (kYs N mg (s + 2 * p + b) k) s p b k v d))) (nI v) (nI (d + 1)) re1
      by_cases y : kYs N mg (s + 2 * p + b) k v d = true
      · have hf : kFf (kYs N mg (s + 2 * p + b) k) s p b k v d = kOn s p d v * kCh b (k - v) := by
          unfold kFf
          rw [if_pos (by omega), if_pos y]
        rw [if_pos y, q_ways hsp hP hL (by omega) (by omega) hvk hk, hf]
        simp only [q_b1, lN_add, Nat.add_assoc]
      · have hf : kFf (kYs N mg (s + 2 * p + b) k) s p b k v d = 0 := by
          unfold kFf
          rw [if_pos (by omega), if_neg y]
        rw [if_neg y, hf, Nat.add_zero (kSum _ d)]
theorem q_wy17 {A : kA} {now : VX3} {mg : VMg} {N s b p k M : Nat} {lo : VX1} {g : Nat → Int64} (hN : 200 ≤ N) (hV : kV A) (hC : kC A now) (hM : kM A mg) (hP : kPas lo.1 g) (hL : kLz s b p lo) (hsp : s + 2 * p + b ≤ 60) (hk : k ≤ 60) (hMe : M = if s + 2 * p < k then s + 2 * p else k) : ∀ (j m v : Nat) (re : VX2), v + j = M + 1 → j < m → ∃ re', fX6_waysToYes_l17 N now lo m (nI k) (lN (kSum (fun v => kSum (fun d => kFf (kYs N mg (s + 2 * p + b) k) s p b k v d) (p + 1)) v)) (nI v) re = some (lN (kYn (kYs N mg (s + 2 * p + b) k) s p b k), re') := by
  have hM1 : M ≤ k ∧ M ≤ s + 2 * p ∧ (M < k → M = s + 2 * p) := by
    by_cases a : s + 2 * p < k
    · rw [if_pos a] at hMe; omega
    · rw [if_neg a] at hMe; omega
  have hmin : (if nI (s + 2 * p) < nI k then nI (s + 2 * p) else nI k) = nI M := by
    by_cases a : s + 2 * p < k
    · rw [if_pos a] at hMe; rw [if_pos (by rw [nI_ltI (by omega) (by omega)]; omega), hMe]
    · rw [if_neg a] at hMe; rw [if_neg (by rw [nI_ltI (by omega) (by omega)]; omega), hMe]
  intro j
  induction j with
  | zero =>
    intro m v re hv hm
    obtain ⟨m, rfl⟩ : ∃ q, m = q + 1 := ⟨m - 1, by omega⟩
    obtain rfl : v = M + 1 := by omega
    refine ⟨re, ?_⟩
    show fX6_waysToYes_b17 N now lo _ _ _ _ _ = _
    unfold fX6_waysToYes_b17
    rw [(q_alln hL).1]
    simp only [q_b1, hmin]
    rw [if_pos (by rw [nI_ltI (by omega) (by omega)]; omega)]
    unfold kYn
    rw [kSum_zz (f := fun v => kSum (fun d => kFf (kYs N mg (s + 2 * p + b) k) s p b k v d) (p + 1)) (a := M + 1) (b := k + 1) (by omega) (fun i h1 h2 => kSum_0 (p + 1) (fun d hd => by
      show kFf _ _ _ _ _ _ _ = 0
      unfold kFf kOn
      rw [kWd_0 s (p - d) (i - 2 * d) (by omega), Nat.mul_zero, Nat.zero_mul]
      by_cases a : 2 * d ≤ i
      · rw [if_pos a]
        by_cases c : kYs N mg (s + 2 * p + b) k i d = true
        · rw [if_pos c]
        · rw [if_neg c]
      · rw [if_neg a]))]
  | succ j ih =>
    intro m v re hv hm
    obtain ⟨m, rfl⟩ : ∃ q, m = q + 1 := ⟨m - 1, by omega⟩
    have hld : fX1_leastDoubles lo (nI v) = some (nI (v - (s + p))) := by
      unfold fX1_leastDoubles fX1_people
      rw [hL.1, hL.2.2.1, nI_add, show (nI (s + p) - 0 : Int32) = nI (s + p) from pk_sub (b := 0) (Nat.zero_le _)]
      simp only [q_b1]
      rw [q_max0 (by omega) (by omega)]
    have h0 : kSum (fun d => kFf (kYs N mg (s + 2 * p + b) k) s p b k v d) (v - (s + p)) = 0 := kSum_0 _ (fun d hd => by
      show kFf _ _ _ _ _ _ _ = 0
      unfold kFf kOn
      rw [kWd_0 s (p - d) (v - 2 * d) (by omega), Nat.mul_zero, Nat.zero_mul]
      by_cases a : 2 * d ≤ v
      · rw [if_pos a]
        by_cases c : kYs N mg (s + 2 * p + b) k v d = true
        · rw [if_pos c]
        · rw [if_neg c]
      · rw [if_neg a])
    obtain ⟨re1, r1⟩ := q_wy44 (N := N) (v := v) (k17 := fX6_waysToYes_l17 N now lo m) hN hV hC hM hP hL hsp hk (by omega) (kSum (fun v => kSum (fun d => kFf (kYs N mg (s + 2 * p + b) k) s p b k v d) (p + 1)) v) (p + 1 - (v - (s + p))) N (v - (s + p)) re (by omega) (by omega)
    rw [h0, Nat.add_zero] at r1
    obtain ⟨re2, r2⟩ := ih m (v + 1) re1 (by omega) (by omega)
    refine ⟨re2, ?_⟩
    show fX6_waysToYes_b17 N now lo _ _ _ _ _ = _
    unfold fX6_waysToYes_b17
    rw [(q_alln hL).1]
    simp only [q_b1, hmin]
    rw [if_neg (by rw [nI_ltI (by omega) (by omega)]; omega), hld]
    simp only [q_b1]
    rw [r1]
    exact r2
theorem q_waysYes {A : kA} {now : VX3} {mg : VMg} {N s b p k : Nat} {lo : VX1} {g : Nat → Int64} (hN : 200 ≤ N) (hV : kV A) (hC : kC A now) (hM : kM A mg) (hP : kPas lo.1 g) (hL : kLz s b p lo) (hsp : s + 2 * p + b ≤ 60) (hk : k ≤ s + 2 * p + b) (re : VX2) : ∃ re', fX6_waysToYes N now lo (nI k) re = some (lN (kYn (kYs N mg (s + 2 * p + b) k) s p b k), re') := by
  unfold fX6_waysToYes
  rw [hL.2.1, q_max0 (by omega) (by omega)]
  simp only [q_b1]
  have h0 : kSum (fun v => kSum (fun d => kFf (kYs N mg (s + 2 * p + b) k) s p b k v d) (p + 1)) (k - b) = 0 := kSum_0 _ (fun v hv => kSum_0 _ (fun d hd => by
      show kFf _ _ _ _ _ _ _ = 0
      unfold kFf
      rw [kCh_0 b (k - v) (by omega), Nat.mul_zero]
      by_cases a : 2 * d ≤ v
      · rw [if_pos a]
        by_cases c : kYs N mg (s + 2 * p + b) k v d = true
        · rw [if_pos c]
        · rw [if_neg c]
      · rw [if_neg a]))
  have hM2 : ∃ M, M = if s + 2 * p < k then s + 2 * p else k := ⟨_, rfl⟩
  obtain ⟨M, hMe⟩ := hM2
  have hMb : k - b ≤ M + 1 ∧ M ≤ 60 := by
    by_cases a : s + 2 * p < k
    · rw [if_pos a] at hMe; omega
    · rw [if_neg a] at hMe; omega
  obtain ⟨re1, r1⟩ := q_wy17 (N := N) hN hV hC hM hP hL hsp (by omega) hMe (M + 1 - (k - b)) N (k - b) re (by omega) (by omega)
  rw [h0] at r1
  exact ⟨re1, r1⟩
