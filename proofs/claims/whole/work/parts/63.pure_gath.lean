/-! masks out of a question, gatherer -/
def kMk (b : Nat → Bool) : Nat → Nat
  | 0 => 0
  | s + 1 => kMk b s + (if b s = true then 2 ^ s else 0)
theorem q_or : ∀ W : Fin 64, ∀ s : Fin 6, W.1 < 2 ^ s.1 → (nI W.1 ||| ((1 : Int32) <<< (nI s.1 &&& 31))) = nI (W.1 + 2 ^ s.1) ∧ (W.1 + 2 ^ s.1) / 2 ^ s.1 % 2 = 1 ∧ W.1 / 2 ^ s.1 % 2 = 0 ∧ (nI W.1 ||| 0) = nI W.1 ∧ ∀ t : Fin 6, t.1 < s.1 → (W.1 + 2 ^ s.1) / 2 ^ t.1 % 2 = W.1 / 2 ^ t.1 % 2 := by decide +kernel
theorem kMk_lt (b : Nat → Bool) : ∀ s, kMk b s < 2 ^ s := by
  intro s
  induction s with
  | zero => exact Nat.zero_lt_one
  | succ s ih =>
    show kMk b s + (if b s = true then 2 ^ s else 0) < 2 ^ (s + 1)
    have : 2 ^ (s + 1) = 2 ^ s + 2 ^ s := by rw [Nat.pow_succ]; omega
    by_cases a : b s = true
    · rw [if_pos a]; omega
    · rw [if_neg a]; omega
theorem kMk_64 (b : Nat → Bool) {s : Nat} (h : s ≤ 6) : kMk b s < 64 := Nat.lt_of_lt_of_le (kMk_lt b s) (Nat.pow_le_pow_right (by omega) h)
theorem kMk_bit (b : Nat → Bool) : ∀ s, s ≤ 6 → ∀ t, t < s → kMk b s / 2 ^ t % 2 = if b t = true then 1 else 0 := by
  intro s
  induction s with
  | zero => intro _ t ht; omega
  | succ s ih =>
    intro hs t ht
    obtain ⟨h1, h2, h3, -, h4⟩ := q_or ⟨kMk b s, kMk_64 b (by omega)⟩ ⟨s, by omega⟩ (kMk_lt b s)
    dsimp only at h1 h2 h3 h4
    show (kMk b s + (if b s = true then 2 ^ s else 0)) / 2 ^ t % 2 = _
    by_cases e : t = s
    · subst e
      by_cases a : b t = true
      · rw [if_pos a, if_pos a]; exact h2
      · rw [if_neg a, if_neg a, Nat.add_zero]; exact h3
    · have := ih (by omega) t (by omega)
      by_cases a : b s = true
      · rw [if_pos a, h4 ⟨t, by omega⟩ (by show t < s; omega)]; exact this
      · rw [if_neg a, Nat.add_zero]; exact this
theorem kMk_or (b : Nat → Bool) {s : Nat} (hs : s < 6) (h : b s = true) : (nI (kMk b s) ||| ((1 : Int32) <<< (nI s &&& 31))) = nI (kMk b (s + 1)) := by
  have := (q_or ⟨kMk b s, kMk_64 b (by omega)⟩ ⟨s, hs⟩ (kMk_lt b s)).1
  dsimp only at this
  rw [this]
  show _ = nI (kMk b s + (if b s = true then 2 ^ s else 0))
  rw [if_pos h]
theorem kMk_no (b : Nat → Bool) {s : Nat} (h : ¬ b s = true) : kMk b (s + 1) = kMk b s := by
  show kMk b s + (if b s = true then 2 ^ s else 0) = _
  rw [if_neg h]; rfl
theorem q_or0 {W : Nat} (h : W < 2 ^ 31) : (nI W ||| 0) = nI W := Int32.or_zero
/-- the sheets of a gatherer -/
def kSg (A : kA) (g : Nat) (s : Nat) : Bool := decide (A.2.2.2.1 / 2 ^ s % 2 = 0) && decide (A.2.2.1 s = g)
theorem q_sheetsL {A : kA} {now : VX3} {N g : Nat} (hV : kV A) (hC : kC A now) (hg : g < 5) : ∀ (j m s : Nat), s + j = 6 → j < m → fX6_sheetsOf_l4 N now m (nI g) (nI (kMk (kSg A g) s)) (nI s) = some (nI (kMk (kSg A g) 6)) := by
  intro j
  induction j with
  | zero =>
    intro m s hi hm
    obtain ⟨m, rfl⟩ : ∃ q, m = q + 1 := ⟨m - 1, by omega⟩
    obtain rfl : s = 6 := by omega
    rfl
  | succ j ih =>
    intro m s hi hm
    obtain ⟨m, rfl⟩ : ∃ q, m = q + 1 := ⟨m - 1, by omega⟩
    have hs : s < 6 := by omega
    show fX6_sheetsOf_b4 N now _ _ _ _ = _
    unfold fX6_sheetsOf_b4 fX6_sheetsOf_b39
    have n6 : ¬ (6 : Int32) ≤ nI s := by rw [show (6 : Int32) = nI 6 from rfl, nI_leI (by omega) (by omega)]; omega
    rw [if_neg n6, q_struck6 hV hC hs, q_gathererOf hC hs, nI_1, ← ih m (s + 1) (by omega) (by omega)]
    simp only [q_b1]
    have hgs := (hV.2.2.2 s hs).2.1
    have e1 : nI (A.2.2.1 s) = nI g ↔ A.2.2.1 s = g := nI_eq (by omega) (by omega)
    by_cases a : A.2.2.2.1 / 2 ^ s % 2 = 1
    · rw [if_pos (decide_eq_true a), kMk_no (kSg A g) (s := s) (by unfold kSg; simp; omega)]
    · rw [if_neg (fun q => a (of_decide_eq_true q))]
      by_cases c : A.2.2.1 s = g
      · rw [if_pos (e1.mpr c), kMk_or (kSg A g) hs (by unfold kSg; simp; omega)]
      · rw [if_neg (fun q => c (e1.mp q)), kMk_no (kSg A g) (s := s) (by unfold kSg; simp; omega)]
theorem q_sheetsOf {A : kA} {now : VX3} {N g : Nat} (hN : 100 ≤ N) (hV : kV A) (hC : kC A now) (hg : g < 5) : fX6_sheetsOf N now (nI g) = some (nI (kMk (kSg A g) 6)) :=
  q_sheetsL hV hC hg 6 N 0 (by omega) (by omega)
theorem q_his20 {A : kA} {mg : VMg} {N g s : Nat} {T : kT} {k12 : Int32 → Int32 → VMh → Option VMh} (hV : kV A) (hM : kM A mg) (hg : g < 5) (hs : s < 6) (hb : kSg A g s = true) : ∀ (j m i : Nat), i + j = A.1 s → j < m → fX7_layHis_l20 N mg k12 m (nI g) (nI s) (nI i) (nI (kIn A s T i).2.1, nI (kIn A s T i).2.2.1) = k12 (nI g) (nI (s + 1)) (nI (kIn A s T (A.1 s)).2.1, nI (kIn A s T (A.1 s)).2.2.1) := by
  have hz := (hV.2.2.2 s hs).1
  have hk6 : k_in (nI s) 6 := nI_in hs (by omega)
  unfold kSg at hb
  simp only [Bool.and_eq_true, decide_eq_true_eq] at hb
  intro j
  induction j with
  | zero =>
    intro m i hi hm
    obtain ⟨m, rfl⟩ : ∃ q, m = q + 1 := ⟨m - 1, by omega⟩
    have : i = A.1 s := by omega
    subst this
    show fX7_layHis_b20 N mg _ _ _ _ _ _ = _
    unfold fX7_layHis_b20 fX7_layHis_b96
    simp only [if_pos hk6, nI_clamp (show s < 2 ^ 31 by omega)]
    rw [(hM.1 s hs).1, if_pos (by rw [nI_leI (by omega) (by omega)]; omega), nI_1]
  | succ j ih =>
    intro m i hi hm
    obtain ⟨m, rfl⟩ : ∃ q, m = q + 1 := ⟨m - 1, by omega⟩
    have e : (10 : Int32) * nI s + nI i = nI (s * 10 + i) := by rw [show (10 : Int32) = nI 10 from rfl, pk_mul, nI_add, Nat.mul_comm]
    have hc := (hV.2.2.2 s hs).2.2 i (by omega)
    show fX7_layHis_b20 N mg _ _ _ _ _ _ = _
    unfold fX7_layHis_b20 fX7_layHis_b86
    simp only [if_pos hk6, nI_clamp (show s < 2 ^ 31 by omega)]
    rw [(hM.1 s hs).1, if_neg (by rw [nI_leI (by omega) (by omega)]; omega), (hM.1 s hs).2.2.1, if_pos (by rw [hb.1]; rfl), (hM.1 s hs).2.1, if_pos (by rw [hb.2]), e, if_pos (nI_in (by omega) (by omega)), nI_clamp (by omega), (hM.1 s hs).2.2.2 i (by omega)]
    simp only [q_b1, q_bad7]
    rw [← ih m (i + 1) (by omega) (by omega), nI_1, nI_1]
    have h1 : (kIn A s T (i + 1)).2.1 = (kIn A s T i).2.1 + 1 := (kAdd_add _ _ 0).2.1
    have h2 : (kIn A s T (i + 1)).2.2.1 = (kIn A s T i).2.2.1 + (if kBad (A.2.1 (s * 10 + i)) = true then 1 else 0) := by
      show (kAdd _ _).2.2.1 = _
      unfold kAdd
      by_cases a : A.2.1 (s * 10 + i) = 46
      · rw [if_pos a, a, if_neg (by rw [kBad46]; decide)]; rfl
      · rw [if_neg a]
        by_cases b : kBad (A.2.1 (s * 10 + i)) = true
        · rw [if_pos b, if_pos b]
        · rw [if_neg b, if_neg b]; rfl
    rw [h1, h2]
    by_cases b : kBad (A.2.1 (s * 10 + i)) = true
    · rw [if_pos b, if_pos b]
      show fX7_layHis_l20 _ _ _ _ _ _ _ (_, nI _ + 1) = _
      rw [nI_1]
    · rw [if_neg b, if_neg b]
      show fX7_layHis_l20 _ _ _ _ _ _ _ (_, nI _ + nI 0) = _
      rw [nI_add]
theorem q_his12 {A : kA} {mg : VMg} {N g : Nat} (hN : 100 ≤ N) (hV : kV A) (hM : kM A mg) (hg : g < 5) : ∀ (j m s : Nat), s + j = 6 → j < m → fX7_layHis_l12 N mg m (nI g) (nI s) (nI (kOut A (kMk (kSg A g) 6) s).2.1, nI (kOut A (kMk (kSg A g) 6) s).2.2.1) = some (nI (kTal A (kMk (kSg A g) 6)).2.1, nI (kTal A (kMk (kSg A g) 6)).2.2.1) := by
  intro j
  induction j with
  | zero =>
    intro m s hi hm
    obtain ⟨m, rfl⟩ : ∃ q, m = q + 1 := ⟨m - 1, by omega⟩
    obtain rfl : s = 6 := by omega
    rfl
  | succ j ih =>
    intro m s hi hm
    obtain ⟨m, rfl⟩ : ∃ q, m = q + 1 := ⟨m - 1, by omega⟩
    have hs : s < 6 := by omega
    have hz := (hV.2.2.2 s hs).1
    have hk6 : k_in (nI s) 6 := nI_in hs (by omega)
    have n6 : ¬ (6 : Int32) ≤ nI s := by rw [show (6 : Int32) = nI 6 from rfl, nI_leI (by omega) (by omega)]; omega
    show fX7_layHis_b12 N mg _ _ _ _ = _
    unfold fX7_layHis_b12
    rw [if_neg n6, ← ih m (s + 1) (by omega) (by omega)]
    have hb := kMk_bit (kSg A g) 6 (by omega) s hs
    have ho : kOut A (kMk (kSg A g) 6) (s + 1) = if kMk (kSg A g) 6 / 2 ^ s % 2 = 0 then kOut A (kMk (kSg A g) 6) s else kIn A s (kOut A (kMk (kSg A g) 6) s) (A.1 s) := rfl
    by_cases e : kSg A g s = true
    · rw [if_pos e] at hb
      rw [ho, if_neg (by omega)]
      exact q_his20 (N := N) (T := kOut A (kMk (kSg A g) 6) s) (k12 := fX7_layHis_l12 N mg m) hV hM hg hs e (A.1 s) N 0 (by omega) (by omega)
    · rw [if_neg e] at hb
      rw [ho, if_pos hb]
      obtain ⟨N', rfl⟩ : ∃ q, N = q + 1 := ⟨N - 1, by omega⟩
      show fX7_layHis_b20 (N' + 1) mg _ _ _ _ _ _ = _
      unfold fX7_layHis_b20 fX7_layHis_b96
      have hgs := (hV.2.2.2 s hs).2.1
      have e1 : nI (A.2.2.1 s) = nI g ↔ A.2.2.1 s = g := nI_eq (by omega) (by omega)
      have e0 : nI (A.2.2.2.1 / 2 ^ s % 2) = 0 ↔ A.2.2.2.1 / 2 ^ s % 2 = 0 := nI_eq (b := 0) (by omega) (by omega)
      simp only [if_pos hk6, nI_clamp (show s < 2 ^ 31 by omega)]
      rw [(hM.1 s hs).2.2.1, (hM.1 s hs).2.1, nI_1]
      unfold kSg at e
      simp only [Bool.and_eq_true, decide_eq_true_eq] at e
      by_cases a1 : mg.2.2.1 s ≤ 0
      · rw [if_pos a1]
      · rw [if_neg a1]
        by_cases a2 : A.2.2.2.1 / 2 ^ s % 2 = 0
        · rw [if_pos (e0.mpr a2), if_neg (fun q => e ⟨a2, e1.mp q⟩)]
        · rw [if_neg (fun q => a2 (e0.mp q))]
theorem q_his {A : kA} {mg : VMg} {N g : Nat} (hN : 100 ≤ N) (hV : kV A) (hM : kM A mg) (hg : g < 5) (mh : VMh) : fX7_layHis N mg (nI g) mh = some (nI (kTal A (kMk (kSg A g) 6)).2.1, nI (kTal A (kMk (kSg A g) 6)).2.2.1) :=
  q_his12 hN hV hM hg 6 N 0 (by omega) (by omega)
theorem q_gat6 (c : Int32) : fX6_isGatherer c = some (kW c 0 4) := by unfold fX6_isGatherer; rw [q_within]; rfl
theorem q_gat7 (c : Int32) : fX7_isGatherer c = some (kW c 0 4) := by unfold fX7_isGatherer; rw [q_in]; rfl
theorem q_gatherer {A : kA} {now : VX3} {mg : VMg} {N : Nat} (hN : 100 ≤ N) (hV : kV A) (hC : kC A now) (hM : kM A mg) (a b : Int32) (so : VX4) (mh : VMh) : ∃ r so' mh', fX6_gatherer N now a b so = some (r, so') ∧ fX7_gatherer N mg a b mh = some (r, mh') := by
  unfold fX6_gatherer fX7_gatherer
  rw [q_gat6, q_gat7, q_within, q_in]
  simp only [q_b1]
  by_cases hw : kW a 0 4 = true
  rotate_left
  · rw [if_neg hw, if_neg hw]; exact ⟨_, _, _, rfl, rfl⟩
  by_cases hb : kW b 0 1 = true
  rotate_left
  · rw [if_pos hw, if_pos hw, if_neg hb, if_neg hb]; exact ⟨_, _, _, rfl, rfl⟩
  rw [if_pos hw, if_pos hw, if_pos hb, if_pos hb]
  obtain ⟨g, hg, rfl⟩ := (q_W0n (n := 4) (by omega)).mp hw
  obtain ⟨y, e1, e2⟩ := q_read (W := kMk (kSg A g) 6) hN hV hC (kMk_64 _ (by omega)) so
  rw [q_sheetsOf hN hV hC (by omega), q_his hN hV hM (by omega)]
  simp only [q_b1, e1, e2.2.1, e2.2.2.1]
  by_cases e : b = 0
  · rw [if_pos e, if_pos e]; exact ⟨_, _, _, rfl, rfl⟩
  · rw [if_neg e, if_neg e]; exact ⟨_, _, _, rfl, rfl⟩
