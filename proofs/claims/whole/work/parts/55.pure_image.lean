/-! rule, image, restore -/
theorem kF_s0 (f : Nat → Int32) (i n : Nat) (p : Nat → Int32) (h : i < n) : kF (upd f i (p i)) 0 (i + 1) n p = kF f 0 i n p := by
  have := kF_s f 0 i n p h; rwa [Nat.zero_add] at this
theorem kF_at0 {f : Nat → Int32} {n i : Nat} {p : Nat → Int32} (h : i < n) : kF f 0 0 n p i = p i := by
  have := kF_at (f := f) (b := 0) (p := p) h; rwa [Nat.zero_add] at this
theorem q_becL {N n nb k : Nat} {p : Nat → Int32} {u : VX5} (h : u.2 = nI k) (hk : k ≤ n) (hk2 : k ≤ nb) (hn : n < 2 ^ 31) (hnb : nb < 2 ^ 31) (hp : ∀ j, j < k → u.1 j = p j) : ∀ (j m i : Nat) (t : VX5), i + j = k → t.2 = nI i → j < m → fX5_become_l6 N n nb u m (nI i) t = some (kF t.1 0 i k p, nI k) := by
  intro j
  induction j with
  | zero =>
    intro m i t hi ht hm
    obtain ⟨m, rfl⟩ : ∃ q, m = q + 1 := ⟨m - 1, by omega⟩
    obtain rfl : i = k := by omega
    show fX5_become_b6 N n nb u _ _ _ = _
    unfold fX5_become_b6
    have e2 : u.2 ≤ nI i := by rw [h, nI_leI (by omega) (by omega)]; omega
    rw [if_pos e2, kF_n, ← ht]
  | succ j ih =>
    intro m i t hi ht hm
    obtain ⟨m, rfl⟩ : ∃ q, m = q + 1 := ⟨m - 1, by omega⟩
    show fX5_become_b6 N n nb u _ _ _ = _
    unfold fX5_become_b6
    have e2 : ¬ u.2 ≤ nI i := by rw [h, nI_leI (by omega) (by omega)]; omega
    rw [if_neg e2, q_signAt (by omega) (by omega) (by omega) h (by omega), hp i (by omega)]
    simp only [q_b1]
    unfold fX5_append
    rw [ht, if_neg (nI_pos (by omega)), if_pos (by rw [nI_ltI (by omega) (by omega)]; omega), if_pos (nI_in (by omega) (by omega)), nI_clamp (by omega), nI_1]
    simp only [q_b2]
    rw [ih m (i + 1) _ (by omega) rfl (by omega)]
    show some (kF (upd t.1 i (p i)) 0 (i + 1) k p, _) = _
    rw [kF_s0 _ _ _ _ (by omega)]
theorem q_bec {N n nb k : Nat} {p : Nat → Int32} {u t : VX5} (hN : 100 ≤ N) (h100 : k < 100) (h : u.2 = nI k) (hk : k ≤ n) (hk2 : k ≤ nb) (hn : n < 2 ^ 31) (hnb : nb < 2 ^ 31) (hp : ∀ j, j < k → u.1 j = p j) : fX5_become N n nb u t = some (kF t.1 0 0 k p, nI k) :=
  q_becL h hk hk2 hn hnb hp k N 0 (t.1, 0) (by omega) rfl (by omega)
theorem q_ruleL {N n : Nat} {p : Nat → Int32} {pad : VX5} (hn : n ≤ 11) : ∀ (j m i : Nat) (mp : VMp) (g : VMg), kP n p pad mp → i + j = n → j < m → fX7_rule_l20 N m (nI i) mp g = some (g.2.2.2.2.2.1, (mp.1, 0), (g.1, g.2.1, g.2.2.1, g.2.2.2.1, g.2.2.2.2.1, g.2.2.2.2.2.1, kF g.2.2.2.2.2.2 0 i n p)) := by
  intro j
  induction j with
  | zero =>
    intro m i mp g h hi hm
    obtain ⟨m, rfl⟩ : ∃ q, m = q + 1 := ⟨m - 1, by omega⟩
    obtain rfl : i = n := by omega
    show fX7_rule_b20 N _ _ _ _ = _
    unfold fX7_rule_b20
    have e2 : mp.2 ≤ nI i := by rw [h.2.2.1, nI_leI (by omega) (by omega)]; omega
    rw [if_pos e2, kF_n]
  | succ j ih =>
    intro m i mp g h hi hm
    obtain ⟨m, rfl⟩ : ∃ q, m = q + 1 := ⟨m - 1, by omega⟩
    show fX7_rule_b20 N _ _ _ _ = _
    unfold fX7_rule_b20
    have e2 : ¬ mp.2 ≤ nI i := by rw [h.2.2.1, nI_leI (by omega) (by omega)]; omega
    rw [if_neg e2, if_pos (nI_in (by omega) (by omega)), if_pos (nI_in (by omega) (by omega)), nI_clamp (by omega), (h.2.2.2 i (by omega)).2, nI_1]
    refine (ih m (i + 1) mp _ h (by omega) (by omega)).trans ?_
    show some (_, _, (_, _, _, _, _, _, kF (upd g.2.2.2.2.2.2 i (p i)) 0 (i + 1) n p)) = _
    rw [kF_s0 _ _ _ _ (by omega)]
theorem q_rule {A : kA} {now : VX3} {mg : VMg} {N n : Nat} {p : Nat → Int32} {pad : VX5} {mp : VMp} (hN : 100 ≤ N) (h : kP n p pad mp) (hV : kV A) (hC : kC A now) (hM : kM A mg) : ∃ r pad' now' mp' mg', fX6_rule N pad now = some (r, pad', now') ∧ fX7_rule N mp mg = some (r, mp', mg') ∧ (now'.2.2.2.2.2.2 = now.2.2.2.2.2.2) ∧ (∃ n p, kP n p pad' mp') ∧ ∃ A, kV A ∧ kC A now' ∧ kM A mg' := by
  obtain ⟨r, e1, e2, e3⟩ := q_ruleFault hN h
  unfold fX6_rule fX7_rule
  rw [e1, e2]
  simp only [q_b1]
  rcases e3 with ⟨rfl, hR⟩ | ⟨k, hk, rfl⟩
  rotate_left
  · rw [if_neg (fun q => absurd q (by rw [← Int32.toInt_inj, nI_toInt (by omega)]; have : (-6 : Int32).toInt = -6 := by decide
                                      omega)), if_neg (nI_pos (by omega))]
    exact ⟨_, _, _, _, _, rfl, rfl, rfl, ⟨n, p, h⟩, A, hV, hC, hM⟩
  have hn := hR.1
  rw [if_pos rfl, if_pos (show (-6 : Int32) < 0 by decide), q_bec (p := p) hN (by omega) h.2.1 (by omega) (by omega) (by omega) (by omega) (fun j hj => (h.2.2.2 j hj).1), show (0 : Int32) = nI 0 from rfl, q_ruleL hn n N 0 mp _ h (by omega) (by omega)]
  unfold fX6_wipe fX5_clear
  simp only [q_b1, q_b2]
  rw [h.2.1, h.2.2.1]
  obtain ⟨v1, v2, v3, v4⟩ := id hV
  obtain ⟨c1, c2, c3, c4, c5⟩ := id hC
  obtain ⟨m1, m2, m3, m4⟩ := id hM
  exact ⟨_, _, _, _, _, rfl, rfl, rfl, ⟨0, p, by omega, rfl, rfl, fun j hj => by omega⟩, (A.1, A.2.1, A.2.2.1, A.2.2.2.1, A.2.2.2.2.1, n, p), ⟨v1, v2, hR, v4⟩, ⟨c1, rfl, fun i hi => kF_at0 hi, c4, c5⟩, ⟨m1, m2, rfl, fun i hi => kF_at0 hi⟩⟩
/-- the reference's n-th image holds A -/
def kMI (A : kA) (f : Nat → Int32) (n : Nat) : Prop := (∀ s, s < 6 → f (92 * n + 12 + s) = nI (A.1 s) ∧ f (92 * n + s) = nI (A.2.2.1 s) ∧ f (92 * n + 6 + s) = nI (A.2.2.2.1 / 2 ^ s % 2) ∧ ∀ i, i < A.1 s → f (92 * n + 18 + (s * 10 + i)) = A.2.1 (s * 10 + i)) ∧ f (92 * n + 78) = nI A.2.2.2.2.1 ∧ f (92 * n + 79) = nI A.2.2.2.2.2.1 ∧ ∀ i, i < A.2.2.2.2.2.1 → f (92 * n + 80 + i) = A.2.2.2.2.2.2 i
def kIm (n : Nat) (r : VX3) (mi : VMi) : Prop := (r.2.2.2.2.2.2 = false ∧ mi.2 n = 0) ∨ (r.2.2.2.2.2.2 = true ∧ mi.2 n ≠ 0 ∧ ∃ A, kV A ∧ kC A r ∧ kMI A mi.1 n)
theorem q_im138 {N n b : Nat} {mg : VMg} (hn : n < 2) (hb : b + 92 ≤ 184) : ∀ (j m i : Nat) (mi : VMi), i + j = 11 → j < m → fX7_image_l138 N mg m (nI n) (nI b) (nI i) mi = some (1, (kF mi.1 (b + 80) i 11 mg.2.2.2.2.2.2, upd mi.2 n (vp_nar .boolean 1))) := by
  intro j
  induction j with
  | zero =>
    intro m i mi hi hm
    obtain ⟨m, rfl⟩ : ∃ q, m = q + 1 := ⟨m - 1, by omega⟩
    obtain rfl : i = 11 := by omega
    show fX7_image_b138 N mg _ _ _ _ _ = _
    unfold fX7_image_b138
    rw [if_pos (show (11 : Int32) ≤ nI 11 by decide), if_pos (nI_in hn (by omega)), nI_clamp (by omega), kF_n]
  | succ j ih =>
    intro m i mi hi hm
    obtain ⟨m, rfl⟩ : ∃ q, m = q + 1 := ⟨m - 1, by omega⟩
    show fX7_image_b138 N mg _ _ _ _ _ = _
    unfold fX7_image_b138
    have e : nI b + 80 + nI i = nI (b + 80 + i) := by rw [show (80 : Int32) = nI 80 from rfl, nI_add, nI_add]
    rw [if_neg (by rw [show (11 : Int32) = nI 11 from rfl, nI_leI (by omega) (by omega)]; omega), if_pos (nI_in (by omega) (by omega)), e, if_pos (nI_in (by omega) (by omega)), nI_clamp (by omega), nI_clamp (by omega), nI_1]
    refine (ih m (i + 1) _ (by omega) (by omega)).trans ?_
    show some (_, kF (upd mi.1 (b + 80 + i) (mg.2.2.2.2.2.2 i)) (b + 80) (i + 1) 11 mg.2.2.2.2.2.2, _) = _
    rw [kF_s _ _ _ _ _ (by omega)]
theorem q_im81 {N n b : Nat} {mg : VMg} (hN : 100 ≤ N) (hn : n < 2) (hb : b + 92 ≤ 184) : ∀ (j m i : Nat) (mi : VMi), i + j = 60 → j < m → fX7_image_l81 N mg m (nI n) (nI b) (nI i) mi = some (1, (kF (upd (upd (kF mi.1 (b + 18) i 60 mg.2.2.2.1) (b + 78) mg.2.2.2.2.1) (b + 79) mg.2.2.2.2.2.1) (b + 80) 0 11 mg.2.2.2.2.2.2, upd mi.2 n (vp_nar .boolean 1))) := by
  intro j
  induction j with
  | zero =>
    intro m i mi hi hm
    obtain ⟨m, rfl⟩ : ∃ q, m = q + 1 := ⟨m - 1, by omega⟩
    obtain rfl : i = 60 := by omega
    show fX7_image_b81 N mg _ _ _ _ _ = _
    unfold fX7_image_b81
    have e : nI b + 78 = nI (b + 78) := nI_add b 78
    have e1 : nI b + 79 = nI (b + 79) := nI_add b 79
    rw [if_pos (show (60 : Int32) ≤ nI 60 by decide), e, e1, if_pos (nI_in (by omega) (by omega)), if_pos (nI_in (by omega) (by omega)), nI_clamp (by omega), nI_clamp (by omega), kF_n]
    exact q_im138 hn hb 11 N 0 _ (by omega) (by omega)
  | succ j ih =>
    intro m i mi hi hm
    obtain ⟨m, rfl⟩ : ∃ q, m = q + 1 := ⟨m - 1, by omega⟩
    show fX7_image_b81 N mg _ _ _ _ _ = _
    unfold fX7_image_b81
    have e : nI b + 18 + nI i = nI (b + 18 + i) := by rw [show (18 : Int32) = nI 18 from rfl, nI_add, nI_add]
    rw [if_neg (by rw [show (60 : Int32) = nI 60 from rfl, nI_leI (by omega) (by omega)]; omega), if_pos (nI_in (by omega) (by omega)), e, if_pos (nI_in (by omega) (by omega)), nI_clamp (by omega), nI_clamp (by omega), nI_1]
    refine (ih m (i + 1) _ (by omega) (by omega)).trans ?_
    show some (_, kF (upd (upd (kF (upd mi.1 (b + 18 + i) (mg.2.2.2.1 i)) (b + 18) (i + 1) 60 mg.2.2.2.1) _ _) _ _) _ _ _ _, _) = _
    rw [kF_s _ _ _ _ _ (by omega)]
theorem kF_3 (f : Nat → Int32) (b i : Nat) (x y z : Nat → Int32) (h : i < 6) : kF (kF (kF (upd (upd (upd f (b + i) (x i)) (b + 6 + i) (y i)) (b + 12 + i) (z i)) b (i + 1) 6 x) (b + 6) (i + 1) 6 y) (b + 12) (i + 1) 6 z = kF (kF (kF f b i 6 x) (b + 6) i 6 y) (b + 12) i 6 z := by
  funext q
  unfold kF upd
  by_cases h1 : q = b + i
  · subst h1
    rw [if_neg (by omega), if_neg (by omega), if_neg (by omega), if_neg (by omega), if_neg (by omega), if_pos rfl, if_neg (by omega), if_neg (by omega), if_pos (by omega)]; congr 1; omega
  · by_cases h2 : q = b + 6 + i
    · subst h2
      rw [if_neg (by omega), if_neg (by omega), if_neg (by omega), if_neg (by omega), if_pos rfl, if_neg (by omega), if_pos (by omega)]; congr 1; omega
    · by_cases h3 : q = b + 12 + i
      · subst h3
        rw [if_neg (by omega), if_neg (by omega), if_neg (by omega), if_pos rfl, if_pos (by omega)]; congr 1; omega
      · rw [if_neg h3, if_neg h2, if_neg h1]
        by_cases a1 : b + 12 + i ≤ q ∧ q < b + 12 + 6
        · rw [if_pos (by omega), if_pos a1]
        · rw [if_neg (by omega), if_neg a1]
          by_cases a2 : b + 6 + i ≤ q ∧ q < b + 6 + 6
          · rw [if_pos (by omega), if_pos a2]
          · rw [if_neg (by omega), if_neg a2]
            by_cases a3 : b + i ≤ q ∧ q < b + 6
            · rw [if_pos (by omega), if_pos a3]
            · rw [if_neg (by omega), if_neg a3]
theorem q_im19 {N n b : Nat} {mg : VMg} (hN : 100 ≤ N) (hn : n < 2) (hb : b + 92 ≤ 184) : ∀ (j m i : Nat) (mi : VMi), i + j = 6 → j < m → fX7_image_l19 N mg m (nI n) (nI b) (nI i) mi = some (1, (kF (upd (upd (kF (kF (kF (kF mi.1 b i 6 mg.1) (b + 6) i 6 mg.2.1) (b + 12) i 6 mg.2.2.1) (b + 18) 0 60 mg.2.2.2.1) (b + 78) mg.2.2.2.2.1) (b + 79) mg.2.2.2.2.2.1) (b + 80) 0 11 mg.2.2.2.2.2.2, upd mi.2 n (vp_nar .boolean 1))) := by
  intro j
  induction j with
  | zero =>
    intro m i mi hi hm
    obtain ⟨m, rfl⟩ : ∃ q, m = q + 1 := ⟨m - 1, by omega⟩
    obtain rfl : i = 6 := by omega
    show fX7_image_b19 N mg _ _ _ _ _ = _
    unfold fX7_image_b19
    rw [if_pos (show (6 : Int32) ≤ nI 6 by decide), kF_n, kF_n, kF_n]
    exact q_im81 hN hn hb 60 N 0 _ (by omega) (by omega)
  | succ j ih =>
    intro m i mi hi hm
    obtain ⟨m, rfl⟩ : ∃ q, m = q + 1 := ⟨m - 1, by omega⟩
    show fX7_image_b19 N mg _ _ _ _ _ = _
    unfold fX7_image_b19
    have e0 : nI b + nI i = nI (b + i) := nI_add b i
    have e6 : nI b + 6 + nI i = nI (b + 6 + i) := by rw [show (6 : Int32) = nI 6 from rfl, nI_add, nI_add]
    have e12 : nI b + 12 + nI i = nI (b + 12 + i) := by rw [show (12 : Int32) = nI 12 from rfl, nI_add, nI_add]
    have k6 : k_in (nI i) 6 := nI_in (by omega) (by omega)
    rw [if_neg (by rw [show (6 : Int32) = nI 6 from rfl, nI_leI (by omega) (by omega)]; omega), e0, e6, e12]
    rw [if_pos k6, if_pos (nI_in (c := b + i) (by omega) (by omega)), if_pos k6, if_pos (nI_in (c := b + 6 + i) (by omega) (by omega)), if_pos k6, if_pos (nI_in (c := b + 12 + i) (by omega) (by omega)), nI_clamp (n := i) (by omega), nI_clamp (n := b + i) (by omega), nI_clamp (n := b + 6 + i) (by omega), nI_clamp (n := b + 12 + i) (by omega), nI_1]
    refine (ih m (i + 1) _ (by omega) (by omega)).trans ?_
    show some (_, kF (upd (upd (kF (kF (kF (kF (upd (upd (upd mi.1 (b + i) (mg.1 i)) (b + 6 + i) (mg.2.1 i)) (b + 12 + i) (mg.2.2.1 i)) b (i + 1) 6 mg.1) (b + 6) (i + 1) 6 mg.2.1) (b + 12) (i + 1) 6 mg.2.2.1) _ _ _ _) _ _) _ _) _ _ _ _, _) = _
    rw [kF_3 _ _ _ _ _ _ (by omega)]
theorem q_bit0 {x : Nat} (h : x % 2 = 0) : nI (x % 2) = 0 := by rw [h]; rfl
theorem q_image1 {A : kA} {now r : VX3} {mg : VMg} {mi : VMi} {N n : Nat} (hN : 100 ≤ N) (hn : n < 2) (hV : kV A) (hC : kC A now) (hM : kM A mg) : ∃ r' mi', fX3_become N now r = some r' ∧ fX7_image N mg (nI n) mi = some (1, mi') ∧ kIm n (r'.1, r'.2.1, r'.2.2.1, r'.2.2.2.1, r'.2.2.2.2.1, r'.2.2.2.2.2.1, true) mi' ∧ ∀ (k : Nat) (q : VX3), k < 2 → k ≠ n → kIm k q mi → kIm k q mi' := by
  obtain ⟨v1, v2, v3, v4⟩ := id hV
  obtain ⟨c1, c2, c3, c4, c5⟩ := id hC
  obtain ⟨m1, m2, m3, m4⟩ := id hM
  have hrs := v3.1
  unfold fX3_become fX3_copy_60 fX3_copy_6
  simp only [q_b1]
  unfold fX7_image
  rw [q_bec (p := A.2.2.2.2.2.2) hN (by omega) c2 hrs hrs (by omega) (by omega) c3, q_in]
  simp only [q_b1]
  rw [if_pos (show kW (nI n) 0 1 = true from (q_W0n (n := 1) (by omega)).mpr ⟨n, by omega, rfl⟩), show (92 : Int32) * nI n = nI (92 * n) from pk_mul 92 n, show (0 : Int32) = nI 0 from rfl, q_im19 hN hn (by omega) 6 N 0 mi (by omega) (by omega)]
  refine ⟨_, _, rfl, rfl, .inr ⟨rfl, ?_, A, hV, ⟨fun s hs => ⟨?_, ?_, fun i hi => ?_⟩, rfl, fun i hi => kF_at0 hi, c4, c5⟩, ⟨fun s hs => ⟨?_, ?_, ?_, fun i hi => ?_⟩, ?_, ?_, fun i hi => ?_⟩⟩, ?_⟩
  · show upd mi.2 n (vp_nar .boolean 1) n ≠ 0
    rw [pk_us]; decide
  · show va_cpy now.2.1 r.2.1 0 0 6 s = _
    rw [pk_cpy_in (by omega) (by omega), Nat.zero_add, Nat.sub_zero]; exact (c1 s hs).1
  · show va_cpy now.2.2.1 r.2.2.1 0 0 6 s = _
    rw [pk_cpy_in (by omega) (by omega), Nat.zero_add, Nat.sub_zero]; exact (c1 s hs).2.1
  · show va_cpy now.1 r.1 0 0 60 (s * 10 + i) = _
    have := (v4 s hs).1
    rw [pk_cpy_in (by omega) (by omega), Nat.zero_add, Nat.sub_zero]; exact (c1 s hs).2.2 i hi
  · dsimp only
    rw [kF_off (by omega), pk_un (by omega), pk_un (by omega), kF_off (by omega), kF_at hs]; exact (m1 s hs).1
  · dsimp only
    rw [kF_off (by omega), pk_un (by omega), pk_un (by omega), kF_off (by omega), kF_off (by omega), kF_off (by omega), kF_at hs]; exact (m1 s hs).2.1
  · dsimp only
    rw [kF_off (by omega), pk_un (by omega), pk_un (by omega), kF_off (by omega), kF_off (by omega), kF_at hs]; exact (m1 s hs).2.2.1
  · have := (v4 s hs).1
    dsimp only
    rw [kF_off (by omega), pk_un (by omega), pk_un (by omega), kF_at (by omega)]; exact (m1 s hs).2.2.2 i hi
  · dsimp only
    rw [kF_off (by omega), pk_un (by omega), pk_us]; exact m2
  · dsimp only
    rw [kF_off (by omega), pk_us]; exact m3
  · dsimp only
    rw [kF_at (by omega)]; exact m4 i hi
  · intro k q hk hkn h
    rcases h with ⟨h1, h2⟩ | ⟨h1, h2, B, b1, b2, b3, b4, b5, b6⟩
    · exact .inl ⟨h1, by show upd mi.2 n _ k = 0; rw [pk_un hkn]; exact h2⟩
    · have hoff : ∀ x, x < 92 → kF (upd (upd (kF (kF (kF (kF mi.1 (92 * n) 0 6 mg.1) (92 * n + 6) 0 6 mg.2.1) (92 * n + 12) 0 6 mg.2.2.1) (92 * n + 18) 0 60 mg.2.2.2.1) (92 * n + 78) mg.2.2.2.2.1) (92 * n + 79) mg.2.2.2.2.2.1) (92 * n + 80) 0 11 mg.2.2.2.2.2.2 (92 * k + x) = mi.1 (92 * k + x) := by
        intro x hx
        rw [kF_off (by omega), pk_un (by omega), pk_un (by omega), kF_off (by omega), kF_off (by omega), kF_off (by omega), kF_off (by omega)]
      have b11 := b1.2.2.1.1
      refine .inr ⟨h1, by show upd mi.2 n _ k ≠ 0; rw [pk_un hkn]; exact h2, B, b1, b2, fun s hs => ⟨?_, ?_, ?_, fun i hi => ?_⟩, ?_, ?_, fun i hi => ?_⟩
      · dsimp only
        rw [Nat.add_assoc, hoff _ (by omega), ← Nat.add_assoc]; exact (b3 s hs).1
      · dsimp only
        rw [hoff _ (by omega)]; exact (b3 s hs).2.1
      · dsimp only
        rw [Nat.add_assoc, hoff _ (by omega), ← Nat.add_assoc]; exact (b3 s hs).2.2.1
      · have := (b1.2.2.2 s hs).1
        dsimp only
        rw [Nat.add_assoc, hoff _ (by omega), ← Nat.add_assoc]; exact (b3 s hs).2.2.2 i hi
      · dsimp only
        rw [hoff _ (by omega)]; exact b4
      · dsimp only
        rw [hoff _ (by omega)]; exact b5
      · dsimp only
        rw [Nat.add_assoc, hoff _ (by omega), ← Nat.add_assoc]; exact b6 i hi
theorem q_image {A : kA} {now fi se : VX3} {mg : VMg} {mi : VMi} {N : Nat} (hN : 100 ≤ N) (hV : kV A) (hC : kC A now) (hM : kM A mg) (h0 : kIm 0 fi mi) (h1 : kIm 1 se mi) (a : Int32) : ∃ r fi' se' mi', fX6_image N now a fi se = some (r, fi', se') ∧ fX7_image N mg a mi = some (r, mi') ∧ kIm 0 fi' mi' ∧ kIm 1 se' mi' := by
  by_cases hw : kW a 0 1 = true
  rotate_left
  · unfold fX6_image fX7_image
    rw [q_within, q_in]
    simp only [q_b1]
    rw [if_neg hw, if_neg hw]
    exact ⟨_, _, _, _, rfl, rfl, h0, h1⟩
  rcases q_W01.mp hw with rfl | rfl
  · obtain ⟨r', mi', e1, e2, e3, e4⟩ := q_image1 (r := fi) (mi := mi) (n := 0) hN (by omega) hV hC hM
    refine ⟨_, _, _, _, ?_, e2, e3, e4 1 se (by omega) (by omega) h1⟩
    unfold fX6_image
    rw [q_within]
    simp only [q_b1, if_pos hw, if_true, e1]
  · obtain ⟨r', mi', e1, e2, e3, e4⟩ := q_image1 (r := se) (mi := mi) (n := 1) hN (by omega) hV hC hM
    refine ⟨_, _, _, _, ?_, e2, e4 0 fi (by omega) (by omega) h0, e3⟩
    unfold fX6_image
    rw [q_within]
    simp only [q_b1, if_pos hw, if_neg (show ¬ (1 : Int32) = 0 by decide), e1]
