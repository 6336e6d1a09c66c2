/-! the rule on the pad -/
def kDu (p : Nat → Int32) : Nat → Int
  | 0 => 1
  | i + 1 => kDu p i + (if kOp (p i) = true then 1 else -1)
def kRule (n : Nat) (p : Nat → Int32) : Prop := n ≤ 11 ∧ kDu p n = 0 ∧ ∀ i, i < n → 0 < kDu p i ∧ (kOp (p i) = true ∨ kNum (p i) = true)
theorem q_rf6 {N n i d : Nat} {p : Nat → Int32} {pad : VX5} {mp : VMp} (k4 : Int32 → Int32 → Option Int32) (h : kP n p pad mp) (hi : i < n) (hd : d < 2 ^ 31) : fX6_ruleFault_b4 N pad k4 (nI d) (nI i) = if 11 ≤ i then some (nI i) else if d = 0 then some (nI i) else if kOp (p i) = true then k4 (nI (d + 1)) (nI (i + 1)) else if kNum (p i) = true then k4 (nI (d - 1)) (nI (i + 1)) else some (nI i) := by
  obtain ⟨hn, h2, -, hp⟩ := h
  unfold fX6_ruleFault_b4 fX6_ruleFault_b64
  rw [if_neg (by rw [h2, nI_leI (by omega) (by omega)]; omega), q_signAt (by omega) (by omega) (by omega) h2 hi, (hp i hi).1]
  have h10 : ((11 : Int32) ≤ nI i) ↔ 11 ≤ i := nI_leI (a := 11) (by omega) (by omega)
  have h0 : (nI d = (0 : Int32)) ↔ d = 0 := nI_eq (b := 0) (by omega) (by omega)
  simp only [q_b1, q_op6, q_num6, h10, h0, nI_1]
  by_cases a : d = 0
  · simp [a]
  · obtain ⟨d, rfl⟩ : ∃ q, d = q + 1 := ⟨d - 1, by omega⟩
    rw [pk_m1]; rfl
theorem q_rf7 {N n i d : Nat} {p : Nat → Int32} {pad : VX5} {mp : VMp} (k4 : Int32 → Int32 → Option Int32) (h : kP n p pad mp) (hi : i < n) (hd : d < 2 ^ 31) : fX7_ruleFault_b4 N mp k4 (nI d) (nI i) = if i = 11 then some (nI i) else if d = 0 then some (nI i) else if kOp (p i) = true then k4 (nI (d + 1)) (nI (i + 1)) else if kNum (p i) = true then k4 (nI (d - 1)) (nI (i + 1)) else some (nI i) := by
  obtain ⟨hn, -, h2, hp⟩ := h
  have h10 : (nI i = (11 : Int32)) ↔ i = 11 := nI_eq (b := 11) (by omega) (by omega)
  have h0 : (nI d = (0 : Int32)) ↔ d = 0 := nI_eq (b := 0) (by omega) (by omega)
  have E : fX7_ruleFault_b4 N mp k4 (nI d) (nI i) = fX7_ruleFault_b59 N mp k4 (nI d) (nI i) (p i) (kNum (p i)) := by
    unfold fX7_ruleFault_b4 fX7_ruleFault_b54
    rw [if_neg (by rw [h2, nI_leI (by omega) (by omega)]; omega), if_pos (nI_in (by omega) (by omega)), nI_clamp (by omega), (hp i hi).2]
    simp only [q_b1, q_in]
    by_cases h1 : p i = 78 <;> by_cases h2 : p i = 107 <;> by_cases h3 : p i = 118 <;> by_cases h4 : p i = 100 <;> by_cases h5 : kW (p i) 48 57 = true <;> simp [kNum, h1, h2, h3, h4, h5]
  rw [E]
  unfold fX7_ruleFault_b59 fX7_ruleFault_b85 fX7_ruleFault_b96
  simp only [q_b1, q_op7, h10, h0, nI_1]
  by_cases a : d = 0
  · simp [a]
  · obtain ⟨d, rfl⟩ : ∃ q, d = q + 1 := ⟨d - 1, by omega⟩
    rw [pk_m1]
    by_cases b : kOp (p i) = true
    · have := q_opnum b
      simp [b, this]
    · by_cases c : kNum (p i) = true <;> simp [b, c]
theorem q_rf {N n : Nat} {p : Nat → Int32} {pad : VX5} {mp : VMp} (h : kP n p pad mp) : ∀ (j m m' i d : Nat), i + j = n → i ≤ 11 → d ≤ i + 1 → (d : Int) = kDu p i → (∀ k, k < i → 0 < kDu p k ∧ (kOp (p k) = true ∨ kNum (p k) = true)) → j < m → j < m' → ∃ r, fX6_ruleFault_l4 N pad m (nI d) (nI i) = some r ∧ fX7_ruleFault_l4 N mp m' (nI d) (nI i) = some r ∧ ((r = -6 ∧ kRule n p) ∨ ∃ k, k ≤ 16 ∧ r = nI k) := by
  have hn := h.1
  intro j
  induction j with
  | zero =>
    intro m m' i d hi h10 hd hdu hbe hm hm'
    obtain ⟨m, rfl⟩ : ∃ q, m = q + 1 := ⟨m - 1, by omega⟩
    obtain ⟨m', rfl⟩ : ∃ q, m' = q + 1 := ⟨m' - 1, by omega⟩
    have h0 : (nI d = (0 : Int32)) ↔ d = 0 := nI_eq (b := 0) (by omega) (by omega)
    have hin : i = n := by omega
    subst hin
    show ∃ r, fX6_ruleFault_b4 N pad _ _ _ = _ ∧ fX7_ruleFault_b4 N mp _ _ _ = _ ∧ _
    unfold fX6_ruleFault_b4 fX7_ruleFault_b4
    have hb : pad.2 ≤ nI i := by rw [h.2.1, nI_leI (by omega) (by omega)]; omega
    have hb' : mp.2 ≤ nI i := by rw [h.2.2.1, nI_leI (by omega) (by omega)]; omega
    rw [if_pos hb, if_pos hb']
    by_cases a : d = 0
    · rw [if_pos (h0.mpr a), if_pos (h0.mpr a)]
      exact ⟨-6, rfl, rfl, .inl ⟨rfl, h10, by rw [← hdu, a]; rfl, hbe⟩⟩
    · rw [if_neg (fun q => a (h0.mp q)), if_neg (fun q => a (h0.mp q)), h.2.1, h.2.2.1]
      exact ⟨_, rfl, rfl, .inr ⟨i, by omega, rfl⟩⟩
  | succ j ih =>
    intro m m' i d hi h10 hd hdu hbe hm hm'
    obtain ⟨m, rfl⟩ : ∃ q, m = q + 1 := ⟨m - 1, by omega⟩
    obtain ⟨m', rfl⟩ : ∃ q, m' = q + 1 := ⟨m' - 1, by omega⟩
    show ∃ r, fX6_ruleFault_b4 N pad _ _ _ = _ ∧ fX7_ruleFault_b4 N mp _ _ _ = _ ∧ _
    rw [q_rf6 _ h (by omega) (by omega), q_rf7 _ h (by omega) (by omega)]
    by_cases e : i = 11
    · rw [if_pos (by omega), if_pos e]
      exact ⟨_, rfl, rfl, .inr ⟨i, by omega, rfl⟩⟩
    rw [if_neg (by omega), if_neg e]
    by_cases a : d = 0
    · rw [if_pos a, if_pos a]
      exact ⟨_, rfl, rfl, .inr ⟨i, by omega, rfl⟩⟩
    rw [if_neg a, if_neg a]
    by_cases b : kOp (p i) = true
    · rw [if_pos b, if_pos b]
      refine ih m m' (i + 1) (d + 1) (by omega) (by omega) (by omega) (by show _ = kDu p i + (if kOp (p i) = true then 1 else -1); rw [if_pos b]; omega) (fun k hk => ?_) (by omega) (by omega)
      by_cases hk : k = i
      · rw [hk]; exact ⟨by omega, .inl b⟩
      · exact hbe k (by omega)
    rw [if_neg b, if_neg b]
    by_cases c : kNum (p i) = true
    · rw [if_pos c, if_pos c]
      refine ih m m' (i + 1) (d - 1) (by omega) (by omega) (by omega) (by show _ = kDu p i + (if kOp (p i) = true then 1 else -1); rw [if_neg b]; omega) (fun k hk => ?_) (by omega) (by omega)
      by_cases hk : k = i
      · rw [hk]; exact ⟨by omega, .inr c⟩
      · exact hbe k (by omega)
    rw [if_neg c, if_neg c]
    exact ⟨_, rfl, rfl, .inr ⟨i, by omega, rfl⟩⟩
theorem q_ruleFault {N n : Nat} {p : Nat → Int32} {pad : VX5} {mp : VMp} (hN : 100 ≤ N) (h : kP n p pad mp) : ∃ r, fX6_ruleFault N pad = some r ∧ fX7_ruleFault N mp = some r ∧ ((r = -6 ∧ kRule n p) ∨ ∃ k, k ≤ 16 ∧ r = nI k) :=
  q_rf (N := N) h n N N 0 1 (by omega) (by omega) (by omega) rfl (fun k hk => by omega) (by have := h.1; omega) (by have := h.1; omega)
theorem q_W01 {a : Int32} : kW a 0 1 = true ↔ a = 0 ∨ a = 1 := by
  rw [show kW a 0 1 = kW a (nI 0) (nI 1) from rfl, q_W (by omega) (by omega)]
  constructor
  · rintro ⟨j, -, h, rfl⟩
    rcases (show j = 0 ∨ j = 1 by omega) with rfl | rfl
    · exact .inl rfl
    · exact .inr rfl
  · rintro (rfl | rfl)
    · exact ⟨0, by omega, by omega, rfl⟩
    · exact ⟨1, by omega, by omega, rfl⟩
theorem q_fault {N n : Nat} {p : Nat → Int32} {pad : VX5} {mp : VMp} (hN : 100 ≤ N) (h : kP n p pad mp) (a : Int32) : ∃ r, fX6_fault N pad a = some r ∧ fX7_fault N mp a = some r := by
  obtain ⟨r1, e1, e2, -⟩ := q_namesFault hN h
  obtain ⟨r2, e3, e4, -⟩ := q_ruleFault hN h
  unfold fX6_fault fX7_fault
  rw [q_within, e1, e2, e3, e4]
  simp only [q_b1]
  by_cases h0 : a = 0
  · exact ⟨r1, by simp [h0, q_W01], by simp [h0]⟩
  · by_cases h1 : a = 1
    · exact ⟨r2, by simp [h1, q_W01], by simp [h1]⟩
    · exact ⟨-2, by simp [h0, h1, q_W01], by simp [h0, h1]⟩
