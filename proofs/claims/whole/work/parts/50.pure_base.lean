/-! pure side: what both sides hold, and the easy calls -/
theorem q_b1 {α β : Type} (a : α) (f : α → Option β) : k_b1 (some a) f = f a := rfl
theorem q_b2 {α β γ : Type} (q : α × β) (f : α → β → Option γ) : k_b2 (some q) f = f q.1 q.2 := rfl
theorem q_b3 {α β γ δ : Type} (q : α × β × γ) (f : α → β → γ → Option δ) : k_b3 (some q) f = f q.1 q.2.1 q.2.2 := rfl
theorem q_b4 {α β γ δ ε : Type} (q : α × β × γ × δ) (f : α → β → γ → δ → Option ε) : k_b4 (some q) f = f q.1 q.2.1 q.2.2.1 q.2.2.2 := rfl
theorem q_b5 {α β γ δ ε ζ : Type} (q : α × β × γ × δ × ε) (f : α → β → γ → δ → ε → Option ζ) : k_b5 (some q) f = f q.1 q.2.1 q.2.2.1 q.2.2.2.1 q.2.2.2.2 := rfl
def kW (a b c : Int32) : Bool := decide (b ≤ a) && decide (a ≤ c)
theorem q_within (a b c : Int32) : fX6_isWithin a b c = some (kW a b c) := by
  unfold fX6_isWithin kW
  by_cases h1 : a < b
  · rw [if_pos h1]; simp [Int32.not_le.mpr h1]
  · rw [if_neg h1]
    by_cases h2 : c < a
    · rw [if_pos h2]; simp [Int32.not_le.mpr h2]
    · rw [if_neg h2]; simp [Int32.not_lt.mp h1, Int32.not_lt.mp h2]
theorem q_in (a b c : Int32) : fX7_in a b c = some (kW a b c) := q_within a b c
/-- a literal as a natural number's -/
theorem q_W {a : Int32} {b c : Nat} (hb : b ≤ c) (hc : c < 2 ^ 31) : kW a (nI b) (nI c) = true ↔ ∃ j, b ≤ j ∧ j ≤ c ∧ a = nI j := by
  unfold kW
  rw [Bool.and_eq_true, decide_eq_true_eq, decide_eq_true_eq, Int32.le_iff_toInt_le, Int32.le_iff_toInt_le, nI_toInt (by omega), nI_toInt hc]
  constructor
  · rintro ⟨h1, h2⟩
    refine ⟨a.toInt.toNat, by omega, by omega, ?_⟩
    apply Int32.toInt_inj.mp
    rw [nI_toInt (by omega)]; omega
  · rintro ⟨j, h1, h2, rfl⟩
    rw [nI_toInt (by omega)]; omega
def kBad (c : Int32) : Bool := decide (c = 115) || decide (c = 109) || decide (c = 117)
def kLet (c : Int32) : Bool := kW c 65 90
def kName (c : Int32) : Bool := decide (c = 46) || kBad c || kLet c
theorem q_bad6 (c : Int32) : fX6_isBad c = some (kBad c) := by
  unfold fX6_isBad kBad
  by_cases h1 : c = 115 <;> by_cases h2 : c = 109 <;> by_cases h3 : c = 117 <;> simp [h1, h2, h3]
theorem q_bad7 (c : Int32) : fX7_isBad c = some (kBad c) := q_bad6 c
theorem q_let6 (c : Int32) : fX6_isLetter c = some (kLet c) := by unfold fX6_isLetter; rw [q_within]; rfl
theorem q_let7 (c : Int32) : fX7_isPerson c = some (kLet c) := by unfold fX7_isPerson; rw [q_in]; rfl
def kOp (c : Int32) : Bool := decide (c = 43) || decide (c = 45) || decide (c = 42) || decide (c = 47)
def kNum (c : Int32) : Bool := decide (c = 78) || decide (c = 107) || decide (c = 118) || decide (c = 100) || kW c 48 57
theorem q_op6 (c : Int32) : fX6_isOperator c = some (kOp c) := by
  unfold fX6_isOperator kOp
  by_cases h1 : c = 43 <;> by_cases h2 : c = 45 <;> by_cases h3 : c = 42 <;> by_cases h4 : c = 47 <;> simp [h1, h2, h3, h4]
theorem q_op7 (c : Int32) : fX7_isAct c = some (kOp c) := q_op6 c
theorem q_num6 (c : Int32) : fX6_isOperand c = some (kNum c) := by
  unfold fX6_isOperand kNum
  rw [q_within]
  by_cases h1 : c = 78 <;> by_cases h2 : c = 107 <;> by_cases h3 : c = 118 <;> by_cases h4 : c = 100 <;> by_cases h5 : kW c 48 57 = true <;> simp [h1, h2, h3, h4, h5, q_b1]
theorem q_opnum {c : Int32} (h : kOp c = true) : kNum c = false := by
  unfold kOp at h
  simp only [Bool.or_eq_true, decide_eq_true_eq] at h
  rcases h with ((rfl | rfl) | rfl) | rfl <;> decide
theorem q_sheet6 (c : Int32) : fX6_isSheet c = some (kW c 0 5) := by unfold fX6_isSheet; rw [q_within]; rfl
theorem q_sheet7 (c : Int32) : fX7_isSheet c = some (kW c 0 5) := by unfold fX7_isSheet; rw [q_in]; rfl
theorem q_part6 (c : Int32) : fX6_isPart c = some (kW c 0 1) := by unfold fX6_isPart; rw [q_within]; rfl
theorem q_part7 (c : Int32) : fX7_isPart c = some (kW c 0 1) := by unfold fX7_isPart; rw [q_in]; rfl
theorem q_number6 (c : Int32) : fX6_isNumber c = some (kW c 0 60) := by unfold fX6_isNumber; rw [q_within]; rfl
theorem q_Wf {a : Int32} {b c : Nat} (hb : b ≤ c) (hc : c < 2 ^ 31) (h : ¬ kW a (nI b) (nI c) = true) : ¬ ∃ j, b ≤ j ∧ j ≤ c ∧ a = nI j := fun q => h ((q_W hb hc).mpr q)
theorem q_signAt {n i s : Nat} {t : VX5} (hn : n < 2 ^ 31) (hs : s < 2 ^ 31) (h : i < n) (ht : t.2 = nI s) (hi : i < s) : fX5_signAt n t (nI i) = some (t.1 i) := by
  unfold fX5_signAt
  rw [if_neg (nI_pos (by omega)), if_neg (by rw [ht, nI_leI hs (by omega)]; omega), if_neg (by rw [nI_leI hn (by omega)]; omega), if_pos (nI_in h hn), nI_clamp (by omega)]
/-- the two pads: p's first n signs -/
def kP (n : Nat) (p : Nat → Int32) (pad : VX5) (mp : VMp) : Prop := n ≤ 16 ∧ pad.2 = nI n ∧ mp.2 = nI n ∧ ∀ j, j < n → pad.1 j = p j ∧ mp.1 j = p j
theorem q_nf6 {N n i : Nat} {p : Nat → Int32} {pad : VX5} {mp : VMp} (k2 : Int32 → Option Int32) (h : kP n p pad mp) (hi : i < n) : fX6_namesFault_b2 N pad k2 (nI i) = if 10 ≤ i then some (nI i) else if kName (p i) = true then k2 (nI (i + 1)) else some (nI i) := by
  obtain ⟨hn, h2, -, hp⟩ := h
  unfold fX6_namesFault_b2 fX6_namesFault_b42 fX6_namesFault_b47
  rw [if_neg (by rw [h2, nI_leI (by omega) (by omega)]; omega), q_signAt (by omega) (by omega) (by omega) h2 hi, (hp i hi).1]
  have h10 : ((10 : Int32) ≤ nI i) ↔ 10 ≤ i := nI_leI (a := 10) (by omega) (by omega)
  simp only [q_b1, q_bad6, q_let6, h10, nI_1]
  by_cases a : p i = 46 <;> by_cases b : kBad (p i) = true <;> by_cases d : kLet (p i) = true <;> simp [kName, a, b, d]
theorem q_nf7 {N n i : Nat} {p : Nat → Int32} {pad : VX5} {mp : VMp} (k2 : Int32 → Option Int32) (h : kP n p pad mp) (hi : i < n) : fX7_namesFault_b2 N mp k2 (nI i) = if i = 10 then some (nI i) else if kName (p i) = true then k2 (nI (i + 1)) else some (nI i) := by
  obtain ⟨hn, -, h2, hp⟩ := h
  unfold fX7_namesFault_b2 fX7_namesFault_b45
  have h10 : (nI i = (10 : Int32)) ↔ i = 10 := nI_eq (b := 10) (by omega) (by omega)
  rw [if_neg (by rw [h2, nI_leI (by omega) (by omega)]; omega), if_pos (nI_in (by omega) (by omega)), nI_clamp (by omega), (hp i hi).2]
  simp only [q_b1, q_bad7, q_let7, h10, nI_1]
  by_cases a : p i = 46 <;> by_cases b : kBad (p i) = true <;> by_cases d : kLet (p i) = true <;> simp [kName, a, b, d]
theorem q_nf {N n : Nat} {p : Nat → Int32} {pad : VX5} {mp : VMp} (h : kP n p pad mp) : ∀ (j m m' i : Nat), i + j = n → i ≤ 10 → j < m → j < m' → ∃ r, fX6_namesFault_l2 N pad m (nI i) = some r ∧ fX7_namesFault_l2 N mp m' (nI i) = some r ∧ ((r = -6 ∧ n ≤ 10 ∧ ∀ k, i ≤ k → k < n → kName (p k) = true) ∨ ∃ k, k ≤ 16 ∧ r = nI k) := by
  have hn := h.1
  intro j
  induction j with
  | zero =>
    intro m m' i hi h10 hm hm'
    obtain ⟨m, rfl⟩ : ∃ q, m = q + 1 := ⟨m - 1, by omega⟩
    obtain ⟨m', rfl⟩ : ∃ q, m' = q + 1 := ⟨m' - 1, by omega⟩
    refine ⟨-6, ?_, ?_, .inl ⟨rfl, by omega, fun k h1 h2 => by omega⟩⟩
    · show fX6_namesFault_b2 N pad _ _ = _
      unfold fX6_namesFault_b2
      rw [if_pos (by rw [h.2.1, nI_leI (by omega) (by omega)]; omega)]
    · show fX7_namesFault_b2 N mp _ _ = _
      unfold fX7_namesFault_b2
      rw [if_pos (by rw [h.2.2.1, nI_leI (by omega) (by omega)]; omega)]
  | succ j ih =>
    intro m m' i hi h10 hm hm'
    obtain ⟨m, rfl⟩ : ∃ q, m = q + 1 := ⟨m - 1, by omega⟩
    obtain ⟨m', rfl⟩ : ∃ q, m' = q + 1 := ⟨m' - 1, by omega⟩
    show ∃ r, fX6_namesFault_b2 N pad _ _ = _ ∧ fX7_namesFault_b2 N mp _ _ = _ ∧ _
    rw [q_nf6 _ h (by omega), q_nf7 _ h (by omega)]
    by_cases e : i = 10
    · rw [if_pos (by omega), if_pos e]
      exact ⟨_, rfl, rfl, .inr ⟨i, by omega, rfl⟩⟩
    · rw [if_neg (by omega), if_neg e]
      by_cases d : kName (p i) = true
      · rw [if_pos d, if_pos d]
        obtain ⟨r, e1, e2, e3⟩ := ih m m' (i + 1) (by omega) (by omega) (by omega) (by omega)
        refine ⟨r, e1, e2, e3.imp (fun q => ⟨q.1, q.2.1, fun k h1 h2 => ?_⟩) id⟩
        by_cases hk : k = i
        · rw [hk]; exact d
        · exact q.2.2 k (by omega) h2
      · rw [if_neg d, if_neg d]
        exact ⟨_, rfl, rfl, .inr ⟨i, by omega, rfl⟩⟩
theorem q_namesFault {N n : Nat} {p : Nat → Int32} {pad : VX5} {mp : VMp} (hN : 100 ≤ N) (h : kP n p pad mp) : ∃ r, fX6_namesFault N pad = some r ∧ fX7_namesFault N mp = some r ∧ ((r = -6 ∧ n ≤ 10 ∧ ∀ k, k < n → kName (p k) = true) ∨ ∃ k, k ≤ 16 ∧ r = nI k) := by
  obtain ⟨r, e1, e2, e3⟩ := q_nf (N := N) h n N N 0 (by omega) (by omega) (by have := h.1; omega) (by have := h.1; omega)
  exact ⟨r, e1, e2, e3.imp (fun q => ⟨q.1, q.2.1, fun k hk => q.2.2 k (by omega) hk⟩) id⟩
