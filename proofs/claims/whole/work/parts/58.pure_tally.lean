/-! tallies -/
abbrev kT : Type := (Nat → Nat) × Nat × Nat × Nat
def kUp (f : Nat → Nat) (j v : Nat) : Nat → Nat := fun q => if q = j then v else f q
def kAdd (T : kT) (c : Int32) : kT := if c = 46 then (T.1, T.2.1 + 1, T.2.2.1, T.2.2.2 + 1) else if kBad c = true then (T.1, T.2.1 + 1, T.2.2.1 + 1, T.2.2.2) else (kUp T.1 (c - 65).toNatClampNeg (T.1 (c - 65).toNatClampNeg + 1), T.2.1 + 1, T.2.2.1, T.2.2.2)
def kIn (A : kA) (s : Nat) (T : kT) : Nat → kT
  | 0 => T
  | i + 1 => kAdd (kIn A s T i) (A.2.1 (s * 10 + i))
def kOut (A : kA) (W : Nat) : Nat → kT
  | 0 => (fun _ => 0, 0, 0, 0)
  | s + 1 => if W / 2 ^ s % 2 = 0 then kOut A W s else kIn A s (kOut A W s) (A.1 s)
def kTal (A : kA) (W : Nat) : kT := kOut A W 6
/-- how many of the first n have P -/
def kN (P : Nat → Bool) (f : Nat → Nat) : Nat → Nat
  | 0 => 0
  | n + 1 => kN P f n + (if P (f n) = true then 1 else 0)
theorem kN_off {P : Nat → Bool} {f : Nat → Nat} {j v : Nat} : ∀ n, n ≤ j → kN P (kUp f j v) n = kN P f n := by
  intro n
  induction n with
  | zero => intro _; rfl
  | succ n ih => intro h; show kN P (kUp f j v) n + (if P (if n = j then v else f n) = true then 1 else 0) = _; rw [ih (by omega), if_neg (show ¬ n = j by omega)]; rfl
theorem kN_up {P : Nat → Bool} {f : Nat → Nat} {j v : Nat} : ∀ n, j < n → kN P (kUp f j v) n + (if P (f j) = true then 1 else 0) = kN P f n + (if P v = true then 1 else 0) := by
  intro n
  induction n with
  | zero => intro h; omega
  | succ n ih =>
    intro h
    show kN P (kUp f j v) n + (if P (if n = j then v else f n) = true then 1 else 0) + _ = kN P f n + (if P (f n) = true then 1 else 0) + _
    by_cases e : n = j
    · subst e; rw [kN_off n (by omega), if_pos rfl]; omega
    · rw [if_neg e]; have := ih (by omega); omega
theorem kN_le {P : Nat → Bool} {f : Nat → Nat} : ∀ n, kN P f n ≤ n := by
  intro n
  induction n with
  | zero => exact Nat.le_refl 0
  | succ n ih =>
    show kN P f n + (if P (f n) = true then 1 else 0) ≤ n + 1
    by_cases e : P (f n) = true
    · rw [if_pos e]; omega
    · rw [if_neg e]; omega
def kOne (x : Nat) : Bool := decide (x = 1)
def kTwo (x : Nat) : Bool := decide (x = 2)
def kTwo' (x : Nat) : Bool := decide (2 ≤ x)
def kTri (x : Nat) : Bool := decide (3 ≤ x)
def kOver (f : Nat → Nat) : Bool := decide (0 < kN kTri f 26)
/-- at most n counted, none more often -/
def kTb (T : kT) (n : Nat) : Prop := T.2.1 ≤ n ∧ (∀ j, T.1 j ≤ T.2.1) ∧ T.2.2.1 ≤ T.2.1 ∧ T.2.2.2 ≤ T.2.1
/-- the class's tally while it is read -/
def kY (T : kT) (y : VX4) : Prop := (∀ j, j < 26 → y.1 j = nI (T.1 j)) ∧ y.2.1 = nI T.2.1 ∧ y.2.2.1 = nI T.2.2.1 ∧ y.2.2.2.1 = nI T.2.2.2 ∧ y.2.2.2.2.1 = nI (kN kOne T.1 26) ∧ y.2.2.2.2.2.1 = nI (kN kTwo' T.1 26) ∧ y.2.2.2.2.2.2 = kOver T.1
theorem kTb_add {T : kT} {n : Nat} {c : Int32} (h : kTb T n) : kTb (kAdd T c) (n + 1) := by
  obtain ⟨h1, h2, h3, h4⟩ := h
  unfold kAdd
  by_cases e : c = 46
  · rw [if_pos e]; exact ⟨by dsimp only; omega, fun j => by have := h2 j; dsimp only; omega, by dsimp only; omega, by dsimp only; omega⟩
  · rw [if_neg e]
    by_cases e2 : kBad c = true
    · rw [if_pos e2]; exact ⟨by dsimp only; omega, fun j => by have := h2 j; dsimp only; omega, by dsimp only; omega, by dsimp only; omega⟩
    · rw [if_neg e2]
      refine ⟨by dsimp only; omega, fun j => ?_, by dsimp only; omega, by dsimp only; omega⟩
      show kUp _ _ _ j ≤ _
      unfold kUp
      have := h2 j
      by_cases e3 : j = (c - 65).toNatClampNeg
      · rw [if_pos e3, ← e3]; dsimp only; omega
      · rw [if_neg e3]; dsimp only; omega
theorem kTb_mono {T : kT} {n m : Nat} (h : kTb T n) (hm : n ≤ m) : kTb T m := ⟨Nat.le_trans h.1 hm, h.2⟩
theorem kTb_in {A : kA} {s : Nat} {T : kT} {n : Nat} (h : kTb T n) : ∀ i, kTb (kIn A s T i) (n + i) := by
  intro i
  induction i with
  | zero => exact h
  | succ i ih => exact kTb_add ih
theorem kTb_out {A : kA} (hV : kV A) {W : Nat} : ∀ s, s ≤ 6 → kTb (kOut A W s) (10 * s) := by
  intro s
  induction s with
  | zero => intro _; exact ⟨Nat.le_refl 0, fun _ => Nat.le_refl 0, Nat.le_refl 0, Nat.le_refl 0⟩
  | succ s ih =>
    intro hs
    show kTb (if W / 2 ^ s % 2 = 0 then kOut A W s else kIn A s (kOut A W s) (A.1 s)) _
    have := (hV.2.2.2 s (by omega)).1
    by_cases e : W / 2 ^ s % 2 = 0
    · rw [if_pos e]; exact kTb_mono (ih (by omega)) (by omega)
    · rw [if_neg e]; exact kTb_mono (kTb_in (ih (by omega)) _) (by omega)
theorem kName_let {c : Int32} (h : kName c = true) (h1 : ¬ c = 46) (h2 : ¬ kBad c = true) : kLet c = true ∧ ∃ j, j < 26 ∧ c = nI (65 + j) ∧ c - 65 = nI j := by
  unfold kName at h
  have h3 : kLet c = true := by
    cases e : kLet c with
    | true => rfl
    | false => rw [e] at h; simp [h1, h2] at h
  refine ⟨h3, ?_⟩
  obtain ⟨j, h4, h5, rfl⟩ := (q_W (b := 65) (c := 90) (by omega) (by omega)).mp h3
  exact ⟨j - 65, by omega, by rw [show 65 + (j - 65) = j by omega], pk_sub (b := 65) h4⟩
theorem kOver_up {f : Nat → Nat} {j : Nat} (hj : j < 26) : kOver (kUp f j (f j + 1)) = (kOver f || decide (2 ≤ f j)) := by
  unfold kOver
  have h := kN_up (P := kTri) (f := f) (v := f j + 1) 26 hj
  unfold kTri at h ⊢
  simp only [decide_eq_true_eq] at h
  rw [Bool.eq_iff_iff, Bool.or_eq_true, decide_eq_true_eq, decide_eq_true_eq, decide_eq_true_eq]
  by_cases a : 3 ≤ f j
  · rw [if_pos a, if_pos (by omega)] at h
    have hpos : ∀ n, j < n → 0 < kN (fun x => decide (3 ≤ x)) f n := by
      intro n
      induction n with
      | zero => intro h; omega
      | succ n ih =>
        intro h
        show 0 < kN _ f n + (if decide (3 ≤ f n) = true then 1 else 0)
        by_cases e : n = j
        · subst e; rw [if_pos (by simpa using a)]; omega
        · have := ih (by omega); omega
    have := hpos 26 hj
    omega
  · by_cases b : 3 ≤ f j + 1
    · rw [if_neg a, if_pos b] at h; omega
    · rw [if_neg a, if_neg b] at h; omega
theorem q_add {T : kT} {n : Nat} {y : VX4} {c : Int32} (hn : n ≤ 60) (hb : kTb T n) (h : kY T y) (hc : kName c = true) : ∃ y', fX4_add c y = some y' ∧ kY (kAdd T c) y' := by
  obtain ⟨y1, y2, y3, y4, y5, y6, y7⟩ := id h
  obtain ⟨b1, b2, b3, b4⟩ := hb
  unfold fX4_add
  rw [q_bad6]
  simp only [q_b1]
  unfold kAdd
  by_cases e : c = 46
  · rw [if_pos e, if_pos e]
    exact ⟨_, rfl, y1, by dsimp only; rw [y2, nI_1], y3, by dsimp only; rw [y4, nI_1], y5, y6, y7⟩
  rw [if_neg e, if_neg e]
  by_cases e2 : kBad c = true
  · rw [if_pos e2, if_pos e2]
    exact ⟨_, rfl, y1, by dsimp only; rw [y2, nI_1], by dsimp only; rw [y3, nI_1], y4, y5, y6, y7⟩
  rw [if_neg e2, if_neg e2]
  obtain ⟨-, j, hj, -, ej⟩ := kName_let hc e e2
  rw [ej]
  unfold fX4_addPerson
  have hk : k_in (nI j) 26 := nI_in hj (by omega)
  have hlt : nI j < (26 : Int32) := by rw [show (26 : Int32) = nI 26 from rfl, nI_ltI (by omega) (by omega)]; exact hj
  simp only [if_neg (show ¬ nI j < 0 from nI_pos (by omega)), if_pos hlt, if_pos hk, nI_clamp (show j < 2 ^ 31 by omega), pk_us, y1 j hj, nI_1]
  have hfj : T.1 j ≤ 60 := Nat.le_trans (b2 j) (by omega)
  have c1 : nI (T.1 j + 1) = 1 ↔ T.1 j = 0 := by rw [show (1 : Int32) = nI 1 from rfl, nI_eq (by omega) (by omega)]; omega
  have c2 : nI (T.1 j + 1) = 2 ↔ T.1 j = 1 := by rw [show (2 : Int32) = nI 2 from rfl, nI_eq (by omega) (by omega)]; omega
  have n1 := kN_up (P := kOne) (f := T.1) (v := T.1 j + 1) 26 hj
  have n2 := kN_up (P := kTwo') (f := T.1) (v := T.1 j + 1) 26 hj
  have n3 := kOver_up (f := T.1) hj
  have hy1 : ∀ q, q < 26 → upd y.1 j (nI (T.1 j + 1)) q = nI (kUp T.1 j (T.1 j + 1) q) := by
    intro q hq
    unfold upd kUp
    by_cases a : q = j
    · rw [if_pos a, if_pos a]
    · rw [if_neg a, if_neg a]; exact y1 q hq
  have i1 : ∀ x, kOne x = true ↔ x = 1 := fun x => decide_eq_true_iff
  have i2 : ∀ x, kTwo' x = true ↔ 2 ≤ x := fun x => decide_eq_true_iff
  by_cases a1 : T.1 j = 0
  · rw [if_pos (c1.mpr a1)]
    rw [if_neg (fun q => by have := (i1 _).mp q; omega), if_pos ((i1 _).mpr (by omega))] at n1
    rw [if_neg (fun q => by have := (i2 _).mp q; omega), if_neg (fun q => by have := (i2 _).mp q; omega)] at n2
    refine ⟨_, rfl, hy1, by dsimp only; rw [y2, nI_1], y3, y4, ?_, ?_, ?_⟩
    · dsimp only; rw [y5, nI_1, ← n1]; rfl
    · dsimp only; rw [y6]; congr 1; omega
    · dsimp only; rw [y7, n3, a1]; simp
  rw [if_neg (fun q => a1 (c1.mp q))]
  by_cases a2 : T.1 j = 1
  · rw [if_pos (c2.mpr a2)]
    rw [if_pos ((i1 _).mpr (by omega)), if_neg (fun q => by have := (i1 _).mp q; omega)] at n1
    rw [if_neg (fun q => by have := (i2 _).mp q; omega), if_pos ((i2 _).mpr (by omega))] at n2
    refine ⟨_, rfl, hy1, by dsimp only; rw [y2, nI_1], y3, y4, ?_, ?_, ?_⟩
    · dsimp only
      rw [y5, ← Nat.add_zero (kN kOne T.1 26), ← n1, nI_pred]
    · dsimp only; rw [y6, nI_1]; congr 1; omega
    · dsimp only; rw [y7, n3, a2]; simp
  rw [if_neg (fun q => a2 (c2.mp q))]
  rw [if_neg (fun q => by have := (i1 _).mp q; omega), if_neg (fun q => by have := (i1 _).mp q; omega)] at n1
  rw [if_pos ((i2 _).mpr (by omega)), if_pos ((i2 _).mpr (by omega))] at n2
  refine ⟨_, rfl, hy1, by dsimp only; rw [y2, nI_1], y3, y4, ?_, ?_, ?_⟩
  · dsimp only; rw [y5]; congr 1; omega
  · dsimp only; rw [y6]; congr 1; omega
  · dsimp only; rw [n3, show decide (2 ≤ T.1 j) = true from decide_eq_true (by omega)]; simp
