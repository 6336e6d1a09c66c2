/-! what tallies of masks have to do with each other -/
def kTri0 (f : Nat → Nat) : Prop := kOver f = false
theorem kN_mono {P : Nat → Bool} {f g : Nat → Nat} (hP : ∀ x y, x ≤ y → P x = true → P y = true) (h : ∀ j, f j ≤ g j) : ∀ n, kN P f n ≤ kN P g n := by
  intro n
  induction n with
  | zero => exact Nat.le_refl 0
  | succ n ih =>
    show kN P f n + (if P (f n) = true then 1 else 0) ≤ kN P g n + (if P (g n) = true then 1 else 0)
    by_cases a : P (f n) = true
    · rw [if_pos a, if_pos (hP _ _ (h n) a)]; omega
    · rw [if_neg a]; omega
theorem kOver_mono {f g : Nat → Nat} (h : ∀ j, f j ≤ g j) (hg : kOver g = false) : kOver f = false := by
  unfold kOver at hg ⊢
  rw [decide_eq_false_iff_not] at hg ⊢
  have := kN_mono (P := kTri) (fun x y hxy hx => by unfold kTri at hx ⊢; rw [decide_eq_true_eq] at hx ⊢; omega) h 26
  omega
def kPos (x : Nat) : Bool := decide (1 ≤ x)
theorem kN_two {f : Nat → Nat} : ∀ n, kN kTri f n = 0 → kN kTwo' f n = kN kTwo f n ∧ kN kPos f n = kN kOne f n + kN kTwo f n := by
  intro n
  induction n with
  | zero => intro _; exact ⟨rfl, rfl⟩
  | succ n ih =>
    intro h
    have h : kN kTri f n + (if kTri (f n) = true then 1 else 0) = 0 := h
    show kN kTwo' f n + (if kTwo' (f n) = true then 1 else 0) = kN kTwo f n + (if kTwo (f n) = true then 1 else 0) ∧ kN kPos f n + (if kPos (f n) = true then 1 else 0) = kN kOne f n + (if kOne (f n) = true then 1 else 0) + (kN kTwo f n + (if kTwo (f n) = true then 1 else 0))
    obtain ⟨h1, h2⟩ := ih (by omega)
    rw [h1, h2]
    have i0 : ∀ x, kTri x = true ↔ 3 ≤ x := fun x => decide_eq_true_iff
    have i1 : ∀ x, kOne x = true ↔ x = 1 := fun x => decide_eq_true_iff
    have i2 : ∀ x, kTwo x = true ↔ x = 2 := fun x => decide_eq_true_iff
    have i3 : ∀ x, kTwo' x = true ↔ 2 ≤ x := fun x => decide_eq_true_iff
    have i4 : ∀ x, kPos x = true ↔ 1 ≤ x := fun x => decide_eq_true_iff
    simp only [i0, i1, i2, i3, i4] at h ⊢
    have h3 : ¬ 3 ≤ f n := fun q => by rw [if_pos q] at h; omega
    by_cases a : f n = 0
    · rw [a]; simp
    · by_cases b : f n = 1
      · rw [b]; simp; omega
      · rw [show f n = 2 by omega]; simp; omega
def kGd (T : kT) : Nat := T.2.2.2 + kN kOne T.1 26 + kN kTwo T.1 26
theorem kOver0 {f : Nat → Nat} (h : kOver f = false) : kN kTri f 26 = 0 := by
  unfold kOver at h; rw [decide_eq_false_iff_not] at h; omega
theorem kGd_pos {T : kT} (h : kOver T.1 = false) : kGd T = T.2.2.2 + kN kPos T.1 26 := by
  have := (kN_two 26 (kOver0 h)).2; unfold kGd; omega
/-- what a sign adds -/
theorem kAdd_add (T : kT) (c : Int32) (j : Nat) : (kAdd T c).1 j = T.1 j + (kAdd (fun _ => 0, 0, 0, 0) c).1 j ∧ (kAdd T c).2.1 = T.2.1 + 1 ∧ (kAdd T c).2.2.1 = T.2.2.1 + (kAdd (fun _ => 0, 0, 0, 0) c).2.2.1 ∧ (kAdd T c).2.2.2 = T.2.2.2 + (kAdd (fun _ => 0, 0, 0, 0) c).2.2.2 := by
  unfold kAdd
  by_cases e : c = 46
  · rw [if_pos e, if_pos e]; exact ⟨rfl, rfl, rfl, rfl⟩
  · rw [if_neg e, if_neg e]
    by_cases e2 : kBad c = true
    · rw [if_pos e2, if_pos e2]; exact ⟨rfl, rfl, rfl, rfl⟩
    · rw [if_neg e2, if_neg e2]
      refine ⟨?_, rfl, rfl, rfl⟩
      show kUp _ _ _ j = _ + kUp _ _ _ j
      unfold kUp
      by_cases a : j = (c - 65).toNatClampNeg
      · rw [if_pos a, if_pos a, ← a]
      · rw [if_neg a, if_neg a]; rfl
theorem kIn_le {A : kA} {s : Nat} {T U : kT} (h : ∀ j, T.1 j ≤ U.1 j) (h2 : T.2.2.2 ≤ U.2.2.2) : ∀ i, (∀ j, (kIn A s T i).1 j ≤ (kIn A s U i).1 j) ∧ (kIn A s T i).2.2.2 ≤ (kIn A s U i).2.2.2 := by
  intro i
  induction i with
  | zero => exact ⟨h, h2⟩
  | succ i ih =>
    refine ⟨fun j => ?_, ?_⟩
    · show (kAdd _ _).1 j ≤ (kAdd _ _).1 j
      rw [(kAdd_add (kIn A s T i) _ j).1, (kAdd_add (kIn A s U i) _ j).1]
      have := ih.1 j; omega
    · show (kAdd _ _).2.2.2 ≤ (kAdd _ _).2.2.2
      rw [(kAdd_add (kIn A s T i) _ 0).2.2.2, (kAdd_add (kIn A s U i) _ 0).2.2.2]
      have := ih.2; omega
theorem kIn_ge {A : kA} {s : Nat} {T : kT} : ∀ i, (∀ j, T.1 j ≤ (kIn A s T i).1 j) ∧ T.2.2.2 ≤ (kIn A s T i).2.2.2 := by
  intro i
  induction i with
  | zero => exact ⟨fun _ => Nat.le_refl _, Nat.le_refl _⟩
  | succ i ih =>
    refine ⟨fun j => ?_, ?_⟩
    · show _ ≤ (kAdd _ _).1 j
      rw [(kAdd_add (kIn A s T i) _ j).1]
      have := ih.1 j; omega
    · show _ ≤ (kAdd _ _).2.2.2
      rw [(kAdd_add (kIn A s T i) _ 0).2.2.2]
      have := ih.2; omega
theorem kOut_le {A : kA} {W V : Nat} (h : ∀ s, s < 6 → W / 2 ^ s % 2 ≤ V / 2 ^ s % 2) : ∀ s, s ≤ 6 → (∀ j, (kOut A W s).1 j ≤ (kOut A V s).1 j) ∧ (kOut A W s).2.2.2 ≤ (kOut A V s).2.2.2 := by
  intro s
  induction s with
  | zero => intro _; exact ⟨fun _ => Nat.le_refl _, Nat.le_refl _⟩
  | succ s ih =>
    intro hs
    have hh := h s (by omega)
    obtain ⟨i1, i2⟩ := ih (by omega)
    show (∀ j, (if W / 2 ^ s % 2 = 0 then kOut A W s else kIn A s (kOut A W s) (A.1 s)).1 j ≤ (if V / 2 ^ s % 2 = 0 then kOut A V s else kIn A s (kOut A V s) (A.1 s)).1 j) ∧ (if W / 2 ^ s % 2 = 0 then kOut A W s else kIn A s (kOut A W s) (A.1 s)).2.2.2 ≤ (if V / 2 ^ s % 2 = 0 then kOut A V s else kIn A s (kOut A V s) (A.1 s)).2.2.2
    by_cases a : W / 2 ^ s % 2 = 0
    · rw [if_pos a]
      by_cases b : V / 2 ^ s % 2 = 0
      · rw [if_pos b]; exact ⟨i1, i2⟩
      · rw [if_neg b]
        have := kIn_ge (A := A) (s := s) (T := kOut A V s) (A.1 s)
        exact ⟨fun j => Nat.le_trans (i1 j) (this.1 j), Nat.le_trans i2 this.2⟩
    · rw [if_neg a, if_neg (show ¬ V / 2 ^ s % 2 = 0 by omega)]
      exact kIn_le i1 i2 _
theorem kGd_le {A : kA} {W V : Nat} (h : ∀ s, s < 6 → W / 2 ^ s % 2 ≤ V / 2 ^ s % 2) (hV : kOver (kTal A V).1 = false) : kOver (kTal A W).1 = false ∧ kGd (kTal A W) ≤ kGd (kTal A V) := by
  obtain ⟨h1, h2⟩ := kOut_le (A := A) h 6 (by omega)
  have ho : kOver (kTal A W).1 = false := kOver_mono h1 hV
  refine ⟨ho, ?_⟩
  rw [kGd_pos hV, kGd_pos ho]
  have := kN_mono (P := kPos) (fun x y hxy hx => by unfold kPos at hx ⊢; rw [decide_eq_true_eq] at hx ⊢; omega) h1 26
  have h2 : (kTal A W).2.2.2 ≤ (kTal A V).2.2.2 := h2
  have : kN kPos (kTal A W).1 26 ≤ kN kPos (kTal A V).1 26 := this
  omega
theorem kTb_tal {A : kA} (hV : kV A) (W : Nat) : kTb (kTal A W) 60 := kTb_out hV 6 (by omega)
theorem kGd_b {A : kA} (hV : kV A) (W : Nat) : kGd (kTal A W) ≤ 112 := by
  have h := kTb_tal hV W
  have h1 := kN_le (P := kOne) (f := (kTal A W).1) 26
  have h2 := kN_le (P := kTwo) (f := (kTal A W).1) 26
  have := h.1
  have := h.2.2.2
  unfold kGd
  omega
/-- good ones on both sides -/
theorem q_good6 {T : kT} {y : VX4} (h : kY T y) (ho : kOver T.1 = false) : fX4_good y = some (nI (kGd T)) ∧ y.2.2.2.2.2.1 = nI (kN kTwo T.1 26) := by
  obtain ⟨y1, y2, y3, y4, y5, y6, y7⟩ := h
  have := (kN_two 26 (kOver0 ho)).1
  refine ⟨?_, by rw [y6, this]⟩
  unfold fX4_good kGd
  rw [y4, y5, y6, nI_add, nI_add, this]
theorem q_good7 {T : kT} {y : VMl} (h : kZ T y) : fX7_good y = some (nI (kGd T)) := by
  obtain ⟨y2, y3, y4, y5, y6, y7⟩ := h
  unfold fX7_good kGd
  rw [y4, y5, y6, nI_add, nI_add]
theorem q_count {A : kA} {now : VX3} {mg : VMg} {N : Nat} (hN : 100 ≤ N) (hV : kV A) (hC : kC A now) (hM : kM A mg) (a : Int32) (li : VX4) (ml : VMl) : ∃ r li' ml', fX6_count N now a li = some (r, li') ∧ fX7_count N mg a ml = some (r, ml') := by
  obtain ⟨y, e1, e2⟩ := q_readList hN hV hC li
  obtain ⟨z, e3, e4⟩ := q_lay (N := N) (W := 63 - A.2.2.2.1) hN hV hM (by omega) ml
  unfold fX6_count fX7_count
  rw [q_within, q_in, e1, q_valid hN hV hM]
  simp only [q_b1, e3]
  by_cases hw : kW a 0 3 = true
  rotate_left
  · rw [if_neg hw, if_neg hw]; exact ⟨_, _, _, rfl, rfl⟩
  rw [if_pos hw, if_pos hw]
  obtain ⟨j, hj, rfl⟩ := (q_W0n (n := 3) (by omega)).mp hw
  unfold fX7_count_b35
  obtain ⟨z2, z3, z4, z5, z6, z7⟩ := id e4
  obtain ⟨y1, y2, y3, y4, y5, y6, y7⟩ := id e2
  rw [y2, y3, y7, z2, z3, z7, q_good7 e4]
  rcases (show j = 0 ∨ j = 1 ∨ 2 ≤ j by omega) with rfl | rfl | hj2
  · exact ⟨_, _, _, rfl, rfl⟩
  · exact ⟨_, _, _, rfl, rfl⟩
  have n0 : ¬ nI j = 0 := fun q => by have := (nI_eq (b := 0) (by omega) (by omega)).mp q; omega
  have n1 : ¬ nI j = 1 := fun q => by have := (nI_eq (b := 1) (by omega) (by omega)).mp q; omega
  have n2 : ¬ nI j ≤ 1 := fun q => by have := (nI_leI (b := 1) (by omega) (by omega)).mp q; omega
  rw [if_neg n0, if_neg n1, if_neg n2]
  by_cases ho : kOver (kTal A (63 - A.2.2.2.1)).1 = true
  · rw [if_pos ho, if_pos ho]; exact ⟨_, _, _, rfl, rfl⟩
  · rw [if_neg ho, if_neg ho]
    obtain ⟨g1, g2⟩ := q_good6 e2 ((Bool.not_eq_true _).mp ho)
    rw [g1, g2, z6, if_neg n0, if_neg n1]
    by_cases e : nI j = 2
    · rw [if_pos e, if_pos e]; exact ⟨_, _, _, rfl, rfl⟩
    · rw [if_neg e, if_neg e]; exact ⟨_, _, _, rfl, rfl⟩
