/-! the start -/
def kR0 : Nat → Int32 := fun i => k_fr.getD i 0
def kA0 : kA := (fun _ => 0, fun _ => 0, fun _ => 0, 0, 30, 11, kR0)
theorem kR0_rule : kRule 11 kR0 := by
  refine ⟨Nat.le_refl 11, by decide +kernel, ?_⟩
  have h : ∀ i : Fin 11, 0 < kDu kR0 i.1 ∧ (kOp (kR0 i.1) = true ∨ kNum (kR0 i.1) = true) := by decide +kernel
  exact fun i hi => h ⟨i, hi⟩
theorem kV0 : kV kA0 := ⟨by decide, by decide, kR0_rule, fun s _ => ⟨Nat.zero_le 10, Nat.succ_pos 4, fun i hi => absurd hi (Nat.not_lt_zero i)⟩⟩
theorem q_in49 {N : Nat} : ∀ (j m i : Nat) (r : VX3), i + j = 11 → j < m → r.2.2.2.1.2 = nI i → fX3_init_l49 N m (nI i) r = some (r.1, r.2.1, r.2.2.1, (kF r.2.2.2.1.1 0 i 11 kR0, nI 11), r.2.2.2.2) := by
  intro j
  induction j with
  | zero =>
    intro m i r hi hm hr
    obtain ⟨m, rfl⟩ : ∃ q, m = q + 1 := ⟨m - 1, by omega⟩
    obtain rfl : i = 11 := by omega
    show fX3_init_b49 N _ _ _ = _
    unfold fX3_init_b49
    rw [if_pos (show (11 : Int32) ≤ nI 11 by decide), kF_n, ← hr]
  | succ j ih =>
    intro m i r hi hm hr
    obtain ⟨m, rfl⟩ : ∃ q, m = q + 1 := ⟨m - 1, by omega⟩
    show fX3_init_b49 N _ _ _ = _
    unfold fX3_init_b49 fX5_append
    have k11 : k_in (nI i) 11 := nI_in (by omega) (by omega)
    rw [if_neg (by rw [show (11 : Int32) = nI 11 from rfl, nI_leI (by omega) (by omega)]; omega), if_pos k11, hr, if_neg (nI_pos (by omega)), if_pos (show nI i < nI 11 by rw [nI_ltI (by omega) (by omega)]; omega), if_pos k11, nI_clamp (by omega), nI_1]
    simp only [q_b2, nI_1]
    refine (ih m (i + 1) _ (by omega) (by omega) rfl).trans ?_
    show some (_, _, _, (kF (upd r.2.2.2.1.1 i (kR0 i)) 0 (i + 1) 11 kR0, _), _) = _
    rw [kF_s0 _ _ _ _ (by omega)]
theorem q_start3 {N : Nat} (hN : 100 ≤ N) : ∃ r0, fX3_init N ((fun _ => 0), (fun _ => 0), (fun _ => 0), ((fun _ => 0), 0), 0, 0, false) = some r0 ∧ kC kA0 r0 ∧ r0.2.2.2.2.2.2 = false := by
  refine ⟨_, q_in49 (N := N) 11 N 0 ((fun _ => 0), (fun _ => 0), (fun _ => 0), ((fun _ => 0), 0), 0, 30, false) (by omega) (by omega) rfl, ⟨fun s _ => ⟨rfl, rfl, fun i hi => absurd hi (Nat.not_lt_zero i)⟩, rfl, fun i hi => kF_at0 hi, rfl, rfl⟩, rfl⟩
theorem q_start1 {N : Nat} (hN : 100 ≤ N) : ∃ z0, fX1_init N ((fun _ => 0), (fun _ => 0), 0, 0, 0) = some z0 ∧ kTc z0.1 61 0 := by
  obtain ⟨f, h1, h2⟩ := q_tc24 (N := N) hN 61 N 0 ((fun _ => 0), (fun _ => 0), 0, 0, 0) (by omega) (by omega) (fun r c hc hr hrc => by omega)
  exact ⟨_, h1, h2⟩
theorem q_start7 {N : Nat} (hN : 100 ≤ N) : ∃ g7, fX7_init N ((fun _ => 0), (fun _ => 0), (fun _ => 0), (fun _ => 0), 30, 11, (fun _ => 0)) (fun _ => 0) = some g7 ∧ kM kA0 g7.1 ∧ kTm g7.2 61 0 := by
  have hm : ∀ k : Fin 11, k_in (nI k.1) 11 := by decide +kernel
  unfold fX7_init
  rw [if_pos (show k_in 0 11 from hm 0), if_pos (show k_in 1 11 from hm 1), if_pos (show k_in 2 11 from hm 2), if_pos (show k_in 3 11 from hm 3), if_pos (show k_in 4 11 from hm 4), if_pos (show k_in 5 11 from hm 5), if_pos (show k_in 6 11 from hm 6), if_pos (show k_in 7 11 from hm 7), if_pos (show k_in 8 11 from hm 8), if_pos (show k_in 9 11 from hm 9), if_pos (show k_in 10 11 from hm 10)]
  obtain ⟨mc', h1, h2⟩ := q_tm216 (N := N) (mg := ((fun _ => 0), (fun _ => 0), (fun _ => 0), (fun _ => 0), 30, 11, upd (upd (upd (upd (upd (upd (upd (upd (upd (upd (upd (fun _ => 0) ((0 : Int32)).toNatClampNeg 45) ((1 : Int32)).toNatClampNeg 47) ((2 : Int32)).toNatClampNeg 42) ((3 : Int32)).toNatClampNeg 78) ((4 : Int32)).toNatClampNeg 118) ((5 : Int32)).toNatClampNeg 107) ((6 : Int32)).toNatClampNeg 47) ((7 : Int32)).toNatClampNeg 42) ((8 : Int32)).toNatClampNeg 100) ((9 : Int32)).toNatClampNeg 78) ((10 : Int32)).toNatClampNeg 107)) hN 61 N 0 (fun _ => 0) (by omega) (by omega) (fun r c hr hc => by rw [if_neg (by omega)])
  refine ⟨_, h1, ⟨fun s _ => ⟨rfl, rfl, ?_, fun i hi => absurd hi (Nat.not_lt_zero i)⟩, rfl, rfl, ?_⟩, h2⟩
  · show (0 : Int32) = nI (0 / 2 ^ s % 2)
    rw [Nat.zero_div]; rfl
  · have h : ∀ i : Fin 11, upd (upd (upd (upd (upd (upd (upd (upd (upd (upd (upd (fun _ => 0) ((0 : Int32)).toNatClampNeg 45) ((1 : Int32)).toNatClampNeg 47) ((2 : Int32)).toNatClampNeg 42) ((3 : Int32)).toNatClampNeg 78) ((4 : Int32)).toNatClampNeg 118) ((5 : Int32)).toNatClampNeg 107) ((6 : Int32)).toNatClampNeg 47) ((7 : Int32)).toNatClampNeg 42) ((8 : Int32)).toNatClampNeg 100) ((9 : Int32)).toNatClampNeg 78) ((10 : Int32)).toNatClampNeg 107 i.1 = kR0 i.1 := by decide +kernel
    exact fun i hi => h ⟨i, hi⟩
theorem kPas0 {f g : Nat → Int64} (h1 : kTc f 61 0) (h2 : kTm g 61 0) : kPas f g := by
  intro n k hn hk
  refine ⟨h1 n k hk hn (by omega), ?_⟩
  rw [h2 n k hn (by omega), if_pos (by omega)]
