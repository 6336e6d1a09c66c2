/-! what both sides hold, and the calls on sheets -/
abbrev kA : Type := (Nat → Nat) × (Nat → Int32) × (Nat → Nat) × Nat × Nat × Nat × (Nat → Int32)
/-- sizes, signs, gatherers, struck, need, the rule's length and signs are within bounds -/
def kV (A : kA) : Prop := A.2.2.2.1 < 64 ∧ A.2.2.2.2.1 ≤ 60 ∧ kRule A.2.2.2.2.2.1 A.2.2.2.2.2.2 ∧ ∀ s, s < 6 → A.1 s ≤ 10 ∧ A.2.2.1 s < 5 ∧ ∀ i, i < A.1 s → kName (A.2.1 (s * 10 + i)) = true
/-- the class's register holds A -/
def kC (A : kA) (r : VX3) : Prop := (∀ s, s < 6 → r.2.1 s = nI (A.1 s) ∧ r.2.2.1 s = nI (A.2.2.1 s) ∧ ∀ i, i < A.1 s → r.1 (s * 10 + i) = A.2.1 (s * 10 + i)) ∧ r.2.2.2.1.2 = nI A.2.2.2.2.2.1 ∧ (∀ i, i < A.2.2.2.2.2.1 → r.2.2.2.1.1 i = A.2.2.2.2.2.2 i) ∧ r.2.2.2.2.1 = nI A.2.2.2.1 ∧ r.2.2.2.2.2.1 = nI A.2.2.2.2.1
/-- the reference's register holds A -/
def kM (A : kA) (g : VMg) : Prop := (∀ s, s < 6 → g.2.2.1 s = nI (A.1 s) ∧ g.1 s = nI (A.2.2.1 s) ∧ g.2.1 s = nI (A.2.2.2.1 / 2 ^ s % 2) ∧ ∀ i, i < A.1 s → g.2.2.2.1 (s * 10 + i) = A.2.1 (s * 10 + i)) ∧ g.2.2.2.2.1 = nI A.2.2.2.2.1 ∧ g.2.2.2.2.2.1 = nI A.2.2.2.2.2.1 ∧ ∀ i, i < A.2.2.2.2.2.1 → g.2.2.2.2.2.2 i = A.2.2.2.2.2.2 i
def kS (pad : VX5) (now : VX3) (mp : VMp) (mg : VMg) : Prop := (∃ n p, kP n p pad mp) ∧ ∃ A, kV A ∧ kC A now ∧ kM A mg
theorem q_say {pad : VX5} {mp : VMp} {n : Nat} {p : Nat → Int32} (h : kP n p pad mp) (a : Int32) : ∃ r pad' mp', fX6_say a pad = some (r, pad') ∧ fX7_say a mp = some (r, mp') ∧ ∃ n p, kP n p pad' mp' := by
  unfold fX6_say fX7_say fX5_append
  rw [q_within, q_in]
  simp only [q_b1]
  by_cases hw : kW a 33 126 = true
  · rw [if_pos hw, if_pos hw]
    obtain ⟨hn, h1, h2, h3⟩ := id h
    have e1 : ¬ pad.2 < 0 := by rw [h1]; exact nI_pos (by omega)
    rw [if_neg e1]
    by_cases hf : n = 16
    · have e2 : ¬ pad.2 < nI 16 := by rw [h1, nI_ltI (by omega) (by omega)]; omega
      have e3 : mp.2 = 16 := by rw [h2, hf]; rfl
      rw [if_neg e2, if_pos e3]
      exact ⟨_, _, _, rfl, rfl, n, p, h⟩
    · have e2 : pad.2 < nI 16 := by rw [h1, nI_ltI (by omega) (by omega)]; omega
      have e3 : ¬ mp.2 = 16 := by rw [h2]; exact fun q => hf ((nI_eq (b := 16) (by omega) (by omega)).mp q)
      have e4 : k_in pad.2 16 := by rw [h1]; exact nI_in (by omega) (by omega)
      have e5 : k_in mp.2 16 := by rw [h2]; exact nI_in (by omega) (by omega)
      rw [if_pos e2, if_neg e3, if_pos e4, if_pos e5]
      rw [h1, h2, nI_clamp (by omega)]
      refine ⟨_, _, _, rfl, rfl, n + 1, upd p n a, by omega, nI_1 n, nI_1 n, fun j hj => ?_⟩
      show upd pad.1 n a j = _ ∧ upd mp.1 n a j = _
      unfold upd
      by_cases hj2 : j = n
      · simp [hj2]
      · rw [if_neg hj2, if_neg hj2, if_neg hj2]; exact h3 j (by omega)
  · rw [if_neg hw, if_neg hw]
    exact ⟨_, _, _, rfl, rfl, n, p, h⟩
theorem q_wipe {pad : VX5} {mp : VMp} {n : Nat} {p : Nat → Int32} (h : kP n p pad mp) : ∃ r pad' mp', fX6_wipe pad = some (r, pad') ∧ fX7_wipe mp = some (r, mp') ∧ ∃ n p, kP n p pad' mp' := by
  unfold fX6_wipe fX7_wipe fX5_clear
  exact ⟨_, _, _, rfl, by rw [h.2.1, h.2.2.1], 0, p, by omega, rfl, rfl, fun j hj => by omega⟩
theorem q_W5 {a : Int32} (h : kW a 0 5 = true) : ∃ s, s < 6 ∧ a = nI s := by
  obtain ⟨j, -, h, rfl⟩ := (q_W (b := 0) (c := 5) (by omega) (by omega)).mp h
  exact ⟨j, by omega, rfl⟩
theorem q_W0n {a : Int32} {n : Nat} (hn : n < 2 ^ 31) : kW a 0 (nI n) = true ↔ ∃ j, j ≤ n ∧ a = nI j := by
  rw [show kW a 0 (nI n) = kW a (nI 0) (nI n) from rfl, q_W (by omega) hn]
  constructor
  · rintro ⟨j, -, h, rfl⟩; exact ⟨j, h, rfl⟩
  · rintro ⟨j, h, rfl⟩; exact ⟨j, by omega, h, rfl⟩
theorem q_sizeOf {A : kA} {r : VX3} (h : kC A r) {s : Nat} (hs : s < 6) : fX3_sizeOf r (nI s) = some (nI (A.1 s)) := by
  unfold fX3_sizeOf
  rw [if_neg (nI_pos (by omega)), if_neg (by rw [show (6 : Int32) = nI 6 from rfl, nI_leI (by omega) (by omega)]; omega), if_pos (nI_in (by omega) (by omega)), nI_clamp (by omega), (h.1 s hs).1]
theorem q_gathererOf {A : kA} {r : VX3} (h : kC A r) {s : Nat} (hs : s < 6) : fX3_gathererOf r (nI s) = some (nI (A.2.2.1 s)) := by
  unfold fX3_gathererOf
  rw [if_neg (nI_pos (by omega)), if_neg (by rw [show (6 : Int32) = nI 6 from rfl, nI_leI (by omega) (by omega)]; omega), if_pos (nI_in (by omega) (by omega)), nI_clamp (by omega), (h.1 s hs).2.1]
theorem q_signOf {A : kA} {r : VX3} (hV : kV A) (h : kC A r) {s : Nat} (hs : s < 6) {i : Nat} (hi : i < A.1 s) : fX3_signOf r (nI s) (nI i) = some (A.2.1 (s * 10 + i)) := by
  have hz := (hV.2.2.2 s hs).1
  unfold fX3_signOf
  rw [if_neg (nI_pos (by omega)), q_sizeOf h hs, q_b1, if_pos (by rw [nI_ltI (by omega) (by omega)]; omega)]
  have e : nI s * 10 + nI i = nI (s * 10 + i) := by rw [show (10 : Int32) = nI 10 from rfl, pk_mul, nI_add]
  rw [e, if_neg (nI_pos (by omega)), if_neg (by rw [show (60 : Int32) = nI 60 from rfl, nI_leI (by omega) (by omega)]; omega), if_pos (nI_in (by omega) (by omega)), nI_clamp (by omega), (h.1 s hs).2.2 i hi]
theorem q_sheet {A : kA} {now : VX3} {mg : VMg} (hV : kV A) (hC : kC A now) (hM : kM A mg) (a b : Int32) : ∃ r, fX6_sheet now a b = some r ∧ fX7_sheet mg a b = some r := by
  unfold fX6_sheet fX7_sheet
  rw [q_sheet6, q_sheet7]
  simp only [q_b1]
  by_cases hw : kW a 0 5 = true
  · obtain ⟨s, hs, rfl⟩ := q_W5 hw
    have hz := (hV.2.2.2 s hs).1
    rw [if_pos hw, if_pos hw]
    by_cases hb : b = -1
    · rw [if_pos hb, if_pos hb, q_sizeOf hC hs, if_pos (nI_in (by omega) (by omega)), nI_clamp (by omega), (hM.1 s hs).1]
      exact ⟨_, rfl, rfl⟩
    · rw [if_neg hb, if_neg hb, if_pos (nI_in (N := 6) (by omega) (by omega)), nI_clamp (by omega), (hM.1 s hs).1, q_in]
      simp only [q_b1]
      by_cases hi : kW b 0 (nI (A.1 s) - 1) = true
      · rw [if_pos hi]
        obtain ⟨i, hi2, rfl⟩ : ∃ i, i < A.1 s ∧ b = nI i := by
          by_cases h0 : A.1 s = 0
          · exfalso
            rw [h0] at hi
            unfold kW at hi
            simp only [Bool.and_eq_true, decide_eq_true_eq, Int32.le_iff_toInt_le] at hi
            have : (nI 0 - 1 : Int32).toInt = -1 := by decide
            rw [this] at hi
            have : (0 : Int32).toInt = 0 := by decide
            omega
          · obtain ⟨z, hz1⟩ : ∃ z, A.1 s = z + 1 := ⟨A.1 s - 1, by omega⟩
            rw [hz1, nI_pred] at hi
            obtain ⟨j, hj, rfl⟩ := (q_W0n (by omega)).mp hi
            exact ⟨j, by omega, rfl⟩
        rw [q_signOf hV hC hs hi2]
        have e : (10 : Int32) * nI s + nI i = nI (s * 10 + i) := by rw [show (10 : Int32) = nI 10 from rfl, pk_mul, nI_add, Nat.mul_comm]
        rw [e, if_pos (nI_in (by omega) (by omega)), nI_clamp (by omega), (hM.1 s hs).2.2.2 i hi2]
        exact ⟨_, rfl, rfl⟩
      · rw [if_neg hi]
        refine ⟨-6, ?_, rfl⟩
        unfold fX3_signOf
        by_cases hn : b < 0
        · rw [if_pos hn]; rfl
        · rw [if_neg hn, q_sizeOf hC hs, q_b1]
          have : ¬ b < nI (A.1 s) := by
            intro hlt
            apply hi
            unfold kW
            rw [Int32.lt_iff_toInt_lt] at hlt hn
            rw [nI_toInt (by omega)] at hlt
            have h00 : (0 : Int32).toInt = 0 := by decide
            rw [h00] at hn
            simp only [Bool.and_eq_true, decide_eq_true_eq, Int32.le_iff_toInt_le, h00]
            refine ⟨by omega, ?_⟩
            obtain ⟨z, hz1⟩ : ∃ z, A.1 s = z + 1 := ⟨A.1 s - 1, by omega⟩
            rw [hz1] at hlt ⊢
            rw [nI_pred, nI_toInt (by omega)]; omega
          rw [if_neg this]; rfl
  · rw [if_neg hw, if_neg hw]
    exact ⟨_, rfl, rfl⟩
theorem q_need {A : kA} {now : VX3} {mg : VMg} (hV : kV A) (hC : kC A now) (hM : kM A mg) (a : Int32) : ∃ r now' mg', fX6_need a now = some (r, now') ∧ fX7_need a mg = some (r, mg') ∧ (now'.2.2.2.2.2.2 = now.2.2.2.2.2.2) ∧ ∃ A, kV A ∧ kC A now' ∧ kM A mg' := by
  unfold fX6_need fX7_need
  rw [q_within, q_in]
  simp only [q_b1]
  by_cases hw : kW a 0 60 = true
  · rw [if_pos hw, if_pos hw]
    obtain ⟨j, hj, rfl⟩ := (q_W0n (n := 60) (by omega)).mp hw
    obtain ⟨v1, v2, v3, v4⟩ := hV
    obtain ⟨c1, c2, c3, c4, c5⟩ := hC
    obtain ⟨m1, m2, m3, m4⟩ := hM
    rw [m2, c5]
    exact ⟨_, _, _, rfl, rfl, rfl, (A.1, A.2.1, A.2.2.1, A.2.2.2.1, j, A.2.2.2.2.2.1, A.2.2.2.2.2.2), ⟨v1, hj, v3, v4⟩, ⟨c1, c2, c3, c4, rfl⟩, ⟨m1, rfl, m3, m4⟩⟩
  · rw [if_neg hw, if_neg hw]
    exact ⟨_, _, _, rfl, rfl, rfl, A, hV, hC, hM⟩
theorem q_eqI (a : Int32) {b : Nat} : a = nI b ∨ a ≠ nI b := by by_cases h : a = nI b <;> simp [h]
theorem q_msk : ∀ M : Fin 64, (63 : Int32) &&& (nI M.1 ^^^ (-1)) = nI (63 - M.1) ∧ (63 : Int32) &&& (nI (63 - M.1) ^^^ (-1)) = nI M.1 := by decide +kernel
theorem q_told {A : kA} {now : VX3} {mg : VMg} {N n : Nat} {p : Nat → Int32} {pad : VX5} {mp : VMp} (h : kP n p pad mp) (hV : kV A) (hC : kC A now) (hM : kM A mg) (hv : fX7_valid N mg = some (nI (63 - A.2.2.2.1))) (a : Int32) : ∃ r, fX6_told pad now a = some r ∧ fX7_told N mp mg a = some r := by
  have hsh : ∀ c : Nat, c ≤ 20 → kW (a - nI c) 0 5 = kW a (nI c) (nI (c + 5)) := by
    intro c hc
    rw [Bool.eq_iff_iff, show kW (a - nI c) 0 5 = kW (a - nI c) (nI 0) (nI 5) from rfl, q_W (by omega) (by omega), q_W (by omega) (by omega)]
    constructor
    · rintro ⟨j, -, hj, e⟩
      exact ⟨j + c, by omega, by omega, by rw [← nI_add, ← e]; exact (Int32.sub_add_cancel a (nI c)).symm⟩
    · rintro ⟨j, h1, h2, rfl⟩
      exact ⟨j - c, by omega, by omega, by rw [pk_sub h1]⟩
  unfold fX6_told fX7_told
  rw [q_sheet6, q_sheet6, q_in, q_in, show kW (a - 10) 0 5 = kW a 10 15 from hsh 10 (by omega), show kW (a - 20) 0 5 = kW a 20 25 from hsh 20 (by omega)]
  simp only [q_b1]
  by_cases h1 : kW a 10 15 = true
  · rw [if_pos h1, if_pos h1]
    obtain ⟨j, hj1, hj2, rfl⟩ := (q_W (b := 10) (c := 15) (by omega) (by omega)).mp h1
    have e : nI j - 10 = nI (j - 10) := pk_sub (b := 10) hj1
    rw [e, q_gathererOf hC (by omega), if_pos (nI_in (by omega) (by omega)), nI_clamp (by omega), (hM.1 _ (by omega)).2.1]
    exact ⟨_, rfl, rfl⟩
  rw [if_neg h1, if_neg h1]
  by_cases h2 : kW a 20 25 = true
  · rw [if_pos h2, if_pos h2]
    obtain ⟨j, hj1, hj2, rfl⟩ := (q_W (b := 20) (c := 25) (by omega) (by omega)).mp h2
    have e : nI j - 20 = nI (j - 20) := pk_sub (b := 20) hj1
    rw [e, q_sizeOf hC (by omega), if_pos (nI_in (by omega) (by omega)), nI_clamp (by omega), (hM.1 _ (by omega)).1]
    exact ⟨_, rfl, rfl⟩
  rw [if_neg h2, if_neg h2, hv, h.2.1, h.2.2.1, hC.2.2.2.2, hM.2.1, hC.2.1, hM.2.2.1, hC.2.2.2.1]
  simp only [q_b1, (q_msk ⟨A.2.2.2.1, hV.1⟩).2]
  by_cases e0 : a = 0
  · exact ⟨_, if_pos e0, if_pos e0⟩
  rw [if_neg e0]
  by_cases e1 : a = 1
  · exact ⟨_, if_pos e1, if_pos e1⟩
  rw [if_neg e1]
  by_cases e2 : a = 2
  · exact ⟨_, if_pos e2, if_pos e2⟩
  rw [if_neg e2]
  by_cases e3 : a = 3
  · exact ⟨_, if_pos e3, if_pos e3⟩
  rw [if_neg e3]
  exact ⟨_, rfl, rfl⟩
