/-! the class's table at the start -/
theorem kTr_s (r : Nat) : (r + 1) * (r + 1 + 1) / 2 = r * (r + 1) / 2 + (r + 1) := by
  have e : (r + 1) * (r + 1 + 1) = r * (r + 1) + 2 * (r + 1) := by
    rw [Nat.mul_add (r + 1) (r + 1) 1, Nat.add_mul r 1 (r + 1)]; omega
  rw [e]; omega
theorem kTr_lt {r n : Nat} (h : r < n) : r * (r + 1) / 2 + r < n * (n + 1) / 2 := by
  induction n with
  | zero => omega
  | succ n ih =>
    rw [kTr_s n]
    by_cases e : r = n
    · subst e; omega
    · have := ih (by omega); omega
def kTc (f : Nat → Int64) (n k : Nat) : Prop := ∀ r c, c ≤ r → r ≤ 60 → (r < n ∨ (r = n ∧ c < k)) → f (r * (r + 1) / 2 + c) = lN (kCh r c)
theorem q_chc {z : VX1} {n k : Nat} (h : k ≤ n → z.1 (n * (n + 1) / 2 + k) = lN (kCh n k)) (hn : n ≤ 60) (hk : k < 2 ^ 31) : fX1_choose z (nI n) (nI k) = some (lN (kCh n k)) := by
  have hm : n * (n + 1) ≤ 60 * 61 := Nat.mul_le_mul hn (by omega)
  unfold fX1_choose
  rw [if_neg (nI_pos (by omega)), if_neg (by rw [show (60 : Int32) = nI 60 from rfl, nI_ltI (by omega) (by omega)]; omega), if_neg (nI_pos hk)]
  by_cases a : k ≤ n
  · rw [if_pos (by rw [nI_leI (by omega) (by omega)]; exact a)]
    have e : (nI n * (nI n + 1)) / 2 + nI k = nI (n * (n + 1) / 2 + k) := by
      rw [nI_1, pk_mul, show (2 : Int32) = nI 2 from rfl, pk_div (by omega) (by omega) (by omega), nI_add]
    rw [e, if_neg (by rw [show (1891 : Int32) = nI 1891 from rfl, nI_leI (by omega) (by omega)]; omega), if_pos (nI_in (by omega) (by omega)), nI_clamp (by omega), h a]
  · rw [if_neg (by rw [nI_leI (by omega) (by omega)]; exact a), kCh_0 n k (by omega)]; rfl
theorem q_tc32 {N n : Nat} {k24 : Int32 → VX1 → Option VX1} (hn : n ≤ 60) : ∀ (j m k : Nat) (z : VX1), k + j = n + 1 → j < m → kTc z.1 n k → ∃ f, fX1_init_l32 N k24 m (nI n) (nI k) z = k24 (nI (n + 1)) (f, z.2) ∧ kTc f (n + 1) 0 := by
  have hm : n * (n + 1) ≤ 60 * 61 := Nat.mul_le_mul hn (by omega)
  intro j
  induction j with
  | zero =>
    intro m k z hk hm1 h
    obtain ⟨m, rfl⟩ : ∃ q, m = q + 1 := ⟨m - 1, by omega⟩
    refine ⟨z.1, ?_, fun r c hc hr hrc => h r c hc hr (by omega)⟩
    show fX1_init_b32 N _ _ _ _ _ = _
    unfold fX1_init_b32
    rw [if_pos (by rw [nI_ltI (by omega) (by omega)]; omega), nI_1]
  | succ j ih =>
    intro m k z hk hm1 h
    obtain ⟨m, rfl⟩ : ∃ q, m = q + 1 := ⟨m - 1, by omega⟩
    show ∃ f, fX1_init_b32 N _ _ _ _ _ = _ ∧ _
    unfold fX1_init_b32 fX1_init_b88 fX1_init_b89
    have e : (nI n * (nI n + 1)) / 2 + nI k = nI (n * (n + 1) / 2 + k) := by
      rw [nI_1, pk_mul, show (2 : Int32) = nI 2 from rfl, pk_div (by omega) (by omega) (by omega), nI_add]
    have kin : k_in (nI (n * (n + 1) / 2 + k)) 1891 := nI_in (by omega) (by omega)
    have hstep : ∀ x : Int64, x = lN (kCh n k) → ∃ f, fX1_init_l32 N k24 m (nI n) (nI (k + 1)) (vp_updL z.1 (n * (n + 1) / 2 + k) x, z.2.1, z.2.2.1, z.2.2.2.1, z.2.2.2.2) = k24 (nI (n + 1)) (f, z.2) ∧ kTc f (n + 1) 0 := by
      intro x hx
      refine ih m (k + 1) (vp_updL z.1 (n * (n + 1) / 2 + k) x, z.2) (by omega) (by omega) (fun r c hc hr hrc => ?_)
      by_cases a : r = n ∧ c = k
      · obtain ⟨rfl, rfl⟩ := a
        dsimp only; rw [pk_uLs]; exact hx
      · have hne : r * (r + 1) / 2 + c ≠ n * (n + 1) / 2 + k := by
          by_cases b : r = n
          · subst b; omega
          · have := kTr_lt (show r < n by omega); omega
        dsimp only; rw [pk_uLn hne]; exact h r c hc hr (by omega)
    rw [if_neg (by rw [nI_ltI (by omega) (by omega)]; omega), e, if_neg (by rw [show (1891 : Int32) = nI 1891 from rfl, nI_leI (by omega) (by omega)]; omega)]
    have k0 : nI k = 0 ↔ k = 0 := nI_eq (b := 0) (by omega) (by omega)
    by_cases a : k = 0
    · rw [if_pos (k0.mpr a), if_pos kin, nI_clamp (by omega), nI_1]
      exact hstep 1 (by rw [a]; cases n <;> rfl)
    · rw [if_neg (fun q => a (k0.mp q))]
      obtain ⟨k', rfl⟩ : ∃ q, k = q + 1 := ⟨k - 1, by omega⟩
      obtain ⟨n', rfl⟩ : ∃ q, n = q + 1 := ⟨n - 1, by omega⟩
      rw [nI_pred, nI_pred, q_chc (fun q => h n' k' q (by omega) (by omega)) (by omega) (by omega), q_chc (fun q => h n' (k' + 1) q (by omega) (by omega)) (by omega) (by omega)]
      simp only [q_b1]
      rw [if_pos kin, nI_clamp (by omega), nI_1, lN_add]
      exact hstep _ rfl
theorem q_tc24 {N : Nat} (hN : 100 ≤ N) : ∀ (j m n : Nat) (z : VX1), n + j = 61 → j < m → kTc z.1 n 0 → ∃ f, fX1_init_l24 N m (nI n) z = some (f, z.2) ∧ kTc f 61 0 := by
  intro j
  induction j with
  | zero =>
    intro m n z hn hm h
    obtain ⟨m, rfl⟩ : ∃ q, m = q + 1 := ⟨m - 1, by omega⟩
    obtain rfl : n = 61 := by omega
    refine ⟨z.1, ?_, h⟩
    show fX1_init_b24 N _ _ _ = _
    unfold fX1_init_b24
    rw [if_pos (show (61 : Int32) ≤ nI 61 by decide)]
  | succ j ih =>
    intro m n z hn hm h
    obtain ⟨m, rfl⟩ : ∃ q, m = q + 1 := ⟨m - 1, by omega⟩
    show ∃ f, fX1_init_b24 N _ _ _ = _ ∧ _
    unfold fX1_init_b24
    rw [if_neg (by rw [show (61 : Int32) = nI 61 from rfl, nI_leI (by omega) (by omega)]; omega)]
    obtain ⟨f1, g1, g2⟩ := q_tc32 (N := N) (k24 := fX1_init_l24 N m) (show n ≤ 60 by omega) (n + 1) N 0 z (by omega) (by omega) h
    rw [show (0 : Int32) = nI 0 from rfl, g1]
    obtain ⟨f, h1, h2⟩ := ih m (n + 1) (f1, z.2) (by omega) (by omega) g2
    exact ⟨f, h1, h2⟩
