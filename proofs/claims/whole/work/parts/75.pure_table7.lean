/-! the reference's table at the start -/
def kTm (mc : Nat → Int64) (n k : Nat) : Prop := ∀ r c, r ≤ 60 → c ≤ 60 → mc (61 * r + c) = if r < n ∨ (r = n ∧ c < k) then lN (kCh r c) else 0
theorem q_tm234 {N n : Nat} {mg : VMg} {k216 : Int32 → VMg → (Nat → Int64) → Option (VMg × (Nat → Int64))} (hn : n ≤ 60) : ∀ (j m k : Nat) (mc : Nat → Int64), k + j = n + 1 → j < m → 1 ≤ k → kTm mc n k → ∃ mc', fX7_init_l234 N k216 m (nI n) (nI k) mg mc = k216 (nI (n + 1)) mg mc' ∧ kTm mc' (n + 1) 0 := by
  intro j
  induction j with
  | zero =>
    intro m k mc hk hm hk1 h
    obtain ⟨m, rfl⟩ : ∃ q, m = q + 1 := ⟨m - 1, by omega⟩
    refine ⟨mc, ?_, fun r c hr hc => ?_⟩
    · show fX7_init_b234 N _ _ _ _ _ _ = _
      unfold fX7_init_b234
      rw [if_pos (by rw [nI_ltI (by omega) (by omega)]; omega), nI_1]
    · rw [h r c hr hc]
      by_cases a : r < n ∨ (r = n ∧ c < k)
      · rw [if_pos a, if_pos (by omega)]
      · rw [if_neg a]
        by_cases b : r < n + 1 ∨ (r = n + 1 ∧ c < 0)
        · rw [if_pos b, kCh_0 r c (by omega)]; rfl
        · rw [if_neg b]
  | succ j ih =>
    intro m k mc hk hm hk1 h
    obtain ⟨m, rfl⟩ : ∃ q, m = q + 1 := ⟨m - 1, by omega⟩
    obtain ⟨k', rfl⟩ : ∃ q, k = q + 1 := ⟨k - 1, by omega⟩
    obtain ⟨n', rfl⟩ : ∃ q, n = q + 1 := ⟨n - 1, by omega⟩
    show ∃ mc', fX7_init_b234 N _ _ _ _ _ _ = _ ∧ _
    unfold fX7_init_b234
    have e0 : (61 : Int32) * nI (n' + 1) - 61 = nI (61 * n') := by
      rw [show (61 : Int32) * nI (n' + 1) = nI (61 * (n' + 1)) from pk_mul 61 (n' + 1), show (61 : Int32) = nI 61 from rfl, pk_sub (by omega)]; congr 1
    have e1 : nI (61 * n') + nI (k' + 1) = nI (61 * n' + (k' + 1)) := nI_add _ _
    have e2 : nI (61 * n' + (k' + 1)) - 1 = nI (61 * n' + k') := nI_pred (61 * n' + k')
    have e3 : (61 : Int32) * nI (n' + 1) + nI (k' + 1) = nI (61 * (n' + 1) + (k' + 1)) := by
      rw [show (61 : Int32) * nI (n' + 1) = nI (61 * (n' + 1)) from pk_mul 61 (n' + 1), nI_add]
    rw [if_neg (by rw [nI_ltI (by omega) (by omega)]; omega), e0, e1, e2, e3]
    have k1 : k_in (nI (61 * n' + k')) 3721 := nI_in (by omega) (by omega)
    have k2 : k_in (nI (61 * n' + (k' + 1))) 3721 := nI_in (by omega) (by omega)
    have k3 : k_in (nI (61 * (n' + 1) + (k' + 1))) 3721 := nI_in (by omega) (by omega)
    rw [if_pos k1, if_pos k2, if_pos k3, nI_clamp (by omega), nI_clamp (by omega), nI_clamp (by omega), nI_1, h n' k' (by omega) (by omega), h n' (k' + 1) (by omega) (by omega), if_pos (by omega), if_pos (by omega), lN_add]
    refine ih m (k' + 1 + 1) _ (by omega) (by omega) (by omega) (fun r c hr hc => ?_)
    by_cases a : r = n' + 1 ∧ c = k' + 1
    · obtain ⟨rfl, rfl⟩ := a
      rw [pk_uLs, if_pos (by omega)]; rfl
    · rw [pk_uLn (by omega), h r c hr hc]
      by_cases b : r < n' + 1 ∨ (r = n' + 1 ∧ c < k' + 1)
      · rw [if_pos b, if_pos (by omega)]
      · rw [if_neg b, if_neg (by omega)]
theorem q_tm216 {N : Nat} {mg : VMg} (hN : 100 ≤ N) : ∀ (j m n : Nat) (mc : Nat → Int64), n + j = 61 → j < m → kTm mc n 0 → ∃ mc', fX7_init_l216 N m (nI n) mg mc = some (mg, mc') ∧ kTm mc' 61 0 := by
  intro j
  induction j with
  | zero =>
    intro m n mc hn hm h
    obtain ⟨m, rfl⟩ : ∃ q, m = q + 1 := ⟨m - 1, by omega⟩
    obtain rfl : n = 61 := by omega
    refine ⟨mc, ?_, h⟩
    show fX7_init_b216 N _ _ _ _ = _
    unfold fX7_init_b216
    rw [if_pos (show (60 : Int32) < nI 61 by decide)]
  | succ j ih =>
    intro m n mc hn hm h
    obtain ⟨m, rfl⟩ : ∃ q, m = q + 1 := ⟨m - 1, by omega⟩
    show ∃ mc', fX7_init_b216 N _ _ _ _ = _ ∧ _
    unfold fX7_init_b216
    have e : (61 : Int32) * nI n = nI (61 * n) := pk_mul 61 n
    rw [if_neg (by rw [show (60 : Int32) = nI 60 from rfl, nI_ltI (by omega) (by omega)]; omega), e, if_pos (nI_in (by omega) (by omega)), nI_clamp (by omega)]
    have h1 : kTm (vp_updL mc (61 * n) 1) n 1 := by
      intro r c hr hc
      by_cases a : r = n ∧ c = 0
      · obtain ⟨rfl, rfl⟩ := a
        rw [Nat.add_zero, pk_uLs, if_pos (by omega)]
        cases r <;> rfl
      · rw [pk_uLn (by omega), h r c hr hc]
        by_cases b : r < n ∨ (r = n ∧ c < 0)
        · rw [if_pos b, if_pos (by omega)]
        · rw [if_neg b, if_neg (by omega)]
    obtain ⟨mc1, f1, f2⟩ := q_tm234 (N := N) (mg := mg) (k216 := fX7_init_l216 N m) (show n ≤ 60 by omega) n N 1 _ (by omega) (by omega) (by omega) h1
    rw [show (1 : Int32) = nI 1 from rfl, f1]
    exact ih m (n + 1) mc1 (by omega) (by omega) f2
