/-! one name out of the reference's row -/
theorem q_shift {N n : Nat} {mg : VMg} {k155 : Int32 → Int32 → Int32 → Int32 → Int32 → Int32 → Int32 → Int32 → VMl → VMq → (Nat → Int32) → Option (Int32 × VMl × VMq × (Nat → Int32))} (hn : n + 1 ≤ 60) {v2 v3 v5 v7 v8 v9 v10 x : Int32} {ml : VMl} {mq : VMq} : ∀ (j m p : Nat) (mr : Nat → Int32), p + j = n → j < m → fX7_heap_l197 N mg k155 m v2 v3 v5 (nI n) v7 v8 v9 v10 x (nI p) ml mq mr = fX7_heap_b241 N mg k155 v2 v3 v5 (nI n) v7 v9 v10 x v8 (!(kBad x)) ml mq (kOutOf mr p (n + 1)) := by
  intro j
  induction j with
  | zero =>
    intro m p mr hp hm
    obtain ⟨m, rfl⟩ : ∃ q, m = q + 1 := ⟨m - 1, by omega⟩
    show fX7_heap_b197 N mg _ _ _ _ _ _ _ _ _ _ _ _ _ _ _ = _
    unfold fX7_heap_b197
    rw [if_pos (by rw [nI_leI (by omega) (by omega)]; omega), q_bad7]
    simp only [q_b1]
    have : kOutOf mr p (n + 1) = mr := by
      funext q; unfold kOutOf; rw [if_neg (by omega)]
    rw [this]
    by_cases e : kBad x = true
    · rw [if_pos e, e, Bool.not_true]
    · rw [if_neg e, (Bool.not_eq_true _).mp e, Bool.not_false]
  | succ j ih =>
    intro m p mr hp hm
    obtain ⟨m, rfl⟩ : ∃ q, m = q + 1 := ⟨m - 1, by omega⟩
    show fX7_heap_b197 N mg _ _ _ _ _ _ _ _ _ _ _ _ _ _ _ = _
    unfold fX7_heap_b197
    rw [if_neg (by rw [nI_leI (by omega) (by omega)]; omega), nI_1, if_pos (nI_in (by omega) (by omega)), if_pos (nI_in (by omega) (by omega)), nI_clamp (by omega), nI_clamp (by omega), ih m (p + 1) _ (by omega) (by omega), kOutOf_s _ _ _ (by omega)]
