/-! one name out of the row -/
def kOutOf (f : Nat → Int32) (p n : Nat) : Nat → Int32 := fun q => if p ≤ q ∧ q + 1 < n then f (q + 1) else f q
theorem kOutOf_s (f : Nat → Int32) (p n : Nat) (h : p + 1 < n) : kOutOf (upd f p (f (p + 1))) (p + 1) n = kOutOf f p n := by
  funext q
  unfold kOutOf upd
  by_cases a : q = p
  · subst a; rw [if_neg (by omega), if_pos rfl, if_pos (by omega)]
  · by_cases b : p ≤ q ∧ q + 1 < n
    · rw [if_pos (by omega), if_pos b, if_neg (by omega)]
    · rw [if_neg (by omega), if_neg b, if_neg a]
theorem q_take {N n : Nat} (hn : n ≤ 60) {x : Int32} : ∀ (j m p : Nat) (le : Nat → Int32), p + 1 + j = n → j < m → fX6_takeOut_l31 N m (nI n) x (nI p) le = some (x, kOutOf le p n) := by
  intro j
  induction j with
  | zero =>
    intro m p le hp hm
    obtain ⟨m, rfl⟩ : ∃ q, m = q + 1 := ⟨m - 1, by omega⟩
    show fX6_takeOut_b31 N _ _ _ _ _ = _
    unfold fX6_takeOut_b31
    rw [nI_1, if_pos (by rw [nI_leI (by omega) (by omega)]; omega)]
    have : kOutOf le p n = le := by
      funext q; unfold kOutOf; rw [if_neg (by omega)]
    rw [this]
  | succ j ih =>
    intro m p le hp hm
    obtain ⟨m, rfl⟩ : ∃ q, m = q + 1 := ⟨m - 1, by omega⟩
    show fX6_takeOut_b31 N _ _ _ _ _ = _
    unfold fX6_takeOut_b31
    rw [nI_1, if_neg (by rw [nI_leI (by omega) (by omega)]; omega), if_pos (nI_in (by omega) (by omega)), if_pos (nI_in (by omega) (by omega)), nI_clamp (by omega), nI_clamp (by omega), ih m (p + 1) _ (by omega) (by omega), kOutOf_s _ _ _ (by omega)]
