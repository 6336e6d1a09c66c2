/-! the heap: the list in a row -/
theorem q_nl37 {A : kA} {now : VX3} {N s : Nat} {k4 : Int32 → Int32 → (Nat → Int32) → Option (Int32 × (Nat → Int32))} (hV : kV A) (hC : kC A now) (hs : s < 6) : ∀ (j m i n : Nat) (le : Nat → Int32), i + j = A.1 s → n + j ≤ 60 → j < m → ∃ le', fX6_numberList_l37 N now k4 m (nI n) (nI s) (nI (A.1 s)) (nI i) le = k4 (nI (n + j)) (nI (s + 1)) le' ∧ (∀ q, q < n → le' q = le q) ∧ ∀ q, q < j → le' (n + q) = A.2.1 (s * 10 + (i + q)) := by
  have hz := (hV.2.2.2 s hs).1
  intro j
  induction j with
  | zero =>
    intro m i n le hi hn hm
    obtain ⟨m, rfl⟩ : ∃ q, m = q + 1 := ⟨m - 1, by omega⟩
    refine ⟨le, ?_, fun q _ => rfl, fun q hq => by omega⟩
    show fX6_numberList_b37 N now _ _ _ _ _ _ _ = _
    unfold fX6_numberList_b37 fX6_numberList_b77
    rw [if_pos (by rw [nI_leI (by omega) (by omega)]; omega), nI_1]; rfl
  | succ j ih =>
    intro m i n le hi hn hm
    obtain ⟨m, rfl⟩ : ∃ q, m = q + 1 := ⟨m - 1, by omega⟩
    show ∃ le', fX6_numberList_b37 N now _ _ _ _ _ _ _ = _ ∧ _
    unfold fX6_numberList_b37
    rw [if_neg (by rw [nI_leI (by omega) (by omega)]; omega), if_neg (by rw [show (60 : Int32) = nI 60 from rfl, nI_leI (by omega) (by omega)]; omega), q_signOf hV hC hs (show i < A.1 s by omega)]
    simp only [q_b1]
    rw [if_pos (nI_in (by omega) (by omega)), nI_clamp (by omega), nI_1, nI_1]
    obtain ⟨le', h1, h2, h3⟩ := ih m (i + 1) (n + 1) (upd le n (A.2.1 (s * 10 + i))) (by omega) (by omega) (by omega)
    refine ⟨le', ?_, fun q hq => ?_, fun q hq => ?_⟩
    · rw [h1, show n + 1 + j = n + (j + 1) by omega]
    · rw [h2 q (by omega), pk_un (by omega)]
    · cases q with
      | zero => rw [Nat.add_zero, h2 n (by omega), pk_us]; rfl
      | succ q => rw [show n + (q + 1) = n + 1 + q by omega, h3 q (by omega), show i + 1 + q = i + (q + 1) by omega]
