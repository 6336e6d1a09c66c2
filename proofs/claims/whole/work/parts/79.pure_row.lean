/-! the heap: the reference's row -/
theorem q_nl62 {A : kA} {mg : VMg} {N s : Nat} {v1 v2 v3 v5 : Int32} {k52 : Int32 → Int32 → Int32 → Int32 → Int32 → Int32 → VMl → VMq → (Nat → Int32) → Option (Int32 × VMl × VMq × (Nat → Int32))} (hV : kV A) (hM : kM A mg) (hs : s < 6) (hst : A.2.2.2.1 / 2 ^ s % 2 = 0) : ∀ (j m i n : Nat) (ml : VMl) (mq : VMq) (mr : Nat → Int32), i + j = A.1 s → n + j ≤ 60 → j < m → ∃ mr', fX7_heap_l62 N mg k52 m v1 v2 v3 v5 (nI n) (nI s) (nI i) ml mq mr = k52 v1 v2 v3 v5 (nI (n + j)) (nI (s + 1)) ml mq mr' ∧ (∀ q, q < n → mr' q = mr q) ∧ ∀ q, q < j → mr' (n + q) = A.2.1 (s * 10 + (i + q)) := by
  have hz := (hV.2.2.2 s hs).1
  have hk6 : k_in (nI s) 6 := nI_in hs (by omega)
  intro j
  induction j with
  | zero =>
    intro m i n ml mq mr hi hn hm
    obtain ⟨m, rfl⟩ : ∃ q, m = q + 1 := ⟨m - 1, by omega⟩
    refine ⟨mr, ?_, fun q _ => rfl, fun q hq => by omega⟩
    show fX7_heap_b62 N mg _ _ _ _ _ _ _ _ _ _ _ _ = _
    unfold fX7_heap_b62 fX7_heap_b113
    simp only [if_pos hk6, nI_clamp (show s < 2 ^ 31 by omega)]
    rw [(hM.1 s hs).1, if_pos (by rw [nI_leI (by omega) (by omega)]; omega), nI_1]; rfl
  | succ j ih =>
    intro m i n ml mq mr hi hn hm
    obtain ⟨m, rfl⟩ : ∃ q, m = q + 1 := ⟨m - 1, by omega⟩
    have e : (10 : Int32) * nI s + nI i = nI (s * 10 + i) := by rw [show (10 : Int32) = nI 10 from rfl, pk_mul, nI_add, Nat.mul_comm]
    show ∃ mr', fX7_heap_b62 N mg _ _ _ _ _ _ _ _ _ _ _ _ = _ ∧ _
    unfold fX7_heap_b62
    simp only [if_pos hk6, nI_clamp (show s < 2 ^ 31 by omega)]
    rw [(hM.1 s hs).1, if_neg (by rw [nI_leI (by omega) (by omega)]; omega), (hM.1 s hs).2.2.1, if_pos (by rw [hst]; rfl), e, if_pos (nI_in (by omega) (by omega)), if_pos (nI_in (by omega) (by omega)), nI_clamp (by omega), nI_clamp (by omega), (hM.1 s hs).2.2.2 i (by omega), nI_1, nI_1]
    obtain ⟨mr', h1, h2, h3⟩ := ih m (i + 1) (n + 1) ml mq (upd mr n (A.2.1 (s * 10 + i))) (by omega) (by omega) (by omega)
    refine ⟨mr', ?_, fun q hq => ?_, fun q hq => ?_⟩
    · rw [h1, show n + 1 + j = n + (j + 1) by omega]
    · rw [h2 q (by omega), pk_un (by omega)]
    · cases q with
      | zero => rw [Nat.add_zero, h2 n (by omega), pk_us]; rfl
      | succ q => rw [show n + (q + 1) = n + 1 + q by omega, h3 q (by omega), show i + 1 + q = i + (q + 1) by omega]
