/-! both rows hold the list -/
def kNn (A : kA) (s : Nat) : Nat := (kOut A (kWl A) s).2.1
theorem kIn_all (A : kA) (s : Nat) (T : kT) : ∀ i, (kIn A s T i).2.1 = T.2.1 + i := by
  intro i
  induction i with
  | zero => rfl
  | succ i ih => show (kAdd _ _).2.1 = _; rw [(kAdd_add _ _ 0).2.1, ih]; rfl
theorem kNn_s {A : kA} (hV : kV A) {s : Nat} (hs : s < 6) : kNn A (s + 1) = kNn A s + (if A.2.2.2.1 / 2 ^ s % 2 = 0 then A.1 s else 0) := by
  show (if kWl A / 2 ^ s % 2 = 0 then kOut A (kWl A) s else kIn A s (kOut A (kWl A) s) (A.1 s)).2.1 = _
  by_cases a : A.2.2.2.1 / 2 ^ s % 2 = 0
  · have h1 := q_63bit ⟨A.2.2.2.1, hV.1⟩ ⟨s, hs⟩ a
    have h1 : kWl A / 2 ^ s % 2 = 1 := h1
    rw [if_neg (by omega), if_pos a, kIn_all]; rfl
  · have h1 := q_63bit1 ⟨A.2.2.2.1, hV.1⟩ ⟨s, hs⟩ (by show A.2.2.2.1 / 2 ^ s % 2 = 1; omega)
    have h1 : kWl A / 2 ^ s % 2 = 0 := h1
    rw [if_pos h1, if_neg a]; rfl
theorem q_rows {A : kA} {now : VX3} {mg : VMg} {N : Nat} {v1 v2 v3 v5 : Int32} (hN : 100 ≤ N) (hV : kV A) (hC : kC A now) (hM : kM A mg) : ∀ (j m m' s : Nat) (le mr : Nat → Int32) (ml : VMl) (mq : VMq), s + j = 6 → j < m → j < m' → (∀ q, q < kNn A s → le q = mr q ∧ kName (le q) = true) → ∃ le' mr', fX6_numberList_l4 N now m (nI (kNn A s)) (nI s) le = some (nI (kNn A 6), le') ∧ fX7_heap_l52 N mg m' v1 v2 v3 v5 (nI (kNn A s)) (nI s) ml mq mr = fX7_heap_l122 N mg N v1 v2 v3 v5 (nI (kNn A 6)) 0 ml mq mr' ∧ ∀ q, q < kNn A 6 → le' q = mr' q ∧ kName (le' q) = true := by
  intro j
  induction j with
  | zero =>
    intro m m' s le mr ml mq hi hm hm' h
    obtain ⟨m, rfl⟩ : ∃ q, m = q + 1 := ⟨m - 1, by omega⟩
    obtain ⟨m', rfl⟩ : ∃ q, m' = q + 1 := ⟨m' - 1, by omega⟩
    obtain rfl : s = 6 := by omega
    refine ⟨le, mr, ?_, ?_, h⟩
    · show fX6_numberList_b4 N now _ _ _ _ = _
      unfold fX6_numberList_b4
      rw [if_pos (show (6 : Int32) ≤ nI 6 by decide)]
    · show fX7_heap_b52 N mg _ _ _ _ _ _ _ _ _ _ = _
      unfold fX7_heap_b52
      rw [if_pos (show (6 : Int32) ≤ nI 6 by decide)]
  | succ j ih =>
    intro m m' s le mr ml mq hi hm hm' h
    obtain ⟨m, rfl⟩ : ∃ q, m = q + 1 := ⟨m - 1, by omega⟩
    obtain ⟨m', rfl⟩ : ∃ q, m' = q + 1 := ⟨m' - 1, by omega⟩
    have hs : s < 6 := by omega
    obtain ⟨hz, -, hnm⟩ := hV.2.2.2 s hs
    have hns : kNn A s ≤ 10 * s := (kTb_out hV s (by omega)).1
    have hnn := kNn_s hV hs
    have n6 : ¬ (6 : Int32) ≤ nI s := by rw [show (6 : Int32) = nI 6 from rfl, nI_leI (by omega) (by omega)]; omega
    show ∃ le' mr', fX6_numberList_b4 N now _ _ _ _ = _ ∧ fX7_heap_b52 N mg _ _ _ _ _ _ _ _ _ _ = _ ∧ _
    unfold fX6_numberList_b4 fX7_heap_b52 fX6_numberList_b33
    rw [if_neg n6, if_neg n6, q_struck6 hV hC hs, q_sizeOf hC hs]
    simp only [q_b1]
    by_cases a : A.2.2.2.1 / 2 ^ s % 2 = 0
    · rw [if_pos a] at hnn
      rw [if_neg (fun q => by have := of_decide_eq_true q; omega)]
      obtain ⟨le1, f1, f2, f3⟩ := q_nl37 (N := N) (k4 := fX6_numberList_l4 N now m) hV hC hs (A.1 s) N 0 (kNn A s) le (by omega) (by omega) (by omega)
      obtain ⟨mr1, g1, g2, g3⟩ := q_nl62 (N := N) (v1 := v1) (v2 := v2) (v3 := v3) (v5 := v5) (k52 := fX7_heap_l52 N mg m') hV hM hs a (A.1 s) N 0 (kNn A s) ml mq mr (by omega) (by omega) (by omega)
      rw [show (0 : Int32) = nI 0 from rfl, f1, g1, ← hnn]
      refine ih m m' (s + 1) le1 mr1 ml mq (by omega) (by omega) (by omega) (fun q hq => ?_)
      by_cases b : q < kNn A s
      · rw [f2 q b, g2 q b]; exact h q b
      · obtain ⟨t, rfl⟩ : ∃ t, q = kNn A s + t := ⟨q - kNn A s, by omega⟩
        rw [f3 t (by omega), g3 t (by omega), Nat.zero_add]
        exact ⟨rfl, hnm t (by omega)⟩
    · rw [if_neg a] at hnn
      have hnn : kNn A (s + 1) = kNn A s := hnn
      rw [if_pos (decide_eq_true (by omega))]
      have hk6 : k_in (nI s) 6 := nI_in hs (by omega)
      have e0 : ¬ nI (A.2.2.2.1 / 2 ^ s % 2) = 0 := fun q => a ((nI_eq (b := 0) (by omega) (by omega)).mp q)
      have c1 : fX6_numberList_l37 N now (fX6_numberList_l4 N now m) N (nI (kNn A s)) (nI s) 0 0 le = fX6_numberList_l4 N now m (nI (kNn A s)) (nI (s + 1)) le := by
        obtain ⟨N', rfl⟩ : ∃ q, N = q + 1 := ⟨N - 1, by omega⟩
        show fX6_numberList_b37 _ now _ _ _ _ _ _ _ = _
        unfold fX6_numberList_b37 fX6_numberList_b77
        rw [if_pos (show (0 : Int32) ≤ 0 by decide), nI_1]
      have c2 : fX7_heap_l62 N mg (fX7_heap_l52 N mg m') N v1 v2 v3 v5 (nI (kNn A s)) (nI s) 0 ml mq mr = fX7_heap_l52 N mg m' v1 v2 v3 v5 (nI (kNn A s)) (nI (s + 1)) ml mq mr := by
        obtain ⟨N', rfl⟩ : ∃ q, N = q + 1 := ⟨N - 1, by omega⟩
        show fX7_heap_b62 _ mg _ _ _ _ _ _ _ _ _ _ _ _ = _
        unfold fX7_heap_b62 fX7_heap_b113
        simp only [if_pos hk6, nI_clamp (show s < 2 ^ 31 by omega)]
        rw [(hM.1 s hs).2.2.1, if_neg e0, nI_1]
        by_cases d : mg.2.2.1 s ≤ 0
        · rw [if_pos d]
        · rw [if_neg d]
      rw [c1, c2, ← hnn]
      exact ih m m' (s + 1) le mr ml mq (by omega) (by omega) (by omega) (by rw [hnn]; exact h)
