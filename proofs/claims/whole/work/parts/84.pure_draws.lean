/-! the heap's draws -/
def kVd (T : kT) : Nat := T.2.1 - T.2.2.1
def kPr2 (T : kT) : Nat := kN kTwo' T.1 26
theorem q_dr7 {N n : Nat} {mg : VMg} {k155 : Int32 → Int32 → Int32 → Int32 → Int32 → Int32 → Int32 → Int32 → VMl → VMq → (Nat → Int32) → Option (Int32 × VMl × VMq × (Nat → Int32))} {T : kT} {c : Int32} (hn : n ≤ 60) (hb : kTb T n) (hc : kName c = true) {v2 v3 v5 v6 v7 v10 : Int32} {ml : VMl} {mq : VMq} {mr : Nat → Int32} (hml : ∀ j, j < 26 → ml.1 j = nI (T.1 j)) : ∃ ml' : VMl, fX7_heap_b241 N mg k155 v2 v3 v5 v6 v7 (nI (kPr2 T)) v10 c (nI (kVd T)) (!(kBad c)) ml mq mr = k155 v2 v3 v5 v6 v7 (nI (kVd (kAdd T c))) (nI (kPr2 (kAdd T c))) (v10 + 1) ml' mq mr ∧ ∀ j, j < 26 → ml'.1 j = nI ((kAdd T c).1 j) := by
  obtain ⟨b1, b2, b3, b4⟩ := hb
  have h1 : nI (kVd T) + bI (!(kBad c)) = nI (kVd (kAdd T c)) := by
    unfold kVd kAdd
    by_cases e : c = 46
    · subst e
      rw [if_pos rfl, kBad46]
      show nI (T.2.1 - T.2.2.1) + 1 = nI (T.2.1 + 1 - T.2.2.1)
      rw [nI_1]; congr 1; omega
    · rw [if_neg e]
      by_cases e2 : kBad c = true
      · rw [if_pos e2, e2]
        show nI (T.2.1 - T.2.2.1) + nI 0 = nI (T.2.1 + 1 - (T.2.2.1 + 1))
        rw [nI_add]; congr 1; omega
      · rw [if_neg e2, (Bool.not_eq_true _).mp e2]
        show nI (T.2.1 - T.2.2.1) + 1 = nI (T.2.1 + 1 - T.2.2.1)
        rw [nI_1]; congr 1; omega
  unfold fX7_heap_b241 fX7_heap_b287 fX7_heap_b290
  rw [q_let7, h1]
  simp only [q_b1]
  unfold kPr2 kAdd
  by_cases e : c = 46
  · rw [if_pos e, if_neg (fun q => (kLet_not q).1 e)]
    exact ⟨ml, rfl, hml⟩
  rw [if_neg e]
  by_cases e2 : kBad c = true
  · rw [if_pos e2, if_neg (fun q => (kLet_not q).2 e2)]
    exact ⟨ml, rfl, hml⟩
  rw [if_neg e2]
  obtain ⟨hl, j, hj, -, ej⟩ := kName_let hc e e2
  have hk : k_in (nI j) 26 := nI_in hj (by omega)
  rw [if_pos hl]
  simp only [ej, if_pos hk, nI_clamp (show j < 2 ^ 31 by omega), pk_us, hml j hj, nI_1]
  have hfj : T.1 j ≤ 60 := Nat.le_trans (b2 j) (by omega)
  have c2 : nI (T.1 j + 1) = 2 ↔ T.1 j = 1 := by rw [show (2 : Int32) = nI 2 from rfl, nI_eq (by omega) (by omega)]; omega
  have n2 := kN_up (P := kTwo') (f := T.1) (v := T.1 j + 1) 26 hj
  have i2 : ∀ x, kTwo' x = true ↔ 2 ≤ x := fun x => decide_eq_true_iff
  have hy1 : ∀ q, q < 26 → upd ml.1 j (nI (T.1 j + 1)) q = nI (kUp T.1 j (T.1 j + 1) q) := by
    intro q hq
    unfold upd kUp
    by_cases a : q = j
    · rw [if_pos a, if_pos a]
    · rw [if_neg a, if_neg a]; exact hml q hq
  by_cases a2 : T.1 j = 1
  · rw [if_neg (fun q => by have := (i2 _).mp q; omega), if_pos ((i2 _).mpr (by omega))] at n2
    rw [if_pos (c2.mpr a2)]
    refine ⟨(upd ml.1 j (nI (T.1 j + 1)), ml.2), ?_, hy1⟩
    have : nI (kN kTwo' T.1 26) + bI true = nI (kN kTwo' (kUp T.1 j (T.1 j + 1)) 26) := by
      show nI (kN kTwo' T.1 26) + 1 = _
      rw [nI_1]; congr 1; omega
    rw [this]
  · rw [if_neg (fun q => a2 (c2.mp q))]
    refine ⟨(upd ml.1 j (nI (T.1 j + 1)), ml.2), ?_, hy1⟩
    have : nI (kN kTwo' T.1 26) + bI false = nI (kN kTwo' (kUp T.1 j (T.1 j + 1)) 26) := by
      show nI (kN kTwo' T.1 26) + nI 0 = _
      rw [nI_add]; congr 1
      by_cases a0 : 2 ≤ T.1 j
      · rw [if_pos ((i2 _).mpr a0), if_pos ((i2 _).mpr (by omega))] at n2; omega
      · rw [if_neg (fun q => by have := (i2 _).mp q; omega), if_neg (fun q => by have := (i2 _).mp q; omega)] at n2; omega
    rw [this]
def kHe (N : Nat) (mg : VMg) (v2 v3 v5 v8 v9 : Int32) (ml : VMl) (mq : VMq) (mr : Nat → Int32) : Option (Int32 × VMl × VMq × (Nat → Int32)) :=
  if v3 = 0 then some (v8, ml, mq, mr) else if v3 = 1 then some (v9, ml, mq, mr) else k_b2 (fX7_saysYes N mg v5 v2 v8 v9 mq) fun x_4 mq_5 => if x_4 = true then some (1, ml, mq_5, mr) else some (0, ml, mq_5, mr)
theorem q_takeOut {N n p : Nat} {le : Nat → Int32} (hN : 100 ≤ N) (hn : n ≤ 60) (hp : p < n) : fX6_takeOut N (nI p) (nI n) le = some (le p, kOutOf le p n) := by
  unfold fX6_takeOut
  rw [if_neg (nI_pos (by omega)), if_neg (by rw [nI_leI (by omega) (by omega)]; omega), if_pos (by rw [show (60 : Int32) = nI 60 from rfl, nI_leI (by omega) (by omega)]; omega), if_pos (nI_in (by omega) (by omega)), nI_clamp (by omega)]
  exact q_take hn (n - 1 - p) N p le (by omega) (by omega)
theorem q_draws {now : VX3} {mg : VMg} {N k : Nat} {v3 v5 : Int32} (hN : 200 ≤ N) (hk : k ≤ 60) : ∀ (j m m' i n z : Nat) (T : kT) (so : VX4) (le mr : Nat → Int32) (ml : VMl) (mq : VMq), i + j = k → j ≤ n → n ≤ 60 → z < 65537 → j < m → j < m' → kTb T i → T.2.1 = i → kY T so → (∀ q, q < 26 → ml.1 q = nI (T.1 q)) → (∀ q, q < n → le q = mr q ∧ kName (le q) = true) → ∃ (T' : kT) (so' : VX4) (le' : Nat → Int32) (ml' : VMl) (mr' : Nat → Int32), kTb T' k ∧ T'.2.1 = k ∧ kY T' so' ∧ fX6_drawHeap_l18 N now m (nI k) (nI n) (nI z) (nI i) so le = some (so', le') ∧ fX7_heap_l155 N mg m' (nI k) v3 v5 (nI n) (nI z) (nI (kVd T)) (nI (kPr2 T)) (nI i) ml mq mr = kHe N mg (nI k) v3 v5 (nI (kVd T')) (nI (kPr2 T')) ml' mq mr' := by
  intro j
  induction j with
  | zero =>
    intro m m' i n z T so le mr ml mq hi hjn hn hz hm hm' hb hT hY hml hrow
    obtain ⟨m, rfl⟩ : ∃ q, m = q + 1 := ⟨m - 1, by omega⟩
    obtain ⟨m', rfl⟩ : ∃ q, m' = q + 1 := ⟨m' - 1, by omega⟩
    obtain rfl : i = k := by omega
    refine ⟨T, so, le, ml, mr, hb, hT, hY, ?_, ?_⟩
    · show fX6_drawHeap_b18 N now _ _ _ _ _ _ _ = _
      unfold fX6_drawHeap_b18
      rw [if_pos (by rw [nI_leI (by omega) (by omega)]; omega)]
    · show fX7_heap_b155 N mg _ _ _ _ _ _ _ _ _ _ _ _ = _
      unfold fX7_heap_b155 kHe
      rw [if_pos (by rw [nI_leI (by omega) (by omega)]; omega)]
  | succ j ih =>
    intro m m' i n z T so le mr ml mq hi hjn hn hz hm hm' hb hT hY hml hrow
    obtain ⟨m, rfl⟩ : ∃ q, m = q + 1 := ⟨m - 1, by omega⟩
    obtain ⟨m', rfl⟩ : ∃ q, m' = q + 1 := ⟨m' - 1, by omega⟩
    obtain ⟨n, rfl⟩ : ∃ q, n = q + 1 := ⟨n - 1, by omega⟩
    obtain ⟨g1, g2⟩ := q_lot (z := z) (n := n + 1) hz (by omega) hn
    have hz' : (z * 75 + 74) % 65537 < 65537 := Nat.mod_lt _ (by omega)
    generalize hzz : (z * 75 + 74) % 65537 = z' at g1 g2 hz'
    have hp : z' % (n + 1) < n + 1 := Nat.mod_lt _ (by omega)
    generalize hpp : z' % (n + 1) = p at g2 hp
    obtain ⟨r1, r2⟩ := hrow p hp
    obtain ⟨so', s1, s2⟩ := q_add (n := i) (by omega) hb hY r2
    obtain ⟨ml', s3, s4⟩ := q_dr7 (N := N) (n := i) (mg := mg) (k155 := fX7_heap_l155 N mg m') (v2 := nI k) (v3 := v3) (v5 := v5) (v6 := nI n) (v7 := nI z') (v10 := nI i) (mq := mq) (mr := kOutOf mr p (n + 1)) (by omega) hb r2 hml
    obtain ⟨T', so2, le2, ml2, mr2, t1, t2, t3, t4, t5⟩ := ih m m' (i + 1) n z' (kAdd T (le p)) so' (kOutOf le p (n + 1)) (kOutOf mr p (n + 1)) ml' mq (by omega) (by omega) (by omega) hz' (by omega) (by omega) (kTb_add hb) (by rw [(kAdd_add T (le p) 0).2.1, hT]) s2 s4 (kOutOf_eq hp hrow)
    refine ⟨T', so2, le2, ml2, mr2, t1, t2, t3, ?_, ?_⟩
    · show fX6_drawHeap_b18 N now _ _ _ _ _ _ _ = _
      unfold fX6_drawHeap_b18
      rw [if_neg (by rw [nI_leI (by omega) (by omega)]; omega), if_neg (by rw [show (0 : Int32) = nI 0 from rfl, nI_leI (by omega) (by omega)]; omega), if_neg (show ¬ (65537 : Int32) = 0 by decide)]
      simp only [q_b1, g1, g2]
      rw [if_neg (fun q => by have := (nI_eq (b := 0) (by omega) (by omega)).mp q; omega), q_takeOut (by omega) hn hp]
      simp only [q_b2, s1, q_b1, pk_m1, nI_1]
      exact t4
    · show fX7_heap_b155 N mg _ _ _ _ _ _ _ _ _ _ _ _ = _
      unfold fX7_heap_b155
      rw [if_neg (by rw [nI_leI (by omega) (by omega)]; omega), if_neg (show ¬ (65537 : Int32) = 0 by decide)]
      simp only [q_b1, g1, g2]
      rw [if_neg (fun q => by have := (nI_eq (b := 0) (by omega) (by omega)).mp q; omega), if_pos (nI_in (by omega) (by omega)), nI_clamp (by omega), pk_m1, q_shift hn (n - p) N p mr (by omega) (by omega), ← r1, s3, nI_1]
      exact t5
