/-! names and rule -/
/-- n signs of p from the place b on, from the i-th -/
def kF (f : Nat → Int32) (b i n : Nat) (p : Nat → Int32) : Nat → Int32 := fun q => if b + i ≤ q ∧ q < b + n then p (q - b) else f q
theorem kF_n (f : Nat → Int32) (b n : Nat) (p : Nat → Int32) : kF f b n n p = f := by
  funext q; unfold kF; rw [if_neg (by omega)]
theorem kF_s (f : Nat → Int32) (b i n : Nat) (p : Nat → Int32) (h : i < n) : kF (upd f (b + i) (p i)) b (i + 1) n p = kF f b i n p := by
  funext q; unfold kF upd
  by_cases h1 : q = b + i
  · rw [if_neg (by omega), if_pos h1, if_pos (by omega)]; congr 1; omega
  · by_cases h2 : b + i ≤ q ∧ q < b + n
    · rw [if_pos (by omega), if_pos h2]
    · rw [if_neg (by omega), if_neg h1, if_neg h2]
theorem q_fillL {N n s : Nat} {p : Nat → Int32} {pad : VX5} {mp : VMp} (h : kP n p pad mp) (hn : n ≤ 10) (hs : s < 6) : ∀ (j m i : Nat) (r : VX3), i + j = n → j < m → fX3_fillSheet_l25 N 16 pad m (nI s) (nI i) r = some (kF r.1 (s * 10) i n p, upd r.2.1 s (nI n), r.2.2) := by
  intro j
  induction j with
  | zero =>
    intro m i r hi hm
    obtain ⟨m, rfl⟩ : ∃ q, m = q + 1 := ⟨m - 1, by omega⟩
    obtain rfl : i = n := by omega
    show fX3_fillSheet_b25 N 16 pad _ _ _ _ = _
    unfold fX3_fillSheet_b25
    rw [h.2.1, if_pos (by rw [nI_leI (by omega) (by omega)]; omega), if_pos (nI_in hs (by omega)), nI_clamp (by omega), kF_n]
  | succ j ih =>
    intro m i r hi hm
    obtain ⟨m, rfl⟩ : ∃ q, m = q + 1 := ⟨m - 1, by omega⟩
    show fX3_fillSheet_b25 N 16 pad _ _ _ _ = _
    unfold fX3_fillSheet_b25 fX3_fillSheet_b63
    have e : nI s * 10 + nI i = nI (s * 10 + i) := by rw [show (10 : Int32) = nI 10 from rfl, pk_mul, nI_add]
    have e2 : ¬ pad.2 ≤ nI i := by rw [h.2.1, nI_leI (by omega) (by omega)]; omega
    rw [if_neg e2, e, if_neg (by rw [show (60 : Int32) = nI 60 from rfl, nI_leI (by omega) (by omega)]; omega), q_signAt (by omega) (by omega) (by omega) h.2.1 (by omega), (h.2.2.2 i (by omega)).1]
    simp only [q_b1]
    rw [if_pos (nI_in (by omega) (by omega)), nI_clamp (by omega), nI_1, ih m (i + 1) _ (by omega) (by omega)]
    show some (kF (upd r.1 (s * 10 + i) (p i)) (s * 10) (i + 1) n p, _, _) = _
    rw [kF_s _ _ _ _ _ (by omega)]
theorem q_namesL {N n s : Nat} {p : Nat → Int32} {pad : VX5} (hn : n ≤ 10) (hs : s < 6) : ∀ (j m i : Nat) (mp : VMp) (g : VMg), kP n p pad mp → g.2.2.1 s = nI n → i + j = n → j < m → fX7_names_l31 N m (nI s) (nI i) mp g = some (nI n, (mp.1, 0), (g.1, g.2.1, g.2.2.1, kF g.2.2.2.1 (s * 10) i n p, g.2.2.2.2)) := by
  intro j
  induction j with
  | zero =>
    intro m i mp g h hg hi hm
    obtain ⟨m, rfl⟩ : ∃ q, m = q + 1 := ⟨m - 1, by omega⟩
    obtain rfl : i = n := by omega
    show fX7_names_b31 N _ _ _ _ _ = _
    unfold fX7_names_b31
    have e2 : mp.2 ≤ nI i := by rw [h.2.2.1, nI_leI (by omega) (by omega)]; omega
    rw [if_pos e2, if_pos (nI_in hs (by omega)), nI_clamp (by omega), kF_n, hg]
  | succ j ih =>
    intro m i mp g h hg hi hm
    obtain ⟨m, rfl⟩ : ∃ q, m = q + 1 := ⟨m - 1, by omega⟩
    show fX7_names_b31 N _ _ _ _ _ = _
    unfold fX7_names_b31
    have e : (10 : Int32) * nI s + nI i = nI (s * 10 + i) := by rw [show (10 : Int32) = nI 10 from rfl, pk_mul, nI_add, Nat.mul_comm]
    have e2 : ¬ mp.2 ≤ nI i := by rw [h.2.2.1, nI_leI (by omega) (by omega)]; omega
    rw [if_neg e2, if_pos (nI_in (by omega) (by omega)), e, if_pos (nI_in (by omega) (by omega)), nI_clamp (by omega), nI_clamp (by omega), (h.2.2.2 i (by omega)).2, nI_1]
    refine (ih m (i + 1) mp _ h (by exact hg) (by omega) (by omega)).trans ?_
    show some (_, _, (_, _, _, kF (upd g.2.2.2.1 (s * 10 + i) (p i)) (s * 10) (i + 1) n p, _)) = _
    rw [kF_s _ _ _ _ _ (by omega)]
theorem kF_at {f : Nat → Int32} {b n i : Nat} {p : Nat → Int32} (h : i < n) : kF f b 0 n p (b + i) = p i := by
  unfold kF; rw [if_pos (by omega)]; congr 1; omega
theorem kF_off {f : Nat → Int32} {b n q : Nat} {p : Nat → Int32} (h : q < b ∨ b + n ≤ q) : kF f b 0 n p q = f q := by
  unfold kF; rw [if_neg (by omega)]
theorem q_names {A : kA} {now : VX3} {mg : VMg} {N n : Nat} {p : Nat → Int32} {pad : VX5} {mp : VMp} (hN : 100 ≤ N) (h : kP n p pad mp) (hV : kV A) (hC : kC A now) (hM : kM A mg) (a : Int32) : ∃ r pad' now' mp' mg', fX6_names N a pad now = some (r, pad', now') ∧ fX7_names N a mp mg = some (r, mp', mg') ∧ (now'.2.2.2.2.2.2 = now.2.2.2.2.2.2) ∧ (∃ n p, kP n p pad' mp') ∧ ∃ A, kV A ∧ kC A now' ∧ kM A mg' := by
  obtain ⟨r, e1, e2, e3⟩ := q_namesFault hN h
  unfold fX6_names fX7_names
  rw [q_sheet6, q_sheet7, e1, e2]
  simp only [q_b1]
  by_cases hw : kW a 0 5 = true
  rotate_left
  · rw [if_neg hw, if_neg hw]; exact ⟨_, _, _, _, _, rfl, rfl, rfl, ⟨n, p, h⟩, A, hV, hC, hM⟩
  rw [if_pos hw, if_pos hw]
  obtain ⟨s, hs, rfl⟩ := q_W5 hw
  rcases e3 with ⟨rfl, hn, hk⟩ | ⟨k, hk, rfl⟩
  rotate_left
  · rw [if_neg (fun q => absurd q (by rw [← Int32.toInt_inj, nI_toInt (by omega)]; have : (-6 : Int32).toInt = -6 := by decide
                                      omega)), if_neg (nI_pos (by omega))]
    exact ⟨_, _, _, _, _, rfl, rfl, rfl, ⟨n, p, h⟩, A, hV, hC, hM⟩
  rw [if_pos rfl, if_pos (show (-6 : Int32) < 0 by decide), if_pos (nI_in hs (by omega)), nI_clamp (by omega)]
  unfold fX3_fillSheet
  have e4 : pad.2 ≤ (10 : Int32) := by rw [h.2.1, show (10 : Int32) = nI 10 from rfl, nI_leI (by omega) (by omega)]; omega
  rw [if_neg (nI_pos (by omega)), if_neg (by rw [show (6 : Int32) = nI 6 from rfl, nI_leI (by omega) (by omega)]; omega), if_pos e4]
  rw [show (0 : Int32) = nI 0 from rfl, q_fillL h hn hs n N 0 now (by omega) (by omega)]
  rw [q_namesL hn hs n N 0 mp _ h (show upd mg.2.2.1 s mp.2 s = nI n by rw [pk_us, h.2.2.1]) (by omega) (by omega)]
  unfold fX6_wipe fX5_clear
  simp only [q_b1, q_b2]
  rw [h.2.1, h.2.2.1]
  obtain ⟨v1, v2, v3, v4⟩ := id hV
  obtain ⟨c1, c2, c3, c4, c5⟩ := id hC
  obtain ⟨m1, m2, m3, m4⟩ := id hM
  have hsz : ∀ f : Nat → Int32, (∀ q, q < 6 → f q = nI (A.1 q)) → ∀ q, q < 6 → upd f s (nI n) q = nI (if q = s then n else A.1 q) := by
    intro f hf q hq
    unfold upd
    by_cases e : q = s
    · rw [if_pos e, if_pos e]
    · rw [if_neg e, if_neg e]; exact hf q hq
  have hcl : ∀ f : Nat → Int32, (∀ q, q < 6 → ∀ i, i < A.1 q → f (q * 10 + i) = A.2.1 (q * 10 + i)) → ∀ q, q < 6 → ∀ i, i < (if q = s then n else A.1 q) → kF f (s * 10) 0 n p (q * 10 + i) = kF A.2.1 (s * 10) 0 n p (q * 10 + i) := by
    intro f hf q hq i hi
    by_cases e : q = s
    · subst e; rw [if_pos rfl] at hi; rw [kF_at hi, kF_at hi]
    · rw [if_neg e] at hi
      have := (v4 q hq).1
      have ho : q * 10 + i < s * 10 ∨ s * 10 + n ≤ q * 10 + i := by omega
      rw [kF_off ho, kF_off ho]; exact hf q hq i hi
  refine ⟨_, _, _, _, _, rfl, rfl, rfl, ⟨0, p, by omega, rfl, rfl, fun j hj => by omega⟩, (fun q => if q = s then n else A.1 q, kF A.2.1 (s * 10) 0 n p, A.2.2), ⟨v1, v2, v3, fun q hq => ⟨?_, (v4 q hq).2.1, ?_⟩⟩, ⟨fun q hq => ⟨hsz _ (fun q hq => (c1 q hq).1) q hq, (c1 q hq).2.1, hcl _ (fun q hq => (c1 q hq).2.2) q hq⟩, c2, c3, c4, c5⟩, ⟨fun q hq => ⟨hsz _ (fun q hq => (m1 q hq).1) q hq, (m1 q hq).2.1, (m1 q hq).2.2.1, hcl _ (fun q hq => (m1 q hq).2.2.2) q hq⟩, m2, m3, m4⟩⟩
  · show (if q = s then n else A.1 q) ≤ 10
    have := (v4 q hq).1
    by_cases e : q = s
    · rw [if_pos e]; omega
    · rw [if_neg e]; omega
  · show ∀ i, i < (if q = s then n else A.1 q) → kName (kF A.2.1 (s * 10) 0 n p (q * 10 + i)) = true
    intro i hi
    by_cases e : q = s
    · subst e; rw [if_pos rfl] at hi; rw [kF_at hi]; exact hk i hi
    · rw [if_neg e] at hi
      have := (v4 q hq).1
      rw [kF_off (by omega)]; exact (v4 q hq).2.2 i hi
