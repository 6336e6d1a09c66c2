/-! own judgement: from every concrete state that matches a symbolic one (world, locals, pc, stack), the goal -/
def G_ : List Cond := lw_tbl.filter goodWord
theorem G_mem {i : Nat} {w : Cond} (h : tables_1[i]? = some w) (g : goodWord w = true) : w ∈ G_ := List.mem_filter.mpr ⟨List.mem_append_right _ (List.mem_of_getElem? h), g⟩
theorem G_sel {i : Nat} {w : Cond} (h : (k2_sels lw_privs)[i]? = some w) (g : goodWord w = true) : w ∈ G_ := List.mem_filter.mpr ⟨List.mem_append_left _ (List.mem_of_getElem? h), g⟩
theorem G_tbl {w : Cond} (h : w ∈ G_) : w ∈ lw_tbl := (List.mem_filter.mp h).1
theorem G_pay {w : Cond} (h : w ∈ G_) : (w.onTables && w.keeps) = true ∨ ∃ ty, w = .arrayClass ty := good_of_word (List.mem_filter.mp h).2
theorem G_good {c : Cond} (h : c ∈ G_) : GoodIn G_ (c :: G_) := fun w hw => by
  rcases List.mem_cons.mp hw with rfl | hw
  · exact ⟨h, G_pay h⟩
  · exact ⟨hw, G_pay hw⟩
/-- the words of nest mates -/
def k_isNest : Cond → Bool
  | .fieldLinkNest _ _ _ _ _ _ => true
  | .methodLinkNest _ _ _ _ => true
  | _ => false
def k_nest : List Cond := tables_1.filter k_isNest
def k_N (U : State) : Prop := ∀ w ∈ k_nest, va_Nw w U
theorem k_nest_mem {i : Nat} {w : Cond} (h : tables_1[i]? = some w) (g : k_isNest w = true) : w ∈ k_nest := List.mem_filter.mpr ⟨List.mem_of_getElem? h, g⟩
theorem k_N.warm {s U : State} (hW : s.WarmedH U.vm) (h : k_N s) : k_N U := by
  intro w hw
  have hn := (List.mem_filter.mp hw).2
  have h0 := h w hw
  cases w <;> first | exact va_Nw.warmF hW h0 | exact va_Nw.warmM hW h0 | (exact absurd hn (by simp [k_isNest]))
theorem k_N.same {u U : State} (hv : u.vm = U.vm) (h : k_N u) : k_N U := by
  intro w hw
  have hn := (List.mem_filter.mp hw).2
  have h0 := h w hw
  cases w <;> first | exact va_Nw.same rfl hv h0 | (exact absurd hn (by simp [k_isNest]))
theorem k_N.of {s : State} {args : Array Value} (hts : ∀ w ∈ lw_tbl, w.before args s = true) : k_N s := by
  intro w hw
  have hn := (List.mem_filter.mp hw).2
  have h0 := hts w (List.mem_append_right _ (List.mem_filter.mp hw).1)
  cases w <;> first | exact va_Nw.of rfl h0 | (exact absurd hn (by simp [k_isNest]))
/-- the array classes -/
def k_tys (D : va_G) : List (ClassId × FieldType) := [(D.1 100, .int), (D.1 101, .long), (D.1 102, .boolean)]
abbrev k_in (i : Int32) (n : Nat) : Prop := ¬ (i < 0 ∨ n ≤ i.toNatClampNeg)
/-- a Boolean as the machine has it -/
def bI (b : Bool) : Int32 := match b with
  | true => 1
  | false => 0
theorem bI_t {b : Bool} (h : b = true) : ¬ bI b = 0 := by subst h; decide
theorem bI_f {b : Bool} (h : ¬ b = true) : bI b = 0 := by cases b; rfl; exact absurd rfl h
theorem bI_n (b : Bool) : narrow .boolean (.int (bI b)) = .int (bI b) := by cases b <;> rfl
theorem bI_fit (b : Bool) : fits .boolean (.int (bI b)) = true := by cases b <;> rfl
theorem bI_inj {a b : Bool} : bI a = bI b ↔ a = b := by cases a <;> cases b <;> decide
/-- pure programs -/
def k_b1 {α β : Type} (x : Option α) (f : α → Option β) : Option β := x.bind f
def k_b2 {α β γ : Type} (x : Option (α × β)) (f : α → β → Option γ) : Option γ := x.bind fun q => f q.1 q.2
def k_b3 {α β γ δ : Type} (x : Option (α × β × γ)) (f : α → β → γ → Option δ) : Option δ := x.bind fun q => f q.1 q.2.1 q.2.2
def k_b4 {α β γ δ ε : Type} (x : Option (α × β × γ × δ)) (f : α → β → γ → δ → Option ε) : Option ε := x.bind fun q => f q.1 q.2.1 q.2.2.1 q.2.2.2
def k_b5 {α β γ δ ε ζ : Type} (x : Option (α × β × γ × δ × ε)) (f : α → β → γ → δ → ε → Option ζ) : Option ζ := x.bind fun q => f q.1 q.2.1 q.2.2.1 q.2.2.2.1 q.2.2.2.2
theorem k_b1s {α β : Type} {x : Option α} {f : α → Option β} {r : β} (h : k_b1 x f = some r) : ∃ a, x = some a ∧ f a = some r := by
  cases x with
  | none => cases h
  | some a => exact ⟨a, rfl, h⟩
theorem k_b2s {α β γ : Type} {x : Option (α × β)} {f : α → β → Option γ} {r : γ} (h : k_b2 x f = some r) : ∃ a b, x = some (a, b) ∧ f a b = some r := by
  cases x with
  | none => cases h
  | some a => exact ⟨a.1, a.2, rfl, h⟩
theorem k_b3s {α β γ δ : Type} {x : Option (α × β × γ)} {f : α → β → γ → Option δ} {r : δ} (h : k_b3 x f = some r) : ∃ a b c, x = some (a, b, c) ∧ f a b c = some r := by
  cases x with
  | none => cases h
  | some a => exact ⟨a.1, a.2.1, a.2.2, rfl, h⟩
theorem k_b4s {α β γ δ ε : Type} {x : Option (α × β × γ × δ)} {f : α → β → γ → δ → Option ε} {r : ε} (h : k_b4 x f = some r) : ∃ a b c d, x = some (a, b, c, d) ∧ f a b c d = some r := by
  cases x with
  | none => cases h
  | some a => exact ⟨a.1, a.2.1, a.2.2.1, a.2.2.2, rfl, h⟩
theorem k_b5s {α β γ δ ε ζ : Type} {x : Option (α × β × γ × δ × ε)} {f : α → β → γ → δ → ε → Option ζ} {r : ζ} (h : k_b5 x f = some r) : ∃ a b c d e, x = some (a, b, c, d, e) ∧ f a b c d e = some r := by
  cases x with
  | none => cases h
  | some a => exact ⟨a.1, a.2.1, a.2.2.1, a.2.2.2.1, a.2.2.2.2, rfl, h⟩
theorem k_guard {α : Type} {c : Prop} [Decidable c] {x : Option α} {r : α} (h : (if c then x else none) = some r) : c ∧ x = some r := by
  by_cases hc : c
  · exact ⟨hc, by rw [if_pos hc] at h; exact h⟩
  · rw [if_neg hc] at h; cases h
theorem k_guardN {α : Type} {c : Prop} [Decidable c] {x : Option α} {r : α} (h : (if c then none else x) = some r) : ¬ c ∧ x = some r := by
  by_cases hc : c
  · rw [if_pos hc] at h; cases h
  · exact ⟨hc, by rw [if_neg hc] at h; exact h⟩
theorem k_pos {α : Type} {c : Prop} [Decidable c] {x y : Option α} {r : α} (hc : c) (h : (if c then x else y) = some r) : x = some r := by rw [if_pos hc] at h; exact h
theorem k_neg {α : Type} {c : Prop} [Decidable c] {x y : Option α} {r : α} (hc : ¬ c) (h : (if c then x else y) = some r) : y = some r := by rw [if_neg hc] at h; exact h
/-- the frame of a walk -/
abbrev k_E : Type := Program × Env × Room × State × MethodId × Array Value × List Frame × Method × Code × Nat × Nat × (State → Prop) × (Nat → Prop) × Nat
def k_G (D : va_G) (l : Launch) (E : k_E) (ws : va_W) (lv : List (Nat × Value)) (pc : Nat) (st : List Value) : Prop := match E with
  | (p, e, R, s, m, args, below, meth, c, cells, slots, Q, A, nL) => ∀ (H : Heap) (locs : List Loc) (ls : Array Slot), va_P D vwCl ws H → va_D A ws → va_S A s.heap H locs → lv_has ls nL lv → W p l e R s m args below meth c H locs cells slots Q (F0 m pc ls st)
def k_X (D : va_G) (E : k_E) (cc : ByteArray) (own : String) (nL F Lc : Nat) : Prop := match E with
  | (p, e, R, s, m, args, below, meth, c, cells, slots, Q, A, nL') => CallFix p m c cc nL s args G_ own ∧ va_K D vwCl (k_tys D) s ∧ k_N s ∧ cells ≤ R.cells ∧ slots ≤ R.slots ∧ F ≤ R.frames ∧ Lc ≤ R.locals ∧ nL' = nL ∧ ∀ q : Nat, s.heap.size ≤ q → A q
/-- fewer locals; the world's own order -/
theorem g_sub {D : va_G} {l : Launch} {E : k_E} {ws : va_W} {lv lv' : List (Nat × Value)} {pc : Nat} {st : List Value} (ks : List Nat) (hl : lv_pick lv ks = lv') (kk : k_G D l E ws lv' pc st) : k_G D l E ws lv pc st := by
  obtain ⟨p, e, R, s, m, args, below, meth, c, cells, slots, Q, A, nL'⟩ := E
  exact fun H locs ls hP hD hS hv => kk H locs ls hP hD hS (lv_sub hv ks hl)
theorem g_eq {D : va_G} {l : Launch} {E : k_E} {ws ws' : va_W} {lv lv' : List (Nat × Value)} {pc : Nat} {st st' : List Value} (h1 : ws = ws') (h2 : lv = lv') (h3 : st = st') (kk : k_G D l E ws' lv' pc st') : k_G D l E ws lv pc st := by subst h1 h2 h3; exact kk

theorem g_iload_n {D : va_G} {l : Launch} {E : k_E} {cc : ByteArray} {own : String} {nL F Lc : Nat} {ws : va_W} {lv : List (Nat × Value)} {pc n : Nat} {st : List Value} {k : Fin 4} {i : Nat} {x : Int32} (X : k_X D E cc own nL F Lc) (d : decode cc pc = .ok (.iload_n k, 1)) (q : Nat) (hi : (k : Nat) = i) (hl : lv[q]? = some (i, .int x)) (hn : pc + 1 = n) (kk : k_G D l E ws lv n (.int x :: st)) : k_G D l E ws lv pc st := by
  obtain ⟨p, e, R, s, m, args, below, meth, c, cells, slots, Q, A, nL'⟩ := E
  obtain ⟨⟨hx, hb, hml, hown, hts⟩, hK, hN, hc, hs, hF, hL, hnl, hA⟩ := X
  subst hn hnl
  intro H locs ls hP hD hS hv
  exact lv_iload_n hx hb d hi (lv_at hv q hl) (kk H locs ls hP hD hS hv)
theorem g_iload {D : va_G} {l : Launch} {E : k_E} {cc : ByteArray} {own : String} {nL F Lc : Nat} {ws : va_W} {lv : List (Nat × Value)} {pc n : Nat} {st : List Value} {i : Nat} {x : Int32} (X : k_X D E cc own nL F Lc) (d : decode cc pc = .ok (.iload i, 2)) (q : Nat) (hl : lv[q]? = some (i, .int x)) (hn : pc + 2 = n) (kk : k_G D l E ws lv n (.int x :: st)) : k_G D l E ws lv pc st := by
  obtain ⟨p, e, R, s, m, args, below, meth, c, cells, slots, Q, A, nL'⟩ := E
  obtain ⟨⟨hx, hb, hml, hown, hts⟩, hK, hN, hc, hs, hF, hL, hnl, hA⟩ := X
  subst hn hnl
  intro H locs ls hP hD hS hv
  exact lv_iload hx hb d (lv_at hv q hl) (kk H locs ls hP hD hS hv)
theorem g_lload_n {D : va_G} {l : Launch} {E : k_E} {cc : ByteArray} {own : String} {nL F Lc : Nat} {ws : va_W} {lv : List (Nat × Value)} {pc n : Nat} {st : List Value} {k : Fin 4} {i : Nat} {x : Int64} (X : k_X D E cc own nL F Lc) (d : decode cc pc = .ok (.lload_n k, 1)) (q : Nat) (hi : (k : Nat) = i) (hl : lv[q]? = some (i, .long x)) (hn : pc + 1 = n) (kk : k_G D l E ws lv n (.long x :: st)) : k_G D l E ws lv pc st := by
  obtain ⟨p, e, R, s, m, args, below, meth, c, cells, slots, Q, A, nL'⟩ := E
  obtain ⟨⟨hx, hb, hml, hown, hts⟩, hK, hN, hc, hs, hF, hL, hnl, hA⟩ := X
  subst hn hnl
  intro H locs ls hP hD hS hv
  exact lv_lload_n hx hb d hi (lv_at hv q hl) (kk H locs ls hP hD hS hv)
theorem g_lload {D : va_G} {l : Launch} {E : k_E} {cc : ByteArray} {own : String} {nL F Lc : Nat} {ws : va_W} {lv : List (Nat × Value)} {pc n : Nat} {st : List Value} {i : Nat} {x : Int64} (X : k_X D E cc own nL F Lc) (d : decode cc pc = .ok (.lload i, 2)) (q : Nat) (hl : lv[q]? = some (i, .long x)) (hn : pc + 2 = n) (kk : k_G D l E ws lv n (.long x :: st)) : k_G D l E ws lv pc st := by
  obtain ⟨p, e, R, s, m, args, below, meth, c, cells, slots, Q, A, nL'⟩ := E
  obtain ⟨⟨hx, hb, hml, hown, hts⟩, hK, hN, hc, hs, hF, hL, hnl, hA⟩ := X
  subst hn hnl
  intro H locs ls hP hD hS hv
  exact lv_lload hx hb d (lv_at hv q hl) (kk H locs ls hP hD hS hv)
theorem g_aload_n {D : va_G} {l : Launch} {E : k_E} {cc : ByteArray} {own : String} {nL F Lc : Nat} {ws : va_W} {lv : List (Nat × Value)} {pc n : Nat} {st : List Value} {k : Fin 4} {i : Nat} {x : Nat} (X : k_X D E cc own nL F Lc) (d : decode cc pc = .ok (.aload_n k, 1)) (q : Nat) (hi : (k : Nat) = i) (hl : lv[q]? = some (i, .ref x)) (hn : pc + 1 = n) (kk : k_G D l E ws lv n (.ref x :: st)) : k_G D l E ws lv pc st := by
  obtain ⟨p, e, R, s, m, args, below, meth, c, cells, slots, Q, A, nL'⟩ := E
  obtain ⟨⟨hx, hb, hml, hown, hts⟩, hK, hN, hc, hs, hF, hL, hnl, hA⟩ := X
  subst hn hnl
  intro H locs ls hP hD hS hv
  exact lv_aload_n hx hb d hi (lv_at hv q hl) (kk H locs ls hP hD hS hv)
theorem g_aload {D : va_G} {l : Launch} {E : k_E} {cc : ByteArray} {own : String} {nL F Lc : Nat} {ws : va_W} {lv : List (Nat × Value)} {pc n : Nat} {st : List Value} {i : Nat} {x : Nat} (X : k_X D E cc own nL F Lc) (d : decode cc pc = .ok (.aload i, 2)) (q : Nat) (hl : lv[q]? = some (i, .ref x)) (hn : pc + 2 = n) (kk : k_G D l E ws lv n (.ref x :: st)) : k_G D l E ws lv pc st := by
  obtain ⟨p, e, R, s, m, args, below, meth, c, cells, slots, Q, A, nL'⟩ := E
  obtain ⟨⟨hx, hb, hml, hown, hts⟩, hK, hN, hc, hs, hF, hL, hnl, hA⟩ := X
  subst hn hnl
  intro H locs ls hP hD hS hv
  exact lv_aload hx hb d (lv_at hv q hl) (kk H locs ls hP hD hS hv)
theorem g_istore_n {D : va_G} {l : Launch} {E : k_E} {cc : ByteArray} {own : String} {nL F Lc : Nat} {ws : va_W} {lv : List (Nat × Value)} {pc n : Nat} {st : List Value} {k : Fin 4} {i : Nat} {x : Int32} {lv2 : List (Nat × Value)} (X : k_X D E cc own nL F Lc) (d : decode cc pc = .ok (.istore_n k, 1)) (hi : (k : Nat) = i) (h1 : i < nL) (hl : (i, Value.int x) :: lv.filter (fun q => !(q.1 == i) && !(q.1 + 1 == i && q.2.category == 2)) = lv2) (hn : pc + 1 = n) (kk : k_G D l E ws lv2 n st) : k_G D l E ws lv pc (.int x :: st) := by
  obtain ⟨p, e, R, s, m, args, below, meth, c, cells, slots, Q, A, nL'⟩ := E
  obtain ⟨⟨hx, hb, hml, hown, hts⟩, hK, hN, hc, hs, hF, hL, hnl, hA⟩ := X
  subst hn hnl
  intro H locs ls hP hD hS hv
  exact lv_istore_n hx hb d hi hv h1 hl (fun ls hv => kk H locs ls hP hD hS hv)
theorem g_istore {D : va_G} {l : Launch} {E : k_E} {cc : ByteArray} {own : String} {nL F Lc : Nat} {ws : va_W} {lv : List (Nat × Value)} {pc n : Nat} {st : List Value} {i : Nat} {x : Int32} {lv2 : List (Nat × Value)} (X : k_X D E cc own nL F Lc) (d : decode cc pc = .ok (.istore i, 2)) (h1 : i < nL) (hl : (i, Value.int x) :: lv.filter (fun q => !(q.1 == i) && !(q.1 + 1 == i && q.2.category == 2)) = lv2) (hn : pc + 2 = n) (kk : k_G D l E ws lv2 n st) : k_G D l E ws lv pc (.int x :: st) := by
  obtain ⟨p, e, R, s, m, args, below, meth, c, cells, slots, Q, A, nL'⟩ := E
  obtain ⟨⟨hx, hb, hml, hown, hts⟩, hK, hN, hc, hs, hF, hL, hnl, hA⟩ := X
  subst hn hnl
  intro H locs ls hP hD hS hv
  exact lv_istore hx hb d hv h1 hl (fun ls hv => kk H locs ls hP hD hS hv)
theorem g_lstore_n {D : va_G} {l : Launch} {E : k_E} {cc : ByteArray} {own : String} {nL F Lc : Nat} {ws : va_W} {lv : List (Nat × Value)} {pc n : Nat} {st : List Value} {k : Fin 4} {i : Nat} {x : Int64} {lv2 : List (Nat × Value)} (X : k_X D E cc own nL F Lc) (d : decode cc pc = .ok (.lstore_n k, 1)) (hi : (k : Nat) = i) (h1 : i + 1 < nL) (hl : (i, Value.long x) :: lv.filter (fun q => !(q.1 == i) && (!(q.1 == i + 1) && !(q.1 + 1 == i && q.2.category == 2))) = lv2) (hn : pc + 1 = n) (kk : k_G D l E ws lv2 n st) : k_G D l E ws lv pc (.long x :: st) := by
  obtain ⟨p, e, R, s, m, args, below, meth, c, cells, slots, Q, A, nL'⟩ := E
  obtain ⟨⟨hx, hb, hml, hown, hts⟩, hK, hN, hc, hs, hF, hL, hnl, hA⟩ := X
  subst hn hnl
  intro H locs ls hP hD hS hv
  exact lv_lstore_n hx hb d hi hv h1 hl (fun ls hv => kk H locs ls hP hD hS hv)
theorem g_lstore {D : va_G} {l : Launch} {E : k_E} {cc : ByteArray} {own : String} {nL F Lc : Nat} {ws : va_W} {lv : List (Nat × Value)} {pc n : Nat} {st : List Value} {i : Nat} {x : Int64} {lv2 : List (Nat × Value)} (X : k_X D E cc own nL F Lc) (d : decode cc pc = .ok (.lstore i, 2)) (h1 : i + 1 < nL) (hl : (i, Value.long x) :: lv.filter (fun q => !(q.1 == i) && (!(q.1 == i + 1) && !(q.1 + 1 == i && q.2.category == 2))) = lv2) (hn : pc + 2 = n) (kk : k_G D l E ws lv2 n st) : k_G D l E ws lv pc (.long x :: st) := by
  obtain ⟨p, e, R, s, m, args, below, meth, c, cells, slots, Q, A, nL'⟩ := E
  obtain ⟨⟨hx, hb, hml, hown, hts⟩, hK, hN, hc, hs, hF, hL, hnl, hA⟩ := X
  subst hn hnl
  intro H locs ls hP hD hS hv
  exact lv_lstore hx hb d hv h1 hl (fun ls hv => kk H locs ls hP hD hS hv)
theorem g_astore_n {D : va_G} {l : Launch} {E : k_E} {cc : ByteArray} {own : String} {nL F Lc : Nat} {ws : va_W} {lv : List (Nat × Value)} {pc n : Nat} {st : List Value} {k : Fin 4} {i : Nat} {x : Nat} {lv2 : List (Nat × Value)} (X : k_X D E cc own nL F Lc) (d : decode cc pc = .ok (.astore_n k, 1)) (hi : (k : Nat) = i) (h1 : i < nL) (hl : (i, Value.ref x) :: lv.filter (fun q => !(q.1 == i) && !(q.1 + 1 == i && q.2.category == 2)) = lv2) (hn : pc + 1 = n) (kk : k_G D l E ws lv2 n st) : k_G D l E ws lv pc (.ref x :: st) := by
  obtain ⟨p, e, R, s, m, args, below, meth, c, cells, slots, Q, A, nL'⟩ := E
  obtain ⟨⟨hx, hb, hml, hown, hts⟩, hK, hN, hc, hs, hF, hL, hnl, hA⟩ := X
  subst hn hnl
  intro H locs ls hP hD hS hv
  exact lv_astore_n hx hb d hi hv h1 hl (fun ls hv => kk H locs ls hP hD hS hv)
theorem g_astore {D : va_G} {l : Launch} {E : k_E} {cc : ByteArray} {own : String} {nL F Lc : Nat} {ws : va_W} {lv : List (Nat × Value)} {pc n : Nat} {st : List Value} {i : Nat} {x : Nat} {lv2 : List (Nat × Value)} (X : k_X D E cc own nL F Lc) (d : decode cc pc = .ok (.astore i, 2)) (h1 : i < nL) (hl : (i, Value.ref x) :: lv.filter (fun q => !(q.1 == i) && !(q.1 + 1 == i && q.2.category == 2)) = lv2) (hn : pc + 2 = n) (kk : k_G D l E ws lv2 n st) : k_G D l E ws lv pc (.ref x :: st) := by
  obtain ⟨p, e, R, s, m, args, below, meth, c, cells, slots, Q, A, nL'⟩ := E
  obtain ⟨⟨hx, hb, hml, hown, hts⟩, hK, hN, hc, hs, hF, hL, hnl, hA⟩ := X
  subst hn hnl
  intro H locs ls hP hD hS hv
  exact lv_astore hx hb d hv h1 hl (fun ls hv => kk H locs ls hP hD hS hv)
theorem g_iinc {D : va_G} {l : Launch} {E : k_E} {cc : ByteArray} {own : String} {nL F Lc : Nat} {ws : va_W} {lv : List (Nat × Value)} {pc n : Nat} {st : List Value} {i : Nat} {z : Int} {x v : Int32} {lv2 : List (Nat × Value)} (X : k_X D E cc own nL F Lc) (d : decode cc pc = .ok (.iinc i z, 3)) (q : Nat) (hk : lv[q]? = some (i, .int x)) (hv1 : x + Int32.ofInt z = v) (h1 : i < nL) (hl : (i, Value.int v) :: lv.filter (fun q => !(q.1 == i) && !(q.1 + 1 == i && q.2.category == 2)) = lv2) (hn : pc + 3 = n) (kk : k_G D l E ws lv2 n st) : k_G D l E ws lv pc st := by
  obtain ⟨p, e, R, s, m, args, below, meth, c, cells, slots, Q, A, nL'⟩ := E
  obtain ⟨⟨hx, hb, hml, hown, hts⟩, hK, hN, hc, hs, hF, hL, hnl, hA⟩ := X
  subst hn hnl
  intro H locs ls hP hD hS hv
  exact lv_iinc hx hb d hv hk hv1 h1 hl (fun ls hv => kk H locs ls hP hD hS hv)
theorem g_iconst {D : va_G} {l : Launch} {E : k_E} {cc : ByteArray} {own : String} {nL F Lc : Nat} {ws : va_W} {lv : List (Nat × Value)} {pc n : Nat} {st : List Value} {z : Int} {v : Int32} (X : k_X D E cc own nL F Lc) (d : decode cc pc = .ok (.iconst z, 1)) (hv1 : Int32.ofInt z = v) (hn : pc + 1 = n) (kk : k_G D l E ws lv n (.int v :: st)) : k_G D l E ws lv pc st := by
  obtain ⟨p, e, R, s, m, args, below, meth, c, cells, slots, Q, A, nL'⟩ := E
  obtain ⟨⟨hx, hb, hml, hown, hts⟩, hK, hN, hc, hs, hF, hL, hnl, hA⟩ := X
  subst hn hnl
  intro H locs ls hP hD hS hv
  exact lv_iconst hx hb d hv1 (kk H locs ls hP hD hS hv)
theorem g_bipush {D : va_G} {l : Launch} {E : k_E} {cc : ByteArray} {own : String} {nL F Lc : Nat} {ws : va_W} {lv : List (Nat × Value)} {pc n : Nat} {st : List Value} {z : Int} {v : Int32} (X : k_X D E cc own nL F Lc) (d : decode cc pc = .ok (.bipush z, 2)) (hv1 : (Int8.ofInt z).toInt32 = v) (hn : pc + 2 = n) (kk : k_G D l E ws lv n (.int v :: st)) : k_G D l E ws lv pc st := by
  obtain ⟨p, e, R, s, m, args, below, meth, c, cells, slots, Q, A, nL'⟩ := E
  obtain ⟨⟨hx, hb, hml, hown, hts⟩, hK, hN, hc, hs, hF, hL, hnl, hA⟩ := X
  subst hn hnl
  intro H locs ls hP hD hS hv
  exact lv_bipush hx hb d hv1 (kk H locs ls hP hD hS hv)
theorem g_sipush {D : va_G} {l : Launch} {E : k_E} {cc : ByteArray} {own : String} {nL F Lc : Nat} {ws : va_W} {lv : List (Nat × Value)} {pc n : Nat} {st : List Value} {z : Int} {v : Int32} (X : k_X D E cc own nL F Lc) (d : decode cc pc = .ok (.sipush z, 3)) (hv1 : (Int16.ofInt z).toInt32 = v) (hn : pc + 3 = n) (kk : k_G D l E ws lv n (.int v :: st)) : k_G D l E ws lv pc st := by
  obtain ⟨p, e, R, s, m, args, below, meth, c, cells, slots, Q, A, nL'⟩ := E
  obtain ⟨⟨hx, hb, hml, hown, hts⟩, hK, hN, hc, hs, hF, hL, hnl, hA⟩ := X
  subst hn hnl
  intro H locs ls hP hD hS hv
  exact lv_sipush hx hb d hv1 (kk H locs ls hP hD hS hv)
theorem g_lconst {D : va_G} {l : Launch} {E : k_E} {cc : ByteArray} {own : String} {nL F Lc : Nat} {ws : va_W} {lv : List (Nat × Value)} {pc n : Nat} {st : List Value} {z : Fin 2} {v : Int64} (X : k_X D E cc own nL F Lc) (d : decode cc pc = .ok (.lconst z, 1)) (hv1 : Int64.ofNat (z : Nat) = v) (hn : pc + 1 = n) (kk : k_G D l E ws lv n (.long v :: st)) : k_G D l E ws lv pc st := by
  obtain ⟨p, e, R, s, m, args, below, meth, c, cells, slots, Q, A, nL'⟩ := E
  obtain ⟨⟨hx, hb, hml, hown, hts⟩, hK, hN, hc, hs, hF, hL, hnl, hA⟩ := X
  subst hn hnl
  intro H locs ls hP hD hS hv
  exact lv_lconst hx hb d hv1 (kk H locs ls hP hD hS hv)
theorem g_ldc {D : va_G} {l : Launch} {E : k_E} {cc : ByteArray} {own : String} {nL F Lc : Nat} {ws : va_W} {lv : List (Nat × Value)} {pc n : Nat} {st : List Value} {idx : Nat} {v : Int32} (X : k_X D E cc own nL F Lc) (d : decode cc pc = .ok (.ldc idx, 2)) (hc1 : Cond.constant own idx v ∈ G_) (hn : pc + 2 = n) (kk : k_G D l E ws lv n (.int v :: st)) : k_G D l E ws lv pc st := by
  obtain ⟨p, e, R, s, m, args, below, meth, c, cells, slots, Q, A, nL'⟩ := E
  obtain ⟨⟨hx, hb, hml, hown, hts⟩, hK, hN, hc, hs, hF, hL, hnl, hA⟩ := X
  subst hn hnl
  intro H locs ls hP hD hS hv
  exact lv_ldc hx hb hown (hts _ hc1) d (kk H locs ls hP hD hS hv)
theorem g_ldc2 {D : va_G} {l : Launch} {E : k_E} {cc : ByteArray} {own : String} {nL F Lc : Nat} {ws : va_W} {lv : List (Nat × Value)} {pc n : Nat} {st : List Value} {idx : Nat} {v : Int64} (X : k_X D E cc own nL F Lc) (d : decode cc pc = .ok (.ldc2_w idx, 3)) (hc1 : Cond.constantLong own idx v ∈ G_) (hn : pc + 3 = n) (kk : k_G D l E ws lv n (.long v :: st)) : k_G D l E ws lv pc st := by
  obtain ⟨p, e, R, s, m, args, below, meth, c, cells, slots, Q, A, nL'⟩ := E
  obtain ⟨⟨hx, hb, hml, hown, hts⟩, hK, hN, hc, hs, hF, hL, hnl, hA⟩ := X
  subst hn hnl
  intro H locs ls hP hD hS hv
  exact lv_ldc2 hx hb hown (hts _ hc1) d (kk H locs ls hP hD hS hv)
theorem g_iadd {D : va_G} {l : Launch} {E : k_E} {cc : ByteArray} {own : String} {nL F Lc : Nat} {ws : va_W} {lv : List (Nat × Value)} {pc n : Nat} {st : List Value} {x y : Int32} (X : k_X D E cc own nL F Lc) (d : decode cc pc = .ok (.iadd, 1)) (hn : pc + 1 = n) (kk : k_G D l E ws lv n (.int (x + y) :: st)) : k_G D l E ws lv pc (.int y :: .int x :: st) := by
  obtain ⟨p, e, R, s, m, args, below, meth, c, cells, slots, Q, A, nL'⟩ := E
  obtain ⟨⟨hx, hb, hml, hown, hts⟩, hK, hN, hc, hs, hF, hL, hnl, hA⟩ := X
  subst hn hnl
  intro H locs ls hP hD hS hv
  exact lv_iadd hx hb d (kk H locs ls hP hD hS hv)
theorem g_isub {D : va_G} {l : Launch} {E : k_E} {cc : ByteArray} {own : String} {nL F Lc : Nat} {ws : va_W} {lv : List (Nat × Value)} {pc n : Nat} {st : List Value} {x y : Int32} (X : k_X D E cc own nL F Lc) (d : decode cc pc = .ok (.isub, 1)) (hn : pc + 1 = n) (kk : k_G D l E ws lv n (.int (x - y) :: st)) : k_G D l E ws lv pc (.int y :: .int x :: st) := by
  obtain ⟨p, e, R, s, m, args, below, meth, c, cells, slots, Q, A, nL'⟩ := E
  obtain ⟨⟨hx, hb, hml, hown, hts⟩, hK, hN, hc, hs, hF, hL, hnl, hA⟩ := X
  subst hn hnl
  intro H locs ls hP hD hS hv
  exact lv_isub hx hb d (kk H locs ls hP hD hS hv)
theorem g_imul {D : va_G} {l : Launch} {E : k_E} {cc : ByteArray} {own : String} {nL F Lc : Nat} {ws : va_W} {lv : List (Nat × Value)} {pc n : Nat} {st : List Value} {x y : Int32} (X : k_X D E cc own nL F Lc) (d : decode cc pc = .ok (.imul, 1)) (hn : pc + 1 = n) (kk : k_G D l E ws lv n (.int (x * y) :: st)) : k_G D l E ws lv pc (.int y :: .int x :: st) := by
  obtain ⟨p, e, R, s, m, args, below, meth, c, cells, slots, Q, A, nL'⟩ := E
  obtain ⟨⟨hx, hb, hml, hown, hts⟩, hK, hN, hc, hs, hF, hL, hnl, hA⟩ := X
  subst hn hnl
  intro H locs ls hP hD hS hv
  exact lv_imul hx hb d (kk H locs ls hP hD hS hv)
theorem g_iand {D : va_G} {l : Launch} {E : k_E} {cc : ByteArray} {own : String} {nL F Lc : Nat} {ws : va_W} {lv : List (Nat × Value)} {pc n : Nat} {st : List Value} {x y : Int32} (X : k_X D E cc own nL F Lc) (d : decode cc pc = .ok (.iand, 1)) (hn : pc + 1 = n) (kk : k_G D l E ws lv n (.int (x &&& y) :: st)) : k_G D l E ws lv pc (.int y :: .int x :: st) := by
  obtain ⟨p, e, R, s, m, args, below, meth, c, cells, slots, Q, A, nL'⟩ := E
  obtain ⟨⟨hx, hb, hml, hown, hts⟩, hK, hN, hc, hs, hF, hL, hnl, hA⟩ := X
  subst hn hnl
  intro H locs ls hP hD hS hv
  exact lv_iand hx hb d (kk H locs ls hP hD hS hv)
theorem g_ior {D : va_G} {l : Launch} {E : k_E} {cc : ByteArray} {own : String} {nL F Lc : Nat} {ws : va_W} {lv : List (Nat × Value)} {pc n : Nat} {st : List Value} {x y : Int32} (X : k_X D E cc own nL F Lc) (d : decode cc pc = .ok (.ior, 1)) (hn : pc + 1 = n) (kk : k_G D l E ws lv n (.int (x ||| y) :: st)) : k_G D l E ws lv pc (.int y :: .int x :: st) := by
  obtain ⟨p, e, R, s, m, args, below, meth, c, cells, slots, Q, A, nL'⟩ := E
  obtain ⟨⟨hx, hb, hml, hown, hts⟩, hK, hN, hc, hs, hF, hL, hnl, hA⟩ := X
  subst hn hnl
  intro H locs ls hP hD hS hv
  exact lv_ior hx hb d (kk H locs ls hP hD hS hv)
theorem g_ixor {D : va_G} {l : Launch} {E : k_E} {cc : ByteArray} {own : String} {nL F Lc : Nat} {ws : va_W} {lv : List (Nat × Value)} {pc n : Nat} {st : List Value} {x y : Int32} (X : k_X D E cc own nL F Lc) (d : decode cc pc = .ok (.ixor, 1)) (hn : pc + 1 = n) (kk : k_G D l E ws lv n (.int (x ^^^ y) :: st)) : k_G D l E ws lv pc (.int y :: .int x :: st) := by
  obtain ⟨p, e, R, s, m, args, below, meth, c, cells, slots, Q, A, nL'⟩ := E
  obtain ⟨⟨hx, hb, hml, hown, hts⟩, hK, hN, hc, hs, hF, hL, hnl, hA⟩ := X
  subst hn hnl
  intro H locs ls hP hD hS hv
  exact lv_ixor hx hb d (kk H locs ls hP hD hS hv)
theorem g_ishl {D : va_G} {l : Launch} {E : k_E} {cc : ByteArray} {own : String} {nL F Lc : Nat} {ws : va_W} {lv : List (Nat × Value)} {pc n : Nat} {st : List Value} {x y : Int32} (X : k_X D E cc own nL F Lc) (d : decode cc pc = .ok (.ishl, 1)) (hn : pc + 1 = n) (kk : k_G D l E ws lv n (.int (x <<< (y &&& 31)) :: st)) : k_G D l E ws lv pc (.int y :: .int x :: st) := by
  obtain ⟨p, e, R, s, m, args, below, meth, c, cells, slots, Q, A, nL'⟩ := E
  obtain ⟨⟨hx, hb, hml, hown, hts⟩, hK, hN, hc, hs, hF, hL, hnl, hA⟩ := X
  subst hn hnl
  intro H locs ls hP hD hS hv
  exact lv_ishl hx hb d (kk H locs ls hP hD hS hv)
theorem g_ishr {D : va_G} {l : Launch} {E : k_E} {cc : ByteArray} {own : String} {nL F Lc : Nat} {ws : va_W} {lv : List (Nat × Value)} {pc n : Nat} {st : List Value} {x y : Int32} (X : k_X D E cc own nL F Lc) (d : decode cc pc = .ok (.ishr, 1)) (hn : pc + 1 = n) (kk : k_G D l E ws lv n (.int (x >>> (y &&& 31)) :: st)) : k_G D l E ws lv pc (.int y :: .int x :: st) := by
  obtain ⟨p, e, R, s, m, args, below, meth, c, cells, slots, Q, A, nL'⟩ := E
  obtain ⟨⟨hx, hb, hml, hown, hts⟩, hK, hN, hc, hs, hF, hL, hnl, hA⟩ := X
  subst hn hnl
  intro H locs ls hP hD hS hv
  exact lv_ishr hx hb d (kk H locs ls hP hD hS hv)
theorem g_idiv {D : va_G} {l : Launch} {E : k_E} {cc : ByteArray} {own : String} {nL F Lc : Nat} {ws : va_W} {lv : List (Nat × Value)} {pc n : Nat} {st : List Value} {x y : Int32} (X : k_X D E cc own nL F Lc) (d : decode cc pc = .ok (.idiv, 1)) (h0 : ¬ y = 0) (hn : pc + 1 = n) (kk : k_G D l E ws lv n (.int (x / y) :: st)) : k_G D l E ws lv pc (.int y :: .int x :: st) := by
  obtain ⟨p, e, R, s, m, args, below, meth, c, cells, slots, Q, A, nL'⟩ := E
  obtain ⟨⟨hx, hb, hml, hown, hts⟩, hK, hN, hc, hs, hF, hL, hnl, hA⟩ := X
  subst hn hnl
  intro H locs ls hP hD hS hv
  exact lv_idiv hx hb d h0 (kk H locs ls hP hD hS hv)
theorem g_irem {D : va_G} {l : Launch} {E : k_E} {cc : ByteArray} {own : String} {nL F Lc : Nat} {ws : va_W} {lv : List (Nat × Value)} {pc n : Nat} {st : List Value} {x y : Int32} (X : k_X D E cc own nL F Lc) (d : decode cc pc = .ok (.irem, 1)) (h0 : ¬ y = 0) (hn : pc + 1 = n) (kk : k_G D l E ws lv n (.int (x - x / y * y) :: st)) : k_G D l E ws lv pc (.int y :: .int x :: st) := by
  obtain ⟨p, e, R, s, m, args, below, meth, c, cells, slots, Q, A, nL'⟩ := E
  obtain ⟨⟨hx, hb, hml, hown, hts⟩, hK, hN, hc, hs, hF, hL, hnl, hA⟩ := X
  subst hn hnl
  intro H locs ls hP hD hS hv
  exact lv_irem hx hb d h0 (kk H locs ls hP hD hS hv)
theorem g_ladd {D : va_G} {l : Launch} {E : k_E} {cc : ByteArray} {own : String} {nL F Lc : Nat} {ws : va_W} {lv : List (Nat × Value)} {pc n : Nat} {st : List Value} {x y : Int64} (X : k_X D E cc own nL F Lc) (d : decode cc pc = .ok (.ladd, 1)) (hn : pc + 1 = n) (kk : k_G D l E ws lv n (.long (x + y) :: st)) : k_G D l E ws lv pc (.long y :: .long x :: st) := by
  obtain ⟨p, e, R, s, m, args, below, meth, c, cells, slots, Q, A, nL'⟩ := E
  obtain ⟨⟨hx, hb, hml, hown, hts⟩, hK, hN, hc, hs, hF, hL, hnl, hA⟩ := X
  subst hn hnl
  intro H locs ls hP hD hS hv
  exact lv_ladd hx hb d (kk H locs ls hP hD hS hv)
theorem g_lsub {D : va_G} {l : Launch} {E : k_E} {cc : ByteArray} {own : String} {nL F Lc : Nat} {ws : va_W} {lv : List (Nat × Value)} {pc n : Nat} {st : List Value} {x y : Int64} (X : k_X D E cc own nL F Lc) (d : decode cc pc = .ok (.lsub, 1)) (hn : pc + 1 = n) (kk : k_G D l E ws lv n (.long (x - y) :: st)) : k_G D l E ws lv pc (.long y :: .long x :: st) := by
  obtain ⟨p, e, R, s, m, args, below, meth, c, cells, slots, Q, A, nL'⟩ := E
  obtain ⟨⟨hx, hb, hml, hown, hts⟩, hK, hN, hc, hs, hF, hL, hnl, hA⟩ := X
  subst hn hnl
  intro H locs ls hP hD hS hv
  exact lv_lsub hx hb d (kk H locs ls hP hD hS hv)
theorem g_lmul {D : va_G} {l : Launch} {E : k_E} {cc : ByteArray} {own : String} {nL F Lc : Nat} {ws : va_W} {lv : List (Nat × Value)} {pc n : Nat} {st : List Value} {x y : Int64} (X : k_X D E cc own nL F Lc) (d : decode cc pc = .ok (.lmul, 1)) (hn : pc + 1 = n) (kk : k_G D l E ws lv n (.long (x * y) :: st)) : k_G D l E ws lv pc (.long y :: .long x :: st) := by
  obtain ⟨p, e, R, s, m, args, below, meth, c, cells, slots, Q, A, nL'⟩ := E
  obtain ⟨⟨hx, hb, hml, hown, hts⟩, hK, hN, hc, hs, hF, hL, hnl, hA⟩ := X
  subst hn hnl
  intro H locs ls hP hD hS hv
  exact lv_lmul hx hb d (kk H locs ls hP hD hS hv)
theorem g_ldiv {D : va_G} {l : Launch} {E : k_E} {cc : ByteArray} {own : String} {nL F Lc : Nat} {ws : va_W} {lv : List (Nat × Value)} {pc n : Nat} {st : List Value} {x y : Int64} (X : k_X D E cc own nL F Lc) (d : decode cc pc = .ok (.ldiv, 1)) (h0 : ¬ y = 0) (hn : pc + 1 = n) (kk : k_G D l E ws lv n (.long (x / y) :: st)) : k_G D l E ws lv pc (.long y :: .long x :: st) := by
  obtain ⟨p, e, R, s, m, args, below, meth, c, cells, slots, Q, A, nL'⟩ := E
  obtain ⟨⟨hx, hb, hml, hown, hts⟩, hK, hN, hc, hs, hF, hL, hnl, hA⟩ := X
  subst hn hnl
  intro H locs ls hP hD hS hv
  exact lv_ldiv hx hb d h0 (kk H locs ls hP hD hS hv)
theorem g_lrem {D : va_G} {l : Launch} {E : k_E} {cc : ByteArray} {own : String} {nL F Lc : Nat} {ws : va_W} {lv : List (Nat × Value)} {pc n : Nat} {st : List Value} {x y : Int64} (X : k_X D E cc own nL F Lc) (d : decode cc pc = .ok (.lrem, 1)) (h0 : ¬ y = 0) (hn : pc + 1 = n) (kk : k_G D l E ws lv n (.long (x - x / y * y) :: st)) : k_G D l E ws lv pc (.long y :: .long x :: st) := by
  obtain ⟨p, e, R, s, m, args, below, meth, c, cells, slots, Q, A, nL'⟩ := E
  obtain ⟨⟨hx, hb, hml, hown, hts⟩, hK, hN, hc, hs, hF, hL, hnl, hA⟩ := X
  subst hn hnl
  intro H locs ls hP hD hS hv
  exact lv_lrem hx hb d h0 (kk H locs ls hP hD hS hv)
theorem g_ineg {D : va_G} {l : Launch} {E : k_E} {cc : ByteArray} {own : String} {nL F Lc : Nat} {ws : va_W} {lv : List (Nat × Value)} {pc n : Nat} {st : List Value} {x : Int32} (X : k_X D E cc own nL F Lc) (d : decode cc pc = .ok (.ineg, 1)) (hn : pc + 1 = n) (kk : k_G D l E ws lv n (.int (-x) :: st)) : k_G D l E ws lv pc (.int x :: st) := by
  obtain ⟨p, e, R, s, m, args, below, meth, c, cells, slots, Q, A, nL'⟩ := E
  obtain ⟨⟨hx, hb, hml, hown, hts⟩, hK, hN, hc, hs, hF, hL, hnl, hA⟩ := X
  subst hn hnl
  intro H locs ls hP hD hS hv
  exact lv_ineg hx hb d (kk H locs ls hP hD hS hv)
theorem g_lneg {D : va_G} {l : Launch} {E : k_E} {cc : ByteArray} {own : String} {nL F Lc : Nat} {ws : va_W} {lv : List (Nat × Value)} {pc n : Nat} {st : List Value} {x : Int64} (X : k_X D E cc own nL F Lc) (d : decode cc pc = .ok (.lneg, 1)) (hn : pc + 1 = n) (kk : k_G D l E ws lv n (.long (-x) :: st)) : k_G D l E ws lv pc (.long x :: st) := by
  obtain ⟨p, e, R, s, m, args, below, meth, c, cells, slots, Q, A, nL'⟩ := E
  obtain ⟨⟨hx, hb, hml, hown, hts⟩, hK, hN, hc, hs, hF, hL, hnl, hA⟩ := X
  subst hn hnl
  intro H locs ls hP hD hS hv
  exact lv_lneg hx hb d (kk H locs ls hP hD hS hv)
theorem g_i2l {D : va_G} {l : Launch} {E : k_E} {cc : ByteArray} {own : String} {nL F Lc : Nat} {ws : va_W} {lv : List (Nat × Value)} {pc n : Nat} {st : List Value} {x : Int32} (X : k_X D E cc own nL F Lc) (d : decode cc pc = .ok (.i2l, 1)) (hn : pc + 1 = n) (kk : k_G D l E ws lv n (.long x.toInt64 :: st)) : k_G D l E ws lv pc (.int x :: st) := by
  obtain ⟨p, e, R, s, m, args, below, meth, c, cells, slots, Q, A, nL'⟩ := E
  obtain ⟨⟨hx, hb, hml, hown, hts⟩, hK, hN, hc, hs, hF, hL, hnl, hA⟩ := X
  subst hn hnl
  intro H locs ls hP hD hS hv
  exact lv_i2l hx hb d rfl (kk H locs ls hP hD hS hv)
theorem g_iushr {D : va_G} {l : Launch} {E : k_E} {cc : ByteArray} {own : String} {nL F Lc : Nat} {ws : va_W} {lv : List (Nat × Value)} {pc n : Nat} {st : List Value} {x y : Int32} (X : k_X D E cc own nL F Lc) (d : decode cc pc = .ok (.iushr, 1)) (hn : pc + 1 = n) (kk : k_G D l E ws lv n (.int (x.toUInt32 >>> (y.toUInt32 &&& Int32.toUInt32 31)).toInt32 :: st)) : k_G D l E ws lv pc (.int y :: .int x :: st) := by
  obtain ⟨p, e, R, s, m, args, below, meth, c, cells, slots, Q, A, nL'⟩ := E
  obtain ⟨⟨hx, hb, hml, hown, hts⟩, hK, hN, hc, hs, hF, hL, hnl, hA⟩ := X
  subst hn hnl
  intro H locs ls hP hD hS hv
  exact lv_iushr hx hb d rfl (kk H locs ls hP hD hS hv)
theorem g_lshl {D : va_G} {l : Launch} {E : k_E} {cc : ByteArray} {own : String} {nL F Lc : Nat} {ws : va_W} {lv : List (Nat × Value)} {pc n : Nat} {st : List Value} {x : Int64} {y : Int32} (X : k_X D E cc own nL F Lc) (d : decode cc pc = .ok (.lshl, 1)) (hn : pc + 1 = n) (kk : k_G D l E ws lv n (.long (x <<< (y.toInt64 &&& 63)) :: st)) : k_G D l E ws lv pc (.int y :: .long x :: st) := by
  obtain ⟨p, e, R, s, m, args, below, meth, c, cells, slots, Q, A, nL'⟩ := E
  obtain ⟨⟨hx, hb, hml, hown, hts⟩, hK, hN, hc, hs, hF, hL, hnl, hA⟩ := X
  subst hn hnl
  intro H locs ls hP hD hS hv
  exact lv_lshl hx hb d rfl (kk H locs ls hP hD hS hv)
theorem g_dup {D : va_G} {l : Launch} {E : k_E} {cc : ByteArray} {own : String} {nL F Lc : Nat} {ws : va_W} {lv : List (Nat × Value)} {pc n : Nat} {st : List Value} {a : Value} (X : k_X D E cc own nL F Lc) (d : decode cc pc = .ok (.dup, 1)) (h1 : a.category = 1) (hn : pc + 1 = n) (kk : k_G D l E ws lv n (a :: a :: st)) : k_G D l E ws lv pc (a :: st) := by
  obtain ⟨p, e, R, s, m, args, below, meth, c, cells, slots, Q, A, nL'⟩ := E
  obtain ⟨⟨hx, hb, hml, hown, hts⟩, hK, hN, hc, hs, hF, hL, hnl, hA⟩ := X
  subst hn hnl
  intro H locs ls hP hD hS hv
  exact lv_dup hx hb d h1 (kk H locs ls hP hD hS hv)
theorem g_dup2 {D : va_G} {l : Launch} {E : k_E} {cc : ByteArray} {own : String} {nL F Lc : Nat} {ws : va_W} {lv : List (Nat × Value)} {pc n : Nat} {st : List Value} {a b : Value} (X : k_X D E cc own nL F Lc) (d : decode cc pc = .ok (.dup2, 1)) (h1 : a.category = 1) (h2 : b.category = 1) (hn : pc + 1 = n) (kk : k_G D l E ws lv n (a :: b :: a :: b :: st)) : k_G D l E ws lv pc (a :: b :: st) := by
  obtain ⟨p, e, R, s, m, args, below, meth, c, cells, slots, Q, A, nL'⟩ := E
  obtain ⟨⟨hx, hb, hml, hown, hts⟩, hK, hN, hc, hs, hF, hL, hnl, hA⟩ := X
  subst hn hnl
  intro H locs ls hP hD hS hv
  exact lv_dup2_11 hx hb d h1 h2 (kk H locs ls hP hD hS hv)
theorem g_pop {D : va_G} {l : Launch} {E : k_E} {cc : ByteArray} {own : String} {nL F Lc : Nat} {ws : va_W} {lv : List (Nat × Value)} {pc n : Nat} {st : List Value} {a : Value} (X : k_X D E cc own nL F Lc) (d : decode cc pc = .ok (.pop, 1)) (h1 : a.category = 1) (hn : pc + 1 = n) (kk : k_G D l E ws lv n st) : k_G D l E ws lv pc (a :: st) := by
  obtain ⟨p, e, R, s, m, args, below, meth, c, cells, slots, Q, A, nL'⟩ := E
  obtain ⟨⟨hx, hb, hml, hown, hts⟩, hK, hN, hc, hs, hF, hL, hnl, hA⟩ := X
  subst hn hnl
  intro H locs ls hP hD hS hv
  exact lv_pop hx hb d h1 (kk H locs ls hP hD hS hv)
theorem g_if_eq {D : va_G} {l : Launch} {E : k_E} {cc : ByteArray} {own : String} {nL F Lc : Nat} {ws : va_W} {lv : List (Nat × Value)} {pc n : Nat} {st : List Value} {x : Int32} {off : Int} {t : Nat} (X : k_X D E cc own nL F Lc) (d : decode cc pc = .ok (.ifCond .eq off, 3)) (ht : (pc : Int) + off = (t : Int)) (hn : pc + 3 = n) (kt : (x = 0) → k_G D l E ws lv t st) (kf : (¬ x = 0) → k_G D l E ws lv n st) : k_G D l E ws lv pc (.int x :: st) := by
  obtain ⟨p, e, R, s, m, args, below, meth, c, cells, slots, Q, A, nL'⟩ := E
  obtain ⟨⟨hx, hb, hml, hown, hts⟩, hK, hN, hc, hs, hF, hL, hnl, hA⟩ := X
  subst hn hnl
  intro H locs ls hP hD hS hv
  exact lv_if_eq hx hb d ht (fun q => kt q H locs ls hP hD hS hv) (fun q => kf q H locs ls hP hD hS hv)
theorem g_icmp_eq {D : va_G} {l : Launch} {E : k_E} {cc : ByteArray} {own : String} {nL F Lc : Nat} {ws : va_W} {lv : List (Nat × Value)} {pc n : Nat} {st : List Value} {x y : Int32} {off : Int} {t : Nat} (X : k_X D E cc own nL F Lc) (d : decode cc pc = .ok (.if_icmp .eq off, 3)) (ht : (pc : Int) + off = (t : Int)) (hn : pc + 3 = n) (kt : (x = y) → k_G D l E ws lv t st) (kf : (¬ x = y) → k_G D l E ws lv n st) : k_G D l E ws lv pc (.int y :: .int x :: st) := by
  obtain ⟨p, e, R, s, m, args, below, meth, c, cells, slots, Q, A, nL'⟩ := E
  obtain ⟨⟨hx, hb, hml, hown, hts⟩, hK, hN, hc, hs, hF, hL, hnl, hA⟩ := X
  subst hn hnl
  intro H locs ls hP hD hS hv
  exact lv_icmp_eq hx hb d ht (fun q => kt q H locs ls hP hD hS hv) (fun q => kf q H locs ls hP hD hS hv)
theorem g_if_lt {D : va_G} {l : Launch} {E : k_E} {cc : ByteArray} {own : String} {nL F Lc : Nat} {ws : va_W} {lv : List (Nat × Value)} {pc n : Nat} {st : List Value} {x : Int32} {off : Int} {t : Nat} (X : k_X D E cc own nL F Lc) (d : decode cc pc = .ok (.ifCond .lt off, 3)) (ht : (pc : Int) + off = (t : Int)) (hn : pc + 3 = n) (kt : (x < 0) → k_G D l E ws lv t st) (kf : (¬ x < 0) → k_G D l E ws lv n st) : k_G D l E ws lv pc (.int x :: st) := by
  obtain ⟨p, e, R, s, m, args, below, meth, c, cells, slots, Q, A, nL'⟩ := E
  obtain ⟨⟨hx, hb, hml, hown, hts⟩, hK, hN, hc, hs, hF, hL, hnl, hA⟩ := X
  subst hn hnl
  intro H locs ls hP hD hS hv
  exact lv_if_lt hx hb d ht (fun q => kt q H locs ls hP hD hS hv) (fun q => kf q H locs ls hP hD hS hv)
theorem g_icmp_lt {D : va_G} {l : Launch} {E : k_E} {cc : ByteArray} {own : String} {nL F Lc : Nat} {ws : va_W} {lv : List (Nat × Value)} {pc n : Nat} {st : List Value} {x y : Int32} {off : Int} {t : Nat} (X : k_X D E cc own nL F Lc) (d : decode cc pc = .ok (.if_icmp .lt off, 3)) (ht : (pc : Int) + off = (t : Int)) (hn : pc + 3 = n) (kt : (x < y) → k_G D l E ws lv t st) (kf : (¬ x < y) → k_G D l E ws lv n st) : k_G D l E ws lv pc (.int y :: .int x :: st) := by
  obtain ⟨p, e, R, s, m, args, below, meth, c, cells, slots, Q, A, nL'⟩ := E
  obtain ⟨⟨hx, hb, hml, hown, hts⟩, hK, hN, hc, hs, hF, hL, hnl, hA⟩ := X
  subst hn hnl
  intro H locs ls hP hD hS hv
  exact lv_icmp_lt hx hb d ht (fun q => kt q H locs ls hP hD hS hv) (fun q => kf q H locs ls hP hD hS hv)
theorem g_if_ge {D : va_G} {l : Launch} {E : k_E} {cc : ByteArray} {own : String} {nL F Lc : Nat} {ws : va_W} {lv : List (Nat × Value)} {pc n : Nat} {st : List Value} {x : Int32} {off : Int} {t : Nat} (X : k_X D E cc own nL F Lc) (d : decode cc pc = .ok (.ifCond .ge off, 3)) (ht : (pc : Int) + off = (t : Int)) (hn : pc + 3 = n) (kt : (0 ≤ x) → k_G D l E ws lv t st) (kf : (¬ 0 ≤ x) → k_G D l E ws lv n st) : k_G D l E ws lv pc (.int x :: st) := by
  obtain ⟨p, e, R, s, m, args, below, meth, c, cells, slots, Q, A, nL'⟩ := E
  obtain ⟨⟨hx, hb, hml, hown, hts⟩, hK, hN, hc, hs, hF, hL, hnl, hA⟩ := X
  subst hn hnl
  intro H locs ls hP hD hS hv
  exact lv_if_ge hx hb d ht (fun q => kt q H locs ls hP hD hS hv) (fun q => kf q H locs ls hP hD hS hv)
theorem g_icmp_ge {D : va_G} {l : Launch} {E : k_E} {cc : ByteArray} {own : String} {nL F Lc : Nat} {ws : va_W} {lv : List (Nat × Value)} {pc n : Nat} {st : List Value} {x y : Int32} {off : Int} {t : Nat} (X : k_X D E cc own nL F Lc) (d : decode cc pc = .ok (.if_icmp .ge off, 3)) (ht : (pc : Int) + off = (t : Int)) (hn : pc + 3 = n) (kt : (y ≤ x) → k_G D l E ws lv t st) (kf : (¬ y ≤ x) → k_G D l E ws lv n st) : k_G D l E ws lv pc (.int y :: .int x :: st) := by
  obtain ⟨p, e, R, s, m, args, below, meth, c, cells, slots, Q, A, nL'⟩ := E
  obtain ⟨⟨hx, hb, hml, hown, hts⟩, hK, hN, hc, hs, hF, hL, hnl, hA⟩ := X
  subst hn hnl
  intro H locs ls hP hD hS hv
  exact lv_icmp_ge hx hb d ht (fun q => kt q H locs ls hP hD hS hv) (fun q => kf q H locs ls hP hD hS hv)
theorem g_if_gt {D : va_G} {l : Launch} {E : k_E} {cc : ByteArray} {own : String} {nL F Lc : Nat} {ws : va_W} {lv : List (Nat × Value)} {pc n : Nat} {st : List Value} {x : Int32} {off : Int} {t : Nat} (X : k_X D E cc own nL F Lc) (d : decode cc pc = .ok (.ifCond .gt off, 3)) (ht : (pc : Int) + off = (t : Int)) (hn : pc + 3 = n) (kt : (0 < x) → k_G D l E ws lv t st) (kf : (¬ 0 < x) → k_G D l E ws lv n st) : k_G D l E ws lv pc (.int x :: st) := by
  obtain ⟨p, e, R, s, m, args, below, meth, c, cells, slots, Q, A, nL'⟩ := E
  obtain ⟨⟨hx, hb, hml, hown, hts⟩, hK, hN, hc, hs, hF, hL, hnl, hA⟩ := X
  subst hn hnl
  intro H locs ls hP hD hS hv
  exact lv_if_gt hx hb d ht (fun q => kt q H locs ls hP hD hS hv) (fun q => kf q H locs ls hP hD hS hv)
theorem g_icmp_gt {D : va_G} {l : Launch} {E : k_E} {cc : ByteArray} {own : String} {nL F Lc : Nat} {ws : va_W} {lv : List (Nat × Value)} {pc n : Nat} {st : List Value} {x y : Int32} {off : Int} {t : Nat} (X : k_X D E cc own nL F Lc) (d : decode cc pc = .ok (.if_icmp .gt off, 3)) (ht : (pc : Int) + off = (t : Int)) (hn : pc + 3 = n) (kt : (y < x) → k_G D l E ws lv t st) (kf : (¬ y < x) → k_G D l E ws lv n st) : k_G D l E ws lv pc (.int y :: .int x :: st) := by
  obtain ⟨p, e, R, s, m, args, below, meth, c, cells, slots, Q, A, nL'⟩ := E
  obtain ⟨⟨hx, hb, hml, hown, hts⟩, hK, hN, hc, hs, hF, hL, hnl, hA⟩ := X
  subst hn hnl
  intro H locs ls hP hD hS hv
  exact lv_icmp_gt hx hb d ht (fun q => kt q H locs ls hP hD hS hv) (fun q => kf q H locs ls hP hD hS hv)
theorem g_if_le {D : va_G} {l : Launch} {E : k_E} {cc : ByteArray} {own : String} {nL F Lc : Nat} {ws : va_W} {lv : List (Nat × Value)} {pc n : Nat} {st : List Value} {x : Int32} {off : Int} {t : Nat} (X : k_X D E cc own nL F Lc) (d : decode cc pc = .ok (.ifCond .le off, 3)) (ht : (pc : Int) + off = (t : Int)) (hn : pc + 3 = n) (kt : (x ≤ 0) → k_G D l E ws lv t st) (kf : (¬ x ≤ 0) → k_G D l E ws lv n st) : k_G D l E ws lv pc (.int x :: st) := by
  obtain ⟨p, e, R, s, m, args, below, meth, c, cells, slots, Q, A, nL'⟩ := E
  obtain ⟨⟨hx, hb, hml, hown, hts⟩, hK, hN, hc, hs, hF, hL, hnl, hA⟩ := X
  subst hn hnl
  intro H locs ls hP hD hS hv
  exact lv_if_le hx hb d ht (fun q => kt q H locs ls hP hD hS hv) (fun q => kf q H locs ls hP hD hS hv)
theorem g_icmp_le {D : va_G} {l : Launch} {E : k_E} {cc : ByteArray} {own : String} {nL F Lc : Nat} {ws : va_W} {lv : List (Nat × Value)} {pc n : Nat} {st : List Value} {x y : Int32} {off : Int} {t : Nat} (X : k_X D E cc own nL F Lc) (d : decode cc pc = .ok (.if_icmp .le off, 3)) (ht : (pc : Int) + off = (t : Int)) (hn : pc + 3 = n) (kt : (x ≤ y) → k_G D l E ws lv t st) (kf : (¬ x ≤ y) → k_G D l E ws lv n st) : k_G D l E ws lv pc (.int y :: .int x :: st) := by
  obtain ⟨p, e, R, s, m, args, below, meth, c, cells, slots, Q, A, nL'⟩ := E
  obtain ⟨⟨hx, hb, hml, hown, hts⟩, hK, hN, hc, hs, hF, hL, hnl, hA⟩ := X
  subst hn hnl
  intro H locs ls hP hD hS hv
  exact lv_icmp_le hx hb d ht (fun q => kt q H locs ls hP hD hS hv) (fun q => kf q H locs ls hP hD hS hv)
theorem g_if_ne {D : va_G} {l : Launch} {E : k_E} {cc : ByteArray} {own : String} {nL F Lc : Nat} {ws : va_W} {lv : List (Nat × Value)} {pc n : Nat} {st : List Value} {x : Int32} {off : Int} {t : Nat} (X : k_X D E cc own nL F Lc) (d : decode cc pc = .ok (.ifCond .ne off, 3)) (ht : (pc : Int) + off = (t : Int)) (hn : pc + 3 = n) (kt : (¬ x = 0) → k_G D l E ws lv t st) (kf : (x = 0) → k_G D l E ws lv n st) : k_G D l E ws lv pc (.int x :: st) := by
  obtain ⟨p, e, R, s, m, args, below, meth, c, cells, slots, Q, A, nL'⟩ := E
  obtain ⟨⟨hx, hb, hml, hown, hts⟩, hK, hN, hc, hs, hF, hL, hnl, hA⟩ := X
  subst hn hnl
  intro H locs ls hP hD hS hv
  exact lv_if_ne hx hb d ht (fun q => kt q H locs ls hP hD hS hv) (fun q => kf q H locs ls hP hD hS hv)
theorem g_icmp_ne {D : va_G} {l : Launch} {E : k_E} {cc : ByteArray} {own : String} {nL F Lc : Nat} {ws : va_W} {lv : List (Nat × Value)} {pc n : Nat} {st : List Value} {x y : Int32} {off : Int} {t : Nat} (X : k_X D E cc own nL F Lc) (d : decode cc pc = .ok (.if_icmp .ne off, 3)) (ht : (pc : Int) + off = (t : Int)) (hn : pc + 3 = n) (kt : (¬ x = y) → k_G D l E ws lv t st) (kf : (x = y) → k_G D l E ws lv n st) : k_G D l E ws lv pc (.int y :: .int x :: st) := by
  obtain ⟨p, e, R, s, m, args, below, meth, c, cells, slots, Q, A, nL'⟩ := E
  obtain ⟨⟨hx, hb, hml, hown, hts⟩, hK, hN, hc, hs, hF, hL, hnl, hA⟩ := X
  subst hn hnl
  intro H locs ls hP hD hS hv
  exact lv_icmp_ne hx hb d ht (fun q => kt q H locs ls hP hD hS hv) (fun q => kf q H locs ls hP hD hS hv)
theorem g_if_eqB {D : va_G} {l : Launch} {E : k_E} {cc : ByteArray} {own : String} {nL F Lc : Nat} {ws : va_W} {lv : List (Nat × Value)} {pc n : Nat} {st : List Value} {b : Bool} {off : Int} {t : Nat} (X : k_X D E cc own nL F Lc) (d : decode cc pc = .ok (.ifCond .eq off, 3)) (ht : (pc : Int) + off = (t : Int)) (hn : pc + 3 = n) (kt : (¬ b = true) → k_G D l E ws lv t st) (kf : (b = true) → k_G D l E ws lv n st) : k_G D l E ws lv pc (.int (bI b) :: st) := by
  obtain ⟨p, e, R, s, m, args, below, meth, c, cells, slots, Q, A, nL'⟩ := E
  obtain ⟨⟨hx, hb, hml, hown, hts⟩, hK, hN, hc, hs, hF, hL, hnl, hA⟩ := X
  subst hn hnl
  intro H locs ls hP hD hS hv
  exact lv_if_eq hx hb d ht (fun q => kt (fun z => bI_t z q) H locs ls hP hD hS hv) (fun q => kf (by cases b; exact absurd rfl q; rfl) H locs ls hP hD hS hv)
theorem g_if_neB {D : va_G} {l : Launch} {E : k_E} {cc : ByteArray} {own : String} {nL F Lc : Nat} {ws : va_W} {lv : List (Nat × Value)} {pc n : Nat} {st : List Value} {b : Bool} {off : Int} {t : Nat} (X : k_X D E cc own nL F Lc) (d : decode cc pc = .ok (.ifCond .ne off, 3)) (ht : (pc : Int) + off = (t : Int)) (hn : pc + 3 = n) (kt : (b = true) → k_G D l E ws lv t st) (kf : (¬ b = true) → k_G D l E ws lv n st) : k_G D l E ws lv pc (.int (bI b) :: st) := by
  obtain ⟨p, e, R, s, m, args, below, meth, c, cells, slots, Q, A, nL'⟩ := E
  obtain ⟨⟨hx, hb, hml, hown, hts⟩, hK, hN, hc, hs, hF, hL, hnl, hA⟩ := X
  subst hn hnl
  intro H locs ls hP hD hS hv
  exact lv_if_ne hx hb d ht (fun q => kt (by cases b; exact absurd rfl q; rfl) H locs ls hP hD hS hv) (fun q => kf (fun z => bI_t z q) H locs ls hP hD hS hv)
theorem g_lcmp_eq {D : va_G} {l : Launch} {E : k_E} {cc : ByteArray} {own : String} {nL F Lc : Nat} {ws : va_W} {lv : List (Nat × Value)} {pc n : Nat} {st : List Value} {x y : Int64} {off : Int} {t : Nat} (X : k_X D E cc own nL F Lc) (d0 : decode cc pc = .ok (.lcmp, 1)) (d : decode cc (pc + 1) = .ok (.ifCond .eq off, 3)) (ht : ((pc + 1 : Nat) : Int) + off = (t : Int)) (hn : pc + 4 = n) (kt : (x = y) → k_G D l E ws lv t st) (kf : (¬ x = y) → k_G D l E ws lv n st) : k_G D l E ws lv pc (.long y :: .long x :: st) := by
  obtain ⟨p, e, R, s, m, args, below, meth, c, cells, slots, Q, A, nL'⟩ := E
  obtain ⟨⟨hx, hb, hml, hown, hts⟩, hK, hN, hc, hs, hF, hL, hnl, hA⟩ := X
  subst hn hnl
  intro H locs ls hP hD hS hv
  refine W.lcmp hx hb d0 ?_
  exact lv_if_eq hx hb d ht (fun q => kt ((lg_cmp_eq x y).mp q) H locs ls hP hD hS hv) (fun q => kf (fun z => q ((lg_cmp_eq x y).mpr z)) H locs ls hP hD hS hv)
theorem g_lcmp_lt {D : va_G} {l : Launch} {E : k_E} {cc : ByteArray} {own : String} {nL F Lc : Nat} {ws : va_W} {lv : List (Nat × Value)} {pc n : Nat} {st : List Value} {x y : Int64} {off : Int} {t : Nat} (X : k_X D E cc own nL F Lc) (d0 : decode cc pc = .ok (.lcmp, 1)) (d : decode cc (pc + 1) = .ok (.ifCond .lt off, 3)) (ht : ((pc + 1 : Nat) : Int) + off = (t : Int)) (hn : pc + 4 = n) (kt : (x < y) → k_G D l E ws lv t st) (kf : (¬ x < y) → k_G D l E ws lv n st) : k_G D l E ws lv pc (.long y :: .long x :: st) := by
  obtain ⟨p, e, R, s, m, args, below, meth, c, cells, slots, Q, A, nL'⟩ := E
  obtain ⟨⟨hx, hb, hml, hown, hts⟩, hK, hN, hc, hs, hF, hL, hnl, hA⟩ := X
  subst hn hnl
  intro H locs ls hP hD hS hv
  refine W.lcmp hx hb d0 ?_
  exact lv_if_lt hx hb d ht (fun q => kt ((lg_cmp_lt x y).mp q) H locs ls hP hD hS hv) (fun q => kf (fun z => q ((lg_cmp_lt x y).mpr z)) H locs ls hP hD hS hv)
theorem g_lcmp_ge {D : va_G} {l : Launch} {E : k_E} {cc : ByteArray} {own : String} {nL F Lc : Nat} {ws : va_W} {lv : List (Nat × Value)} {pc n : Nat} {st : List Value} {x y : Int64} {off : Int} {t : Nat} (X : k_X D E cc own nL F Lc) (d0 : decode cc pc = .ok (.lcmp, 1)) (d : decode cc (pc + 1) = .ok (.ifCond .ge off, 3)) (ht : ((pc + 1 : Nat) : Int) + off = (t : Int)) (hn : pc + 4 = n) (kt : (y ≤ x) → k_G D l E ws lv t st) (kf : (¬ y ≤ x) → k_G D l E ws lv n st) : k_G D l E ws lv pc (.long y :: .long x :: st) := by
  obtain ⟨p, e, R, s, m, args, below, meth, c, cells, slots, Q, A, nL'⟩ := E
  obtain ⟨⟨hx, hb, hml, hown, hts⟩, hK, hN, hc, hs, hF, hL, hnl, hA⟩ := X
  subst hn hnl
  intro H locs ls hP hD hS hv
  refine W.lcmp hx hb d0 ?_
  exact lv_if_ge hx hb d ht (fun q => kt ((lg_cmp_ge x y).mp q) H locs ls hP hD hS hv) (fun q => kf (fun z => q ((lg_cmp_ge x y).mpr z)) H locs ls hP hD hS hv)
theorem g_lcmp_gt {D : va_G} {l : Launch} {E : k_E} {cc : ByteArray} {own : String} {nL F Lc : Nat} {ws : va_W} {lv : List (Nat × Value)} {pc n : Nat} {st : List Value} {x y : Int64} {off : Int} {t : Nat} (X : k_X D E cc own nL F Lc) (d0 : decode cc pc = .ok (.lcmp, 1)) (d : decode cc (pc + 1) = .ok (.ifCond .gt off, 3)) (ht : ((pc + 1 : Nat) : Int) + off = (t : Int)) (hn : pc + 4 = n) (kt : (y < x) → k_G D l E ws lv t st) (kf : (¬ y < x) → k_G D l E ws lv n st) : k_G D l E ws lv pc (.long y :: .long x :: st) := by
  obtain ⟨p, e, R, s, m, args, below, meth, c, cells, slots, Q, A, nL'⟩ := E
  obtain ⟨⟨hx, hb, hml, hown, hts⟩, hK, hN, hc, hs, hF, hL, hnl, hA⟩ := X
  subst hn hnl
  intro H locs ls hP hD hS hv
  refine W.lcmp hx hb d0 ?_
  exact lv_if_gt hx hb d ht (fun q => kt ((lg_cmp_gt x y).mp q) H locs ls hP hD hS hv) (fun q => kf (fun z => q ((lg_cmp_gt x y).mpr z)) H locs ls hP hD hS hv)
theorem g_lcmp_le {D : va_G} {l : Launch} {E : k_E} {cc : ByteArray} {own : String} {nL F Lc : Nat} {ws : va_W} {lv : List (Nat × Value)} {pc n : Nat} {st : List Value} {x y : Int64} {off : Int} {t : Nat} (X : k_X D E cc own nL F Lc) (d0 : decode cc pc = .ok (.lcmp, 1)) (d : decode cc (pc + 1) = .ok (.ifCond .le off, 3)) (ht : ((pc + 1 : Nat) : Int) + off = (t : Int)) (hn : pc + 4 = n) (kt : (x ≤ y) → k_G D l E ws lv t st) (kf : (¬ x ≤ y) → k_G D l E ws lv n st) : k_G D l E ws lv pc (.long y :: .long x :: st) := by
  obtain ⟨p, e, R, s, m, args, below, meth, c, cells, slots, Q, A, nL'⟩ := E
  obtain ⟨⟨hx, hb, hml, hown, hts⟩, hK, hN, hc, hs, hF, hL, hnl, hA⟩ := X
  subst hn hnl
  intro H locs ls hP hD hS hv
  refine W.lcmp hx hb d0 ?_
  exact lv_if_le hx hb d ht (fun q => kt ((lg_cmp_le x y).mp q) H locs ls hP hD hS hv) (fun q => kf (fun z => q ((lg_cmp_le x y).mpr z)) H locs ls hP hD hS hv)
theorem g_lcmp_ne {D : va_G} {l : Launch} {E : k_E} {cc : ByteArray} {own : String} {nL F Lc : Nat} {ws : va_W} {lv : List (Nat × Value)} {pc n : Nat} {st : List Value} {x y : Int64} {off : Int} {t : Nat} (X : k_X D E cc own nL F Lc) (d0 : decode cc pc = .ok (.lcmp, 1)) (d : decode cc (pc + 1) = .ok (.ifCond .ne off, 3)) (ht : ((pc + 1 : Nat) : Int) + off = (t : Int)) (hn : pc + 4 = n) (kt : (¬ x = y) → k_G D l E ws lv t st) (kf : (x = y) → k_G D l E ws lv n st) : k_G D l E ws lv pc (.long y :: .long x :: st) := by
  obtain ⟨p, e, R, s, m, args, below, meth, c, cells, slots, Q, A, nL'⟩ := E
  obtain ⟨⟨hx, hb, hml, hown, hts⟩, hK, hN, hc, hs, hF, hL, hnl, hA⟩ := X
  subst hn hnl
  intro H locs ls hP hD hS hv
  refine W.lcmp hx hb d0 ?_
  exact lv_if_ne hx hb d ht (fun q => kt (fun z => q ((lg_cmp_eq x y).mpr z)) H locs ls hP hD hS hv) (fun q => kf ((lg_cmp_eq x y).mp q) H locs ls hP hD hS hv)
theorem g_goto {D : va_G} {l : Launch} {E : k_E} {cc : ByteArray} {own : String} {nL F Lc : Nat} {ws : va_W} {lv : List (Nat × Value)} {pc n : Nat} {st : List Value} {off : Int} (X : k_X D E cc own nL F Lc) (d : decode cc pc = .ok (.goto off, 3)) (ht : (pc : Int) + off = (n : Int)) (kk : k_G D l E ws lv n st) : k_G D l E ws lv pc st := by
  obtain ⟨p, e, R, s, m, args, below, meth, c, cells, slots, Q, A, nL'⟩ := E
  obtain ⟨⟨hx, hb, hml, hown, hts⟩, hK, hN, hc, hs, hF, hL, hnl, hA⟩ := X
  intro H locs ls hP hD hS hv
  exact lv_goto hx hb d ht (kk H locs ls hP hD hS hv)
theorem g_tabIn {D : va_G} {l : Launch} {E : k_E} {cc : ByteArray} {own : String} {nL F Lc : Nat} {ws : va_W} {lv : List (Nat × Value)} {pc n : Nat} {st : List Value} {dflt lo hi : Int} {offs : Array Int} {len : Nat} {x : Int32} {off : Int} (X : k_X D E cc own nL F Lc) (d : decode cc pc = .ok (.tableswitch dflt lo hi offs, len)) (h1 : ¬ x.toInt < lo) (h2 : ¬ hi < x.toInt) (ho : offs[(x.toInt - lo).toNat]? = some off) (ht : (pc : Int) + off = (n : Int)) (kk : k_G D l E ws lv n st) : k_G D l E ws lv pc (.int x :: st) := by
  obtain ⟨p, e, R, s, m, args, below, meth, c, cells, slots, Q, A, nL'⟩ := E
  obtain ⟨⟨hx, hb, hml, hown, hts⟩, hK, hN, hc, hs, hF, hL, hnl, hA⟩ := X
  intro H locs ls hP hD hS hv
  exact lv_tableIn hx hb d h1 h2 ho ht (kk H locs ls hP hD hS hv)
theorem g_tabOut {D : va_G} {l : Launch} {E : k_E} {cc : ByteArray} {own : String} {nL F Lc : Nat} {ws : va_W} {lv : List (Nat × Value)} {pc n : Nat} {st : List Value} {dflt lo hi : Int} {offs : Array Int} {len : Nat} {x : Int32} (X : k_X D E cc own nL F Lc) (d : decode cc pc = .ok (.tableswitch dflt lo hi offs, len)) (h : x.toInt < lo ∨ hi < x.toInt) (ht : (pc : Int) + dflt = (n : Int)) (kk : k_G D l E ws lv n st) : k_G D l E ws lv pc (.int x :: st) := by
  obtain ⟨p, e, R, s, m, args, below, meth, c, cells, slots, Q, A, nL'⟩ := E
  obtain ⟨⟨hx, hb, hml, hown, hts⟩, hK, hN, hc, hs, hF, hL, hnl, hA⟩ := X
  intro H locs ls hP hD hS hv
  exact lv_tableOut hx hb d h ht (kk H locs ls hP hD hS hv)
theorem g_look {D : va_G} {l : Launch} {E : k_E} {cc : ByteArray} {own : String} {nL F Lc : Nat} {ws : va_W} {lv : List (Nat × Value)} {pc n : Nat} {st : List Value} {dflt : Int} {ps : Array (Int × Int)} {len : Nat} {x : Int32} {off : Int} (X : k_X D E cc own nL F Lc) (d : decode cc pc = .ok (.lookupswitch dflt ps, len)) (hp : (ps.toList.zip (ps.toList.drop 1)).all (fun (a, next) => a.1 < next.1) = true) (ho : Op.lookupswitch.offset ps.toList dflt x.toInt = off) (ht : (pc : Int) + off = (n : Int)) (kk : k_G D l E ws lv n st) : k_G D l E ws lv pc (.int x :: st) := by
  obtain ⟨p, e, R, s, m, args, below, meth, c, cells, slots, Q, A, nL'⟩ := E
  obtain ⟨⟨hx, hb, hml, hown, hts⟩, hK, hN, hc, hs, hF, hL, hnl, hA⟩ := X
  intro H locs ls hP hD hS hv
  exact lv_lookup hx hb d hp ho ht (kk H locs ls hP hD hS hv)
theorem k_toInt_ne {x : Int32} {z : Int} {v : Int32} (hv : v.toInt = z) (h : ¬ x = v) : x.toInt ≠ z := fun q => h (Int32.toInt_inj.mp (q.trans hv.symm))
/-- a field by its place: class ci of vwCl, slot k, of type ty -/
def k_fd (ci k : Nat) (fin : Bool) (ty : FieldType) (C : String) (T : u_T) (N : Nat) : Prop := vwCl[ci]? = some (C, T, N) ∧ (∀ w ∈ u_ws C T N, w ∈ G_) ∧ (∃ ty0 : Nat → FieldType, ∀ k, k < N → parseFieldDescriptor (T k).2.2.1 = some (ty0 k)) ∧ (∀ a, a < N → ∀ b, b < N → a ≠ b → (T a).2.1 ≠ (T b).2.1) ∧ k < N ∧ parseFieldDescriptor (T k).2.2.1 = some ty ∧ (T k).2.2.2 = fin
def k_fl (own : String) (idx ci k : Nat) (fin : Bool) (ty : FieldType) : Prop := ∃ (C : String) (T : u_T) (N : Nat), k_fd ci k fin ty C T N ∧ Cond.fieldLink own idx (T k).1 (T k).2.1 (T k).2.2.1 ∈ G_ ∧ (T k).1 = C
def k_flN (own : String) (idx ci k : Nat) (fin : Bool) (ty : FieldType) : Prop := ∃ (C : String) (T : u_T) (N : Nat) (host : String), k_fd ci k fin ty C T N ∧ Cond.fieldLinkNest own idx (T k).1 (T k).2.1 (T k).2.2.1 host ∈ k_nest ∧ (T k).1 = C
theorem g_get {D : va_G} {l : Launch} {E : k_E} {cc : ByteArray} {own : String} {nL F Lc : Nat} {ws : va_W} {lv : List (Nat × Value)} {pc n : Nat} {st : List Value} {idx a ci k : Nat} {fin : Bool} {ty : FieldType} {fs : List Value} {v : Value} (X : k_X D E cc own nL F Lc) (d : decode cc pc = .ok (.getfield idx, 3)) (fl : k_fl own idx ci k fin ty) (q0 : Nat) (he : ws[q0]? = some (a, .inr (ci, fs))) (hk : fs[k]? = some v) (hn : pc + 3 = n) (kk : k_G D l E ws lv n (v :: st)) : k_G D l E ws lv pc (.ref a :: st) := by
  obtain ⟨p, e, R, s, m, args, below, meth, c, cells, slots, Q, A, nL'⟩ := E
  obtain ⟨⟨hx, hb, hml, hown, hts⟩, hK, hN, hc, hs, hF, hL, hnl, hA⟩ := X
  subst hn hnl
  intro H locs ls hP hD hS hv
  exact by
    obtain ⟨C, T, N, ⟨h1, h2, ⟨ty0, h3⟩, h4, h5, h6, h7⟩, h8, h9⟩ := fl
    exact va_get hx hb hts h2 hown hK hP q0 he h1 k h5 (hts _ h8) (fun _ z => z) hk d (kk H locs ls hP hD hS hv)
theorem g_getN {D : va_G} {l : Launch} {E : k_E} {cc : ByteArray} {own : String} {nL F Lc : Nat} {ws : va_W} {lv : List (Nat × Value)} {pc n : Nat} {st : List Value} {idx a ci k : Nat} {fin : Bool} {ty : FieldType} {fs : List Value} {v : Value} (X : k_X D E cc own nL F Lc) (d : decode cc pc = .ok (.getfield idx, 3)) (fl : k_flN own idx ci k fin ty) (q0 : Nat) (he : ws[q0]? = some (a, .inr (ci, fs))) (hk : fs[k]? = some v) (hn : pc + 3 = n) (kk : k_G D l E ws lv n (v :: st)) : k_G D l E ws lv pc (.ref a :: st) := by
  obtain ⟨p, e, R, s, m, args, below, meth, c, cells, slots, Q, A, nL'⟩ := E
  obtain ⟨⟨hx, hb, hml, hown, hts⟩, hK, hN, hc, hs, hF, hL, hnl, hA⟩ := X
  subst hn hnl
  intro H locs ls hP hD hS hv
  exact by
    obtain ⟨C, T, N, host, ⟨h1, h2, ⟨ty0, h3⟩, h4, h5, h6, h7⟩, h8, h9⟩ := fl
    exact va_getN hx hb hts h2 hown hK hP q0 he h1 k h5 (va_Nw.use (by rfl) (hN _ h8)) (fun _ z => z) hk d (kk H locs ls hP hD hS hv)
theorem g_put {D : va_G} {l : Launch} {E : k_E} {cc : ByteArray} {own : String} {nL F Lc : Nat} {ws : va_W} {lv : List (Nat × Value)} {pc n : Nat} {st : List Value} {idx a ci k : Nat} {ty : FieldType} {fs : List Value} {v : Value} {ws2 : va_W} (X : k_X D E cc own nL F Lc) (d : decode cc pc = .ok (.putfield idx, 3)) (fl : k_fl own idx ci k false ty) (q0 : Nat) (he : ws[q0]? = some (a, .inr (ci, fs))) (hna : narrow ty v = v) (hfi : fits ty v = true) (hle : k < fs.length) (hw : ws.set q0 (a, .inr (ci, fs.set k v)) = ws2) (hn : pc + 3 = n) (kk : k_G D l E ws2 lv n st) : k_G D l E ws lv pc (v :: .ref a :: st) := by
  obtain ⟨p, e, R, s, m, args, below, meth, c, cells, slots, Q, A, nL'⟩ := E
  obtain ⟨⟨hx, hb, hml, hown, hts⟩, hK, hN, hc, hs, hF, hL, hnl, hA⟩ := X
  subst hn hnl
  intro H locs ls hP hD hS hv
  exact by
    obtain ⟨C, T, N, ⟨h1, h2, ⟨ty0, h3⟩, h4, h5, h6, h7⟩, h8, h9⟩ := fl
    exact va_put hx hb hts h2 ty0 h3 h4 hown hK hP hD hS q0 he h1 k h5 (hts _ h8) (fun _ z => z) h7 h6 hna hfi hle d (fun H locs hP hD hS => kk H locs ls (hw ▸ hP) (hw ▸ hD) hS hv)
theorem g_putN {D : va_G} {l : Launch} {E : k_E} {cc : ByteArray} {own : String} {nL F Lc : Nat} {ws : va_W} {lv : List (Nat × Value)} {pc n : Nat} {st : List Value} {idx a ci k : Nat} {ty : FieldType} {fs : List Value} {v : Value} {ws2 : va_W} (X : k_X D E cc own nL F Lc) (d : decode cc pc = .ok (.putfield idx, 3)) (fl : k_flN own idx ci k false ty) (q0 : Nat) (he : ws[q0]? = some (a, .inr (ci, fs))) (hna : narrow ty v = v) (hfi : fits ty v = true) (hle : k < fs.length) (hw : ws.set q0 (a, .inr (ci, fs.set k v)) = ws2) (hn : pc + 3 = n) (kk : k_G D l E ws2 lv n st) : k_G D l E ws lv pc (v :: .ref a :: st) := by
  obtain ⟨p, e, R, s, m, args, below, meth, c, cells, slots, Q, A, nL'⟩ := E
  obtain ⟨⟨hx, hb, hml, hown, hts⟩, hK, hN, hc, hs, hF, hL, hnl, hA⟩ := X
  subst hn hnl
  intro H locs ls hP hD hS hv
  exact by
    obtain ⟨C, T, N, host, ⟨h1, h2, ⟨ty0, h3⟩, h4, h5, h6, h7⟩, h8, h9⟩ := fl
    exact va_putN hx hb hts h2 ty0 h3 h4 hown hK hP hD hS q0 he h1 k h5 (va_Nw.use (by rfl) (hN _ h8)) (fun _ z => z) h7 h6 hna hfi hle d (fun H locs hP hD hS => kk H locs ls (hw ▸ hP) (hw ▸ hD) hS hv)
theorem g_alen {D : va_G} {l : Launch} {E : k_E} {cc : ByteArray} {own : String} {nL F Lc : Nat} {ws : va_W} {lv : List (Nat × Value)} {pc n : Nat} {st : List Value} {a : Nat} {cA : ClassId} {x : vp_A} {ty : FieldType} {v : Int32} (X : k_X D E cc own nL F Lc) (d : decode cc pc = .ok (.arraylength, 1)) (q0 t0 : Nat) (ha : ws[q0]? = some (a, .inl (cA, x))) (ht : (k_tys D)[t0]? = some (cA, ty)) (hv1 : Int32.ofNat x.1 = v) (hn : pc + 1 = n) (kk : k_G D l E ws lv n (.int v :: st)) : k_G D l E ws lv pc (.ref a :: st) := by
  obtain ⟨p, e, R, s, m, args, below, meth, c, cells, slots, Q, A, nL'⟩ := E
  obtain ⟨⟨hx, hb, hml, hown, hts⟩, hK, hN, hc, hs, hF, hL, hnl, hA⟩ := X
  subst hn hnl
  intro H locs ls hP hD hS hv
  exact va_alen hx hb hK hP q0 t0 ha ht hv1 d (kk H locs ls hP hD hS hv)
theorem g_iaload {D : va_G} {l : Launch} {E : k_E} {cc : ByteArray} {own : String} {nL F Lc : Nat} {ws : va_W} {lv : List (Nat × Value)} {pc n : Nat} {st : List Value} {a len : Nat} {cA : ClassId} {f : Nat → Int32} {i : Int32} (X : k_X D E cc own nL F Lc) (d : decode cc pc = .ok (.iaload, 1)) (q0 : Nat) (ha : ws[q0]? = some (a, .inl (cA, len, .inl f))) (ht : (k_tys D)[0]? = some (cA, .int)) (hi : k_in i len) (hn : pc + 1 = n) (kk : k_G D l E ws lv n (.int (f i.toNatClampNeg) :: st)) : k_G D l E ws lv pc (.int i :: .ref a :: st) := by
  obtain ⟨p, e, R, s, m, args, below, meth, c, cells, slots, Q, A, nL'⟩ := E
  obtain ⟨⟨hx, hb, hml, hown, hts⟩, hK, hN, hc, hs, hF, hL, hnl, hA⟩ := X
  subst hn hnl
  intro H locs ls hP hD hS hv
  exact va_iald hx hb hK hP q0 0 ha ht hi d (kk H locs ls hP hD hS hv)
theorem g_laload {D : va_G} {l : Launch} {E : k_E} {cc : ByteArray} {own : String} {nL F Lc : Nat} {ws : va_W} {lv : List (Nat × Value)} {pc n : Nat} {st : List Value} {a len : Nat} {cA : ClassId} {f : Nat → Int64} {i : Int32} (X : k_X D E cc own nL F Lc) (d : decode cc pc = .ok (.laload, 1)) (q0 : Nat) (ha : ws[q0]? = some (a, .inl (cA, len, .inr (.inl f)))) (ht : (k_tys D)[1]? = some (cA, .long)) (hi : k_in i len) (hn : pc + 1 = n) (kk : k_G D l E ws lv n (.long (f i.toNatClampNeg) :: st)) : k_G D l E ws lv pc (.int i :: .ref a :: st) := by
  obtain ⟨p, e, R, s, m, args, below, meth, c, cells, slots, Q, A, nL'⟩ := E
  obtain ⟨⟨hx, hb, hml, hown, hts⟩, hK, hN, hc, hs, hF, hL, hnl, hA⟩ := X
  subst hn hnl
  intro H locs ls hP hD hS hv
  exact va_lald hx hb hK hP q0 1 ha ht hi d (kk H locs ls hP hD hS hv)
theorem g_baload {D : va_G} {l : Launch} {E : k_E} {cc : ByteArray} {own : String} {nL F Lc : Nat} {ws : va_W} {lv : List (Nat × Value)} {pc n : Nat} {st : List Value} {a len : Nat} {cA : ClassId} {f : Nat → Int32} {i : Int32} (X : k_X D E cc own nL F Lc) (d : decode cc pc = .ok (.baload, 1)) (q0 : Nat) (ha : ws[q0]? = some (a, .inl (cA, len, .inl f))) (ht : (k_tys D)[2]? = some (cA, .boolean)) (hi : k_in i len) (hn : pc + 1 = n) (kk : k_G D l E ws lv n (.int (f i.toNatClampNeg) :: st)) : k_G D l E ws lv pc (.int i :: .ref a :: st) := by
  obtain ⟨p, e, R, s, m, args, below, meth, c, cells, slots, Q, A, nL'⟩ := E
  obtain ⟨⟨hx, hb, hml, hown, hts⟩, hK, hN, hc, hs, hF, hL, hnl, hA⟩ := X
  subst hn hnl
  intro H locs ls hP hD hS hv
  exact va_zald hx hb hK hP q0 2 ha ht hi d (kk H locs ls hP hD hS hv)
theorem g_iastore {D : va_G} {l : Launch} {E : k_E} {cc : ByteArray} {own : String} {nL F Lc : Nat} {ws : va_W} {lv : List (Nat × Value)} {pc n : Nat} {st : List Value} {a len : Nat} {cA : ClassId} {f : Nat → Int32} {i : Int32} {x : Int32} {ws2 : va_W} (X : k_X D E cc own nL F Lc) (d : decode cc pc = .ok (.iastore, 1)) (q0 : Nat) (ha : ws[q0]? = some (a, .inl (cA, len, .inl f))) (ht : (k_tys D)[0]? = some (cA, .int)) (hi : k_in i len) (hw : ws.set q0 (a, .inl (cA, len, .inl (upd f i.toNatClampNeg x))) = ws2) (hn : pc + 1 = n) (kk : k_G D l E ws2 lv n st) : k_G D l E ws lv pc (.int x :: .int i :: .ref a :: st) := by
  obtain ⟨p, e, R, s, m, args, below, meth, c, cells, slots, Q, A, nL'⟩ := E
  obtain ⟨⟨hx, hb, hml, hown, hts⟩, hK, hN, hc, hs, hF, hL, hnl, hA⟩ := X
  subst hn hnl
  intro H locs ls hP hD hS hv
  exact va_iast hx hb hK hP hD hS q0 0 ha ht hi d (fun H locs hP hD hS => kk H locs ls (hw ▸ hP) (hw ▸ hD) hS hv)
theorem g_lastore {D : va_G} {l : Launch} {E : k_E} {cc : ByteArray} {own : String} {nL F Lc : Nat} {ws : va_W} {lv : List (Nat × Value)} {pc n : Nat} {st : List Value} {a len : Nat} {cA : ClassId} {f : Nat → Int64} {i : Int32} {x : Int64} {ws2 : va_W} (X : k_X D E cc own nL F Lc) (d : decode cc pc = .ok (.lastore, 1)) (q0 : Nat) (ha : ws[q0]? = some (a, .inl (cA, len, .inr (.inl f)))) (ht : (k_tys D)[1]? = some (cA, .long)) (hi : k_in i len) (hw : ws.set q0 (a, .inl (cA, len, .inr (.inl (vp_updL f i.toNatClampNeg x)))) = ws2) (hn : pc + 1 = n) (kk : k_G D l E ws2 lv n st) : k_G D l E ws lv pc (.long x :: .int i :: .ref a :: st) := by
  obtain ⟨p, e, R, s, m, args, below, meth, c, cells, slots, Q, A, nL'⟩ := E
  obtain ⟨⟨hx, hb, hml, hown, hts⟩, hK, hN, hc, hs, hF, hL, hnl, hA⟩ := X
  subst hn hnl
  intro H locs ls hP hD hS hv
  exact va_last hx hb hK hP hD hS q0 1 ha ht hi d (fun H locs hP hD hS => kk H locs ls (hw ▸ hP) (hw ▸ hD) hS hv)
theorem g_bastore {D : va_G} {l : Launch} {E : k_E} {cc : ByteArray} {own : String} {nL F Lc : Nat} {ws : va_W} {lv : List (Nat × Value)} {pc n : Nat} {st : List Value} {a len : Nat} {cA : ClassId} {f : Nat → Int32} {i : Int32} {x : Int32} {ws2 : va_W} (X : k_X D E cc own nL F Lc) (d : decode cc pc = .ok (.bastore, 1)) (q0 : Nat) (ha : ws[q0]? = some (a, .inl (cA, len, .inl f))) (ht : (k_tys D)[2]? = some (cA, .boolean)) (hi : k_in i len) (hw : ws.set q0 (a, .inl (cA, len, .inl (upd f i.toNatClampNeg (vp_nar .boolean x)))) = ws2) (hn : pc + 1 = n) (kk : k_G D l E ws2 lv n st) : k_G D l E ws lv pc (.int x :: .int i :: .ref a :: st) := by
  obtain ⟨p, e, R, s, m, args, below, meth, c, cells, slots, Q, A, nL'⟩ := E
  obtain ⟨⟨hx, hb, hml, hown, hts⟩, hK, hN, hc, hs, hF, hL, hnl, hA⟩ := X
  subst hn hnl
  intro H locs ls hP hD hS hv
  exact va_zast hx hb hK hP hD hS q0 2 ha ht hi d (fun H locs hP hD hS => kk H locs ls (hw ▸ hP) (hw ▸ hD) hS hv)
/-! calls -/
def k_Met (l : Launch) (y : MethodName) (cc : ByteArray) (mL : Nat) (ret : Option FieldType) (F Lc : Nat) (D : va_G) (As : List Value) (wc : va_W) (rv : Option Value) (w1 : va_W) : Prop :=
  ∀ sz : Nat, Met l y (.code y cc mL ret :: G_) { frames := F, cells := 0, slots := 0, locals := Lc } (va_Pc As (fun U => U.heap.size = sz ∧ va_P D vwCl wc U.heap ∧ va_K D vwCl (k_tys D) U ∧ va_D (fun _ => True) wc ∧ k_N U)) (fun _ st oc t => (oc = .returned rv ∧ va_P D vwCl w1 t.heap) ∧ va_F (va_A wc sz) st t) 0 0 (va_A wc sz)
def k_upd (ws : va_W) : List Nat → va_W → va_W
  | i :: is, q :: qs => k_upd (ws.set i q) is qs
  | _, _ => ws
theorem k_upd_get : ∀ (is : List Nat) (w ws : va_W) (k : Nat) (q : Nat × va_E), w.length = is.length → (k_upd ws is w)[k]? = some q → (∃ j : Nat, is[j]? = some k ∧ w[j]? = some q) ∨ (k ∉ is ∧ ws[k]? = some q)
  | [], [], ws, k, q, _, h => Or.inr ⟨List.not_mem_nil, h⟩
  | [], _ :: _, _, _, _, hl, _ => by simp at hl
  | _ :: _, [], _, _, _, hl, _ => by simp at hl
  | i :: is, x :: w, ws, k, q, hl, h => by
    rcases k_upd_get is w (ws.set i x) k q (by simpa using hl) h with ⟨j, h1, h2⟩ | ⟨h1, h2⟩
    · exact Or.inl ⟨j + 1, by simpa using h1, by simpa using h2⟩
    · by_cases hk : i = k
      · subst hk
        have hlt : i < ws.length := by
          rcases Nat.lt_or_ge i ws.length with z | z
          · exact z
          · rw [List.getElem?_eq_none (by simpa using z)] at h2; cases h2
        rw [List.getElem?_set_self hlt] at h2
        exact Or.inl ⟨0, rfl, by simpa using h2⟩
      · rw [List.getElem?_set_ne hk] at h2
        exact Or.inr ⟨fun z => by rcases List.mem_cons.mp z with z | z; exact hk z.symm; exact h1 z, h2⟩
theorem k_D_same {A : Nat → Prop} {ws ws2 : va_W} (ha : ws2.map (·.1) = ws.map (·.1)) (hD : va_D A ws) : va_D A ws2 := by
  have key : ∀ (k : Nat) (q : Nat × va_E), ws2[k]? = some q → ∃ q0, ws[k]? = some q0 ∧ q0.1 = q.1 := by
    intro k q hk
    have h1 : (ws2.map (·.1))[k]? = some q.1 := by rw [List.getElem?_map, hk]; rfl
    rw [ha, List.getElem?_map] at h1
    cases hw : ws[k]? with
    | none => rw [hw] at h1; cases h1
    | some q0 => rw [hw] at h1; exact ⟨q0, rfl, Option.some.inj h1⟩
  refine ⟨fun i j x y hi hj hxy => ?_, fun k q hk => ?_⟩
  · obtain ⟨x0, h1, h2⟩ := key i x hi
    obtain ⟨y0, h3, h4⟩ := key j y hj
    exact hD.1 i j x0 y0 h1 h3 (h2.trans (hxy.trans h4.symm))
  · obtain ⟨q0, h1, h2⟩ := key k q hk
    rw [← h2]
    exact hD.2 k q0 h1
theorem k_after {p : Program} {l : Launch} {e : Env} {R : Room} {s : State} {m : MethodId} {args : Array Value} {below : List Frame} {meth : Method} {c : Code} {H : Heap} {locs : List Loc} {cells slots : Nat} {Q : State → Prop} {pc : Nat} {ls : Array Slot} {rest stk : List Value} {D : va_G} {A : Nat → Prop} {ws wc w1 ws2 : va_W} {rv : Option Value}
    (hr : va_Run p l e R s m args below meth c H locs cells slots 0 0 (F0 m pc ls stk) rest (fun st oc t => (oc = .returned rv ∧ va_P D vwCl w1 t.heap) ∧ va_F (va_A wc H.size) st t) (va_A wc H.size))
    (hP : va_P D vwCl ws H) (hD : va_D A ws) (hS : va_S A s.heap H locs) (hA : ∀ q : Nat, s.heap.size ≤ q → A q) (isC : List Nat) (hC : isC.map (fun i => ws[i]?) = wc.map some) (hl : w1.length = isC.length) (hu : k_upd ws isC w1 = ws2) (ha : ws2.map (·.1) = ws.map (·.1))
    (kk : ∀ (H : Heap) (locs : List Loc), va_P D vwCl ws2 H → va_D A ws2 → va_S A s.heap H locs → W p l e R s m args below meth c H locs cells slots Q (F0 m (pc + 3) ls (rv.toList ++ rest))) : W p l e R s m args below meth c H locs cells slots Q (F0 m pc ls stk) := by
  intro T hT X
  obtain ⟨v, st₀, t, T', L, h0, X', hL, e1, e2, ⟨⟨hv, hP1⟩, hz, hk⟩, st⟩ := hr T hT X
  cases hv
  rw [h0] at hz hk
  have hF := va_free hD hS hA isC hC
  have at' : ∀ (k : Nat) (q : Nat × va_E), wc[k]? = some q → ∃ i, isC[k]? = some i ∧ ws[i]? = some q := by
    intro k q hq
    have h1 : (isC.map (fun i => ws[i]?))[k]? = some (some q) := by rw [hC, List.getElem?_map, hq]; rfl
    rw [List.getElem?_map] at h1
    cases hi : isC[k]? with
    | none => rw [hi] at h1; cases h1
    | some i => rw [hi] at h1; exact ⟨i, rfl, Option.some.inj h1⟩
  have hP2 : va_P D vwCl ws2 T'.heap := by
    intro k q hq
    rw [← hu] at hq
    rcases k_upd_get isC w1 ws k q hl hq with ⟨j, h1, h2⟩ | ⟨h1, h2⟩
    · rw [e1]; exact hP1 j q h2
    · have hlt := (hP k q h2).lt
      refine (hP k q h2).kept ?_
      rw [e1]
      refine hk q.1 hlt (fun z => ?_)
      rcases z with ⟨k2, ee, z⟩ | z
      · obtain ⟨i, h3, h4⟩ := at' k2 (q.1, ee) z
        have := hD.1 k i q (q.1, ee) h2 h4 rfl
        subst this
        exact h1 (List.mem_of_getElem? h3)
      · omega
  obtain ⟨t2, a1, b1⟩ := kk T'.heap (locs ++ L) hP2 (k_D_same ha hD)
    ⟨Nat.le_trans hS.1 (by rw [e1]; exact hz), fun q h1 h2 => by rw [e1, hk q (Nat.lt_of_lt_of_le h1 hS.1) (fun z => h2 (hF q z))]; exact hS.2.1 q h1 h2, fun q hq => by
      rcases List.mem_append.mp hq with h | h
      · exact hS.2.2 q h
      · exact hF _ (hL q h)⟩ T' rfl X'
  exact ⟨t2, st t2 a1, b1⟩
theorem k_after0 {p : Program} {l : Launch} {e : Env} {R : Room} {s : State} {m : MethodId} {args : Array Value} {below : List Frame} {meth : Method} {c : Code} {H : Heap} {locs : List Loc} {cells slots : Nat} {Q : State → Prop} {pc : Nat} {ls : Array Slot} {rest stk : List Value} {D : va_G} {A : Nat → Prop} {ws ws2 : va_W} {rv : Option Value}
    (hr : va_Run p l e R s m args below meth c H locs cells slots 0 0 (F0 m pc ls stk) rest (fun st oc t => (oc = .returned rv ∧ va_P D vwCl ws2 t.heap) ∧ va_F (va_A ws H.size) st t) (va_A ws H.size))
    (hD : va_D A ws) (hS : va_S A s.heap H locs) (hA : ∀ q : Nat, s.heap.size ≤ q → A q) (ha : ws2.map (·.1) = ws.map (·.1))
    (kk : ∀ (H : Heap) (locs : List Loc), va_P D vwCl ws2 H → va_D A ws2 → va_S A s.heap H locs → W p l e R s m args below meth c H locs cells slots Q (F0 m (pc + 3) ls (rv.toList ++ rest))) : W p l e R s m args below meth c H locs cells slots Q (F0 m pc ls stk) := by
  intro T hT X
  obtain ⟨v, st₀, t, T', L, h0, X', hL, e1, e2, ⟨⟨hv, hP1⟩, hz, hk⟩, st⟩ := hr T hT X
  cases hv
  rw [h0] at hz hk
  have hF : ∀ q : Nat, va_A ws H.size q → A q := by
    intro q z
    rcases z with ⟨k, ee, z⟩ | z
    · exact hD.2 k (q, ee) z
    · exact hA q (Nat.le_trans hS.1 z)
  obtain ⟨t2, a1, b1⟩ := kk T'.heap (locs ++ L) (by rw [e1]; exact hP1) (k_D_same ha hD)
    ⟨Nat.le_trans hS.1 (by rw [e1]; exact hz), fun q h1 h2 => by rw [e1, hk q (Nat.lt_of_lt_of_le h1 hS.1) (fun z => h2 (hF q z))]; exact hS.2.1 q h1 h2, fun q hq => by
      rcases List.mem_append.mp hq with h | h
      · exact hS.2.2 q h
      · exact hF _ (hL q h)⟩ T' rfl X'
  exact ⟨t2, st t2 a1, b1⟩
theorem k_blind {l : Launch} {D : va_G} {As : List Value} {wc : va_W} {sz : Nat} : FrameBlind (va_Pc As (fun U => U.heap.size = sz ∧ va_P D vwCl wc U.heap ∧ va_K D vwCl (k_tys D) U ∧ va_D (fun _ => True) wc ∧ k_N U)) := fun a U g mk q => by
  obtain ⟨q0, q1, qP, qK, qD, qN⟩ := q
  exact ⟨q0, q1, qP, va_K.moved (u := U) (U := U.calling g mk a) (Vm.Alike.refl U.vm) qK, qD, k_N.same (u := U) rfl qN⟩
def k_lk0 (y : MethodName) (cc : ByteArray) (mL : Nat) (ret : Option FieldType) (np : Nat) : Prop := Cond.initialized y.cls ∈ G_ ∧ Cond.code y cc mL ret ∈ G_ ∧ (y.cls ≠ "java/lang/invoke/MethodHandle" ∧ y.cls ≠ "java/lang/invoke/VarHandle" ∧ (parseMethodDescriptor y.desc).map (fun d => d.parameters.length) = some np)
def k_lkV (y : MethodName) (cc : ByteArray) (mL : Nat) (ret : Option FieldType) (np : Nat) : Prop := k_lk0 y cc mL ret np ∧ Cond.instanceMethod y ∈ G_ ∧ Cond.selects y.cls y y ∈ G_
def k_lkS (y : MethodName) (cc : ByteArray) (mL : Nat) (ret : Option FieldType) (np : Nat) : Prop := k_lk0 y cc mL ret np ∧ Cond.static y ∈ G_
theorem k_sub_P {D : va_G} {ws wc : va_W} {H : Heap} (hP : va_P D vwCl ws H) (isC : List Nat) (hC : isC.map (fun i => ws[i]?) = wc.map some) : va_P D vwCl wc H := by
  intro k q hq
  have h1 : (isC.map (fun i => ws[i]?))[k]? = some (some q) := by rw [hC, List.getElem?_map, hq]; rfl
  rw [List.getElem?_map] at h1
  cases hi : isC[k]? with
  | none => rw [hi] at h1; cases h1
  | some i => rw [hi] at h1; exact hP i q (Option.some.inj h1)
section KCALL
variable {D : va_G} {l : Launch} {E : k_E} {cc cc2 : ByteArray} {own : String} {nL F Lc F2 L2 mL idx np : Nat} {ws wc w1 ws2 : va_W} {lv : List (Nat × Value)} {pc n b : Nat} {st st2 stk As : List Value} {rv : Option Value} {y : MethodName} {ret : Option FieldType}
theorem g_callV {ci : Nat} {fs : List Value} {q : vw_C} (X : k_X D E cc own nL F Lc) (hM : k_Met l y cc2 mL ret F2 L2 D (.ref b :: As) wc rv w1) (lk : k_lkV y cc2 mL ret np) (hlk : Cond.methodLink own idx y ∈ G_) (d : decode cc pc = .ok (.invokevirtual idx, 3)) (hn : pc + 3 = n) (hst : stk = As.reverse ++ .ref b :: st) (hst2 : rv.toList ++ st = st2) (isC : List Nat) (hnd : va_nd isC = true) (hC : isC.map (fun i => ws[i]?) = wc.map some) (hrc : wc[0]? = some (b, .inr (ci, fs))) (hcl : vwCl[ci]? = some q) (hq : q.1 = y.cls) (hl : w1.length = isC.length) (hu : k_upd ws isC w1 = ws2) (ha : ws2.map (·.1) = ws.map (·.1)) (hnp : As.length = np) (hR : F2 + 1 ≤ F ∧ 8 + (mL + 11) + L2 ≤ Lc) (hW : (st.map fun v => v.category).sum ≤ 8)
    (kk : k_G D l E ws2 lv n st2) : k_G D l E ws lv pc stk := by
  obtain ⟨p, e, R, s, m, args, below, meth, c, cells, slots, Q, A, nL'⟩ := E
  obtain ⟨S, hK, hN, hc, hs, hF, hL, hnl, hA⟩ := X
  subst hn hnl hst hst2
  intro H locs ls hP hD hS hv
  have hts := S.2.2.2.2
  obtain ⟨⟨hi, hco, hd⟩, hin, hse⟩ := lk
  have cb : CallB R s args own idx y cc2 mL ret (Cond.code y cc2 mL ret :: G_) { frames := F2, cells := 0, slots := 0, locals := L2 } 0 0 np := callB_of np hts (G_good hco) rfl rfl rfl (hts _ hi) (hts _ hlk) hd ⟨Nat.le_trans hR.1 hF, Nat.le_trans hR.2 hL⟩
  have hPc : va_P D vwCl wc H := k_sub_P hP isC hC
  have hDc : va_D (fun _ => True) wc := (hD.sub isC hnd hC).weaken (fun _ _ _ _ => trivial)
  exact k_after (va_runV (cc := cc) S (hM H.size) ⟨cb, hts _ hin, hts _ hse⟩ ⟨k_blind (l := l), (by have := va_recv (q0 := 0) hK hPc hcl hrc; rw [hq] at this; exact this), fun U hU hW => ⟨rfl, by rw [hU], by rw [hU]; exact hPc, va_K.moved hW.alike hK, hDc, hN.warm hW⟩⟩ rfl hnp hv.1 rfl (lv_room hW) d ⟨hc, hs⟩) hP hD hS hA isC hC hl hu ha (fun H locs hP hD hS => kk H locs ls hP hD hS hv)
theorem g_callS (X : k_X D E cc own nL F Lc) (hM : k_Met l y cc2 mL ret F2 L2 D As wc rv w1) (lk : k_lkS y cc2 mL ret np) (hlk : Cond.methodLink own idx y ∈ G_) (d : decode cc pc = .ok (.invokestatic idx, 3)) (hn : pc + 3 = n) (hst : stk = As.reverse ++ st) (hst2 : rv.toList ++ st = st2) (isC : List Nat) (hnd : va_nd isC = true) (hC : isC.map (fun i => ws[i]?) = wc.map some) (hl : w1.length = isC.length) (hu : k_upd ws isC w1 = ws2) (ha : ws2.map (·.1) = ws.map (·.1)) (hnp : As.length = np) (hR : F2 + 1 ≤ F ∧ 8 + (mL + 11) + L2 ≤ Lc) (hW : (st.map fun v => v.category).sum ≤ 8)
    (kk : k_G D l E ws2 lv n st2) : k_G D l E ws lv pc stk := by
  obtain ⟨p, e, R, s, m, args, below, meth, c, cells, slots, Q, A, nL'⟩ := E
  obtain ⟨S, hK, hN, hc, hs, hF, hL, hnl, hA⟩ := X
  subst hn hnl hst hst2
  intro H locs ls hP hD hS hv
  have hts := S.2.2.2.2
  obtain ⟨⟨hi, hco, hd⟩, hstt⟩ := lk
  have cb : CallB R s args own idx y cc2 mL ret (Cond.code y cc2 mL ret :: G_) { frames := F2, cells := 0, slots := 0, locals := L2 } 0 0 np := callB_of np hts (G_good hco) rfl rfl rfl (hts _ hi) (hts _ hlk) hd ⟨Nat.le_trans hR.1 hF, Nat.le_trans hR.2 hL⟩
  have hPc : va_P D vwCl wc H := k_sub_P hP isC hC
  have hDc : va_D (fun _ => True) wc := (hD.sub isC hnd hC).weaken (fun _ _ _ _ => trivial)
  exact k_after (va_runS (cc := cc) S (hM H.size) ⟨cb, hts _ hstt⟩ ⟨k_blind (l := l), fun U hU hW => ⟨rfl, by rw [hU], by rw [hU]; exact hPc, va_K.moved hW.alike hK, hDc, hN.warm hW⟩⟩ rfl hnp hv.1 rfl (lv_room hW) d ⟨hc, hs⟩) hP hD hS hA isC hC hl hu ha (fun H locs hP hD hS => kk H locs ls hP hD hS hv)
theorem g_callSN {host : String} (X : k_X D E cc own nL F Lc) (hM : k_Met l y cc2 mL ret F2 L2 D As wc rv w1) (lk : k_lkS y cc2 mL ret np) (hlk : Cond.methodLinkNest own idx y host ∈ k_nest) (d : decode cc pc = .ok (.invokestatic idx, 3)) (hn : pc + 3 = n) (hst : stk = As.reverse ++ st) (hst2 : rv.toList ++ st = st2) (isC : List Nat) (hnd : va_nd isC = true) (hC : isC.map (fun i => ws[i]?) = wc.map some) (hl : w1.length = isC.length) (hu : k_upd ws isC w1 = ws2) (ha : ws2.map (·.1) = ws.map (·.1)) (hnp : As.length = np) (hR : F2 + 1 ≤ F ∧ 8 + (mL + 11) + L2 ≤ Lc) (hW : (st.map fun v => v.category).sum ≤ 8)
    (kk : k_G D l E ws2 lv n st2) : k_G D l E ws lv pc stk := by
  obtain ⟨p, e, R, s, m, args, below, meth, c, cells, slots, Q, A, nL'⟩ := E
  obtain ⟨S, hK, hN, hc, hs, hF, hL, hnl, hA⟩ := X
  subst hn hnl hst hst2
  intro H locs ls hP hD hS hv
  have hts := S.2.2.2.2
  obtain ⟨⟨hi, hco, hd⟩, hstt⟩ := lk
  have cb := va_cnB (R := R) (mc := 0) (ms := 0) (rm := { frames := F2, cells := 0, slots := 0, locals := L2 }) np hts (G_good hco) rfl rfl rfl (hN _ hlk) (hts _ hi) hd ⟨Nat.le_trans hR.1 hF, Nat.le_trans hR.2 hL⟩
  have hPc : va_P D vwCl wc H := k_sub_P hP isC hC
  have hDc : va_D (fun _ => True) wc := (hD.sub isC hnd hC).weaken (fun _ _ _ _ => trivial)
  exact k_after (va_runSN (cc := cc) S (hM H.size) ⟨cb, hts _ hstt, trivial⟩ ⟨k_blind (l := l), fun U hU hW => ⟨rfl, by rw [hU], by rw [hU]; exact hPc, va_K.moved hW.alike hK, hDc, hN.warm hW⟩⟩ rfl hnp hv.1 rfl (lv_room hW) d ⟨hc, hs⟩) hP hD hS hA isC hC hl hu ha (fun H locs hP hD hS => kk H locs ls hP hD hS hv)
theorem g_callV0 {ci : Nat} {fs : List Value} {q : vw_C} (X : k_X D E cc own nL F Lc) (hM : k_Met l y cc2 mL ret F2 L2 D (.ref b :: As) ws rv ws2) (lk : k_lkV y cc2 mL ret np) (hlk : Cond.methodLink own idx y ∈ G_) (d : decode cc pc = .ok (.invokevirtual idx, 3)) (hn : pc + 3 = n) (hst : stk = As.reverse ++ .ref b :: st) (hst2 : rv.toList ++ st = st2) (hrc : ws[0]? = some (b, .inr (ci, fs))) (hcl : vwCl[ci]? = some q) (hq : q.1 = y.cls) (ha : ws2.map (·.1) = ws.map (·.1)) (hnp : As.length = np) (hR : F2 + 1 ≤ F ∧ 8 + (mL + 11) + L2 ≤ Lc) (hW : (st.map fun v => v.category).sum ≤ 8)
    (kk : k_G D l E ws2 lv n st2) : k_G D l E ws lv pc stk := by
  obtain ⟨p, e, R, s, m, args, below, meth, c, cells, slots, Q, A, nL'⟩ := E
  obtain ⟨S, hK, hN, hc, hs, hF, hL, hnl, hA⟩ := X
  subst hn hnl hst hst2
  intro H locs ls hP hD hS hv
  have hts := S.2.2.2.2
  obtain ⟨⟨hi, hco, hd⟩, hin, hse⟩ := lk
  have cb : CallB R s args own idx y cc2 mL ret (Cond.code y cc2 mL ret :: G_) { frames := F2, cells := 0, slots := 0, locals := L2 } 0 0 np := callB_of np hts (G_good hco) rfl rfl rfl (hts _ hi) (hts _ hlk) hd ⟨Nat.le_trans hR.1 hF, Nat.le_trans hR.2 hL⟩
  have hDc : va_D (fun _ => True) ws := hD.weaken (fun _ _ _ _ => trivial)
  exact k_after0 (va_runV (cc := cc) S (hM H.size) ⟨cb, hts _ hin, hts _ hse⟩ ⟨k_blind (l := l), (by have := va_recv (q0 := 0) hK hP hcl hrc; rw [hq] at this; exact this), fun U hU hW => ⟨rfl, by rw [hU], by rw [hU]; exact hP, va_K.moved hW.alike hK, hDc, hN.warm hW⟩⟩ rfl hnp hv.1 rfl (lv_room hW) d ⟨hc, hs⟩) hD hS hA ha (fun H locs hP hD hS => kk H locs ls hP hD hS hv)
theorem g_callS0 (X : k_X D E cc own nL F Lc) (hM : k_Met l y cc2 mL ret F2 L2 D As [] rv []) (lk : k_lkS y cc2 mL ret np) (hlk : Cond.methodLink own idx y ∈ G_) (d : decode cc pc = .ok (.invokestatic idx, 3)) (hn : pc + 3 = n) (hst : stk = As.reverse ++ st) (hst2 : rv.toList ++ st = st2) (hnp : As.length = np) (hR : F2 + 1 ≤ F ∧ 8 + (mL + 11) + L2 ≤ Lc) (hW : (st.map fun v => v.category).sum ≤ 8)
    (kk : k_G D l E ws lv n st2) : k_G D l E ws lv pc stk := g_callS X hM lk hlk d hn hst hst2 [] rfl rfl rfl rfl rfl hnp hR hW kk
theorem g_callSN0 {host : String} (X : k_X D E cc own nL F Lc) (hM : k_Met l y cc2 mL ret F2 L2 D As [] rv []) (lk : k_lkS y cc2 mL ret np) (hlk : Cond.methodLinkNest own idx y host ∈ k_nest) (d : decode cc pc = .ok (.invokestatic idx, 3)) (hn : pc + 3 = n) (hst : stk = As.reverse ++ st) (hst2 : rv.toList ++ st = st2) (hnp : As.length = np) (hR : F2 + 1 ≤ F ∧ 8 + (mL + 11) + L2 ≤ Lc) (hW : (st.map fun v => v.category).sum ≤ 8)
    (kk : k_G D l E ws lv n st2) : k_G D l E ws lv pc stk := g_callSN X hM lk hlk d hn hst hst2 [] rfl rfl rfl rfl rfl hnp hR hW kk
/-! Math -/
def k_lkM (y : MethodName) (cc : ByteArray) (mL : Nat) (ret : FieldType) : Prop := Cond.static y ∈ G_ ∧ Cond.initialized "java/lang/Math" ∈ G_ ∧ Cond.code y cc mL (some ret) ∈ G_
theorem g_max {x z : Int32} (X : k_X D E cc own nL F Lc) (lk : k_lkM Lib.Math.max.name Lib.Math.max.code 2 .int) (hlk : Cond.methodLink own idx Lib.Math.max.name ∈ G_) (d : decode cc pc = .ok (.invokestatic idx, 3)) (hn : pc + 3 = n) (hR : 1 ≤ F ∧ 21 ≤ Lc) (hW : (st.map fun v => v.category).sum ≤ 8) (kk : k_G D l E ws lv n (.int (if x < z then z else x) :: st)) : k_G D l E ws lv pc (.int z :: .int x :: st) := by
  obtain ⟨p, e, R, s, m, args, below, meth, c, cells, slots, Q, A, nL'⟩ := E
  obtain ⟨⟨hx, hb, hml, hown, hts⟩, hK, hN, hc, hs, hF, hL, hnl, hA⟩ := X
  subst hn hnl
  intro H locs ls hP hD hS hv
  exact va_mmax hx hb (hml.trans hv.1.symm) hown (hts _ hlk) (hts _ lk.1) (hts _ lk.2.1) (hts _ lk.2.2) (Nat.le_trans hR.1 hF) (by omega) hc hs d (kk H locs ls hP hD hS hv)
theorem g_min {x z : Int32} (X : k_X D E cc own nL F Lc) (lk : k_lkM Lib.Math.min.name Lib.Math.min.code 2 .int) (hlk : Cond.methodLink own idx Lib.Math.min.name ∈ G_) (d : decode cc pc = .ok (.invokestatic idx, 3)) (hn : pc + 3 = n) (hR : 1 ≤ F ∧ 21 ≤ Lc) (hW : (st.map fun v => v.category).sum ≤ 8) (kk : k_G D l E ws lv n (.int (if z < x then z else x) :: st)) : k_G D l E ws lv pc (.int z :: .int x :: st) := by
  obtain ⟨p, e, R, s, m, args, below, meth, c, cells, slots, Q, A, nL'⟩ := E
  obtain ⟨⟨hx, hb, hml, hown, hts⟩, hK, hN, hc, hs, hF, hL, hnl, hA⟩ := X
  subst hn hnl
  intro H locs ls hP hD hS hv
  exact va_mmin hx hb (hml.trans hv.1.symm) hown (hts _ hlk) (hts _ lk.1) (hts _ lk.2.1) (hts _ lk.2.2) (Nat.le_trans hR.1 hF) (by omega) hc hs d (kk H locs ls hP hD hS hv)
theorem g_absL {x : Int64} (X : k_X D E cc own nL F Lc) (lk : k_lkM Lib.MathLoose.abs_long.x Lib.MathLoose.abs_long.code 2 .long) (hlk : Cond.methodLink own idx Lib.MathLoose.abs_long.x ∈ G_) (d : decode cc pc = .ok (.invokestatic idx, 3)) (hn : pc + 3 = n) (hR : 1 ≤ F ∧ 21 ≤ Lc) (hW : (st.map fun v => v.category).sum ≤ 8) (kk : k_G D l E ws lv n (.long (if 0 < x then x else -x) :: st)) : k_G D l E ws lv pc (.long x :: st) := by
  obtain ⟨p, e, R, s, m, args, below, meth, c, cells, slots, Q, A, nL'⟩ := E
  obtain ⟨⟨hx, hb, hml, hown, hts⟩, hK, hN, hc, hs, hF, hL, hnl, hA⟩ := X
  subst hn hnl
  intro H locs ls hP hD hS hv
  exact va_mabs_long hx hb (hml.trans hv.1.symm) hown (hts _ hlk) (hts _ lk.1) (hts _ lk.2.1) (hts _ lk.2.2) (Nat.le_trans hR.1 hF) (by omega) hc hs d (kk H locs ls hP hD hS hv)
theorem g_minL {x z : Int64} (X : k_X D E cc own nL F Lc) (lk : k_lkM Lib.MathLoose.min_long.x Lib.MathLoose.min_long.code 4 .long) (hlk : Cond.methodLink own idx Lib.MathLoose.min_long.x ∈ G_) (d : decode cc pc = .ok (.invokestatic idx, 3)) (hn : pc + 3 = n) (hR : 1 ≤ F ∧ 24 ≤ Lc) (hW : (st.map fun v => v.category).sum ≤ 8) (kk : k_G D l E ws lv n (.long (if z < x then z else x) :: st)) : k_G D l E ws lv pc (.long z :: .long x :: st) := by
  obtain ⟨p, e, R, s, m, args, below, meth, c, cells, slots, Q, A, nL'⟩ := E
  obtain ⟨⟨hx, hb, hml, hown, hts⟩, hK, hN, hc, hs, hF, hL, hnl, hA⟩ := X
  subst hn hnl
  intro H locs ls hP hD hS hv
  exact va_mmin_long hx hb (hml.trans hv.1.symm) hown (hts _ hlk) (hts _ lk.1) (hts _ lk.2.1) (hts _ lk.2.2) (Nat.le_trans hR.1 hF) (by omega) hc hs d (kk H locs ls hP hD hS hv)
theorem g_ldcw {v : Int32} (X : k_X D E cc own nL F Lc) (d : decode cc pc = .ok (.ldc_w idx, 3)) (hc1 : Cond.constant own idx v ∈ G_) (hn : pc + 3 = n) (kk : k_G D l E ws lv n (.int v :: st)) : k_G D l E ws lv pc st := by
  obtain ⟨p, e, R, s, m, args, below, meth, c, cells, slots, Q, A, nL'⟩ := E
  obtain ⟨⟨hx, hb, hml, hown, hts⟩, hK, hN, hc, hs, hF, hL, hnl, hA⟩ := X
  subst hn hnl
  intro H locs ls hP hD hS hv
  exact lv_ldcw hx hb hown (hts _ hc1) d (kk H locs ls hP hD hS hv)
theorem g_copyi {a a0 n0 n1 : Nat} {c0 c1 : ClassId} {f g : Nat → Int32} {sp dp k : Int32} (X : k_X D E cc own nL F Lc) (lk : Cond.native arraycopyName ∈ G_ ∧ Cond.static arraycopyName ∈ G_ ∧ Cond.initialized "java/lang/System" ∈ G_) (hlk : Cond.methodLink own idx arraycopyName ∈ G_) (d : decode cc pc = .ok (.invokestatic idx, 3)) (hn : pc + 3 = n) (q0 q1 : Nat) (ha0 : ws[q0]? = some (a0, .inl (c0, n0, .inl f))) (ha1 : ws[q1]? = some (a, .inl (c1, n1, .inl g))) (ht0 : c0 = D.1 100) (ht1 : c1 = D.1 100) (h1 : ¬ sp < 0) (h2 : ¬ dp < 0) (h3 : ¬ k < 0) (h4 : sp.toNatClampNeg + k.toNatClampNeg ≤ n0) (h5 : dp.toNatClampNeg + k.toNatClampNeg ≤ n1) (hw : ws.set q1 (a, .inl (c1, n1, .inl (va_cpy f g sp.toNatClampNeg dp.toNatClampNeg k.toNatClampNeg))) = ws2) (hR : 1 ≤ F ∧ 40 ≤ Lc) (hW : (st.map fun v => v.category).sum ≤ 8) (kk : k_G D l E ws2 lv n st) : k_G D l E ws lv pc (.int k :: .int dp :: .ref a :: .int sp :: .ref a0 :: st) := by
  obtain ⟨p, e, R, s, m, args, below, meth, c, cells, slots, Q, A, nL'⟩ := E
  obtain ⟨⟨hx, hb, hml, hown, hts⟩, hK, hN, hc, hs, hF, hL, hnl, hA⟩ := X
  subst hn hnl hw ht0 ht1
  intro H locs ls hP hD hS hv
  have hq : nativeFrameWords "java/lang/System" "arraycopy" 5 + 11 ≤ 32 := by decide +kernel
  have hq2 : (st.map fun v => v.category).sum + (nativeFrameWords "java/lang/System" "arraycopy" 5 + 11) ≤ R.locals := by omega
  exact va_copyi hx hb (hml.trans hv.1.symm) hown (hts _ hlk) (hts _ lk.1) (hts _ lk.2.1) (hts _ lk.2.2) hK hP hD hS q0 q1 0 0 ha0 ha1 rfl rfl rfl h1 h2 h3 h4 h5 (fun _ _ => rfl) (Nat.le_trans hR.1 hF) hq2 d (fun H locs hP hD hS => kk H locs ls hP hD hS hv)
end KCALL
/-! a contract out of a walk -/
theorem k_of_i {l : Launch} {y : MethodName} {cc : ByteArray} {mL F Lc : Nat} {D : va_G} {As : List Value} {wc w1 : va_W} {r : Int32} (hy : plainName y.cls = true) (hAs : (lg_sl As).length ≤ mL) (body : ∀ E : k_E, k_X D E cc y.cls mL F Lc → (∀ (pc : Nat) (lv : List (Nat × Value)), decode cc pc = .ok (.ireturn, 1) → k_G D l E w1 lv pc [.int r]) → k_G D l E wc (lv_args 0 As) 0 []) : k_Met l y cc mL (some .int) F Lc D As wc (some (.int r)) w1 := by
  intro sz
  refine Met.ofW (cc := cc) (maxL := mL) (ret := (some .int)) hy rfl ?_
  intro p e s m args below meth c s₁ B hml hv
  obtain ⟨rfl, hsz, hP, hK, hD0, hN⟩ := hv
  have hx := B.exec
  have hb := B.bytes
  have hr := B.returns
  have hlocks := B.notSynchronized
  have hts0 := atoms_spec (ws := .code y cc mL (some .int) :: G_) B.pre
  have hts : ∀ w ∈ G_, w.before As.toArray s = true := fun w hw => hts0 w (List.mem_cons_of_mem _ hw)
  have hown : s.vm.findClass y.cls = some m.cls := findClass_of_methodNamed B.named
  subst hsz
  have hD : va_D (va_A wc s.heap.size) wc := hD0.self (sz := s.heap.size)
  have hl := lv_entry As (n := mL) hAs
  rw [lg_entry_eq]
  refine body (p, e, { frames := F, cells := 0, slots := 0, locals := Lc }, s, m, As.toArray, below, meth, c, 0, 0, _, va_A wc s.heap.size, mL) ⟨⟨hx, hb, hml, hown, hts⟩, hK, hN, Nat.le_refl _, Nat.le_refl _, Nat.le_refl _, Nat.le_refl _, rfl, fun q h => Or.inr h⟩ ?_ s.heap [] _ hP hD va_S.rf hl
  intro pc lv d H locs ls hP hD hS hv
  exact W.iret hx hb hr (fun t ht hW => ⟨⟨rfl, by rw [ht]; exact hP⟩, hS.F ht⟩) hS.2.2 d
theorem k_of_z {l : Launch} {y : MethodName} {cc : ByteArray} {mL F Lc : Nat} {D : va_G} {As : List Value} {wc w1 : va_W} {r : Bool} (hy : plainName y.cls = true) (hAs : (lg_sl As).length ≤ mL) (body : ∀ E : k_E, k_X D E cc y.cls mL F Lc → (∀ (pc : Nat) (lv : List (Nat × Value)), decode cc pc = .ok (.ireturn, 1) → k_G D l E w1 lv pc [.int (bI r)]) → k_G D l E wc (lv_args 0 As) 0 []) : k_Met l y cc mL (some .boolean) F Lc D As wc (some (.int (bI r))) w1 := by
  intro sz
  refine Met.ofW (cc := cc) (maxL := mL) (ret := (some .boolean)) hy rfl ?_
  intro p e s m args below meth c s₁ B hml hv
  obtain ⟨rfl, hsz, hP, hK, hD0, hN⟩ := hv
  have hx := B.exec
  have hb := B.bytes
  have hr := B.returns
  have hlocks := B.notSynchronized
  have hts0 := atoms_spec (ws := .code y cc mL (some .boolean) :: G_) B.pre
  have hts : ∀ w ∈ G_, w.before As.toArray s = true := fun w hw => hts0 w (List.mem_cons_of_mem _ hw)
  have hown : s.vm.findClass y.cls = some m.cls := findClass_of_methodNamed B.named
  subst hsz
  have hD : va_D (va_A wc s.heap.size) wc := hD0.self (sz := s.heap.size)
  have hl := lv_entry As (n := mL) hAs
  rw [lg_entry_eq]
  refine body (p, e, { frames := F, cells := 0, slots := 0, locals := Lc }, s, m, As.toArray, below, meth, c, 0, 0, _, va_A wc s.heap.size, mL) ⟨⟨hx, hb, hml, hown, hts⟩, hK, hN, Nat.le_refl _, Nat.le_refl _, Nat.le_refl _, Nat.le_refl _, rfl, fun q h => Or.inr h⟩ ?_ s.heap [] _ hP hD va_S.rf hl
  intro pc lv d H locs ls hP hD hS hv
  exact W.zret hx hb hr (bI_n r) (fun t ht hW => ⟨⟨rfl, by rw [ht]; exact hP⟩, hS.F ht⟩) hS.2.2 d
theorem k_of_l {l : Launch} {y : MethodName} {cc : ByteArray} {mL F Lc : Nat} {D : va_G} {As : List Value} {wc w1 : va_W} {r : Int64} (hy : plainName y.cls = true) (hAs : (lg_sl As).length ≤ mL) (body : ∀ E : k_E, k_X D E cc y.cls mL F Lc → (∀ (pc : Nat) (lv : List (Nat × Value)), decode cc pc = .ok (.lreturn, 1) → k_G D l E w1 lv pc [.long r]) → k_G D l E wc (lv_args 0 As) 0 []) : k_Met l y cc mL (some .long) F Lc D As wc (some (.long r)) w1 := by
  intro sz
  refine Met.ofW (cc := cc) (maxL := mL) (ret := (some .long)) hy rfl ?_
  intro p e s m args below meth c s₁ B hml hv
  obtain ⟨rfl, hsz, hP, hK, hD0, hN⟩ := hv
  have hx := B.exec
  have hb := B.bytes
  have hr := B.returns
  have hlocks := B.notSynchronized
  have hts0 := atoms_spec (ws := .code y cc mL (some .long) :: G_) B.pre
  have hts : ∀ w ∈ G_, w.before As.toArray s = true := fun w hw => hts0 w (List.mem_cons_of_mem _ hw)
  have hown : s.vm.findClass y.cls = some m.cls := findClass_of_methodNamed B.named
  subst hsz
  have hD : va_D (va_A wc s.heap.size) wc := hD0.self (sz := s.heap.size)
  have hl := lv_entry As (n := mL) hAs
  rw [lg_entry_eq]
  refine body (p, e, { frames := F, cells := 0, slots := 0, locals := Lc }, s, m, As.toArray, below, meth, c, 0, 0, _, va_A wc s.heap.size, mL) ⟨⟨hx, hb, hml, hown, hts⟩, hK, hN, Nat.le_refl _, Nat.le_refl _, Nat.le_refl _, Nat.le_refl _, rfl, fun q h => Or.inr h⟩ ?_ s.heap [] _ hP hD va_S.rf hl
  intro pc lv d H locs ls hP hD hS hv
  exact W.lret hx hb hr (fun t ht hW => ⟨⟨rfl, by rw [ht]; exact hP⟩, hS.F ht⟩) hS.2.2 d
theorem k_of_v {l : Launch} {y : MethodName} {cc : ByteArray} {mL F Lc : Nat} {D : va_G} {As : List Value} {wc w1 : va_W}  (hy : plainName y.cls = true) (hAs : (lg_sl As).length ≤ mL) (body : ∀ E : k_E, k_X D E cc y.cls mL F Lc → (∀ (pc : Nat) (lv : List (Nat × Value)), decode cc pc = .ok (.return_, 1) → k_G D l E w1 lv pc []) → k_G D l E wc (lv_args 0 As) 0 []) : k_Met l y cc mL none F Lc D As wc none w1 := by
  intro sz
  refine Met.ofW (cc := cc) (maxL := mL) (ret := none) hy rfl ?_
  intro p e s m args below meth c s₁ B hml hv
  obtain ⟨rfl, hsz, hP, hK, hD0, hN⟩ := hv
  have hx := B.exec
  have hb := B.bytes
  have hr := B.returns
  have hlocks := B.notSynchronized
  have hts0 := atoms_spec (ws := .code y cc mL none :: G_) B.pre
  have hts : ∀ w ∈ G_, w.before As.toArray s = true := fun w hw => hts0 w (List.mem_cons_of_mem _ hw)
  have hown : s.vm.findClass y.cls = some m.cls := findClass_of_methodNamed B.named
  subst hsz
  have hD : va_D (va_A wc s.heap.size) wc := hD0.self (sz := s.heap.size)
  have hl := lv_entry As (n := mL) hAs
  rw [lg_entry_eq]
  refine body (p, e, { frames := F, cells := 0, slots := 0, locals := Lc }, s, m, As.toArray, below, meth, c, 0, 0, _, va_A wc s.heap.size, mL) ⟨⟨hx, hb, hml, hown, hts⟩, hK, hN, Nat.le_refl _, Nat.le_refl _, Nat.le_refl _, Nat.le_refl _, rfl, fun q h => Or.inr h⟩ ?_ s.heap [] _ hP hD va_S.rf hl
  intro pc lv d H locs ls hP hD hS hv
  exact W.vret hx hb hr (fun t ht hW => ⟨⟨rfl, by rw [ht]; exact hP⟩, hS.F ht⟩) hS.2.2 d
theorem k_of_r {l : Launch} {y : MethodName} {cc : ByteArray} {mL F Lc : Nat} {D : va_G} {As : List Value} {wc w1 : va_W} {C : String} {r : Nat} (hy : plainName y.cls = true) (hAs : (lg_sl As).length ≤ mL) (body : ∀ E : k_E, k_X D E cc y.cls mL F Lc → (∀ (pc : Nat) (lv : List (Nat × Value)), decode cc pc = .ok (.areturn, 1) → k_G D l E w1 lv pc [.ref r]) → k_G D l E wc (lv_args 0 As) 0 []) : k_Met l y cc mL (some (.object C)) F Lc D As wc (some (.ref r)) w1 := by
  intro sz
  refine Met.ofW (cc := cc) (maxL := mL) (ret := (some (.object C))) hy rfl ?_
  intro p e s m args below meth c s₁ B hml hv
  obtain ⟨rfl, hsz, hP, hK, hD0, hN⟩ := hv
  have hx := B.exec
  have hb := B.bytes
  have hr := B.returns
  have hlocks := B.notSynchronized
  have hts0 := atoms_spec (ws := .code y cc mL (some (.object C)) :: G_) B.pre
  have hts : ∀ w ∈ G_, w.before As.toArray s = true := fun w hw => hts0 w (List.mem_cons_of_mem _ hw)
  have hown : s.vm.findClass y.cls = some m.cls := findClass_of_methodNamed B.named
  subst hsz
  have hD : va_D (va_A wc s.heap.size) wc := hD0.self (sz := s.heap.size)
  have hl := lv_entry As (n := mL) hAs
  rw [lg_entry_eq]
  refine body (p, e, { frames := F, cells := 0, slots := 0, locals := Lc }, s, m, As.toArray, below, meth, c, 0, 0, _, va_A wc s.heap.size, mL) ⟨⟨hx, hb, hml, hown, hts⟩, hK, hN, Nat.le_refl _, Nat.le_refl _, Nat.le_refl _, Nat.le_refl _, rfl, fun q h => Or.inr h⟩ ?_ s.heap [] _ hP hD va_S.rf hl
  intro pc lv d H locs ls hP hD hS hv
  exact W.aret hx hb hr (Or.inl ⟨C, rfl⟩) (Or.inr ⟨r, rfl⟩) (fun t ht hW => ⟨⟨rfl, by rw [ht]; exact hP⟩, hS.F ht⟩) hS.2.2 d
