/-! words by their places; worlds -/
def pic_X0 (D : va_G) (a0 : Nat) (q : VX0) : va_W := [(a0, .inr (0, [.long q.1, .long q.2]))]
def pic_X1 (D : va_G) (a0 a1 a2 : Nat) (z : VX1) : va_W := [(a0, .inr (1, [.ref a1, .ref a2, .int z.2.2.1, .int z.2.2.2.1, .int z.2.2.2.2])), (a1, .inl (D.1 101, 1891, .inr (.inl z.1))), (a2, .inl (D.1 101, 1891, .inr (.inl z.2.1)))]
def pic_X2 (D : va_G) (a0 a1 a2 : Nat) (k : VX2) : va_W := [(a0, .inr (2, [.ref a1, .ref a2, .int k.2.2])), (a1, .inl (D.1 101, 11, .inr (.inl k.1))), (a2, .inl (D.1 101, 11, .inr (.inl k.2.1)))]
def pic_X5 (D : va_G) (a0 a1 : Nat) (n : Nat) (t : VX5) : va_W := [(a0, .inr (5, [.ref a1, .int t.2])), (a1, .inl (D.1 100, n, .inl t.1))]
def pic_X3 (D : va_G) (a0 a1 a2 a3 a4 a5 : Nat) (r : VX3) : va_W := [(a0, .inr (3, [.ref a1, .ref a2, .ref a3, .ref a4, .int r.2.2.2.2.1, .int r.2.2.2.2.2.1, .int (bI r.2.2.2.2.2.2)])), (a1, .inl (D.1 100, 60, .inl r.1)), (a2, .inl (D.1 100, 6, .inl r.2.1)), (a3, .inl (D.1 100, 6, .inl r.2.2.1)), (a4, .inr (5, [.ref a5, .int r.2.2.2.1.2])), (a5, .inl (D.1 100, 11, .inl r.2.2.2.1.1))]
def pic_X4 (D : va_G) (a0 a1 : Nat) (y : VX4) : va_W := [(a0, .inr (4, [.ref a1, .int y.2.1, .int y.2.2.1, .int y.2.2.2.1, .int y.2.2.2.2.1, .int y.2.2.2.2.2.1, .int (bI y.2.2.2.2.2.2)])), (a1, .inl (D.1 100, 26, .inl y.1))]
def pic_X6 (D : va_G) (a : Nat → Nat) (pad : VX5) (now : VX3) (fi : VX3) (se : VX3) (li : VX4) (so : VX4) (lo : VX1) (re : VX2) (ru : VX0) (ot : VX0) (le : Nat → Int32) : va_W := [((a 0), .inr (6, [.ref (a 1), .ref (a 3), .ref (a 9), .ref (a 15), .ref (a 21), .ref (a 23), .ref (a 25), .ref (a 28), .ref (a 31), .ref (a 32), .ref (a 33)])), ((a 1), .inr (5, [.ref (a 2), .int pad.2])), ((a 2), .inl (D.1 100, 16, .inl pad.1)), ((a 3), .inr (3, [.ref (a 4), .ref (a 5), .ref (a 6), .ref (a 7), .int now.2.2.2.2.1, .int now.2.2.2.2.2.1, .int (bI now.2.2.2.2.2.2)])), ((a 4), .inl (D.1 100, 60, .inl now.1)), ((a 5), .inl (D.1 100, 6, .inl now.2.1)), ((a 6), .inl (D.1 100, 6, .inl now.2.2.1)), ((a 7), .inr (5, [.ref (a 8), .int now.2.2.2.1.2])), ((a 8), .inl (D.1 100, 11, .inl now.2.2.2.1.1)), ((a 9), .inr (3, [.ref (a 10), .ref (a 11), .ref (a 12), .ref (a 13), .int fi.2.2.2.2.1, .int fi.2.2.2.2.2.1, .int (bI fi.2.2.2.2.2.2)])), ((a 10), .inl (D.1 100, 60, .inl fi.1)), ((a 11), .inl (D.1 100, 6, .inl fi.2.1)), ((a 12), .inl (D.1 100, 6, .inl fi.2.2.1)), ((a 13), .inr (5, [.ref (a 14), .int fi.2.2.2.1.2])), ((a 14), .inl (D.1 100, 11, .inl fi.2.2.2.1.1)), ((a 15), .inr (3, [.ref (a 16), .ref (a 17), .ref (a 18), .ref (a 19), .int se.2.2.2.2.1, .int se.2.2.2.2.2.1, .int (bI se.2.2.2.2.2.2)])), ((a 16), .inl (D.1 100, 60, .inl se.1)), ((a 17), .inl (D.1 100, 6, .inl se.2.1)), ((a 18), .inl (D.1 100, 6, .inl se.2.2.1)), ((a 19), .inr (5, [.ref (a 20), .int se.2.2.2.1.2])), ((a 20), .inl (D.1 100, 11, .inl se.2.2.2.1.1)), ((a 21), .inr (4, [.ref (a 22), .int li.2.1, .int li.2.2.1, .int li.2.2.2.1, .int li.2.2.2.2.1, .int li.2.2.2.2.2.1, .int (bI li.2.2.2.2.2.2)])), ((a 22), .inl (D.1 100, 26, .inl li.1)), ((a 23), .inr (4, [.ref (a 24), .int so.2.1, .int so.2.2.1, .int so.2.2.2.1, .int so.2.2.2.2.1, .int so.2.2.2.2.2.1, .int (bI so.2.2.2.2.2.2)])), ((a 24), .inl (D.1 100, 26, .inl so.1)), ((a 25), .inr (1, [.ref (a 26), .ref (a 27), .int lo.2.2.1, .int lo.2.2.2.1, .int lo.2.2.2.2])), ((a 26), .inl (D.1 101, 1891, .inr (.inl lo.1))), ((a 27), .inl (D.1 101, 1891, .inr (.inl lo.2.1))), ((a 28), .inr (2, [.ref (a 29), .ref (a 30), .int re.2.2])), ((a 29), .inl (D.1 101, 11, .inr (.inl re.1))), ((a 30), .inl (D.1 101, 11, .inr (.inl re.2.1))), ((a 31), .inr (0, [.long ru.1, .long ru.2])), ((a 32), .inr (0, [.long ot.1, .long ot.2])), ((a 33), .inl (D.1 100, 60, .inl le))]
def pic_X7 (D : va_G) (a : Nat → Nat) (mp : VMp) (mg : VMg) (mc : Nat → Int64) (ml : VMl) (mq : VMq) (mh : VMh) (ms : VMs) (mr : Nat → Int32) (mi : VMi) : va_W := [((a 0), .inr (7, [.int mp.2, .ref (a 1), .ref (a 2), .ref (a 3), .ref (a 4), .ref (a 5), .int mg.2.2.2.2.1, .int mg.2.2.2.2.2.1, .ref (a 6), .ref (a 7), .int ml.2.1, .int ml.2.2.1, .int ml.2.2.2.1, .int ml.2.2.2.2.1, .int ml.2.2.2.2.2.1, .int (bI ml.2.2.2.2.2.2), .ref (a 8), .ref (a 9), .ref (a 10), .long mq.2.2.1, .long mq.2.2.2, .int mh.1, .int mh.2, .long ms.1, .long ms.2, .ref (a 11), .ref (a 12), .ref (a 13)])), ((a 1), .inl (D.1 100, 16, .inl mp.1)), ((a 2), .inl (D.1 100, 6, .inl mg.1)), ((a 3), .inl (D.1 100, 6, .inl mg.2.1)), ((a 4), .inl (D.1 100, 6, .inl mg.2.2.1)), ((a 5), .inl (D.1 100, 60, .inl mg.2.2.2.1)), ((a 6), .inl (D.1 100, 11, .inl mg.2.2.2.2.2.2)), ((a 7), .inl (D.1 101, 3721, .inr (.inl mc))), ((a 8), .inl (D.1 100, 26, .inl ml.1)), ((a 9), .inl (D.1 101, 12, .inr (.inl mq.1))), ((a 10), .inl (D.1 101, 12, .inr (.inl mq.2.1))), ((a 11), .inl (D.1 100, 60, .inl mr)), ((a 12), .inl (D.1 100, 184, .inl mi.1)), ((a 13), .inl (D.1 102, 2, .inl mi.2))]
def pic_AI (D : va_G) (a0 : Nat) (n : Nat) (f : Nat → Int32) : va_W := [(a0, .inl (D.1 100, n, .inl f))]
theorem ad_X6 (D : va_G) (a : Nat → Nat) (pad : VX5) (now : VX3) (fi : VX3) (se : VX3) (li : VX4) (so : VX4) (lo : VX1) (re : VX2) (ru : VX0) (ot : VX0) (le : Nat → Int32) (pad' : VX5) (now' : VX3) (fi' : VX3) (se' : VX3) (li' : VX4) (so' : VX4) (lo' : VX1) (re' : VX2) (ru' : VX0) (ot' : VX0) (le' : Nat → Int32) : (pic_X6 D a pad now fi se li so lo re ru ot le).map (·.1) = (pic_X6 D a pad' now' fi' se' li' so' lo' re' ru' ot' le').map (·.1) := rfl
theorem ad_X7 (D : va_G) (a : Nat → Nat) (mp : VMp) (mg : VMg) (mc : Nat → Int64) (ml : VMl) (mq : VMq) (mh : VMh) (ms : VMs) (mr : Nat → Int32) (mi : VMi) (mp' : VMp) (mg' : VMg) (mc' : Nat → Int64) (ml' : VMl) (mq' : VMq) (mh' : VMh) (ms' : VMs) (mr' : Nat → Int32) (mi' : VMi) : (pic_X7 D a mp mg mc ml mq mh ms mr mi).map (·.1) = (pic_X7 D a mp' mg' mc' ml' mq' mh' ms' mr' mi').map (·.1) := rfl
theorem inG0 : ∀ w ∈ u_ws RX0 TX0 2, w ∈ G_ := by
  have e : u_ws RX0 TX0 2 = [.lays "NamesByLot$Fraction" "NamesByLot$Fraction" "upper" "J", .lays "NamesByLot$Fraction" "NamesByLot$Fraction" "lower" "J"] := by decide +kernel
  rw [e]
  exact List.forall_mem_cons.mpr ⟨G_mem (i := 221) (by decide +kernel) rfl, List.forall_mem_cons.mpr ⟨G_mem (i := 223) (by decide +kernel) rfl, fun _ h => absurd h List.not_mem_nil⟩⟩
theorem fd0_0 : k_fd 0 0 false .long RX0 TX0 2 := ⟨rfl, inG0, ⟨tyX0, tyX0_ok⟩, nmX0, by decide, by decide +kernel, rfl⟩
theorem fd0_1 : k_fd 0 1 false .long RX0 TX0 2 := ⟨rfl, inG0, ⟨tyX0, tyX0_ok⟩, nmX0, by decide, by decide +kernel, rfl⟩
theorem inG1 : ∀ w ∈ u_ws RX1 TX1 5, w ∈ G_ := by
  have e : u_ws RX1 TX1 5 = [.laysFinal "NamesByLot$Lots" "NamesByLot$Lots" "pascal" "[J", .laysFinal "NamesByLot$Lots" "NamesByLot$Lots" "undoubled" "[J", .lays "NamesByLot$Lots" "NamesByLot$Lots" "singles" "I", .lays "NamesByLot$Lots" "NamesByLot$Lots" "bad" "I", .lays "NamesByLot$Lots" "NamesByLot$Lots" "pairs" "I"] := by decide +kernel
  rw [e]
  exact List.forall_mem_cons.mpr ⟨G_mem (i := 183) (by decide +kernel) rfl, List.forall_mem_cons.mpr ⟨G_mem (i := 185) (by decide +kernel) rfl, List.forall_mem_cons.mpr ⟨G_mem (i := 187) (by decide +kernel) rfl, List.forall_mem_cons.mpr ⟨G_mem (i := 189) (by decide +kernel) rfl, List.forall_mem_cons.mpr ⟨G_mem (i := 191) (by decide +kernel) rfl, fun _ h => absurd h List.not_mem_nil⟩⟩⟩⟩⟩
theorem fd1_0 : k_fd 1 0 true (.array .long) RX1 TX1 5 := ⟨rfl, inG1, ⟨tyX1, tyX1_ok⟩, nmX1, by decide, by decide +kernel, rfl⟩
theorem fd1_1 : k_fd 1 1 true (.array .long) RX1 TX1 5 := ⟨rfl, inG1, ⟨tyX1, tyX1_ok⟩, nmX1, by decide, by decide +kernel, rfl⟩
theorem fd1_2 : k_fd 1 2 false .int RX1 TX1 5 := ⟨rfl, inG1, ⟨tyX1, tyX1_ok⟩, nmX1, by decide, by decide +kernel, rfl⟩
theorem fd1_3 : k_fd 1 3 false .int RX1 TX1 5 := ⟨rfl, inG1, ⟨tyX1, tyX1_ok⟩, nmX1, by decide, by decide +kernel, rfl⟩
theorem fd1_4 : k_fd 1 4 false .int RX1 TX1 5 := ⟨rfl, inG1, ⟨tyX1, tyX1_ok⟩, nmX1, by decide, by decide +kernel, rfl⟩
theorem inG2 : ∀ w ∈ u_ws RX2 TX2 3, w ∈ G_ := by
  have e : u_ws RX2 TX2 3 = [.laysFinal "NamesByLot$Reckoner" "NamesByLot$Reckoner" "uppers" "[J", .laysFinal "NamesByLot$Reckoner" "NamesByLot$Reckoner" "lowers" "[J", .lays "NamesByLot$Reckoner" "NamesByLot$Reckoner" "depth" "I"] := by decide +kernel
  rw [e]
  exact List.forall_mem_cons.mpr ⟨G_mem (i := 204) (by decide +kernel) rfl, List.forall_mem_cons.mpr ⟨G_mem (i := 206) (by decide +kernel) rfl, List.forall_mem_cons.mpr ⟨G_mem (i := 208) (by decide +kernel) rfl, fun _ h => absurd h List.not_mem_nil⟩⟩⟩
theorem fd2_0 : k_fd 2 0 true (.array .long) RX2 TX2 3 := ⟨rfl, inG2, ⟨tyX2, tyX2_ok⟩, nmX2, by decide, by decide +kernel, rfl⟩
theorem fd2_1 : k_fd 2 1 true (.array .long) RX2 TX2 3 := ⟨rfl, inG2, ⟨tyX2, tyX2_ok⟩, nmX2, by decide, by decide +kernel, rfl⟩
theorem fd2_2 : k_fd 2 2 false .int RX2 TX2 3 := ⟨rfl, inG2, ⟨tyX2, tyX2_ok⟩, nmX2, by decide, by decide +kernel, rfl⟩
theorem inG3 : ∀ w ∈ u_ws RX3 TX3 7, w ∈ G_ := by
  have e : u_ws RX3 TX3 7 = [.laysFinal "NamesByLot$Register" "NamesByLot$Register" "signs" "[I", .laysFinal "NamesByLot$Register" "NamesByLot$Register" "sizes" "[I", .laysFinal "NamesByLot$Register" "NamesByLot$Register" "gatherers" "[I", .laysFinal "NamesByLot$Register" "NamesByLot$Register" "formula" "LNamesByLot$Text;", .lays "NamesByLot$Register" "NamesByLot$Register" "struck" "I", .lays "NamesByLot$Register" "NamesByLot$Register" "needed" "I", .lays "NamesByLot$Register" "NamesByLot$Register" "kept" "Z"] := by decide +kernel
  rw [e]
  exact List.forall_mem_cons.mpr ⟨G_mem (i := 117) (by decide +kernel) rfl, List.forall_mem_cons.mpr ⟨G_mem (i := 119) (by decide +kernel) rfl, List.forall_mem_cons.mpr ⟨G_mem (i := 121) (by decide +kernel) rfl, List.forall_mem_cons.mpr ⟨G_mem (i := 123) (by decide +kernel) rfl, List.forall_mem_cons.mpr ⟨G_mem (i := 125) (by decide +kernel) rfl, List.forall_mem_cons.mpr ⟨G_mem (i := 127) (by decide +kernel) rfl, List.forall_mem_cons.mpr ⟨G_mem (i := 129) (by decide +kernel) rfl, fun _ h => absurd h List.not_mem_nil⟩⟩⟩⟩⟩⟩⟩
theorem fd3_0 : k_fd 3 0 true (.array .int) RX3 TX3 7 := ⟨rfl, inG3, ⟨tyX3, tyX3_ok⟩, nmX3, by decide, by decide +kernel, rfl⟩
theorem fd3_1 : k_fd 3 1 true (.array .int) RX3 TX3 7 := ⟨rfl, inG3, ⟨tyX3, tyX3_ok⟩, nmX3, by decide, by decide +kernel, rfl⟩
theorem fd3_2 : k_fd 3 2 true (.array .int) RX3 TX3 7 := ⟨rfl, inG3, ⟨tyX3, tyX3_ok⟩, nmX3, by decide, by decide +kernel, rfl⟩
theorem fd3_3 : k_fd 3 3 true (.object "NamesByLot$Text") RX3 TX3 7 := ⟨rfl, inG3, ⟨tyX3, tyX3_ok⟩, nmX3, by decide, by decide +kernel, rfl⟩
theorem fd3_4 : k_fd 3 4 false .int RX3 TX3 7 := ⟨rfl, inG3, ⟨tyX3, tyX3_ok⟩, nmX3, by decide, by decide +kernel, rfl⟩
theorem fd3_5 : k_fd 3 5 false .int RX3 TX3 7 := ⟨rfl, inG3, ⟨tyX3, tyX3_ok⟩, nmX3, by decide, by decide +kernel, rfl⟩
theorem fd3_6 : k_fd 3 6 false .boolean RX3 TX3 7 := ⟨rfl, inG3, ⟨tyX3, tyX3_ok⟩, nmX3, by decide, by decide +kernel, rfl⟩
theorem inG4 : ∀ w ∈ u_ws RX4 TX4 7, w ∈ G_ := by
  have e : u_ws RX4 TX4 7 = [.laysFinal "NamesByLot$Tally" "NamesByLot$Tally" "seen" "[I", .lays "NamesByLot$Tally" "NamesByLot$Tally" "all" "I", .lays "NamesByLot$Tally" "NamesByLot$Tally" "bad" "I", .lays "NamesByLot$Tally" "NamesByLot$Tally" "dots" "I", .lays "NamesByLot$Tally" "NamesByLot$Tally" "once" "I", .lays "NamesByLot$Tally" "NamesByLot$Tally" "pairs" "I", .lays "NamesByLot$Tally" "NamesByLot$Tally" "overfull" "Z"] := by decide +kernel
  rw [e]
  exact List.forall_mem_cons.mpr ⟨G_mem (i := 151) (by decide +kernel) rfl, List.forall_mem_cons.mpr ⟨G_mem (i := 153) (by decide +kernel) rfl, List.forall_mem_cons.mpr ⟨G_mem (i := 155) (by decide +kernel) rfl, List.forall_mem_cons.mpr ⟨G_mem (i := 157) (by decide +kernel) rfl, List.forall_mem_cons.mpr ⟨G_mem (i := 159) (by decide +kernel) rfl, List.forall_mem_cons.mpr ⟨G_mem (i := 161) (by decide +kernel) rfl, List.forall_mem_cons.mpr ⟨G_mem (i := 163) (by decide +kernel) rfl, fun _ h => absurd h List.not_mem_nil⟩⟩⟩⟩⟩⟩⟩
theorem fd4_0 : k_fd 4 0 true (.array .int) RX4 TX4 7 := ⟨rfl, inG4, ⟨tyX4, tyX4_ok⟩, nmX4, by decide, by decide +kernel, rfl⟩
theorem fd4_1 : k_fd 4 1 false .int RX4 TX4 7 := ⟨rfl, inG4, ⟨tyX4, tyX4_ok⟩, nmX4, by decide, by decide +kernel, rfl⟩
theorem fd4_2 : k_fd 4 2 false .int RX4 TX4 7 := ⟨rfl, inG4, ⟨tyX4, tyX4_ok⟩, nmX4, by decide, by decide +kernel, rfl⟩
theorem fd4_3 : k_fd 4 3 false .int RX4 TX4 7 := ⟨rfl, inG4, ⟨tyX4, tyX4_ok⟩, nmX4, by decide, by decide +kernel, rfl⟩
theorem fd4_4 : k_fd 4 4 false .int RX4 TX4 7 := ⟨rfl, inG4, ⟨tyX4, tyX4_ok⟩, nmX4, by decide, by decide +kernel, rfl⟩
theorem fd4_5 : k_fd 4 5 false .int RX4 TX4 7 := ⟨rfl, inG4, ⟨tyX4, tyX4_ok⟩, nmX4, by decide, by decide +kernel, rfl⟩
theorem fd4_6 : k_fd 4 6 false .boolean RX4 TX4 7 := ⟨rfl, inG4, ⟨tyX4, tyX4_ok⟩, nmX4, by decide, by decide +kernel, rfl⟩
theorem inG5 : ∀ w ∈ u_ws RX5 TX5 2, w ∈ G_ := by
  have e : u_ws RX5 TX5 2 = [.laysFinal "NamesByLot$Text" "NamesByLot$Text" "signs" "[I", .lays "NamesByLot$Text" "NamesByLot$Text" "size" "I"] := by decide +kernel
  rw [e]
  exact List.forall_mem_cons.mpr ⟨G_mem (i := 38) (by decide +kernel) rfl, List.forall_mem_cons.mpr ⟨G_mem (i := 40) (by decide +kernel) rfl, fun _ h => absurd h List.not_mem_nil⟩⟩
theorem fd5_0 : k_fd 5 0 true (.array .int) RX5 TX5 2 := ⟨rfl, inG5, ⟨tyX5, tyX5_ok⟩, nmX5, by decide, by decide +kernel, rfl⟩
theorem fd5_1 : k_fd 5 1 false .int RX5 TX5 2 := ⟨rfl, inG5, ⟨tyX5, tyX5_ok⟩, nmX5, by decide, by decide +kernel, rfl⟩
theorem inG6 : ∀ w ∈ u_ws RX6 TX6 11, w ∈ G_ := by
  have e : u_ws RX6 TX6 11 = [.laysFinal "NamesByLot" "NamesByLot" "pad" "LNamesByLot$Text;", .laysFinal "NamesByLot" "NamesByLot" "now" "LNamesByLot$Register;", .laysFinal "NamesByLot" "NamesByLot" "firstImage" "LNamesByLot$Register;", .laysFinal "NamesByLot" "NamesByLot" "secondImage" "LNamesByLot$Register;", .laysFinal "NamesByLot" "NamesByLot" "list" "LNamesByLot$Tally;", .laysFinal "NamesByLot" "NamesByLot" "some" "LNamesByLot$Tally;", .laysFinal "NamesByLot" "NamesByLot" "lots" "LNamesByLot$Lots;", .laysFinal "NamesByLot" "NamesByLot" "reckoner" "LNamesByLot$Reckoner;", .laysFinal "NamesByLot" "NamesByLot" "result" "LNamesByLot$Fraction;", .laysFinal "NamesByLot" "NamesByLot" "other" "LNamesByLot$Fraction;", .laysFinal "NamesByLot" "NamesByLot" "left" "[I"] := by decide +kernel
  rw [e]
  exact List.forall_mem_cons.mpr ⟨G_mem (i := 237) (by decide +kernel) rfl, List.forall_mem_cons.mpr ⟨G_mem (i := 239) (by decide +kernel) rfl, List.forall_mem_cons.mpr ⟨G_mem (i := 241) (by decide +kernel) rfl, List.forall_mem_cons.mpr ⟨G_mem (i := 243) (by decide +kernel) rfl, List.forall_mem_cons.mpr ⟨G_mem (i := 245) (by decide +kernel) rfl, List.forall_mem_cons.mpr ⟨G_mem (i := 247) (by decide +kernel) rfl, List.forall_mem_cons.mpr ⟨G_mem (i := 249) (by decide +kernel) rfl, List.forall_mem_cons.mpr ⟨G_mem (i := 251) (by decide +kernel) rfl, List.forall_mem_cons.mpr ⟨G_mem (i := 253) (by decide +kernel) rfl, List.forall_mem_cons.mpr ⟨G_mem (i := 255) (by decide +kernel) rfl, List.forall_mem_cons.mpr ⟨G_mem (i := 257) (by decide +kernel) rfl, fun _ h => absurd h List.not_mem_nil⟩⟩⟩⟩⟩⟩⟩⟩⟩⟩⟩
theorem fd6_0 : k_fd 6 0 true (.object "NamesByLot$Text") RX6 TX6 11 := ⟨rfl, inG6, ⟨tyX6, tyX6_ok⟩, nmX6, by decide, by decide +kernel, rfl⟩
theorem fd6_1 : k_fd 6 1 true (.object "NamesByLot$Register") RX6 TX6 11 := ⟨rfl, inG6, ⟨tyX6, tyX6_ok⟩, nmX6, by decide, by decide +kernel, rfl⟩
theorem fd6_2 : k_fd 6 2 true (.object "NamesByLot$Register") RX6 TX6 11 := ⟨rfl, inG6, ⟨tyX6, tyX6_ok⟩, nmX6, by decide, by decide +kernel, rfl⟩
theorem fd6_3 : k_fd 6 3 true (.object "NamesByLot$Register") RX6 TX6 11 := ⟨rfl, inG6, ⟨tyX6, tyX6_ok⟩, nmX6, by decide, by decide +kernel, rfl⟩
theorem fd6_4 : k_fd 6 4 true (.object "NamesByLot$Tally") RX6 TX6 11 := ⟨rfl, inG6, ⟨tyX6, tyX6_ok⟩, nmX6, by decide, by decide +kernel, rfl⟩
theorem fd6_5 : k_fd 6 5 true (.object "NamesByLot$Tally") RX6 TX6 11 := ⟨rfl, inG6, ⟨tyX6, tyX6_ok⟩, nmX6, by decide, by decide +kernel, rfl⟩
theorem fd6_6 : k_fd 6 6 true (.object "NamesByLot$Lots") RX6 TX6 11 := ⟨rfl, inG6, ⟨tyX6, tyX6_ok⟩, nmX6, by decide, by decide +kernel, rfl⟩
theorem fd6_7 : k_fd 6 7 true (.object "NamesByLot$Reckoner") RX6 TX6 11 := ⟨rfl, inG6, ⟨tyX6, tyX6_ok⟩, nmX6, by decide, by decide +kernel, rfl⟩
theorem fd6_8 : k_fd 6 8 true (.object "NamesByLot$Fraction") RX6 TX6 11 := ⟨rfl, inG6, ⟨tyX6, tyX6_ok⟩, nmX6, by decide, by decide +kernel, rfl⟩
theorem fd6_9 : k_fd 6 9 true (.object "NamesByLot$Fraction") RX6 TX6 11 := ⟨rfl, inG6, ⟨tyX6, tyX6_ok⟩, nmX6, by decide, by decide +kernel, rfl⟩
theorem fd6_10 : k_fd 6 10 true (.array .int) RX6 TX6 11 := ⟨rfl, inG6, ⟨tyX6, tyX6_ok⟩, nmX6, by decide, by decide +kernel, rfl⟩
theorem inG7 : ∀ w ∈ u_ws RX7 TX7 28, w ∈ G_ := by
  have e : u_ws RX7 TX7 28 = [.lays "NamesByLotModel" "NamesByLotModel" "signs" "I", .laysFinal "NamesByLotModel" "NamesByLotModel" "pad" "[I", .laysFinal "NamesByLotModel" "NamesByLotModel" "gatherers" "[I", .laysFinal "NamesByLotModel" "NamesByLotModel" "struck" "[I", .laysFinal "NamesByLotModel" "NamesByLotModel" "sizes" "[I", .laysFinal "NamesByLotModel" "NamesByLotModel" "sheets" "[I", .lays "NamesByLotModel" "NamesByLotModel" "need" "I", .lays "NamesByLotModel" "NamesByLotModel" "ruleSigns" "I", .laysFinal "NamesByLotModel" "NamesByLotModel" "rule" "[I", .laysFinal "NamesByLotModel" "NamesByLotModel" "choose" "[J", .lays "NamesByLotModel" "NamesByLotModel" "all" "I", .lays "NamesByLotModel" "NamesByLotModel" "bad" "I", .lays "NamesByLotModel" "NamesByLotModel" "dots" "I", .lays "NamesByLotModel" "NamesByLotModel" "once" "I", .lays "NamesByLotModel" "NamesByLotModel" "pairs" "I", .lays "NamesByLotModel" "NamesByLotModel" "isOver" "Z", .laysFinal "NamesByLotModel" "NamesByLotModel" "people" "[I", .laysFinal "NamesByLotModel" "NamesByLotModel" "pileUp" "[J", .laysFinal "NamesByLotModel" "NamesByLotModel" "pileLow" "[J", .lays "NamesByLotModel" "NamesByLotModel" "cameUp" "J", .lays "NamesByLotModel" "NamesByLotModel" "cameLow" "J", .lays "NamesByLotModel" "NamesByLotModel" "his" "I", .lays "NamesByLotModel" "NamesByLotModel" "hisBad" "I", .lays "NamesByLotModel" "NamesByLotModel" "seemsUp" "J", .lays "NamesByLotModel" "NamesByLotModel" "seemsLow" "J", .laysFinal "NamesByLotModel" "NamesByLotModel" "row" "[I", .laysFinal "NamesByLotModel" "NamesByLotModel" "image" "[I", .laysFinal "NamesByLotModel" "NamesByLotModel" "isKept" "[Z"] := by decide +kernel
  rw [e]
  exact List.forall_mem_cons.mpr ⟨G_mem (i := 723) (by decide +kernel) rfl, List.forall_mem_cons.mpr ⟨G_mem (i := 725) (by decide +kernel) rfl, List.forall_mem_cons.mpr ⟨G_mem (i := 727) (by decide +kernel) rfl, List.forall_mem_cons.mpr ⟨G_mem (i := 729) (by decide +kernel) rfl, List.forall_mem_cons.mpr ⟨G_mem (i := 731) (by decide +kernel) rfl, List.forall_mem_cons.mpr ⟨G_mem (i := 733) (by decide +kernel) rfl, List.forall_mem_cons.mpr ⟨G_mem (i := 735) (by decide +kernel) rfl, List.forall_mem_cons.mpr ⟨G_mem (i := 737) (by decide +kernel) rfl, List.forall_mem_cons.mpr ⟨G_mem (i := 739) (by decide +kernel) rfl, List.forall_mem_cons.mpr ⟨G_mem (i := 741) (by decide +kernel) rfl, List.forall_mem_cons.mpr ⟨G_mem (i := 743) (by decide +kernel) rfl, List.forall_mem_cons.mpr ⟨G_mem (i := 745) (by decide +kernel) rfl, List.forall_mem_cons.mpr ⟨G_mem (i := 747) (by decide +kernel) rfl, List.forall_mem_cons.mpr ⟨G_mem (i := 749) (by decide +kernel) rfl, List.forall_mem_cons.mpr ⟨G_mem (i := 751) (by decide +kernel) rfl, List.forall_mem_cons.mpr ⟨G_mem (i := 753) (by decide +kernel) rfl, List.forall_mem_cons.mpr ⟨G_mem (i := 755) (by decide +kernel) rfl, List.forall_mem_cons.mpr ⟨G_mem (i := 757) (by decide +kernel) rfl, List.forall_mem_cons.mpr ⟨G_mem (i := 759) (by decide +kernel) rfl, List.forall_mem_cons.mpr ⟨G_mem (i := 761) (by decide +kernel) rfl, List.forall_mem_cons.mpr ⟨G_mem (i := 763) (by decide +kernel) rfl, List.forall_mem_cons.mpr ⟨G_mem (i := 765) (by decide +kernel) rfl, List.forall_mem_cons.mpr ⟨G_mem (i := 767) (by decide +kernel) rfl, List.forall_mem_cons.mpr ⟨G_mem (i := 769) (by decide +kernel) rfl, List.forall_mem_cons.mpr ⟨G_mem (i := 771) (by decide +kernel) rfl, List.forall_mem_cons.mpr ⟨G_mem (i := 773) (by decide +kernel) rfl, List.forall_mem_cons.mpr ⟨G_mem (i := 775) (by decide +kernel) rfl, List.forall_mem_cons.mpr ⟨G_mem (i := 777) (by decide +kernel) rfl, fun _ h => absurd h List.not_mem_nil⟩⟩⟩⟩⟩⟩⟩⟩⟩⟩⟩⟩⟩⟩⟩⟩⟩⟩⟩⟩⟩⟩⟩⟩⟩⟩⟩⟩
theorem fd7_0 : k_fd 7 0 false .int RX7 TX7 28 := ⟨rfl, inG7, ⟨tyX7, tyX7_ok⟩, nmX7, by decide, by decide +kernel, rfl⟩
theorem fd7_1 : k_fd 7 1 true (.array .int) RX7 TX7 28 := ⟨rfl, inG7, ⟨tyX7, tyX7_ok⟩, nmX7, by decide, by decide +kernel, rfl⟩
theorem fd7_2 : k_fd 7 2 true (.array .int) RX7 TX7 28 := ⟨rfl, inG7, ⟨tyX7, tyX7_ok⟩, nmX7, by decide, by decide +kernel, rfl⟩
theorem fd7_3 : k_fd 7 3 true (.array .int) RX7 TX7 28 := ⟨rfl, inG7, ⟨tyX7, tyX7_ok⟩, nmX7, by decide, by decide +kernel, rfl⟩
theorem fd7_4 : k_fd 7 4 true (.array .int) RX7 TX7 28 := ⟨rfl, inG7, ⟨tyX7, tyX7_ok⟩, nmX7, by decide, by decide +kernel, rfl⟩
theorem fd7_5 : k_fd 7 5 true (.array .int) RX7 TX7 28 := ⟨rfl, inG7, ⟨tyX7, tyX7_ok⟩, nmX7, by decide, by decide +kernel, rfl⟩
theorem fd7_6 : k_fd 7 6 false .int RX7 TX7 28 := ⟨rfl, inG7, ⟨tyX7, tyX7_ok⟩, nmX7, by decide, by decide +kernel, rfl⟩
theorem fd7_7 : k_fd 7 7 false .int RX7 TX7 28 := ⟨rfl, inG7, ⟨tyX7, tyX7_ok⟩, nmX7, by decide, by decide +kernel, rfl⟩
theorem fd7_8 : k_fd 7 8 true (.array .int) RX7 TX7 28 := ⟨rfl, inG7, ⟨tyX7, tyX7_ok⟩, nmX7, by decide, by decide +kernel, rfl⟩
theorem fd7_9 : k_fd 7 9 true (.array .long) RX7 TX7 28 := ⟨rfl, inG7, ⟨tyX7, tyX7_ok⟩, nmX7, by decide, by decide +kernel, rfl⟩
theorem fd7_10 : k_fd 7 10 false .int RX7 TX7 28 := ⟨rfl, inG7, ⟨tyX7, tyX7_ok⟩, nmX7, by decide, by decide +kernel, rfl⟩
theorem fd7_11 : k_fd 7 11 false .int RX7 TX7 28 := ⟨rfl, inG7, ⟨tyX7, tyX7_ok⟩, nmX7, by decide, by decide +kernel, rfl⟩
theorem fd7_12 : k_fd 7 12 false .int RX7 TX7 28 := ⟨rfl, inG7, ⟨tyX7, tyX7_ok⟩, nmX7, by decide, by decide +kernel, rfl⟩
theorem fd7_13 : k_fd 7 13 false .int RX7 TX7 28 := ⟨rfl, inG7, ⟨tyX7, tyX7_ok⟩, nmX7, by decide, by decide +kernel, rfl⟩
theorem fd7_14 : k_fd 7 14 false .int RX7 TX7 28 := ⟨rfl, inG7, ⟨tyX7, tyX7_ok⟩, nmX7, by decide, by decide +kernel, rfl⟩
theorem fd7_15 : k_fd 7 15 false .boolean RX7 TX7 28 := ⟨rfl, inG7, ⟨tyX7, tyX7_ok⟩, nmX7, by decide, by decide +kernel, rfl⟩
theorem fd7_16 : k_fd 7 16 true (.array .int) RX7 TX7 28 := ⟨rfl, inG7, ⟨tyX7, tyX7_ok⟩, nmX7, by decide, by decide +kernel, rfl⟩
theorem fd7_17 : k_fd 7 17 true (.array .long) RX7 TX7 28 := ⟨rfl, inG7, ⟨tyX7, tyX7_ok⟩, nmX7, by decide, by decide +kernel, rfl⟩
theorem fd7_18 : k_fd 7 18 true (.array .long) RX7 TX7 28 := ⟨rfl, inG7, ⟨tyX7, tyX7_ok⟩, nmX7, by decide, by decide +kernel, rfl⟩
theorem fd7_19 : k_fd 7 19 false .long RX7 TX7 28 := ⟨rfl, inG7, ⟨tyX7, tyX7_ok⟩, nmX7, by decide, by decide +kernel, rfl⟩
theorem fd7_20 : k_fd 7 20 false .long RX7 TX7 28 := ⟨rfl, inG7, ⟨tyX7, tyX7_ok⟩, nmX7, by decide, by decide +kernel, rfl⟩
theorem fd7_21 : k_fd 7 21 false .int RX7 TX7 28 := ⟨rfl, inG7, ⟨tyX7, tyX7_ok⟩, nmX7, by decide, by decide +kernel, rfl⟩
theorem fd7_22 : k_fd 7 22 false .int RX7 TX7 28 := ⟨rfl, inG7, ⟨tyX7, tyX7_ok⟩, nmX7, by decide, by decide +kernel, rfl⟩
theorem fd7_23 : k_fd 7 23 false .long RX7 TX7 28 := ⟨rfl, inG7, ⟨tyX7, tyX7_ok⟩, nmX7, by decide, by decide +kernel, rfl⟩
theorem fd7_24 : k_fd 7 24 false .long RX7 TX7 28 := ⟨rfl, inG7, ⟨tyX7, tyX7_ok⟩, nmX7, by decide, by decide +kernel, rfl⟩
theorem fd7_25 : k_fd 7 25 true (.array .int) RX7 TX7 28 := ⟨rfl, inG7, ⟨tyX7, tyX7_ok⟩, nmX7, by decide, by decide +kernel, rfl⟩
theorem fd7_26 : k_fd 7 26 true (.array .int) RX7 TX7 28 := ⟨rfl, inG7, ⟨tyX7, tyX7_ok⟩, nmX7, by decide, by decide +kernel, rfl⟩
theorem fd7_27 : k_fd 7 27 true (.array .boolean) RX7 TX7 28 := ⟨rfl, inG7, ⟨tyX7, tyX7_ok⟩, nmX7, by decide, by decide +kernel, rfl⟩
theorem kcJ6_265 : Cond.constant RJ6 265 (1431655765) ∈ G_ := G_mem (i := 532) (by decide +kernel) rfl
theorem kcJ6_266 : Cond.constant RJ6 266 (858993459) ∈ G_ := G_mem (i := 533) (by decide +kernel) rfl
theorem kcJ6_267 : Cond.constant RJ6 267 (252645135) ∈ G_ := G_mem (i := 534) (by decide +kernel) rfl
theorem kcX1_49 : Cond.constantLong RX1 49 (2) ∈ G_ := G_mem (i := 484) (by decide +kernel) rfl
theorem kcX6_150 : Cond.constantLong RX6 150 (-1000000000000000002) ∈ G_ := G_mem (i := 402) (by decide +kernel) rfl
theorem kcX6_156 : Cond.constantLong RX6 156 (-1000000000000000005) ∈ G_ := G_mem (i := 427) (by decide +kernel) rfl
theorem kcX6_175 : Cond.constantLong RX6 175 (-1000000000000000000) ∈ G_ := G_mem (i := 456) (by decide +kernel) rfl
theorem kcX6_195 : Cond.constantLong RX6 195 (-1000000000000000003) ∈ G_ := G_mem (i := 535) (by decide +kernel) rfl
theorem kcX6_221 : Cond.constantLong RX6 221 (-1000000000000000001) ∈ G_ := G_mem (i := 589) (by decide +kernel) rfl
theorem kcX6_272 : Cond.constantLong RX6 272 (2) ∈ G_ := G_mem (i := 641) (by decide +kernel) rfl
theorem kcX6_329 : Cond.constantLong RX6 329 (1000) ∈ G_ := G_mem (i := 563) (by decide +kernel) rfl
theorem kcX6_335 : Cond.constant RX6 335 (65537) ∈ G_ := G_mem (i := 655) (by decide +kernel) rfl
theorem kcX7_132 : Cond.constantLong RX7 132 (-1000000000000000002) ∈ G_ := G_mem (i := 859) (by decide +kernel) rfl
theorem kcX7_134 : Cond.constantLong RX7 134 (-1000000000000000005) ∈ G_ := G_mem (i := 867) (by decide +kernel) rfl
theorem kcX7_154 : Cond.constantLong RX7 154 (-1000000000000000000) ∈ G_ := G_mem (i := 876) (by decide +kernel) rfl
theorem kcX7_168 : Cond.constantLong RX7 168 (-1000000000000000003) ∈ G_ := G_mem (i := 907) (by decide +kernel) rfl
theorem kcX7_173 : Cond.constantLong RX7 173 (1000) ∈ G_ := G_mem (i := 920) (by decide +kernel) rfl
theorem kcX7_193 : Cond.constantLong RX7 193 (-1000000000000000001) ∈ G_ := G_mem (i := 940) (by decide +kernel) rfl
theorem kcX7_209 : Cond.constantLong RX7 209 (2) ∈ G_ := G_mem (i := 984) (by decide +kernel) rfl
theorem kcX7_211 : Cond.constant RX7 211 (65537) ∈ G_ := G_mem (i := 989) (by decide +kernel) rfl
theorem flX0_9 : k_fl RX0 9 0 1 false .long := ⟨RX0, TX0, 2, fd0_1, G_mem (i := 219) (by decide +kernel) rfl, rfl⟩
theorem flX0_19 : k_fl RX0 19 0 0 false .long := ⟨RX0, TX0, 2, fd0_0, G_mem (i := 217) (by decide +kernel) rfl, rfl⟩
theorem flX1_11 : k_fl RX1 11 1 0 true (.array .long) := ⟨RX1, TX1, 5, fd1_0, G_mem (i := 176) (by decide +kernel) rfl, rfl⟩
theorem flX1_15 : k_fl RX1 15 1 1 true (.array .long) := ⟨RX1, TX1, 5, fd1_1, G_mem (i := 177) (by decide +kernel) rfl, rfl⟩
theorem flX1_22 : k_fl RX1 22 1 2 false .int := ⟨RX1, TX1, 5, fd1_2, G_mem (i := 178) (by decide +kernel) rfl, rfl⟩
theorem flX1_26 : k_fl RX1 26 1 3 false .int := ⟨RX1, TX1, 5, fd1_3, G_mem (i := 179) (by decide +kernel) rfl, rfl⟩
theorem flX1_35 : k_fl RX1 35 1 4 false .int := ⟨RX1, TX1, 5, fd1_4, G_mem (i := 181) (by decide +kernel) rfl, rfl⟩
theorem flX2_9 : k_fl RX2 9 2 0 true (.array .long) := ⟨RX2, TX2, 3, fd2_0, G_mem (i := 201) (by decide +kernel) rfl, rfl⟩
theorem flX2_15 : k_fl RX2 15 2 1 true (.array .long) := ⟨RX2, TX2, 3, fd2_1, G_mem (i := 202) (by decide +kernel) rfl, rfl⟩
theorem flX2_18 : k_fl RX2 18 2 2 false .int := ⟨RX2, TX2, 3, fd2_2, G_mem (i := 203) (by decide +kernel) rfl, rfl⟩
theorem flX2_22 : k_flN RX2 22 5 1 false .int := ⟨RX5, TX5, 2, "NamesByLot", fd5_1, k_nest_mem (i := 35) (by decide +kernel) rfl, rfl⟩
theorem flX2_45 : k_flN RX2 45 3 3 true (.object "NamesByLot$Text") := ⟨RX3, TX3, 7, "NamesByLot", fd3_3, k_nest_mem (i := 109) (by decide +kernel) rfl, rfl⟩
theorem flX2_59 : k_flN RX2 59 3 5 false .int := ⟨RX3, TX3, 7, "NamesByLot", fd3_5, k_nest_mem (i := 114) (by decide +kernel) rfl, rfl⟩
theorem flX3_9 : k_fl RX3 9 3 0 true (.array .int) := ⟨RX3, TX3, 7, fd3_0, G_mem (i := 105) (by decide +kernel) rfl, rfl⟩
theorem flX3_15 : k_fl RX3 15 3 1 true (.array .int) := ⟨RX3, TX3, 7, fd3_1, G_mem (i := 106) (by decide +kernel) rfl, rfl⟩
theorem flX3_18 : k_fl RX3 18 3 2 true (.array .int) := ⟨RX3, TX3, 7, fd3_2, G_mem (i := 107) (by decide +kernel) rfl, rfl⟩
theorem flX3_26 : k_fl RX3 26 3 3 true (.object "NamesByLot$Text") := ⟨RX3, TX3, 7, fd3_3, G_mem (i := 108) (by decide +kernel) rfl, rfl⟩
theorem flX3_30 : k_fl RX3 30 3 5 false .int := ⟨RX3, TX3, 7, fd3_5, G_mem (i := 113) (by decide +kernel) rfl, rfl⟩
theorem flX3_58 : k_fl RX3 58 3 4 false .int := ⟨RX3, TX3, 7, fd3_4, G_mem (i := 111) (by decide +kernel) rfl, rfl⟩
theorem flX3_77 : k_flN RX3 77 5 1 false .int := ⟨RX5, TX5, 2, "NamesByLot", fd5_1, k_nest_mem (i := 37) (by decide +kernel) rfl, rfl⟩
theorem flX4_9 : k_fl RX4 9 4 0 true (.array .int) := ⟨RX4, TX4, 7, fd4_0, G_mem (i := 139) (by decide +kernel) rfl, rfl⟩
theorem flX4_15 : k_fl RX4 15 4 1 false .int := ⟨RX4, TX4, 7, fd4_1, G_mem (i := 140) (by decide +kernel) rfl, rfl⟩
theorem flX4_19 : k_fl RX4 19 4 2 false .int := ⟨RX4, TX4, 7, fd4_2, G_mem (i := 142) (by decide +kernel) rfl, rfl⟩
theorem flX4_22 : k_fl RX4 22 4 3 false .int := ⟨RX4, TX4, 7, fd4_3, G_mem (i := 144) (by decide +kernel) rfl, rfl⟩
theorem flX4_25 : k_fl RX4 25 4 4 false .int := ⟨RX4, TX4, 7, fd4_4, G_mem (i := 146) (by decide +kernel) rfl, rfl⟩
theorem flX4_28 : k_fl RX4 28 4 5 false .int := ⟨RX4, TX4, 7, fd4_5, G_mem (i := 147) (by decide +kernel) rfl, rfl⟩
theorem flX4_31 : k_fl RX4 31 4 6 false .boolean := ⟨RX4, TX4, 7, fd4_6, G_mem (i := 149) (by decide +kernel) rfl, rfl⟩
theorem flX5_15 : k_fl RX5 15 5 0 true (.array .int) := ⟨RX5, TX5, 2, fd5_0, G_mem (i := 33) (by decide +kernel) rfl, rfl⟩
theorem flX5_21 : k_fl RX5 21 5 1 false .int := ⟨RX5, TX5, 2, fd5_1, G_mem (i := 34) (by decide +kernel) rfl, rfl⟩
theorem flX6_14 : k_fl RX6 14 6 0 true (.object "NamesByLot$Text") := ⟨RX6, TX6, 11, fd6_0, G_mem (i := 226) (by decide +kernel) rfl, rfl⟩
theorem flX6_21 : k_fl RX6 21 6 1 true (.object "NamesByLot$Register") := ⟨RX6, TX6, 11, fd6_1, G_mem (i := 227) (by decide +kernel) rfl, rfl⟩
theorem flX6_25 : k_fl RX6 25 6 2 true (.object "NamesByLot$Register") := ⟨RX6, TX6, 11, fd6_2, G_mem (i := 228) (by decide +kernel) rfl, rfl⟩
theorem flX6_28 : k_fl RX6 28 6 3 true (.object "NamesByLot$Register") := ⟨RX6, TX6, 11, fd6_3, G_mem (i := 229) (by decide +kernel) rfl, rfl⟩
theorem flX6_34 : k_fl RX6 34 6 4 true (.object "NamesByLot$Tally") := ⟨RX6, TX6, 11, fd6_4, G_mem (i := 230) (by decide +kernel) rfl, rfl⟩
theorem flX6_38 : k_fl RX6 38 6 5 true (.object "NamesByLot$Tally") := ⟨RX6, TX6, 11, fd6_5, G_mem (i := 231) (by decide +kernel) rfl, rfl⟩
theorem flX6_44 : k_fl RX6 44 6 6 true (.object "NamesByLot$Lots") := ⟨RX6, TX6, 11, fd6_6, G_mem (i := 232) (by decide +kernel) rfl, rfl⟩
theorem flX6_51 : k_fl RX6 51 6 7 true (.object "NamesByLot$Reckoner") := ⟨RX6, TX6, 11, fd6_7, G_mem (i := 233) (by decide +kernel) rfl, rfl⟩
theorem flX6_58 : k_fl RX6 58 6 8 true (.object "NamesByLot$Fraction") := ⟨RX6, TX6, 11, fd6_8, G_mem (i := 234) (by decide +kernel) rfl, rfl⟩
theorem flX6_62 : k_fl RX6 62 6 9 true (.object "NamesByLot$Fraction") := ⟨RX6, TX6, 11, fd6_9, G_mem (i := 235) (by decide +kernel) rfl, rfl⟩
theorem flX6_65 : k_fl RX6 65 6 10 true (.array .int) := ⟨RX6, TX6, 11, fd6_10, G_mem (i := 236) (by decide +kernel) rfl, rfl⟩
theorem flX6_77 : k_flN RX6 77 5 1 false .int := ⟨RX5, TX5, 2, "NamesByLot", fd5_1, k_nest_mem (i := 36) (by decide +kernel) rfl, rfl⟩
theorem flX6_118 : k_flN RX6 118 4 1 false .int := ⟨RX4, TX4, 7, "NamesByLot", fd4_1, k_nest_mem (i := 141) (by decide +kernel) rfl, rfl⟩
theorem flX6_121 : k_flN RX6 121 4 2 false .int := ⟨RX4, TX4, 7, "NamesByLot", fd4_2, k_nest_mem (i := 143) (by decide +kernel) rfl, rfl⟩
theorem flX6_124 : k_flN RX6 124 4 6 false .boolean := ⟨RX4, TX4, 7, "NamesByLot", fd4_6, k_nest_mem (i := 150) (by decide +kernel) rfl, rfl⟩
theorem flX6_128 : k_flN RX6 128 4 5 false .int := ⟨RX4, TX4, 7, "NamesByLot", fd4_5, k_nest_mem (i := 148) (by decide +kernel) rfl, rfl⟩
theorem flX6_134 : k_flN RX6 134 3 5 false .int := ⟨RX3, TX3, 7, "NamesByLot", fd3_5, k_nest_mem (i := 115) (by decide +kernel) rfl, rfl⟩
theorem flX6_137 : k_flN RX6 137 3 3 true (.object "NamesByLot$Text") := ⟨RX3, TX3, 7, "NamesByLot", fd3_3, k_nest_mem (i := 110) (by decide +kernel) rfl, rfl⟩
theorem flX6_234 : k_flN RX6 234 0 0 false .long := ⟨RX0, TX0, 2, "NamesByLot", fd0_0, k_nest_mem (i := 218) (by decide +kernel) rfl, rfl⟩
theorem flX6_237 : k_flN RX6 237 0 1 false .long := ⟨RX0, TX0, 2, "NamesByLot", fd0_1, k_nest_mem (i := 220) (by decide +kernel) rfl, rfl⟩
theorem flX6_262 : k_flN RX6 262 4 3 false .int := ⟨RX4, TX4, 7, "NamesByLot", fd4_3, k_nest_mem (i := 145) (by decide +kernel) rfl, rfl⟩
theorem flX6_291 : k_flN RX6 291 3 6 false .boolean := ⟨RX3, TX3, 7, "NamesByLot", fd3_6, k_nest_mem (i := 116) (by decide +kernel) rfl, rfl⟩
theorem flX6_297 : k_flN RX6 297 3 4 false .int := ⟨RX3, TX3, 7, "NamesByLot", fd3_4, k_nest_mem (i := 112) (by decide +kernel) rfl, rfl⟩
theorem flX6_315 : k_flN RX6 315 1 3 false .int := ⟨RX1, TX1, 5, "NamesByLot", fd1_3, k_nest_mem (i := 180) (by decide +kernel) rfl, rfl⟩
theorem flX6_320 : k_flN RX6 320 1 4 false .int := ⟨RX1, TX1, 5, "NamesByLot", fd1_4, k_nest_mem (i := 182) (by decide +kernel) rfl, rfl⟩
theorem flX7_7 : k_fl RX7 7 7 1 true (.array .int) := ⟨RX7, TX7, 28, fd7_1, G_mem (i := 696) (by decide +kernel) rfl, rfl⟩
theorem flX7_13 : k_fl RX7 13 7 2 true (.array .int) := ⟨RX7, TX7, 28, fd7_2, G_mem (i := 697) (by decide +kernel) rfl, rfl⟩
theorem flX7_16 : k_fl RX7 16 7 3 true (.array .int) := ⟨RX7, TX7, 28, fd7_3, G_mem (i := 698) (by decide +kernel) rfl, rfl⟩
theorem flX7_19 : k_fl RX7 19 7 4 true (.array .int) := ⟨RX7, TX7, 28, fd7_4, G_mem (i := 699) (by decide +kernel) rfl, rfl⟩
theorem flX7_22 : k_fl RX7 22 7 5 true (.array .int) := ⟨RX7, TX7, 28, fd7_5, G_mem (i := 700) (by decide +kernel) rfl, rfl⟩
theorem flX7_25 : k_fl RX7 25 7 6 false .int := ⟨RX7, TX7, 28, fd7_6, G_mem (i := 701) (by decide +kernel) rfl, rfl⟩
theorem flX7_29 : k_fl RX7 29 7 7 false .int := ⟨RX7, TX7, 28, fd7_7, G_mem (i := 702) (by decide +kernel) rfl, rfl⟩
theorem flX7_32 : k_fl RX7 32 7 8 true (.array .int) := ⟨RX7, TX7, 28, fd7_8, G_mem (i := 703) (by decide +kernel) rfl, rfl⟩
theorem flX7_35 : k_fl RX7 35 7 9 true (.array .long) := ⟨RX7, TX7, 28, fd7_9, G_mem (i := 704) (by decide +kernel) rfl, rfl⟩
theorem flX7_39 : k_fl RX7 39 7 16 true (.array .int) := ⟨RX7, TX7, 28, fd7_16, G_mem (i := 711) (by decide +kernel) rfl, rfl⟩
theorem flX7_42 : k_fl RX7 42 7 17 true (.array .long) := ⟨RX7, TX7, 28, fd7_17, G_mem (i := 712) (by decide +kernel) rfl, rfl⟩
theorem flX7_45 : k_fl RX7 45 7 18 true (.array .long) := ⟨RX7, TX7, 28, fd7_18, G_mem (i := 713) (by decide +kernel) rfl, rfl⟩
theorem flX7_48 : k_fl RX7 48 7 25 true (.array .int) := ⟨RX7, TX7, 28, fd7_25, G_mem (i := 720) (by decide +kernel) rfl, rfl⟩
theorem flX7_51 : k_fl RX7 51 7 26 true (.array .int) := ⟨RX7, TX7, 28, fd7_26, G_mem (i := 721) (by decide +kernel) rfl, rfl⟩
theorem flX7_54 : k_fl RX7 54 7 27 true (.array .boolean) := ⟨RX7, TX7, 28, fd7_27, G_mem (i := 722) (by decide +kernel) rfl, rfl⟩
theorem flX7_66 : k_fl RX7 66 7 0 false .int := ⟨RX7, TX7, 28, fd7_0, G_mem (i := 695) (by decide +kernel) rfl, rfl⟩
theorem flX7_89 : k_fl RX7 89 7 10 false .int := ⟨RX7, TX7, 28, fd7_10, G_mem (i := 705) (by decide +kernel) rfl, rfl⟩
theorem flX7_92 : k_fl RX7 92 7 11 false .int := ⟨RX7, TX7, 28, fd7_11, G_mem (i := 706) (by decide +kernel) rfl, rfl⟩
theorem flX7_95 : k_fl RX7 95 7 12 false .int := ⟨RX7, TX7, 28, fd7_12, G_mem (i := 707) (by decide +kernel) rfl, rfl⟩
theorem flX7_98 : k_fl RX7 98 7 13 false .int := ⟨RX7, TX7, 28, fd7_13, G_mem (i := 708) (by decide +kernel) rfl, rfl⟩
theorem flX7_101 : k_fl RX7 101 7 14 false .int := ⟨RX7, TX7, 28, fd7_14, G_mem (i := 709) (by decide +kernel) rfl, rfl⟩
theorem flX7_104 : k_fl RX7 104 7 15 false .boolean := ⟨RX7, TX7, 28, fd7_15, G_mem (i := 710) (by decide +kernel) rfl, rfl⟩
theorem flX7_118 : k_fl RX7 118 7 19 false .long := ⟨RX7, TX7, 28, fd7_19, G_mem (i := 714) (by decide +kernel) rfl, rfl⟩
theorem flX7_122 : k_fl RX7 122 7 20 false .long := ⟨RX7, TX7, 28, fd7_20, G_mem (i := 715) (by decide +kernel) rfl, rfl⟩
theorem flX7_175 : k_fl RX7 175 7 21 false .int := ⟨RX7, TX7, 28, fd7_21, G_mem (i := 716) (by decide +kernel) rfl, rfl⟩
theorem flX7_178 : k_fl RX7 178 7 22 false .int := ⟨RX7, TX7, 28, fd7_22, G_mem (i := 717) (by decide +kernel) rfl, rfl⟩
theorem flX7_187 : k_fl RX7 187 7 23 false .long := ⟨RX7, TX7, 28, fd7_23, G_mem (i := 718) (by decide +kernel) rfl, rfl⟩
theorem flX7_190 : k_fl RX7 190 7 24 false .long := ⟨RX7, TX7, 28, fd7_24, G_mem (i := 719) (by decide +kernel) rfl, rfl⟩
theorem mlX0_15 : Cond.methodLink RX0 15 yX0_commonDivisor ∈ G_ := G_mem (i := 440) (by decide +kernel) rfl
theorem mlX0_22 : Cond.methodLink RX0 22 yX0_become ∈ G_ := G_mem (i := 572) (by decide +kernel) rfl
theorem mlX0_26 : Cond.methodLink RX0 26 Lib.MathLoose.abs_long.x ∈ G_ := G_mem (i := 443) (by decide +kernel) rfl
theorem mlX1_18 : Cond.methodLink RX1 18 yX1_choose ∈ G_ := G_mem (i := 172) (by decide +kernel) rfl
theorem mlX1_29 : Cond.methodLink RX1 29 Lib.Math.min.name ∈ G_ := G_mem (i := 469) (by decide +kernel) rfl
theorem mlX1_38 : Cond.methodLink RX1 38 yX1_write ∈ G_ := G_mem (i := 472) (by decide +kernel) rfl
theorem mlX1_42 : Cond.methodLink RX1 42 yX1_people ∈ G_ := G_mem (i := 476) (by decide +kernel) rfl
theorem mlX1_46 : Cond.methodLink RX1 46 yX1_read ∈ G_ := G_mem (i := 480) (by decide +kernel) rfl
theorem mlX1_51 : Cond.methodLink RX1 51 yX1_valid ∈ G_ := G_mem (i := 504) (by decide +kernel) rfl
theorem mlX1_55 : Cond.methodLink RX1 55 Lib.Math.max.name ∈ G_ := G_mem (i := 499) (by decide +kernel) rfl
theorem mlX2_27 : Cond.methodLink RX2 27 yX5_signAt ∈ G_ := G_mem (i := 407) (by decide +kernel) rfl
theorem mlX2_31 : Cond.methodLinkNest RX2 31 yX6_isOperator "NamesByLot" ∈ k_nest := k_nest_mem (i := 408) (by decide +kernel) rfl
theorem mlX2_35 : Cond.methodLink RX2 35 yX2_combine ∈ G_ := G_mem (i := 409) (by decide +kernel) rfl
theorem mlX2_38 : Cond.methodLink RX2 38 yX2_valueOf ∈ G_ := G_mem (i := 420) (by decide +kernel) rfl
theorem mlX2_42 : Cond.methodLink RX2 42 yX2_push ∈ G_ := G_mem (i := 423) (by decide +kernel) rfl
theorem mlX2_51 : Cond.methodLink RX2 51 yX2_reckon ∈ G_ := G_mem (i := 509) (by decide +kernel) rfl
theorem mlX2_55 : Cond.methodLink RX2 55 yX2_upper ∈ G_ := G_mem (i := 510) (by decide +kernel) rfl
theorem mlX2_62 : Cond.methodLink RX2 62 yX2_lower ∈ G_ := G_mem (i := 511) (by decide +kernel) rfl
theorem mlX2_65 : Cond.methodLink RX2 65 yX2_put ∈ G_ := G_mem (i := 413) (by decide +kernel) rfl
theorem mlX2_69 : Cond.methodLink RX2 69 Lib.MathLoose.abs_long.x ∈ G_ := G_mem (i := 417) (by decide +kernel) rfl
theorem mlX3_50 : Cond.methodLink RX3 50 yX3_copy ∈ G_ := G_mem (i := 673) (by decide +kernel) rfl
theorem mlX3_54 : Cond.methodLink RX3 54 yX5_become ∈ G_ := G_mem (i := 680) (by decide +kernel) rfl
theorem mlX3_61 : Cond.methodLink RX3 61 Lib.Math.min.name ∈ G_ := G_mem (i := 676) (by decide +kernel) rfl
theorem mlX3_67 : Cond.methodLink RX3 67 arraycopyName ∈ G_ := G_mem (i := 677) (by decide +kernel) rfl
theorem mlX3_73 : Cond.methodLink RX3 73 yX3_sizeOf ∈ G_ := G_mem (i := 345) (by decide +kernel) rfl
theorem mlX3_80 : Cond.methodLink RX3 80 yX5_signAt ∈ G_ := G_mem (i := 315) (by decide +kernel) rfl
theorem mlX3_83 : Cond.methodLink RX3 83 yX3_gathererOf ∈ G_ := G_mem (i := 325) (by decide +kernel) rfl
theorem mlX4_35 : Cond.methodLink RX4 35 yX4_clear ∈ G_ := G_mem (i := 358) (by decide +kernel) rfl
theorem mlX4_38 : Cond.methodLink RX4 38 yX3_sizeOf ∈ G_ := G_mem (i := 362) (by decide +kernel) rfl
theorem mlX4_44 : Cond.methodLink RX4 44 yX3_signOf ∈ G_ := G_mem (i := 363) (by decide +kernel) rfl
theorem mlX4_48 : Cond.methodLink RX4 48 yX4_add ∈ G_ := G_mem (i := 364) (by decide +kernel) rfl
theorem mlX4_52 : Cond.methodLinkNest RX4 52 yX6_isBad "NamesByLot" ∈ k_nest := k_nest_mem (i := 368) (by decide +kernel) rfl
theorem mlX4_56 : Cond.methodLink RX4 56 yX4_addPerson ∈ G_ := G_mem (i := 369) (by decide +kernel) rfl
theorem mlX5_25 : Cond.methodLink RX5 25 yX5_clear ∈ G_ := G_mem (i := 389) (by decide +kernel) rfl
theorem mlX5_28 : Cond.methodLink RX5 28 yX5_signAt ∈ G_ := G_mem (i := 390) (by decide +kernel) rfl
theorem mlX5_32 : Cond.methodLink RX5 32 yX5_append ∈ G_ := G_mem (i := 391) (by decide +kernel) rfl
theorem mlX6_69 : Cond.methodLink RX6 69 yX6_isWithin ∈ G_ := G_mem (i := 264) (by decide +kernel) rfl
theorem mlX6_73 : Cond.methodLink RX6 73 yX5_append ∈ G_ := G_mem (i := 267) (by decide +kernel) rfl
theorem mlX6_81 : Cond.methodLink RX6 81 yX5_clear ∈ G_ := G_mem (i := 272) (by decide +kernel) rfl
theorem mlX6_84 : Cond.methodLink RX6 84 yX6_namesFault ∈ G_ := G_mem (i := 280) (by decide +kernel) rfl
theorem mlX6_88 : Cond.methodLink RX6 88 yX6_ruleFault ∈ G_ := G_mem (i := 294) (by decide +kernel) rfl
theorem mlX6_91 : Cond.methodLink RX6 91 yX6_isSheet ∈ G_ := G_mem (i := 308) (by decide +kernel) rfl
theorem mlX6_94 : Cond.methodLink RX6 94 yX3_fillSheet ∈ G_ := G_mem (i := 311) (by decide +kernel) rfl
theorem mlX6_98 : Cond.methodLink RX6 98 yX6_wipe ∈ G_ := G_mem (i := 316) (by decide +kernel) rfl
theorem mlX6_101 : Cond.methodLink RX6 101 yX3_giveTo ∈ G_ := G_mem (i := 321) (by decide +kernel) rfl
theorem mlX6_105 : Cond.methodLink RX6 105 yX3_strikeOut ∈ G_ := G_mem (i := 329) (by decide +kernel) rfl
theorem mlX6_108 : Cond.methodLink RX6 108 yX3_sizeOf ∈ G_ := G_mem (i := 337) (by decide +kernel) rfl
theorem mlX6_112 : Cond.methodLink RX6 112 yX3_signOf ∈ G_ := G_mem (i := 341) (by decide +kernel) rfl
theorem mlX6_115 : Cond.methodLink RX6 115 yX6_readList ∈ G_ := G_mem (i := 350) (by decide +kernel) rfl
theorem mlX6_131 : Cond.methodLink RX6 131 yX4_good ∈ G_ := G_mem (i := 373) (by decide +kernel) rfl
theorem mlX6_140 : Cond.methodLink RX6 140 yX5_become ∈ G_ := G_mem (i := 385) (by decide +kernel) rfl
theorem mlX6_144 : Cond.methodLink RX6 144 yX6_isNumber ∈ G_ := G_mem (i := 396) (by decide +kernel) rfl
theorem mlX6_147 : Cond.methodLink RX6 147 yX6_isPart ∈ G_ := G_mem (i := 399) (by decide +kernel) rfl
theorem mlX6_152 : Cond.methodLink RX6 152 yX2_reckon ∈ G_ := G_mem (i := 403) (by decide +kernel) rfl
theorem mlX6_158 : Cond.methodLink RX6 158 yX2_upper ∈ G_ := G_mem (i := 428) (by decide +kernel) rfl
theorem mlX6_162 : Cond.methodLink RX6 162 yX2_lower ∈ G_ := G_mem (i := 432) (by decide +kernel) rfl
theorem mlX6_165 : Cond.methodLink RX6 165 yX0_become ∈ G_ := G_mem (i := 436) (by decide +kernel) rfl
theorem mlX6_168 : Cond.methodLink RX6 168 yX0_half ∈ G_ := G_mem (i := 444) (by decide +kernel) rfl
theorem mlX6_172 : Cond.methodLink RX6 172 yX6_lotRefusal ∈ G_ := G_mem (i := 452) (by decide +kernel) rfl
theorem mlX6_177 : Cond.methodLink RX6 177 yX6_layList ∈ G_ := G_mem (i := 457) (by decide +kernel) rfl
theorem mlX6_180 : Cond.methodLink RX6 180 yX6_waysToYes ∈ G_ := G_mem (i := 485) (by decide +kernel) rfl
theorem mlX6_183 : Cond.methodLink RX6 183 yX1_choose ∈ G_ := G_mem (i := 516) (by decide +kernel) rfl
theorem mlX6_187 : Cond.methodLink RX6 187 yX6_filledSheets ∈ G_ := G_mem (i := 521) (by decide +kernel) rfl
theorem mlX6_190 : Cond.methodLink RX6 190 yJ6_bitCount_0f7a4 ∈ G_ := G_mem (i := 529) (by decide +kernel) rfl
theorem mlX6_197 : Cond.methodLink RX6 197 yX6_sheetWaysToYes ∈ G_ := G_mem (i := 536) (by decide +kernel) rfl
theorem mlX6_200 : Cond.methodLink RX6 200 yX6_waysToBeWrong ∈ G_ := G_mem (i := 552) (by decide +kernel) rfl
theorem mlX6_203 : Cond.methodLink RX6 203 yX6_thousandths ∈ G_ := G_mem (i := 560) (by decide +kernel) rfl
theorem mlX6_207 : Cond.methodLink RX6 207 yX0_lessen ∈ G_ := G_mem (i := 568) (by decide +kernel) rfl
theorem mlX6_211 : Cond.methodLink RX6 211 yX6_isGatherer ∈ G_ := G_mem (i := 577) (by decide +kernel) rfl
theorem mlX6_214 : Cond.methodLink RX6 214 yX6_sheetsOf ∈ G_ := G_mem (i := 580) (by decide +kernel) rfl
theorem mlX6_217 : Cond.methodLink RX6 217 yX4_readSheets ∈ G_ := G_mem (i := 354) (by decide +kernel) rfl
theorem mlX6_223 : Cond.methodLink RX6 223 yX6_oddsByLot ∈ G_ := G_mem (i := 590) (by decide +kernel) rfl
theorem mlX6_227 : Cond.methodLink RX6 227 yX6_hasNames ∈ G_ := G_mem (i := 598) (by decide +kernel) rfl
theorem mlX6_230 : Cond.methodLink RX6 230 yX0_isLessThan ∈ G_ := G_mem (i := 602) (by decide +kernel) rfl
theorem mlX6_239 : Cond.methodLink RX6 239 yX6_gatherersWithNames ∈ G_ := G_mem (i := 610) (by decide +kernel) rfl
theorem mlX6_242 : Cond.methodLink RX6 242 Lib.MathLoose.min_long.x ∈ G_ := G_mem (i := 614) (by decide +kernel) rfl
theorem mlX6_248 : Cond.methodLink RX6 248 Lib.Math.max.name ∈ G_ := G_mem (i := 489) (by decide +kernel) rfl
theorem mlX6_251 : Cond.methodLink RX6 251 yX4_valid ∈ G_ := G_mem (i := 544) (by decide +kernel) rfl
theorem mlX6_254 : Cond.methodLink RX6 254 yX3_isStruck ∈ G_ := G_mem (i := 525) (by decide +kernel) rfl
theorem mlX6_257 : Cond.methodLink RX6 257 yX6_lossWithout ∈ G_ := G_mem (i := 629) (by decide +kernel) rfl
theorem mlX6_260 : Cond.methodLink RX6 260 Lib.Math.min.name ∈ G_ := G_mem (i := 494) (by decide +kernel) rfl
theorem mlX6_265 : Cond.methodLink RX6 265 yX4_singles ∈ G_ := G_mem (i := 461) (by decide +kernel) rfl
theorem mlX6_268 : Cond.methodLink RX6 268 yX1_lay ∈ G_ := G_mem (i := 465) (by decide +kernel) rfl
theorem mlX6_274 : Cond.methodLink RX6 274 yX1_all ∈ G_ := G_mem (i := 500) (by decide +kernel) rfl
theorem mlX6_276 : Cond.methodLink RX6 276 yX6_drawHeap ∈ G_ := G_mem (i := 646) (by decide +kernel) rfl
theorem mlX6_280 : Cond.methodLink RX6 280 yX6_someSaysYes ∈ G_ := G_mem (i := 540) (by decide +kernel) rfl
theorem mlX6_284 : Cond.methodLink RX6 284 yX6_imageOf ∈ G_ := G_mem (i := 665) (by decide +kernel) rfl
theorem mlX6_288 : Cond.methodLink RX6 288 yX3_become ∈ G_ := G_mem (i := 669) (by decide +kernel) rfl
theorem mlX6_294 : Cond.methodLink RX6 294 yX3_gathererOf ∈ G_ := G_mem (i := 584) (by decide +kernel) rfl
theorem mlX6_300 : Cond.methodLink RX6 300 yX5_signAt ∈ G_ := G_mem (i := 284) (by decide +kernel) rfl
theorem mlX6_303 : Cond.methodLink RX6 303 yX6_isBad ∈ G_ := G_mem (i := 288) (by decide +kernel) rfl
theorem mlX6_306 : Cond.methodLink RX6 306 yX6_isLetter ∈ G_ := G_mem (i := 291) (by decide +kernel) rfl
theorem mlX6_309 : Cond.methodLink RX6 309 yX6_isOperator ∈ G_ := G_mem (i := 298) (by decide +kernel) rfl
theorem mlX6_312 : Cond.methodLink RX6 312 yX6_isOperand ∈ G_ := G_mem (i := 301) (by decide +kernel) rfl
theorem mlX6_316 : Cond.methodLink RX6 316 yX1_valid ∈ G_ := G_mem (i := 490) (by decide +kernel) rfl
theorem mlX6_317 : Cond.methodLink RX6 317 yX1_leastDoubles ∈ G_ := G_mem (i := 495) (by decide +kernel) rfl
theorem mlX6_321 : Cond.methodLink RX6 321 yX2_reachesNeed ∈ G_ := G_mem (i := 505) (by decide +kernel) rfl
theorem mlX6_325 : Cond.methodLink RX6 325 yX1_ways ∈ G_ := G_mem (i := 512) (by decide +kernel) rfl
theorem mlX6_331 : Cond.methodLink RX6 331 yX6_numberList ∈ G_ := G_mem (i := 650) (by decide +kernel) rfl
theorem mlX6_334 : Cond.methodLink RX6 334 yX4_clear ∈ G_ := G_mem (i := 654) (by decide +kernel) rfl
theorem mlX6_336 : Cond.methodLink RX6 336 yX6_takeOut ∈ G_ := G_mem (i := 656) (by decide +kernel) rfl
theorem mlX6_339 : Cond.methodLink RX6 339 yX4_add ∈ G_ := G_mem (i := 660) (by decide +kernel) rfl
theorem mlX7_58 : Cond.methodLink RX7 58 yX7_in ∈ G_ := G_mem (i := 785) (by decide +kernel) rfl
theorem mlX7_62 : Cond.methodLink RX7 62 yX7_common ∈ G_ := G_mem (i := 864) (by decide +kernel) rfl
theorem mlX7_69 : Cond.methodLink RX7 69 yX7_isBad ∈ G_ := G_mem (i := 800) (by decide +kernel) rfl
theorem mlX7_73 : Cond.methodLink RX7 73 yX7_isPerson ∈ G_ := G_mem (i := 803) (by decide +kernel) rfl
theorem mlX7_76 : Cond.methodLink RX7 76 yX7_isAct ∈ G_ := G_mem (i := 810) (by decide +kernel) rfl
theorem mlX7_79 : Cond.methodLink RX7 79 yX7_namesFault ∈ G_ := G_mem (i := 796) (by decide +kernel) rfl
theorem mlX7_83 : Cond.methodLink RX7 83 yX7_ruleFault ∈ G_ := G_mem (i := 806) (by decide +kernel) rfl
theorem mlX7_86 : Cond.methodLink RX7 86 yX7_isSheet ∈ G_ := G_mem (i := 817) (by decide +kernel) rfl
theorem mlX7_108 : Cond.methodLink RX7 108 yX7_valid ∈ G_ := G_mem (i := 832) (by decide +kernel) rfl
theorem mlX7_111 : Cond.methodLink RX7 111 yX7_layList ∈ G_ := G_mem (i := 836) (by decide +kernel) rfl
theorem mlX7_115 : Cond.methodLink RX7 115 yX7_good ∈ G_ := G_mem (i := 840) (by decide +kernel) rfl
theorem mlX7_125 : Cond.methodLink RX7 125 yX7_comesTo ∈ G_ := G_mem (i := 860) (by decide +kernel) rfl
theorem mlX7_129 : Cond.methodLink RX7 129 yX7_isPart ∈ G_ := G_mem (i := 856) (by decide +kernel) rfl
theorem mlX7_136 : Cond.methodLink RX7 136 yX7_ways ∈ G_ := G_mem (i := 885) (by decide +kernel) rfl
theorem mlX7_140 : Cond.methodLink RX7 140 yX7_lotsOf ∈ G_ := G_mem (i := 889) (by decide +kernel) rfl
theorem mlX7_144 : Cond.methodLink RX7 144 yX7_saysYes ∈ G_ := G_mem (i := 893) (by decide +kernel) rfl
theorem mlX7_147 : Cond.methodLink RX7 147 yX7_yesOf ∈ G_ := G_mem (i := 881) (by decide +kernel) rfl
theorem mlX7_150 : Cond.methodLink RX7 150 yX7_barOfLot ∈ G_ := G_mem (i := 872) (by decide +kernel) rfl
theorem mlX7_156 : Cond.methodLink RX7 156 yX7_yesNow ∈ G_ := G_mem (i := 877) (by decide +kernel) rfl
theorem mlX7_160 : Cond.methodLink RX7 160 yX7_term ∈ G_ := G_mem (i := 897) (by decide +kernel) rfl
theorem mlX7_164 : Cond.methodLink RX7 164 yX7_bits ∈ G_ := G_mem (i := 904) (by decide +kernel) rfl
theorem mlX7_170 : Cond.methodLink RX7 170 yX7_wrongNow ∈ G_ := G_mem (i := 912) (by decide +kernel) rfl
theorem mlX7_181 : Cond.methodLink RX7 181 yX7_isGatherer ∈ G_ := G_mem (i := 929) (by decide +kernel) rfl
theorem mlX7_184 : Cond.methodLink RX7 184 yX7_layHis ∈ G_ := G_mem (i := 932) (by decide +kernel) rfl
theorem mlX7_195 : Cond.methodLink RX7 195 yX7_laySeems ∈ G_ := G_mem (i := 941) (by decide +kernel) rfl
theorem mlX7_198 : Cond.methodLink RX7 198 yX7_isLess ∈ G_ := G_mem (i := 949) (by decide +kernel) rfl
theorem mlX7_202 : Cond.methodLink RX7 202 yX7_isOverfull ∈ G_ := G_mem (i := 968) (by decide +kernel) rfl
theorem mlX7_206 : Cond.methodLink RX7 206 yX7_lossOf ∈ G_ := G_mem (i := 972) (by decide +kernel) rfl
theorem lk_J6_bitCount_0f7a4 : k_lkS yJ6_bitCount_0f7a4 cJ6_bitCount_0f7a4 1 (some .int) 1 := ⟨⟨G_mem (i := 14) (by decide +kernel) rfl, G_mem (i := 531) (by decide +kernel) rfl, by decide, by decide, by decide +kernel⟩, G_mem (i := 530) (by decide +kernel) rfl⟩
theorem lk_X0_become : k_lkV yX0_become cX0_become 7 none 2 := ⟨⟨G_mem (i := 12) (by decide +kernel) rfl, G_mem (i := 439) (by decide +kernel) rfl, by decide, by decide, by decide +kernel⟩, G_mem (i := 437) (by decide +kernel) rfl, G_mem (i := 438) (by decide +kernel) rfl⟩
theorem lk_X0_commonDivisor : k_lkS yX0_commonDivisor cX0_commonDivisor 11 (some .long) 2 := ⟨⟨G_mem (i := 12) (by decide +kernel) rfl, G_mem (i := 442) (by decide +kernel) rfl, by decide, by decide, by decide +kernel⟩, G_mem (i := 441) (by decide +kernel) rfl⟩
theorem lk_X0_half : k_lkV yX0_half cX0_half 2 (some .long) 1 := ⟨⟨G_mem (i := 12) (by decide +kernel) rfl, G_mem (i := 447) (by decide +kernel) rfl, by decide, by decide, by decide +kernel⟩, G_mem (i := 445) (by decide +kernel) rfl, G_mem (i := 446) (by decide +kernel) rfl⟩
theorem lk_X0_isLessThan : k_lkV yX0_isLessThan cX0_isLessThan 20 (some .boolean) 1 := ⟨⟨G_mem (i := 12) (by decide +kernel) rfl, G_mem (i := 605) (by decide +kernel) rfl, by decide, by decide, by decide +kernel⟩, G_mem (i := 603) (by decide +kernel) rfl, G_mem (i := 604) (by decide +kernel) rfl⟩
theorem lk_X0_lessen : k_lkV yX0_lessen cX0_lessen 2 none 1 := ⟨⟨G_mem (i := 12) (by decide +kernel) rfl, G_mem (i := 571) (by decide +kernel) rfl, by decide, by decide, by decide +kernel⟩, G_mem (i := 569) (by decide +kernel) rfl, G_mem (i := 570) (by decide +kernel) rfl⟩
theorem lk_X1_all : k_lkV yX1_all cX1_all 1 (some .int) 0 := ⟨⟨G_mem (i := 10) (by decide +kernel) rfl, G_mem (i := 503) (by decide +kernel) rfl, by decide, by decide, by decide +kernel⟩, G_mem (i := 501) (by decide +kernel) rfl, G_mem (i := 502) (by decide +kernel) rfl⟩
theorem lk_X1_choose : k_lkV yX1_choose cX1_choose 4 (some .long) 2 := ⟨⟨G_mem (i := 10) (by decide +kernel) rfl, G_mem (i := 175) (by decide +kernel) rfl, by decide, by decide, by decide +kernel⟩, G_mem (i := 173) (by decide +kernel) rfl, G_mem (i := 174) (by decide +kernel) rfl⟩
theorem lk_X1_lay : k_lkV yX1_lay cX1_lay 6 none 3 := ⟨⟨G_mem (i := 10) (by decide +kernel) rfl, G_mem (i := 468) (by decide +kernel) rfl, by decide, by decide, by decide +kernel⟩, G_mem (i := 466) (by decide +kernel) rfl, G_mem (i := 467) (by decide +kernel) rfl⟩
theorem lk_X1_leastDoubles : k_lkV yX1_leastDoubles cX1_leastDoubles 2 (some .int) 1 := ⟨⟨G_mem (i := 10) (by decide +kernel) rfl, G_mem (i := 498) (by decide +kernel) rfl, by decide, by decide, by decide +kernel⟩, G_mem (i := 496) (by decide +kernel) rfl, G_mem (i := 497) (by decide +kernel) rfl⟩
theorem lk_X1_people : k_lkV yX1_people cX1_people 2 (some .int) 1 := ⟨⟨G_mem (i := 10) (by decide +kernel) rfl, G_mem (i := 479) (by decide +kernel) rfl, by decide, by decide, by decide +kernel⟩, G_mem (i := 478) (by decide +kernel) rfl, G_sel (i := 10) (by decide +kernel) rfl⟩
theorem lk_X1_read : k_lkV yX1_read cX1_read 4 (some .long) 2 := ⟨⟨G_mem (i := 10) (by decide +kernel) rfl, G_mem (i := 483) (by decide +kernel) rfl, by decide, by decide, by decide +kernel⟩, G_mem (i := 482) (by decide +kernel) rfl, G_sel (i := 11) (by decide +kernel) rfl⟩
theorem lk_X1_valid : k_lkV yX1_valid cX1_valid 1 (some .int) 0 := ⟨⟨G_mem (i := 10) (by decide +kernel) rfl, G_mem (i := 493) (by decide +kernel) rfl, by decide, by decide, by decide +kernel⟩, G_mem (i := 491) (by decide +kernel) rfl, G_mem (i := 492) (by decide +kernel) rfl⟩
theorem lk_X1_ways : k_lkV yX1_ways cX1_ways 4 (some .long) 3 := ⟨⟨G_mem (i := 10) (by decide +kernel) rfl, G_mem (i := 515) (by decide +kernel) rfl, by decide, by decide, by decide +kernel⟩, G_mem (i := 513) (by decide +kernel) rfl, G_mem (i := 514) (by decide +kernel) rfl⟩
theorem lk_X1_write : k_lkV yX1_write cX1_write 6 none 3 := ⟨⟨G_mem (i := 10) (by decide +kernel) rfl, G_mem (i := 475) (by decide +kernel) rfl, by decide, by decide, by decide +kernel⟩, G_mem (i := 474) (by decide +kernel) rfl, G_sel (i := 9) (by decide +kernel) rfl⟩
theorem lk_X2_combine : k_lkV yX2_combine cX2_combine 12 (some .boolean) 1 := ⟨⟨G_mem (i := 11) (by decide +kernel) rfl, G_mem (i := 412) (by decide +kernel) rfl, by decide, by decide, by decide +kernel⟩, G_mem (i := 411) (by decide +kernel) rfl, G_sel (i := 4) (by decide +kernel) rfl⟩
theorem lk_X2_lower : k_lkV yX2_lower cX2_lower 1 (some .long) 0 := ⟨⟨G_mem (i := 11) (by decide +kernel) rfl, G_mem (i := 435) (by decide +kernel) rfl, by decide, by decide, by decide +kernel⟩, G_mem (i := 433) (by decide +kernel) rfl, G_mem (i := 434) (by decide +kernel) rfl⟩
theorem lk_X2_push : k_lkV yX2_push cX2_push 2 (some .boolean) 1 := ⟨⟨G_mem (i := 11) (by decide +kernel) rfl, G_mem (i := 426) (by decide +kernel) rfl, by decide, by decide, by decide +kernel⟩, G_mem (i := 425) (by decide +kernel) rfl, G_sel (i := 6) (by decide +kernel) rfl⟩
theorem lk_X2_put : k_lkV yX2_put cX2_put 6 (some .boolean) 3 := ⟨⟨G_mem (i := 11) (by decide +kernel) rfl, G_mem (i := 416) (by decide +kernel) rfl, by decide, by decide, by decide +kernel⟩, G_mem (i := 415) (by decide +kernel) rfl, G_sel (i := 5) (by decide +kernel) rfl⟩
theorem lk_X2_reachesNeed : k_lkV yX2_reachesNeed cX2_reachesNeed 6 (some .boolean) 5 := ⟨⟨G_mem (i := 11) (by decide +kernel) rfl, G_mem (i := 508) (by decide +kernel) rfl, by decide, by decide, by decide +kernel⟩, G_mem (i := 506) (by decide +kernel) rfl, G_mem (i := 507) (by decide +kernel) rfl⟩
theorem lk_X2_reckon : k_lkV yX2_reckon cX2_reckon 9 (some .boolean) 5 := ⟨⟨G_mem (i := 11) (by decide +kernel) rfl, G_mem (i := 406) (by decide +kernel) rfl, by decide, by decide, by decide +kernel⟩, G_mem (i := 404) (by decide +kernel) rfl, G_mem (i := 405) (by decide +kernel) rfl⟩
theorem lk_X2_upper : k_lkV yX2_upper cX2_upper 1 (some .long) 0 := ⟨⟨G_mem (i := 11) (by decide +kernel) rfl, G_mem (i := 431) (by decide +kernel) rfl, by decide, by decide, by decide +kernel⟩, G_mem (i := 429) (by decide +kernel) rfl, G_mem (i := 430) (by decide +kernel) rfl⟩
theorem lk_X2_valueOf : k_lkS yX2_valueOf cX2_valueOf 5 (some .int) 5 := ⟨⟨G_mem (i := 11) (by decide +kernel) rfl, G_mem (i := 422) (by decide +kernel) rfl, by decide, by decide, by decide +kernel⟩, G_mem (i := 421) (by decide +kernel) rfl⟩
theorem lk_X3_become : k_lkV yX3_become cX3_become 2 none 1 := ⟨⟨G_mem (i := 4) (by decide +kernel) rfl, G_mem (i := 672) (by decide +kernel) rfl, by decide, by decide, by decide +kernel⟩, G_mem (i := 670) (by decide +kernel) rfl, G_mem (i := 671) (by decide +kernel) rfl⟩
theorem lk_X3_copy : k_lkS yX3_copy cX3_copy 2 none 2 := ⟨⟨G_mem (i := 4) (by decide +kernel) rfl, G_mem (i := 675) (by decide +kernel) rfl, by decide, by decide, by decide +kernel⟩, G_mem (i := 674) (by decide +kernel) rfl⟩
theorem lk_X3_fillSheet : k_lkV yX3_fillSheet cX3_fillSheet 5 none 2 := ⟨⟨G_mem (i := 4) (by decide +kernel) rfl, G_mem (i := 314) (by decide +kernel) rfl, by decide, by decide, by decide +kernel⟩, G_mem (i := 312) (by decide +kernel) rfl, G_mem (i := 313) (by decide +kernel) rfl⟩
theorem lk_X3_gathererOf : k_lkV yX3_gathererOf cX3_gathererOf 2 (some .int) 1 := ⟨⟨G_mem (i := 4) (by decide +kernel) rfl, G_mem (i := 328) (by decide +kernel) rfl, by decide, by decide, by decide +kernel⟩, G_mem (i := 326) (by decide +kernel) rfl, G_mem (i := 327) (by decide +kernel) rfl⟩
theorem lk_X3_giveTo : k_lkV yX3_giveTo cX3_giveTo 4 (some .int) 2 := ⟨⟨G_mem (i := 4) (by decide +kernel) rfl, G_mem (i := 324) (by decide +kernel) rfl, by decide, by decide, by decide +kernel⟩, G_mem (i := 322) (by decide +kernel) rfl, G_mem (i := 323) (by decide +kernel) rfl⟩
theorem lk_X3_isStruck : k_lkV yX3_isStruck cX3_isStruck 2 (some .boolean) 1 := ⟨⟨G_mem (i := 4) (by decide +kernel) rfl, G_mem (i := 528) (by decide +kernel) rfl, by decide, by decide, by decide +kernel⟩, G_mem (i := 526) (by decide +kernel) rfl, G_mem (i := 527) (by decide +kernel) rfl⟩
theorem lk_X3_signOf : k_lkV yX3_signOf cX3_signOf 4 (some .int) 2 := ⟨⟨G_mem (i := 4) (by decide +kernel) rfl, G_mem (i := 344) (by decide +kernel) rfl, by decide, by decide, by decide +kernel⟩, G_mem (i := 342) (by decide +kernel) rfl, G_mem (i := 343) (by decide +kernel) rfl⟩
theorem lk_X3_sizeOf : k_lkV yX3_sizeOf cX3_sizeOf 2 (some .int) 1 := ⟨⟨G_mem (i := 4) (by decide +kernel) rfl, G_mem (i := 340) (by decide +kernel) rfl, by decide, by decide, by decide +kernel⟩, G_mem (i := 338) (by decide +kernel) rfl, G_mem (i := 339) (by decide +kernel) rfl⟩
theorem lk_X3_strikeOut : k_lkV yX3_strikeOut cX3_strikeOut 4 (some .int) 2 := ⟨⟨G_mem (i := 4) (by decide +kernel) rfl, G_mem (i := 332) (by decide +kernel) rfl, by decide, by decide, by decide +kernel⟩, G_mem (i := 330) (by decide +kernel) rfl, G_mem (i := 331) (by decide +kernel) rfl⟩
theorem lk_X4_add : k_lkV yX4_add cX4_add 2 none 1 := ⟨⟨G_mem (i := 9) (by decide +kernel) rfl, G_mem (i := 367) (by decide +kernel) rfl, by decide, by decide, by decide +kernel⟩, G_mem (i := 365) (by decide +kernel) rfl, G_mem (i := 366) (by decide +kernel) rfl⟩
theorem lk_X4_addPerson : k_lkV yX4_addPerson cX4_addPerson 2 none 1 := ⟨⟨G_mem (i := 9) (by decide +kernel) rfl, G_mem (i := 372) (by decide +kernel) rfl, by decide, by decide, by decide +kernel⟩, G_mem (i := 371) (by decide +kernel) rfl, G_sel (i := 3) (by decide +kernel) rfl⟩
theorem lk_X4_clear : k_lkV yX4_clear cX4_clear 2 none 0 := ⟨⟨G_mem (i := 9) (by decide +kernel) rfl, G_mem (i := 361) (by decide +kernel) rfl, by decide, by decide, by decide +kernel⟩, G_mem (i := 359) (by decide +kernel) rfl, G_mem (i := 360) (by decide +kernel) rfl⟩
theorem lk_X4_good : k_lkV yX4_good cX4_good 1 (some .int) 0 := ⟨⟨G_mem (i := 9) (by decide +kernel) rfl, G_mem (i := 376) (by decide +kernel) rfl, by decide, by decide, by decide +kernel⟩, G_mem (i := 374) (by decide +kernel) rfl, G_mem (i := 375) (by decide +kernel) rfl⟩
theorem lk_X4_readSheets : k_lkV yX4_readSheets cX4_readSheets 6 none 2 := ⟨⟨G_mem (i := 9) (by decide +kernel) rfl, G_mem (i := 357) (by decide +kernel) rfl, by decide, by decide, by decide +kernel⟩, G_mem (i := 355) (by decide +kernel) rfl, G_mem (i := 356) (by decide +kernel) rfl⟩
theorem lk_X4_singles : k_lkV yX4_singles cX4_singles 1 (some .int) 0 := ⟨⟨G_mem (i := 9) (by decide +kernel) rfl, G_mem (i := 464) (by decide +kernel) rfl, by decide, by decide, by decide +kernel⟩, G_mem (i := 462) (by decide +kernel) rfl, G_mem (i := 463) (by decide +kernel) rfl⟩
theorem lk_X4_valid : k_lkV yX4_valid cX4_valid 1 (some .int) 0 := ⟨⟨G_mem (i := 9) (by decide +kernel) rfl, G_mem (i := 547) (by decide +kernel) rfl, by decide, by decide, by decide +kernel⟩, G_mem (i := 545) (by decide +kernel) rfl, G_mem (i := 546) (by decide +kernel) rfl⟩
theorem lk_X5_append : k_lkV yX5_append cX5_append 2 (some .boolean) 1 := ⟨⟨G_mem (i := 2) (by decide +kernel) rfl, G_mem (i := 104) (by decide +kernel) rfl, by decide, by decide, by decide +kernel⟩, G_mem (i := 102) (by decide +kernel) rfl, G_mem (i := 103) (by decide +kernel) rfl⟩
theorem lk_X5_become : k_lkV yX5_become cX5_become 3 none 1 := ⟨⟨G_mem (i := 2) (by decide +kernel) rfl, G_mem (i := 388) (by decide +kernel) rfl, by decide, by decide, by decide +kernel⟩, G_mem (i := 386) (by decide +kernel) rfl, G_mem (i := 387) (by decide +kernel) rfl⟩
theorem lk_X5_clear : k_lkV yX5_clear cX5_clear 1 none 0 := ⟨⟨G_mem (i := 2) (by decide +kernel) rfl, G_mem (i := 275) (by decide +kernel) rfl, by decide, by decide, by decide +kernel⟩, G_mem (i := 273) (by decide +kernel) rfl, G_mem (i := 274) (by decide +kernel) rfl⟩
theorem lk_X5_signAt : k_lkV yX5_signAt cX5_signAt 2 (some .int) 1 := ⟨⟨G_mem (i := 2) (by decide +kernel) rfl, G_mem (i := 287) (by decide +kernel) rfl, by decide, by decide, by decide +kernel⟩, G_mem (i := 285) (by decide +kernel) rfl, G_mem (i := 286) (by decide +kernel) rfl⟩
theorem lk_X6_drawHeap : k_lkV yX6_drawHeap cX6_drawHeap 6 none 2 := ⟨⟨G_mem (i := 1) (by decide +kernel) rfl, G_mem (i := 649) (by decide +kernel) rfl, by decide, by decide, by decide +kernel⟩, G_mem (i := 648) (by decide +kernel) rfl, G_sel (i := 22) (by decide +kernel) rfl⟩
theorem lk_X6_filledSheets : k_lkV yX6_filledSheets cX6_filledSheets 3 (some .int) 0 := ⟨⟨G_mem (i := 1) (by decide +kernel) rfl, G_mem (i := 524) (by decide +kernel) rfl, by decide, by decide, by decide +kernel⟩, G_mem (i := 523) (by decide +kernel) rfl, G_sel (i := 13) (by decide +kernel) rfl⟩
theorem lk_X6_gatherersWithNames : k_lkV yX6_gatherersWithNames cX6_gatherersWithNames 3 (some .int) 0 := ⟨⟨G_mem (i := 1) (by decide +kernel) rfl, G_mem (i := 613) (by decide +kernel) rfl, by decide, by decide, by decide +kernel⟩, G_mem (i := 612) (by decide +kernel) rfl, G_sel (i := 20) (by decide +kernel) rfl⟩
theorem lk_X6_hasNames : k_lkV yX6_hasNames cX6_hasNames 2 (some .boolean) 1 := ⟨⟨G_mem (i := 1) (by decide +kernel) rfl, G_mem (i := 601) (by decide +kernel) rfl, by decide, by decide, by decide +kernel⟩, G_mem (i := 600) (by decide +kernel) rfl, G_sel (i := 19) (by decide +kernel) rfl⟩
theorem lk_X6_imageOf : k_lkV yX6_imageOf cX6_imageOf 2 (some (.object "NamesByLot$Register")) 1 := ⟨⟨G_mem (i := 1) (by decide +kernel) rfl, G_mem (i := 668) (by decide +kernel) rfl, by decide, by decide, by decide +kernel⟩, G_mem (i := 667) (by decide +kernel) rfl, G_sel (i := 25) (by decide +kernel) rfl⟩
theorem lk_X6_isBad : k_lkS yX6_isBad cX6_isBad 1 (some .boolean) 1 := ⟨⟨G_mem (i := 1) (by decide +kernel) rfl, G_mem (i := 290) (by decide +kernel) rfl, by decide, by decide, by decide +kernel⟩, G_mem (i := 289) (by decide +kernel) rfl⟩
theorem lk_X6_isGatherer : k_lkS yX6_isGatherer cX6_isGatherer 1 (some .boolean) 1 := ⟨⟨G_mem (i := 1) (by decide +kernel) rfl, G_mem (i := 579) (by decide +kernel) rfl, by decide, by decide, by decide +kernel⟩, G_mem (i := 578) (by decide +kernel) rfl⟩
theorem lk_X6_isLetter : k_lkS yX6_isLetter cX6_isLetter 1 (some .boolean) 1 := ⟨⟨G_mem (i := 1) (by decide +kernel) rfl, G_mem (i := 293) (by decide +kernel) rfl, by decide, by decide, by decide +kernel⟩, G_mem (i := 292) (by decide +kernel) rfl⟩
theorem lk_X6_isNumber : k_lkS yX6_isNumber cX6_isNumber 1 (some .boolean) 1 := ⟨⟨G_mem (i := 1) (by decide +kernel) rfl, G_mem (i := 398) (by decide +kernel) rfl, by decide, by decide, by decide +kernel⟩, G_mem (i := 397) (by decide +kernel) rfl⟩
theorem lk_X6_isOperand : k_lkS yX6_isOperand cX6_isOperand 1 (some .boolean) 1 := ⟨⟨G_mem (i := 1) (by decide +kernel) rfl, G_mem (i := 303) (by decide +kernel) rfl, by decide, by decide, by decide +kernel⟩, G_mem (i := 302) (by decide +kernel) rfl⟩
theorem lk_X6_isOperator : k_lkS yX6_isOperator cX6_isOperator 1 (some .boolean) 1 := ⟨⟨G_mem (i := 1) (by decide +kernel) rfl, G_mem (i := 300) (by decide +kernel) rfl, by decide, by decide, by decide +kernel⟩, G_mem (i := 299) (by decide +kernel) rfl⟩
theorem lk_X6_isPart : k_lkS yX6_isPart cX6_isPart 1 (some .boolean) 1 := ⟨⟨G_mem (i := 1) (by decide +kernel) rfl, G_mem (i := 401) (by decide +kernel) rfl, by decide, by decide, by decide +kernel⟩, G_mem (i := 400) (by decide +kernel) rfl⟩
theorem lk_X6_isSheet : k_lkS yX6_isSheet cX6_isSheet 1 (some .boolean) 1 := ⟨⟨G_mem (i := 1) (by decide +kernel) rfl, G_mem (i := 310) (by decide +kernel) rfl, by decide, by decide, by decide +kernel⟩, G_mem (i := 309) (by decide +kernel) rfl⟩
theorem lk_X6_isWithin : k_lkS yX6_isWithin cX6_isWithin 3 (some .boolean) 3 := ⟨⟨G_mem (i := 1) (by decide +kernel) rfl, G_mem (i := 266) (by decide +kernel) rfl, by decide, by decide, by decide +kernel⟩, G_mem (i := 265) (by decide +kernel) rfl⟩
theorem lk_X6_layList : k_lkV yX6_layList cX6_layList 1 none 0 := ⟨⟨G_mem (i := 1) (by decide +kernel) rfl, G_mem (i := 460) (by decide +kernel) rfl, by decide, by decide, by decide +kernel⟩, G_mem (i := 459) (by decide +kernel) rfl, G_sel (i := 8) (by decide +kernel) rfl⟩
theorem lk_X6_lossWithout : k_lkV yX6_lossWithout cX6_lossWithout 2 (some .int) 1 := ⟨⟨G_mem (i := 1) (by decide +kernel) rfl, G_mem (i := 632) (by decide +kernel) rfl, by decide, by decide, by decide +kernel⟩, G_mem (i := 631) (by decide +kernel) rfl, G_sel (i := 21) (by decide +kernel) rfl⟩
theorem lk_X6_lotRefusal : k_lkV yX6_lotRefusal cX6_lotRefusal 3 (some .int) 2 := ⟨⟨G_mem (i := 1) (by decide +kernel) rfl, G_mem (i := 455) (by decide +kernel) rfl, by decide, by decide, by decide +kernel⟩, G_mem (i := 454) (by decide +kernel) rfl, G_sel (i := 7) (by decide +kernel) rfl⟩
theorem lk_X6_namesFault : k_lkV yX6_namesFault cX6_namesFault 4 (some .int) 0 := ⟨⟨G_mem (i := 1) (by decide +kernel) rfl, G_mem (i := 283) (by decide +kernel) rfl, by decide, by decide, by decide +kernel⟩, G_mem (i := 282) (by decide +kernel) rfl, G_sel (i := 0) (by decide +kernel) rfl⟩
theorem lk_X6_numberList : k_lkV yX6_numberList cX6_numberList 5 (some .int) 0 := ⟨⟨G_mem (i := 1) (by decide +kernel) rfl, G_mem (i := 653) (by decide +kernel) rfl, by decide, by decide, by decide +kernel⟩, G_mem (i := 652) (by decide +kernel) rfl, G_sel (i := 23) (by decide +kernel) rfl⟩
theorem lk_X6_oddsByLot : k_lkV yX6_oddsByLot cX6_oddsByLot 6 none 2 := ⟨⟨G_mem (i := 1) (by decide +kernel) rfl, G_mem (i := 593) (by decide +kernel) rfl, by decide, by decide, by decide +kernel⟩, G_mem (i := 592) (by decide +kernel) rfl, G_sel (i := 18) (by decide +kernel) rfl⟩
theorem lk_X6_readList : k_lkV yX6_readList cX6_readList 1 none 0 := ⟨⟨G_mem (i := 1) (by decide +kernel) rfl, G_mem (i := 353) (by decide +kernel) rfl, by decide, by decide, by decide +kernel⟩, G_mem (i := 352) (by decide +kernel) rfl, G_sel (i := 2) (by decide +kernel) rfl⟩
theorem lk_X6_ruleFault : k_lkV yX6_ruleFault cX6_ruleFault 4 (some .int) 0 := ⟨⟨G_mem (i := 1) (by decide +kernel) rfl, G_mem (i := 297) (by decide +kernel) rfl, by decide, by decide, by decide +kernel⟩, G_mem (i := 296) (by decide +kernel) rfl, G_sel (i := 1) (by decide +kernel) rfl⟩
theorem lk_X6_sheetWaysToYes : k_lkV yX6_sheetWaysToYes cX6_sheetWaysToYes 5 (some .int) 2 := ⟨⟨G_mem (i := 1) (by decide +kernel) rfl, G_mem (i := 539) (by decide +kernel) rfl, by decide, by decide, by decide +kernel⟩, G_mem (i := 538) (by decide +kernel) rfl, G_sel (i := 14) (by decide +kernel) rfl⟩
theorem lk_X6_sheetsOf : k_lkV yX6_sheetsOf cX6_sheetsOf 4 (some .int) 1 := ⟨⟨G_mem (i := 1) (by decide +kernel) rfl, G_mem (i := 583) (by decide +kernel) rfl, by decide, by decide, by decide +kernel⟩, G_mem (i := 582) (by decide +kernel) rfl, G_sel (i := 17) (by decide +kernel) rfl⟩
theorem lk_X6_someSaysYes : k_lkV yX6_someSaysYes cX6_someSaysYes 1 (some .boolean) 0 := ⟨⟨G_mem (i := 1) (by decide +kernel) rfl, G_mem (i := 543) (by decide +kernel) rfl, by decide, by decide, by decide +kernel⟩, G_mem (i := 542) (by decide +kernel) rfl, G_sel (i := 15) (by decide +kernel) rfl⟩
theorem lk_X6_takeOut : k_lkV yX6_takeOut cX6_takeOut 5 (some .int) 2 := ⟨⟨G_mem (i := 1) (by decide +kernel) rfl, G_mem (i := 659) (by decide +kernel) rfl, by decide, by decide, by decide +kernel⟩, G_mem (i := 658) (by decide +kernel) rfl, G_sel (i := 24) (by decide +kernel) rfl⟩
theorem lk_X6_thousandths : k_lkS yX6_thousandths cX6_thousandths 3 (some .long) 2 := ⟨⟨G_mem (i := 1) (by decide +kernel) rfl, G_mem (i := 562) (by decide +kernel) rfl, by decide, by decide, by decide +kernel⟩, G_mem (i := 561) (by decide +kernel) rfl⟩
theorem lk_X6_waysToBeWrong : k_lkV yX6_waysToBeWrong cX6_waysToBeWrong 4 (some .long) 1 := ⟨⟨G_mem (i := 1) (by decide +kernel) rfl, G_mem (i := 555) (by decide +kernel) rfl, by decide, by decide, by decide +kernel⟩, G_mem (i := 554) (by decide +kernel) rfl, G_sel (i := 16) (by decide +kernel) rfl⟩
theorem lk_X6_waysToYes : k_lkV yX6_waysToYes cX6_waysToYes 6 (some .long) 1 := ⟨⟨G_mem (i := 1) (by decide +kernel) rfl, G_mem (i := 488) (by decide +kernel) rfl, by decide, by decide, by decide +kernel⟩, G_mem (i := 487) (by decide +kernel) rfl, G_sel (i := 12) (by decide +kernel) rfl⟩
theorem lk_X6_wipe : k_lkV yX6_wipe cX6_wipe 2 (some .int) 0 := ⟨⟨G_mem (i := 1) (by decide +kernel) rfl, G_mem (i := 271) (by decide +kernel) rfl, by decide, by decide, by decide +kernel⟩, G_mem (i := 269) (by decide +kernel) rfl, G_mem (i := 270) (by decide +kernel) rfl⟩
theorem lk_X7_barOfLot : k_lkV yX7_barOfLot cX7_barOfLot 3 (some .int) 2 := ⟨⟨G_mem (i := 13) (by decide +kernel) rfl, G_mem (i := 875) (by decide +kernel) rfl, by decide, by decide, by decide +kernel⟩, G_mem (i := 874) (by decide +kernel) rfl, G_sel (i := 32) (by decide +kernel) rfl⟩
theorem lk_X7_bits : k_lkS yX7_bits cX7_bits 3 (some .int) 1 := ⟨⟨G_mem (i := 13) (by decide +kernel) rfl, G_mem (i := 906) (by decide +kernel) rfl, by decide, by decide, by decide +kernel⟩, G_mem (i := 905) (by decide +kernel) rfl⟩
theorem lk_X7_comesTo : k_lkV yX7_comesTo cX7_comesTo 22 (some .boolean) 4 := ⟨⟨G_mem (i := 13) (by decide +kernel) rfl, G_mem (i := 863) (by decide +kernel) rfl, by decide, by decide, by decide +kernel⟩, G_mem (i := 862) (by decide +kernel) rfl, G_sel (i := 31) (by decide +kernel) rfl⟩
theorem lk_X7_common : k_lkS yX7_common cX7_common 10 (some .long) 2 := ⟨⟨G_mem (i := 13) (by decide +kernel) rfl, G_mem (i := 866) (by decide +kernel) rfl, by decide, by decide, by decide +kernel⟩, G_mem (i := 865) (by decide +kernel) rfl⟩
theorem lk_X7_good : k_lkV yX7_good cX7_good 1 (some .int) 0 := ⟨⟨G_mem (i := 13) (by decide +kernel) rfl, G_mem (i := 843) (by decide +kernel) rfl, by decide, by decide, by decide +kernel⟩, G_mem (i := 842) (by decide +kernel) rfl, G_sel (i := 30) (by decide +kernel) rfl⟩
theorem lk_X7_in : k_lkS yX7_in cX7_in 3 (some .boolean) 3 := ⟨⟨G_mem (i := 13) (by decide +kernel) rfl, G_mem (i := 787) (by decide +kernel) rfl, by decide, by decide, by decide +kernel⟩, G_mem (i := 786) (by decide +kernel) rfl⟩
theorem lk_X7_isAct : k_lkS yX7_isAct cX7_isAct 1 (some .boolean) 1 := ⟨⟨G_mem (i := 13) (by decide +kernel) rfl, G_mem (i := 812) (by decide +kernel) rfl, by decide, by decide, by decide +kernel⟩, G_mem (i := 811) (by decide +kernel) rfl⟩
theorem lk_X7_isBad : k_lkS yX7_isBad cX7_isBad 1 (some .boolean) 1 := ⟨⟨G_mem (i := 13) (by decide +kernel) rfl, G_mem (i := 802) (by decide +kernel) rfl, by decide, by decide, by decide +kernel⟩, G_mem (i := 801) (by decide +kernel) rfl⟩
theorem lk_X7_isGatherer : k_lkS yX7_isGatherer cX7_isGatherer 1 (some .boolean) 1 := ⟨⟨G_mem (i := 13) (by decide +kernel) rfl, G_mem (i := 931) (by decide +kernel) rfl, by decide, by decide, by decide +kernel⟩, G_mem (i := 930) (by decide +kernel) rfl⟩
theorem lk_X7_isLess : k_lkS yX7_isLess cX7_isLess 23 (some .boolean) 4 := ⟨⟨G_mem (i := 13) (by decide +kernel) rfl, G_mem (i := 951) (by decide +kernel) rfl, by decide, by decide, by decide +kernel⟩, G_mem (i := 950) (by decide +kernel) rfl⟩
theorem lk_X7_isOverfull : k_lkV yX7_isOverfull cX7_isOverfull 1 (some .boolean) 0 := ⟨⟨G_mem (i := 13) (by decide +kernel) rfl, G_mem (i := 971) (by decide +kernel) rfl, by decide, by decide, by decide +kernel⟩, G_mem (i := 970) (by decide +kernel) rfl, G_sel (i := 41) (by decide +kernel) rfl⟩
theorem lk_X7_isPart : k_lkS yX7_isPart cX7_isPart 1 (some .boolean) 1 := ⟨⟨G_mem (i := 13) (by decide +kernel) rfl, G_mem (i := 858) (by decide +kernel) rfl, by decide, by decide, by decide +kernel⟩, G_mem (i := 857) (by decide +kernel) rfl⟩
theorem lk_X7_isPerson : k_lkS yX7_isPerson cX7_isPerson 1 (some .boolean) 1 := ⟨⟨G_mem (i := 13) (by decide +kernel) rfl, G_mem (i := 805) (by decide +kernel) rfl, by decide, by decide, by decide +kernel⟩, G_mem (i := 804) (by decide +kernel) rfl⟩
theorem lk_X7_isSheet : k_lkS yX7_isSheet cX7_isSheet 1 (some .boolean) 1 := ⟨⟨G_mem (i := 13) (by decide +kernel) rfl, G_mem (i := 819) (by decide +kernel) rfl, by decide, by decide, by decide +kernel⟩, G_mem (i := 818) (by decide +kernel) rfl⟩
theorem lk_X7_layHis : k_lkV yX7_layHis cX7_layHis 4 none 1 := ⟨⟨G_mem (i := 13) (by decide +kernel) rfl, G_mem (i := 935) (by decide +kernel) rfl, by decide, by decide, by decide +kernel⟩, G_mem (i := 934) (by decide +kernel) rfl, G_sel (i := 39) (by decide +kernel) rfl⟩
theorem lk_X7_layList : k_lkV yX7_layList cX7_layList 5 none 1 := ⟨⟨G_mem (i := 13) (by decide +kernel) rfl, G_mem (i := 839) (by decide +kernel) rfl, by decide, by decide, by decide +kernel⟩, G_mem (i := 838) (by decide +kernel) rfl, G_sel (i := 29) (by decide +kernel) rfl⟩
theorem lk_X7_laySeems : k_lkV yX7_laySeems cX7_laySeems 6 none 1 := ⟨⟨G_mem (i := 13) (by decide +kernel) rfl, G_mem (i := 944) (by decide +kernel) rfl, by decide, by decide, by decide +kernel⟩, G_mem (i := 943) (by decide +kernel) rfl, G_sel (i := 40) (by decide +kernel) rfl⟩
theorem lk_X7_lossOf : k_lkV yX7_lossOf cX7_lossOf 3 (some .int) 1 := ⟨⟨G_mem (i := 13) (by decide +kernel) rfl, G_mem (i := 975) (by decide +kernel) rfl, by decide, by decide, by decide +kernel⟩, G_mem (i := 974) (by decide +kernel) rfl, G_sel (i := 42) (by decide +kernel) rfl⟩
theorem lk_X7_lotsOf : k_lkV yX7_lotsOf cX7_lotsOf 8 (some .long) 4 := ⟨⟨G_mem (i := 13) (by decide +kernel) rfl, G_mem (i := 892) (by decide +kernel) rfl, by decide, by decide, by decide +kernel⟩, G_mem (i := 891) (by decide +kernel) rfl, G_sel (i := 36) (by decide +kernel) rfl⟩
theorem lk_X7_namesFault : k_lkV yX7_namesFault cX7_namesFault 3 (some .int) 0 := ⟨⟨G_mem (i := 13) (by decide +kernel) rfl, G_mem (i := 799) (by decide +kernel) rfl, by decide, by decide, by decide +kernel⟩, G_mem (i := 798) (by decide +kernel) rfl, G_sel (i := 26) (by decide +kernel) rfl⟩
theorem lk_X7_ruleFault : k_lkV yX7_ruleFault cX7_ruleFault 5 (some .int) 0 := ⟨⟨G_mem (i := 13) (by decide +kernel) rfl, G_mem (i := 809) (by decide +kernel) rfl, by decide, by decide, by decide +kernel⟩, G_mem (i := 808) (by decide +kernel) rfl, G_sel (i := 27) (by decide +kernel) rfl⟩
theorem lk_X7_saysYes : k_lkV yX7_saysYes cX7_saysYes 5 (some .boolean) 4 := ⟨⟨G_mem (i := 13) (by decide +kernel) rfl, G_mem (i := 896) (by decide +kernel) rfl, by decide, by decide, by decide +kernel⟩, G_mem (i := 895) (by decide +kernel) rfl, G_sel (i := 37) (by decide +kernel) rfl⟩
theorem lk_X7_term : k_lkS yX7_term cX7_term 7 (some .long) 3 := ⟨⟨G_mem (i := 13) (by decide +kernel) rfl, G_mem (i := 899) (by decide +kernel) rfl, by decide, by decide, by decide +kernel⟩, G_mem (i := 898) (by decide +kernel) rfl⟩
theorem lk_X7_valid : k_lkV yX7_valid cX7_valid 3 (some .int) 0 := ⟨⟨G_mem (i := 13) (by decide +kernel) rfl, G_mem (i := 835) (by decide +kernel) rfl, by decide, by decide, by decide +kernel⟩, G_mem (i := 834) (by decide +kernel) rfl, G_sel (i := 28) (by decide +kernel) rfl⟩
theorem lk_X7_ways : k_lkV yX7_ways cX7_ways 3 (some .long) 2 := ⟨⟨G_mem (i := 13) (by decide +kernel) rfl, G_mem (i := 888) (by decide +kernel) rfl, by decide, by decide, by decide +kernel⟩, G_mem (i := 887) (by decide +kernel) rfl, G_sel (i := 35) (by decide +kernel) rfl⟩
theorem lk_X7_wrongNow : k_lkV yX7_wrongNow cX7_wrongNow 4 (some .long) 1 := ⟨⟨G_mem (i := 13) (by decide +kernel) rfl, G_mem (i := 915) (by decide +kernel) rfl, by decide, by decide, by decide +kernel⟩, G_mem (i := 914) (by decide +kernel) rfl, G_sel (i := 38) (by decide +kernel) rfl⟩
theorem lk_X7_yesNow : k_lkV yX7_yesNow cX7_yesNow 2 (some .long) 1 := ⟨⟨G_mem (i := 13) (by decide +kernel) rfl, G_mem (i := 880) (by decide +kernel) rfl, by decide, by decide, by decide +kernel⟩, G_mem (i := 879) (by decide +kernel) rfl, G_sel (i := 33) (by decide +kernel) rfl⟩
theorem lk_X7_yesOf : k_lkV yX7_yesOf cX7_yesOf 12 (some .long) 4 := ⟨⟨G_mem (i := 13) (by decide +kernel) rfl, G_mem (i := 884) (by decide +kernel) rfl, by decide, by decide, by decide +kernel⟩, G_mem (i := 883) (by decide +kernel) rfl, G_sel (i := 34) (by decide +kernel) rfl⟩
theorem lkM_max : k_lkM Lib.Math.max.name Lib.Math.max.code 2 .int := ⟨G_mem (i := 31) (by decide +kernel) rfl, G_mem (i := 3) (by decide +kernel) rfl, G_mem (i := 32) (by decide +kernel) rfl⟩
theorem lkM_min : k_lkM Lib.Math.min.name Lib.Math.min.code 2 .int := ⟨G_mem (i := 470) (by decide +kernel) rfl, G_mem (i := 3) (by decide +kernel) rfl, G_mem (i := 471) (by decide +kernel) rfl⟩
theorem lkM_absL : k_lkM Lib.MathLoose.abs_long.x Lib.MathLoose.abs_long.code 2 .long := ⟨G_mem (i := 418) (by decide +kernel) rfl, G_mem (i := 3) (by decide +kernel) rfl, G_mem (i := 419) (by decide +kernel) rfl⟩
theorem lkM_minL : k_lkM Lib.MathLoose.min_long.x Lib.MathLoose.min_long.code 4 .long := ⟨G_mem (i := 615) (by decide +kernel) rfl, G_mem (i := 3) (by decide +kernel) rfl, G_mem (i := 616) (by decide +kernel) rfl⟩
theorem lkA : Cond.native arraycopyName ∈ G_ ∧ Cond.static arraycopyName ∈ G_ ∧ Cond.initialized "java/lang/System" ∈ G_ := ⟨G_mem (i := 679) (by decide +kernel) rfl, G_mem (i := 678) (by decide +kernel) rfl, G_mem (i := 15) (by decide +kernel) rfl⟩
